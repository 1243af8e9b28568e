/-! ===== the class's reader: all leads ===== -/
def mo (p : (Nat → Nat) → Prop) : Prop := ∀ a b, le a b → p a → p b
def okC (x a : Nat) (u : Nat → Nat) : Prop := 1 ≤ x ∧ x < 64 ∧ u x = a
def okK (w : Nat → Nat) (n : Nat) (u : Nat → Nat) : Prop := ∀ k, k < n → w (8 * w 4 + k) ≠ 0 → okC (w (8 * w 4 + k)) (16 + k) u
def okSn (w : Nat → Nat) (n : Nat) (u : Nat → Nat) : Prop := ∀ j, j < n → okC (tab w j) (4 + j) u ∧ okTb w (tab w j) 8 u
def okH (w : Nat → Nat) (u : Nat → Nat) : Prop := okC (w 3) 1 u ∧ okC (w 4) 2 u ∧ (w 6 ≠ 0 → okC (w 6) 3 u)
section RE
variable {d l t : Nat} {h : xH} {f0 f1 : Nat → Int32} {us ct us' ct' us0 ct0 cn cn2 u v w : Nat → Nat} {okn ok ok2 : (Nat → Nat) → Prop} {r : Nat}
theorem mo_C {x a : Nat} (ha : a ≠ 0) : mo (okC x a) := fun p q h1 h2 => ⟨h2.1, h2.2.1, by rw [h1 x (by rw [h2.2.2]; exact ha)]; exact h2.2.2⟩
theorem mo_T {t n : Nat} : mo (okTb w t n) := fun p q h1 h2 i hi => (h2 i hi).le h1
theorem PO.le1 (p : PO us0 ct0 cn ok r us ct) : r ≤ 1 := p.1
/-- one walk behind another -/
theorem PW.seq (p : PW us0 ct0 cn okn ok us ct) (q : PO us ct cn2 ok2 r us' ct') (hm : mo okn) (h2 : ∀ u, ok u → ok2 u) (hr : r = 1) : PW us0 ct0 (fun X => cn X + cn2 X) (fun u => okn u ∧ ok2 u) ok us' ct' := by
  obtain ⟨q1, q2⟩ := q.2.2.2.1 hr
  refine ⟨q.2.1, le_trans' p.2.1 q.2.2.1, ⟨hm _ _ q.2.2.1 p.2.2.1, q1⟩, fun X => ?_, fun u h1 h3 => (q.2.2.2.2 u (p.2.2.2.2 u h1 h3) (h2 u h3)).2⟩
  have e1 := p.2.2.2.1 X
  have e2 := q2 X
  show ct' X = ct0 X + (cn X + cn2 X)
  omega
theorem PW.seqF (p : PW us0 ct0 cn okn ok us ct) (q : PO us ct cn2 ok2 r us' ct') (h2 : ∀ u, ok u → ok2 u) (hr : r = 0) {cn' : Nat → Nat} : PO us0 ct0 cn' ok 0 us' ct' :=
  ⟨by omega, q.2.1, le_trans' p.2.1 q.2.2.1, fun e => absurd e (by decide), fun u h1 h3 => by
    have := (q.2.2.2.2 u (p.2.2.2.2 u h1 h3) (h2 u h3)).1
    omega⟩
theorem PW.start (hg : gd us ct) : PW us ct (fun _ => 0) (fun _ => True) ok us ct := ⟨hg, le_refl' _, trivial, fun X => rfl, fun u h _ => h⟩
theorem PO.chg (q : PO us0 ct0 cn ok r us ct) (e : ∀ X, cn X = cn2 X) : PO us0 ct0 cn2 ok r us ct := by
  have e2 : cn = cn2 := funext e
  rw [← e2]
  exact q
theorem c_claimP {x a : Nat} (hx : x < 4294967296) (hg : gd us ct) (ha : a < 88) (ha0 : a ≠ 0) : ∃ r us' ct', Cl d MX2_claim [vR (2, 0), vI (nI x), vI (nI a)] (rh h f0 f1 us ct) (some (vI (nI r))) (rh h f0 f1 us' ct') ∧ PO us ct (fun X => iv x X) (okC x a) r us' ct' := by
  rcases c_claim (d := d) (h := h) (f0 := f0) (f1 := f1) (v0 := nI x) hg ha ha0 with ⟨c, q1, q2, q3, q4, q5⟩ | ⟨q1, q2⟩
  · have e : x = c := (neqS hx (by omega)).mp q3
    subst e
    obtain ⟨g1, g2, g3⟩ := gd_claim hg q1 ha ha0 q4
    exact ⟨1, _, _, q5, by omega, g1, g2, fun _ => ⟨⟨q1, q2, up_at⟩, fun X => rfl⟩, fun u h1 h2 => ⟨rfl, g3 u h1 h2.2.2⟩⟩
  · refine ⟨0, us, ct, q2, by omega, hg, le_refl' _, fun e => absurd e (by decide), fun u h1 h2 => ?_⟩
    exfalso
    obtain ⟨w1, w2⟩ := q1 x h2.1 h2.2.1 rfl
    have := h1 _ w1
    have := h2.2.2
    omega
theorem c_headLeads (hw : h (10, 3) = E w) (hb : ∀ p, w p < 4294967296) (hg : gd us0 ct0) :
    ∃ r us ct, Cl (d + 1) MX2_areHeaderLeadsRight [vR (2, 0), vR (0, 3)] (rh h f0 f1 us0 ct0) (some (vI (nI r))) (rh h f0 f1 us ct) ∧ PO us0 ct0 (fun X => iv (w 3) X + iv (w 4) X + if w 6 = 0 then 0 else iv (w 6) X) (okH w) r us ct := by
  have hw3 : ∀ us ct, rh h f0 f1 us ct (10, 3) = E w := fun us ct => by rw [rh_o (by decide) (by decide)]; exact hw
  have p0 : PW us0 ct0 (fun _ => 0) (fun _ => True) (okH w) us0 ct0 := PW.start hg
  obtain ⟨r1, us1, ct1, a1, a2⟩ := c_claimP (d := d) (h := h) (f0 := f0) (f1 := f1) (x := w 3) (a := 1) (hb 3) hg (by decide) (by decide)
  by_cases hr1 : r1 = 1
  · have p1 := p0.seq a2 (fun _ _ _ _ => trivial) (fun u hu => hu.1) hr1
    obtain ⟨r2, us2, ct2, b1, b2⟩ := c_claimP (d := d) (h := h) (f0 := f0) (f1 := f1) (x := w 4) (a := 2) (hb 4) p1.1 (by decide) (by decide)
    by_cases hr2 : r2 = 1
    · have p2 := p1.seq b2 (fun p q h1 h2 => ⟨trivial, mo_C (by decide) p q h1 h2.2⟩) (fun u hu => hu.2.1) hr2
      by_cases h6 : w 6 = 0
      · refine ⟨1, us2, ct2, ?_, PO.chg (p2.done fun hh => ⟨hh.1.2, hh.2, fun e => absurd h6 e⟩) fun X => ?_⟩
        · refine rnN 3 rfl ?_
          refine rnK rfl (c_hd (hw3 us0 ct0) (show 6 < 8 by decide)) ?_
          refine rnN 5 rfl ?_
          refine rnK rfl (c_hd (hw3 us0 ct0) (show 3 < 8 by decide)) ?_
          refine rnN 1 rfl ?_
          refine rnK rfl (a1) ?_
          rw [hr1]
          refine rnN 5 rfl ?_
          refine rnK rfl (c_hd (hw3 us1 ct1) (show 4 < 8 by decide)) ?_
          refine rnN 1 rfl ?_
          refine rnK rfl (b1) ?_
          rw [hr2, h6]
          refine rnN 5 rfl ?_
          exact rnR rfl
        · rw [if_pos h6]
          show 0 + iv (w 3) X + iv (w 4) X = _
          omega
      · obtain ⟨r3, us3, ct3, c1, c2⟩ := c_claimP (d := d) (h := h) (f0 := f0) (f1 := f1) (x := w 6) (a := 3) (hb 6) p2.1 (by decide) (by decide)
        have head : ∀ x, Rn (d + 1) MX2_areHeaderLeadsRight 46 [some (vR (2, 0)), some (vR (0, 3)), some (vI (nI (w 6)))] [vI (nI r3)] (rh h f0 f1 us3 ct3) x (rh h f0 f1 us3 ct3) → Cl (d + 1) MX2_areHeaderLeadsRight [vR (2, 0), vR (0, 3)] (rh h f0 f1 us0 ct0) x (rh h f0 f1 us3 ct3) := fun x kk => by
          refine rnN 3 rfl ?_
          refine rnK rfl (c_hd (hw3 us0 ct0) (show 6 < 8 by decide)) ?_
          refine rnN 5 rfl ?_
          refine rnK rfl (c_hd (hw3 us0 ct0) (show 3 < 8 by decide)) ?_
          refine rnN 1 rfl ?_
          refine rnK rfl (a1) ?_
          rw [hr1]
          refine rnN 5 rfl ?_
          refine rnK rfl (c_hd (hw3 us1 ct1) (show 4 < 8 by decide)) ?_
          refine rnN 1 rfl ?_
          refine rnK rfl (b1) ?_
          rw [hr2]
          refine rnN 2 rfl ?_
          refine rnF ((fun e => h6 ((neq0S (hb 6)).mp e))) rfl ?_
          refine rnN 3 rfl ?_
          refine rnK rfl (c1) ?_
          exact kk
        by_cases hr3 : r3 = 1
        · have p3 := p2.seq c2 (fun p q h1 h2 => ⟨⟨trivial, mo_C (by decide) p q h1 h2.1.2⟩, mo_C (by decide) p q h1 h2.2⟩) (fun u hu => hu.2.2 h6) hr3
          refine ⟨1, us3, ct3, head _ ?_, PO.chg (p3.done fun hh => ⟨hh.1.1.2, hh.1.2, fun _ => hh.2⟩) fun X => ?_⟩
          · rw [hr3]
            refine rnN 3 rfl ?_
            exact rnR rfl
          · rw [if_neg h6]
            show 0 + iv (w 3) X + iv (w 4) X + iv (w 6) X = _
            omega
        · have hr0 : r3 = 0 := by have := c2.le1; omega
          refine ⟨0, us3, ct3, head _ ?_, p2.seqF c2 (fun u hu => hu.2.2 h6) hr0⟩
          rw [hr0]
          refine rnN 2 rfl ?_
          exact rnR rfl
    · have hr0 : r2 = 0 := by have := b2.le1; omega
      refine ⟨0, us2, ct2, ?_, p1.seqF b2 (fun u hu => hu.2.1) hr0⟩
      refine rnN 3 rfl ?_
      refine rnK rfl (c_hd (hw3 us0 ct0) (show 6 < 8 by decide)) ?_
      refine rnN 5 rfl ?_
      refine rnK rfl (c_hd (hw3 us0 ct0) (show 3 < 8 by decide)) ?_
      refine rnN 1 rfl ?_
      refine rnK rfl (a1) ?_
      rw [hr1]
      refine rnN 5 rfl ?_
      refine rnK rfl (c_hd (hw3 us1 ct1) (show 4 < 8 by decide)) ?_
      refine rnN 1 rfl ?_
      refine rnK rfl (b1) ?_
      rw [hr0]
      refine rnN 2 rfl ?_
      exact rnR rfl
  · have hr0 : r1 = 0 := by have := a2.le1; omega
    refine ⟨0, us1, ct1, ?_, p0.seqF a2 (fun u hu => hu.1) hr0⟩
    refine rnN 3 rfl ?_
    refine rnK rfl (c_hd (hw3 us0 ct0) (show 6 < 8 by decide)) ?_
    refine rnN 5 rfl ?_
    refine rnK rfl (c_hd (hw3 us0 ct0) (show 3 < 8 by decide)) ?_
    refine rnN 1 rfl ?_
    refine rnK rfl (a1) ?_
    rw [hr0]
    refine rnN 2 rfl ?_
    exact rnR rfl
theorem c_countLeads (hw : h (10, 3) = E w) (hb : ∀ p, w p < 4294967296) (h4 : w 4 < 64) (hg : gd us0 ct0) :
    ∃ r us ct, Cl (d + 1) MX2_areCountLeadsRight [vR (2, 0), vR (0, 3)] (rh h f0 f1 us0 ct0) (some (vI (nI r))) (rh h f0 f1 us ct) ∧ PO us0 ct0 (fun X => kc w X) (okK w 8) r us ct := by
  have hw3 : ∀ us ct, rh h f0 f1 us ct (10, 3) = E w := fun us ct => by rw [rh_o (by decide) (by decide)]; exact hw
  have go := lpN 8 (fun n => ∀ us ct (o3 : Option xV), PW us0 ct0 (fun X => sm n fun k => if w (8 * w 4 + k) = 0 then 0 else iv (w (8 * w 4 + k)) X) (okK w n) (okK w 8) us ct → ∃ r us' ct', Rn (d + 1) MX2_areCountLeadsRight 2 [some (vR (2, 0)), some (vR (0, 3)), some (vI (nI n)), o3] [] (rh h f0 f1 us ct) (some (vI (nI r))) (rh h f0 f1 us' ct') ∧ PO us0 ct0 (fun X => kc w X) (okK w 8) r us' ct') (fun n hn K => ?_) ?_
  · obtain ⟨r, us, ct, h1, h3⟩ := go us0 ct0 none ⟨hg, le_refl' _, fun j hj => by omega, fun X => rfl, fun u h _ => h⟩
    refine ⟨r, us, ct, ?_, h3⟩
    refine rnN 2 rfl ?_
    exact h1
  · intro us ct o3 p
    have hmo : mo (okK w n) := fun a b h1 h2 k hk h0 => mo_C (by omega) a b h1 (h2 k hk h0)
    by_cases h0 : w (8 * w 4 + n) = 0
    · have pn : PW us0 ct0 (fun X => sm (n + 1) fun k => if w (8 * w 4 + k) = 0 then 0 else iv (w (8 * w 4 + k)) X) (okK w (n + 1)) (okK w 8) us ct := by
        refine ⟨p.1, p.2.1, fun k hk hk0 => ?_, fun X => ?_, p.2.2.2.2⟩
        · by_cases e : k = n
          · rw [e] at hk0; exact absurd h0 hk0
          · exact p.2.2.1 k (by omega) hk0
        · have e1 := p.2.2.2.1 X
          show ct X = ct0 X + (sm n _ + if w (8 * w 4 + n) = 0 then 0 else iv (w (8 * w 4 + n)) X)
          rw [if_pos h0]
          exact e1
      obtain ⟨r, us', ct', h1, h3⟩ := K us ct (some (vI (nI 0))) pn
      refine ⟨r, us', ct', ?_, h3⟩
      refine rnN 2 rfl ?_
      refine rnT (nI_lt hn (by decide)) rfl ?_
      refine rnN 4 rfl ?_
      refine rnK rfl (c_hd (hw3 us ct) (show 4 < 8 by decide)) ?_
      refine rnN 1 rfl ?_
      refine rnK rfl (c_at (hw3 us ct) h4 hn) ?_
      rw [h0]
      refine rnN 3 rfl ?_
      refine rnN 2 rfl ?_
      simp (disch := omega) only [nI_add, pk_mul, pk_sub, nd8, nd4, nsub8, nand63, nand7, nshr2, nI_clamp, E_at, hup_at, hup_hup]
      exact h1
    · obtain ⟨r1, us1, ct1, a1, a2⟩ := c_claimP (d := d) (h := h) (f0 := f0) (f1 := f1) (x := w (8 * w 4 + n)) (a := 16 + n) (hb _) p.1 (by omega) (by omega)
      have head : ∀ us' ct' x, Rn (d + 1) MX2_areCountLeadsRight 33 [some (vR (2, 0)), some (vR (0, 3)), some (vI (nI n)), some (vI (nI (w (8 * w 4 + n))))] [vI (nI r1)] (rh h f0 f1 us1 ct1) x (rh h f0 f1 us' ct') → Rn (d + 1) MX2_areCountLeadsRight 2 [some (vR (2, 0)), some (vR (0, 3)), some (vI (nI n)), o3] [] (rh h f0 f1 us ct) x (rh h f0 f1 us' ct') := fun us' ct' x kk => by
        refine rnN 2 rfl ?_
        refine rnT (nI_lt hn (by decide)) rfl ?_
        refine rnN 4 rfl ?_
        refine rnK rfl (c_hd (hw3 us ct) (show 4 < 8 by decide)) ?_
        refine rnN 1 rfl ?_
        refine rnK rfl (c_at (hw3 us ct) h4 hn) ?_
        refine rnN 2 rfl ?_
        refine rnF ((fun e => h0 ((neq0S (hb _)).mp e))) rfl ?_
        refine rnN 5 rfl ?_
        simp (disch := omega) only [nI_add, pk_mul, pk_sub, nd8, nd4, nsub8, nand63, nand7, nshr2, nI_clamp, E_at, hup_at, hup_hup]
        refine rnK rfl (a1) ?_
        exact kk
      by_cases hr1 : r1 = 1
      · have pn : PW us0 ct0 (fun X => sm (n + 1) fun k => if w (8 * w 4 + k) = 0 then 0 else iv (w (8 * w 4 + k)) X) (okK w (n + 1)) (okK w 8) us1 ct1 := by
          have p1 := p.seq a2 hmo (fun u hu => hu n hn h0) hr1
          refine ⟨p1.1, p1.2.1, fun k hk hk0 => ?_, fun X => ?_, p1.2.2.2.2⟩
          · by_cases e : k = n
            · rw [e]; exact p1.2.2.1.2
            · exact p1.2.2.1.1 k (by omega) hk0
          · have e1 := p1.2.2.2.1 X
            show ct1 X = ct0 X + (sm n _ + if w (8 * w 4 + n) = 0 then 0 else iv (w (8 * w 4 + n)) X)
            rw [if_neg h0]
            exact e1
        obtain ⟨r, us', ct', h1, h3⟩ := K us1 ct1 (some (vI (nI (w (8 * w 4 + n))))) pn
        refine ⟨r, us', ct', head _ _ _ ?_, h3⟩
        rw [hr1]
        refine rnN 1 rfl ?_
        refine rnN 2 rfl ?_
        simp (disch := omega) only [nI_add, pk_mul, pk_sub, nd8, nd4, nsub8, nand63, nand7, nshr2, nI_clamp, E_at, hup_at, hup_hup]
        exact h1
      · have hr0 : r1 = 0 := by have := a2.le1; omega
        refine ⟨0, us1, ct1, head _ _ _ ?_, p.seqF a2 (fun u hu => hu n hn h0) hr0⟩
        rw [hr0]
        refine rnN 2 rfl ?_
        exact rnR rfl
  · intro us ct o3 p
    refine ⟨1, us, ct, ?_, p.done fun h => h⟩
    refine rnN 4 rfl ?_
    exact rnR rfl
theorem c_listLeads (hw : h (10, 3) = E w) (hb : ∀ p, w p < 4294967296) (h2 : w 2 ≤ 64) (h5 : w 5 ≤ 4) (h6 : w 5 ≠ 0 → w 6 < 64) (hg : gd us0 ct0) :
    ∃ r us ct, Cl (d + 4) MX2_areListLeadsRight [vR (2, 0), vR (0, 3)] (rh h f0 f1 us0 ct0) (some (vI (nI r))) (rh h f0 f1 us ct) ∧ PO us0 ct0 (fun X => sm (w 5) fun j => tc w X (tab w j)) (okSn w (w 5)) r us ct := by
  have hw3 : ∀ us ct, rh h f0 f1 us ct (10, 3) = E w := fun us ct => by rw [rh_o (by decide) (by decide)]; exact hw
  have go := lpN (w 5) (fun n => ∀ us ct (o5 : Option xV), PW us0 ct0 (fun X => sm n fun j => tc w X (tab w j)) (okSn w n) (okSn w (w 5)) us ct → ∃ r us' ct', Rn (d + 4) MX2_areListLeadsRight 18 [some (vR (2, 0)), some (vR (0, 3)), some (vI (nI (w 6))), some (vI (nI (w 5))), some (vI (nI n)), o5] [] (rh h f0 f1 us ct) (some (vI (nI r))) (rh h f0 f1 us' ct') ∧ PO us0 ct0 (fun X => sm (w 5) fun j => tc w X (tab w j)) (okSn w (w 5)) r us' ct') (fun n hn K => ?_) ?_
  · obtain ⟨r, us, ct, h1, h3⟩ := go us0 ct0 none ⟨hg, le_refl' _, fun j hj => by omega, fun X => rfl, fun u h _ => h⟩
    refine ⟨r, us, ct, ?_, h3⟩
    refine rnN 3 rfl ?_
    refine rnK rfl (c_hd (hw3 us0 ct0) (show 6 < 8 by decide)) ?_
    refine rnN 4 rfl ?_
    refine rnK rfl (c_hd (hw3 us0 ct0) (show 5 < 8 by decide)) ?_
    refine rnN 3 rfl ?_
    exact h1
  · intro us ct o5 p
    have h6l := h6 (by omega)
    have hmo : mo (okSn w n) := fun a b h1 h2 j hj => ⟨mo_C (by omega) a b h1 (h2 j hj).1, mo_T a b h1 (h2 j hj).2⟩
    have htab : w (8 * w 6 + 2 * n) = tab w n := rfl
    obtain ⟨r1, us1, ct1, a1, a2⟩ := c_claimP (d := d + 3) (h := h) (f0 := f0) (f1 := f1) (x := tab w n) (a := 4 + n) (hb _) p.1 (by omega) (by omega)
    have head : ∀ us' ct' x, Rn (d + 4) MX2_areListLeadsRight 45 [some (vR (2, 0)), some (vR (0, 3)), some (vI (nI (w 6))), some (vI (nI (w 5))), some (vI (nI n)), some (vI (nI (tab w n)))] [vI (nI r1)] (rh h f0 f1 us1 ct1) x (rh h f0 f1 us' ct') → Rn (d + 4) MX2_areListLeadsRight 18 [some (vR (2, 0)), some (vR (0, 3)), some (vI (nI (w 6))), some (vI (nI (w 5))), some (vI (nI n)), o5] [] (rh h f0 f1 us ct) x (rh h f0 f1 us' ct') := fun us' ct' x kk => by
      refine rnN 2 rfl ?_
      refine rnT (nI_lt hn (by omega)) rfl ?_
      refine rnN 5 rfl ?_
      simp (disch := omega) only [nI_add, pk_mul, pk_sub, nd8, nd4, nsub8, nand63, nand7, nshr2, nI_clamp, E_at, hup_at, hup_hup]
      refine rnK rfl (c_at (hw3 us ct) h6l (show 2 * n < 8 by omega)) ?_
      rw [htab]
      refine rnN 6 rfl ?_
      simp (disch := omega) only [nI_add, pk_mul, pk_sub, nd8, nd4, nsub8, nand63, nand7, nshr2, nI_clamp, E_at, hup_at, hup_hup]
      refine rnK rfl (a1) ?_
      exact kk
    by_cases hr1 : r1 = 1
    · have p1 := p.seq a2 hmo (fun u hu => (hu n hn).1) hr1
      have htl : tab w n < 64 := p1.2.2.1.2.2.1
      obtain ⟨r2, us2, ct2, b1, b2⟩ := c_tableLeads (d := d) (h := h) (f0 := f0) (f1 := f1) hw hb h2 htl p1.1
      by_cases hr2 : r2 = 1
      · have p2 := p1.seq b2 (fun a b h1 h3 => ⟨hmo a b h1 h3.1, mo_C (by omega) a b h1 h3.2⟩) (fun u hu => (hu n hn).2) hr2
        have pn : PW us0 ct0 (fun X => sm (n + 1) fun j => tc w X (tab w j)) (okSn w (n + 1)) (okSn w (w 5)) us2 ct2 := by
          refine ⟨p2.1, p2.2.1, fun j hj => ?_, fun X => ?_, p2.2.2.2.2⟩
          · by_cases e : j = n
            · rw [e]; exact ⟨p2.2.2.1.1.2, p2.2.2.1.2⟩
            · exact p2.2.2.1.1.1 j (by omega)
          · have e1 : ct2 X = ct0 X + ((sm n fun j => tc w X (tab w j)) + iv (tab w n) X + tl w X (tab w n)) := p2.2.2.2.1 X
            show ct2 X = ct0 X + ((sm n fun j => tc w X (tab w j)) + tc w X (tab w n))
            rw [tc_tl w X (tab w n), e1]
            omega
        obtain ⟨r, us', ct', h1, h3⟩ := K us2 ct2 (some (vI (nI (tab w n)))) pn
        refine ⟨r, us', ct', head _ _ _ ?_, h3⟩
        rw [hr1]
        refine rnN 4 rfl ?_
        refine rnK rfl (b1) ?_
        rw [hr2]
        refine rnN 1 rfl ?_
        refine rnN 2 rfl ?_
        simp (disch := omega) only [nI_add, pk_mul, pk_sub, nd8, nd4, nsub8, nand63, nand7, nshr2, nI_clamp, E_at, hup_at, hup_hup]
        exact h1
      · have hr0 : r2 = 0 := by have := b2.le1; omega
        refine ⟨0, us2, ct2, head _ _ _ ?_, p1.seqF b2 (fun u hu => (hu n hn).2) hr0⟩
        rw [hr1]
        refine rnN 4 rfl ?_
        refine rnK rfl (b1) ?_
        rw [hr0]
        refine rnN 2 rfl ?_
        exact rnR rfl
    · have hr0 : r1 = 0 := by have := a2.le1; omega
      refine ⟨0, us1, ct1, head _ _ _ ?_, p.seqF a2 (fun u hu => (hu n hn).1) hr0⟩
      rw [hr0]
      refine rnN 2 rfl ?_
      exact rnR rfl
  · intro us ct o5 p
    refine ⟨1, us, ct, ?_, p.done fun h => h⟩
    refine rnN 2 rfl ?_
    refine rnF (nI_nlt (Nat.le_refl _) (by omega)) rfl ?_
    refine rnN 1 rfl ?_
    exact rnR rfl
end RE
