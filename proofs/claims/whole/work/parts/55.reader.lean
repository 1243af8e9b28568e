/-! ===== the class's reader: leads of leaves, tables ===== -/
/-- what a walk from us0, ct0 comes to: r is 1 when all that ok asks stands; cn is what was counted -/
def PO (us0 ct0 cn : Nat → Nat) (ok : (Nat → Nat) → Prop) (r : Nat) (us ct : Nat → Nat) : Prop := r ≤ 1 ∧ gd us ct ∧ le us0 us ∧ (r = 1 → ok us ∧ ∀ X, ct X = ct0 X + cn X) ∧ ∀ u, le us0 u → ok u → r = 1 ∧ le us u
/-- a walk under way -/
def PW (us0 ct0 cn : Nat → Nat) (okn ok : (Nat → Nat) → Prop) (us ct : Nat → Nat) : Prop := gd us ct ∧ le us0 us ∧ okn us ∧ (∀ X, ct X = ct0 X + cn X) ∧ ∀ u, le us0 u → ok u → le us u
section RD
variable {d l t : Nat} {h : xH} {f0 f1 : Nat → Int32} {us ct us0 ct0 cn u v w : Nat → Nat} {okn ok : (Nat → Nat) → Prop}
theorem PW.fail (p : PW us0 ct0 cn okn ok us ct) (hno : ∀ u, le us0 u → le us u → ok u → False) {cn' : Nat → Nat} : PO us0 ct0 cn' ok 0 us ct :=
  ⟨by omega, p.1, p.2.1, fun e => absurd e (by decide), fun u h1 h2 => (hno u h1 (p.2.2.2.2 u h1 h2) h2).elim⟩
theorem PW.done (p : PW us0 ct0 cn okn ok us ct) (h : okn us → ok us) : PO us0 ct0 cn ok 1 us ct :=
  ⟨by omega, p.1, p.2.1, fun _ => ⟨h p.2.2.1, p.2.2.2.1⟩, fun u h1 h2 => ⟨rfl, p.2.2.2.2 u h1 h2⟩⟩
theorem BOK.le {sz i j y : Nat} (hB : BOK sz us i j y) (h : le us v) : BOK sz v i j y := by
  rcases hB with e | ⟨h1, e | ⟨h2, h3⟩⟩
  · exact Or.inl e
  · exact Or.inr ⟨h1, Or.inl e⟩
  · exact Or.inr ⟨h1, Or.inr ⟨h2, by rw [h _ (by omega)]; exact h3⟩⟩
theorem LOK.le {i x : Nat} (hL : LOK w us i x) (h : le us v) : LOK w v i x := by
  rcases hL with e | ⟨h1, h2, h3, h4⟩
  · exact Or.inl e
  · exact Or.inr ⟨h1, h2, by rw [h _ (by omega)]; exact h3, fun j hj => (h4 j hj).le h⟩
def okB (w : Nat → Nat) (l i n : Nat) (u : Nat → Nat) : Prop := ∀ j, j < n → BOK (w 2) u i j (w (8 * l + j))
def okTb (w : Nat → Nat) (t n : Nat) (u : Nat → Nat) : Prop := ∀ i, i < n → LOK w u i (w (8 * t + i))
theorem c_leafLeads {i : Nat} (hw : h (10, 3) = E w) (hb : ∀ p, w p < 4294967296) (h2 : w 2 ≤ 64) (hl : l < 64) (hi : i < 8) (hg : gd us0 ct0) :
    ∃ r us ct, Cl (d + 2) MX2_areLeafLeadsRight [vR (2, 0), vR (0, 3), vI (nI l), vI (nI (8 * i))] (rh h f0 f1 us0 ct0) (some (vI (nI r))) (rh h f0 f1 us ct) ∧ PO us0 ct0 (fun X => sm 8 fun j => bc X (w (8 * l + j))) (okB w l i 8) r us ct := by
  have hw3 : ∀ us ct, rh h f0 f1 us ct (10, 3) = E w := fun us ct => by rw [rh_o (by decide) (by decide)]; exact hw
  have go := lpN 8 (fun n => ∀ us ct (o5 : Option xV), PW us0 ct0 (fun X => sm n fun j => bc X (w (8 * l + j))) (okB w l i n) (okB w l i 8) us ct → ∃ r us' ct', Rn (d + 2) MX2_areLeafLeadsRight 3 [some (vR (2, 0)), some (vR (0, 3)), some (vI (nI l)), some (vI (nI (8 * i))), some (vI (nI n)), o5] [] (rh h f0 f1 us ct) (some (vI (nI r))) (rh h f0 f1 us' ct') ∧ PO us0 ct0 (fun X => sm 8 fun j => bc X (w (8 * l + j))) (okB w l i 8) r us' ct') (fun n hn K => ?_) ?_
  · obtain ⟨r, us, ct, h1, h3⟩ := go us0 ct0 none ⟨hg, le_refl' _, fun j hj => by omega, fun X => rfl, fun u h _ => h⟩
    refine ⟨r, us, ct, ?_, h3⟩
    refine rnN 2 rfl ?_
    exact h1
  · intro us ct o5 p
    have hy := hb (8 * l + n)
    obtain ⟨y, hyd⟩ : ∃ y, y = w (8 * l + n) := ⟨_, rfl⟩
    rw [← hyd] at hy
    have hsz : w 2 < 2147483648 := by omega
    -- a word that leads nowhere
    have flat : y / 4 = 0 → BOK (w 2) us i n y → PW us0 ct0 (fun X => sm (n + 1) fun j => bc X (w (8 * l + j))) (okB w l i (n + 1)) (okB w l i 8) us ct := fun h4 hB => by
      refine ⟨p.1, p.2.1, fun j hj => ?_, fun X => ?_, p.2.2.2.2⟩
      · by_cases e : j = n
        · rw [e, ← hyd]; exact hB
        · exact p.2.2.1 j (by omega)
      · have e1 : ct X = ct0 X + sm n fun j => bc X (w (8 * l + j)) := p.2.2.2.1 X
        have e2 : bc X y = 0 := by unfold bc; rw [if_pos h4]
        show ct X = ct0 X + (sm n (fun j => bc X (w (8 * l + j))) + bc X (w (8 * l + n)))
        rw [← hyd, e2, e1]
        rfl
    by_cases y0 : y = 0
    · obtain ⟨r, us', ct', h1, h3⟩ := K us ct (some (vI (nI y))) (flat (by omega) (Or.inl y0))
      refine ⟨r, us', ct', ?_, h3⟩
      refine rnN 2 rfl ?_
      refine rnT (nI_lt hn (by decide)) rfl ?_
      refine rnN 3 rfl ?_
      refine rnK rfl (c_at (hw3 us ct) hl hn) ?_
      rw [← hyd]
      refine rnN 2 rfl ?_
      refine rnT ((show nI y = 0 by rw [y0]; rfl)) rfl ?_
      refine rnN 1 rfl ?_
      refine rnN 2 rfl ?_
      simp (disch := omega) only [nI_add, pk_mul, pk_sub, nd8, nd4, nsub8, nand63, nand7, nshr2, nI_clamp, E_at, hup_at, hup_hup]
      exact h1
    · by_cases hlt : 8 * i + n < w 2
      · by_cases y2 : y = 2
        · obtain ⟨r, us', ct', h1, h3⟩ := K us ct (some (vI (nI y))) (flat (by omega) (Or.inr ⟨hlt, Or.inl y2⟩))
          refine ⟨r, us', ct', ?_, h3⟩
          refine rnN 2 rfl ?_
          refine rnT (nI_lt hn (by decide)) rfl ?_
          refine rnN 3 rfl ?_
          refine rnK rfl (c_at (hw3 us ct) hl hn) ?_
          rw [← hyd]
          refine rnN 2 rfl ?_
          refine rnF ((fun e => y0 ((neq0S hy).mp e))) rfl ?_
          refine rnN 6 rfl ?_
          refine rnK rfl (c_hd (hw3 us ct) (show 2 < 8 by decide)) ?_
          simp (disch := omega) only [nI_add, pk_mul, pk_sub, nd8, nd4, nsub8, nand63, nand7, nshr2, nI_clamp, E_at, hup_at, hup_hup]
          refine rnT (nI_lt hlt hsz) rfl ?_
          refine rnN 2 rfl ?_
          refine rnT ((show nI y = nI 2 by rw [y2])) rfl ?_
          refine rnN 2 rfl ?_
          simp (disch := omega) only [nI_add, pk_mul, pk_sub, nd8, nd4, nsub8, nand63, nand7, nshr2, nI_clamp, E_at, hup_at, hup_hup]
          exact h1
        · obtain ⟨v0, hc1, hc2⟩ := c_clusterLedTo (d := d) (h := rh h f0 f1 us ct) hy
          rcases c_claim (d := d + 1) (h := h) (f0 := f0) (f1 := f1) (v0 := v0) (a := 24 + 8 * i + n) p.1 (by omega) (by omega) with ⟨c, q1, q2, q3, q4, q5⟩ | ⟨q1, q2⟩
          · -- claimed
            have hLD : LD y ∧ c = y / 4 := by
              rcases hc2 with ⟨z1, z2⟩ | ⟨z1, z2⟩
              · rw [q3] at z2
                exact ⟨z1, (neq (by omega) (by unfold LD at z1; omega)).mp z2⟩
              · exact absurd q3 (z2 c q1 q2)
            obtain ⟨g1, g2, g3⟩ := gd_claim p.1 q1 (show 24 + 8 * i + n < 88 by omega) (by omega) q4
            have pn : PW us0 ct0 (fun X => sm (n + 1) fun j => bc X (w (8 * l + j))) (okB w l i (n + 1)) (okB w l i 8) (up us c (24 + 8 * i + n)) (fun X => ct X + iv c X) := by
              refine ⟨g1, le_trans' p.2.1 g2, fun j hj => ?_, fun X => ?_, fun u h1 h3 => ?_⟩
              · by_cases e : j = n
                · rw [e, ← hyd]
                  exact Or.inr ⟨hlt, Or.inr ⟨hLD.1, by rw [← hLD.2, up_at]; omega⟩⟩
                · exact (p.2.2.1 j (by omega)).le g2
              · have e1 : ct X = ct0 X + sm n fun j => bc X (w (8 * l + j)) := p.2.2.2.1 X
                have e2 : bc X y = iv c X := by unfold bc; rw [if_neg (by omega), ← hLD.2]
                show ct X + iv c X = ct0 X + (sm n (fun j => bc X (w (8 * l + j))) + bc X (w (8 * l + n)))
                rw [← hyd, e2, e1]
                omega
              · refine g3 u (p.2.2.2.2 u h1 h3) ?_
                have h4 := h3 n hn
                rw [← hyd] at h4
                have := (h4.lead (by omega)).2.2
                rw [hLD.2]
                omega
            obtain ⟨r, us', ct', h1, h3⟩ := K _ _ (some (vI (nI y))) pn
            refine ⟨r, us', ct', ?_, h3⟩
            refine rnN 2 rfl ?_
            refine rnT (nI_lt hn (by decide)) rfl ?_
            refine rnN 3 rfl ?_
            refine rnK rfl (c_at (hw3 us ct) hl hn) ?_
            rw [← hyd]
            refine rnN 2 rfl ?_
            refine rnF ((fun e => y0 ((neq0S hy).mp e))) rfl ?_
            refine rnN 6 rfl ?_
            refine rnK rfl (c_hd (hw3 us ct) (show 2 < 8 by decide)) ?_
            simp (disch := omega) only [nI_add, pk_mul, pk_sub, nd8, nd4, nsub8, nand63, nand7, nshr2, nI_clamp, E_at, hup_at, hup_hup]
            refine rnT (nI_lt hlt hsz) rfl ?_
            refine rnN 2 rfl ?_
            refine rnF ((fun e => y2 ((neqS hy (by decide)).mp e))) rfl ?_
            refine rnN 2 rfl ?_
            refine rnK rfl (hc1) ?_
            refine rnN 5 rfl ?_
            simp (disch := omega) only [nI_add, pk_mul, pk_sub, nd8, nd4, nsub8, nand63, nand7, nshr2, nI_clamp, E_at, hup_at, hup_hup]
            refine rnK rfl (q5) ?_
            refine rnN 1 rfl ?_
            refine rnN 2 rfl ?_
            simp (disch := omega) only [nI_add, pk_mul, pk_sub, nd8, nd4, nsub8, nand63, nand7, nshr2, nI_clamp, E_at, hup_at, hup_hup]
            exact h1
          · refine ⟨0, us, ct, ?_, p.fail fun u h1 h3 h5 => ?_⟩
            · refine rnN 2 rfl ?_
              refine rnT (nI_lt hn (by decide)) rfl ?_
              refine rnN 3 rfl ?_
              refine rnK rfl (c_at (hw3 us ct) hl hn) ?_
              rw [← hyd]
              refine rnN 2 rfl ?_
              refine rnF ((fun e => y0 ((neq0S hy).mp e))) rfl ?_
              refine rnN 6 rfl ?_
              refine rnK rfl (c_hd (hw3 us ct) (show 2 < 8 by decide)) ?_
              simp (disch := omega) only [nI_add, pk_mul, pk_sub, nd8, nd4, nsub8, nand63, nand7, nshr2, nI_clamp, E_at, hup_at, hup_hup]
              refine rnT (nI_lt hlt hsz) rfl ?_
              refine rnN 2 rfl ?_
              refine rnF ((fun e => y2 ((neqS hy (by decide)).mp e))) rfl ?_
              refine rnN 2 rfl ?_
              refine rnK rfl (hc1) ?_
              refine rnN 5 rfl ?_
              simp (disch := omega) only [nI_add, pk_mul, pk_sub, nd8, nd4, nsub8, nand63, nand7, nshr2, nI_clamp, E_at, hup_at, hup_hup]
              refine rnK rfl (q2) ?_
              refine rnN 2 rfl ?_
              exact rnR rfl
            · have h6 := h5 n hn
              rw [← hyd] at h6
              rcases h6 with e | ⟨-, e | ⟨e1, e2⟩⟩
              · exact y0 e
              · exact y2 e
              · have hp := e1.pos
                rcases hc2 with ⟨z1, z2⟩ | ⟨z1, z2⟩
                · obtain ⟨w1, w2⟩ := q1 (y / 4) hp.1 hp.2 z2
                  have := h3 _ w1
                  omega
                · exact z1 e1
      · refine ⟨0, us, ct, ?_, p.fail fun u h1 h3 h5 => ?_⟩
        · refine rnN 2 rfl ?_
          refine rnT (nI_lt hn (by decide)) rfl ?_
          refine rnN 3 rfl ?_
          refine rnK rfl (c_at (hw3 us ct) hl hn) ?_
          rw [← hyd]
          refine rnN 2 rfl ?_
          refine rnF ((fun e => y0 ((neq0S hy).mp e))) rfl ?_
          refine rnN 6 rfl ?_
          refine rnK rfl (c_hd (hw3 us ct) (show 2 < 8 by decide)) ?_
          simp (disch := omega) only [nI_add, pk_mul, pk_sub, nd8, nd4, nsub8, nand63, nand7, nshr2, nI_clamp, E_at, hup_at, hup_hup]
          refine rnF (nI_nlt (Nat.le_of_not_lt hlt) (by omega)) rfl ?_
          refine rnN 1 rfl ?_
          exact rnR rfl
        · have h6 := h5 n hn
          rw [← hyd] at h6
          rcases h6 with e | ⟨e, -⟩
          · exact y0 e
          · exact hlt e
  · intro us ct o5 p
    refine ⟨1, us, ct, ?_, p.done fun h => h⟩
    refine rnN 4 rfl ?_
    exact rnR rfl
theorem c_tableLeads (hw : h (10, 3) = E w) (hb : ∀ p, w p < 4294967296) (h2 : w 2 ≤ 64) (ht : t < 64) (hg : gd us0 ct0) :
    ∃ r us ct, Cl (d + 3) MX2_areTableLeadsRight [vR (2, 0), vR (0, 3), vI (nI t)] (rh h f0 f1 us0 ct0) (some (vI (nI r))) (rh h f0 f1 us ct) ∧ PO us0 ct0 (fun X => tl w X t) (okTb w t 8) r us ct := by
  have hw3 : ∀ us ct, rh h f0 f1 us ct (10, 3) = E w := fun us ct => by rw [rh_o (by decide) (by decide)]; exact hw
  have go := lpN 8 (fun n => ∀ us ct (o4 : Option xV), PW us0 ct0 (fun X => sm n fun i => lc w X (w (8 * t + i))) (okTb w t n) (okTb w t 8) us ct → ∃ r us' ct', Rn (d + 3) MX2_areTableLeadsRight 2 [some (vR (2, 0)), some (vR (0, 3)), some (vI (nI t)), some (vI (nI n)), o4] [] (rh h f0 f1 us ct) (some (vI (nI r))) (rh h f0 f1 us' ct') ∧ PO us0 ct0 (fun X => tl w X t) (okTb w t 8) r us' ct') (fun n hn K => ?_) ?_
  · obtain ⟨r, us, ct, h1, h3⟩ := go us0 ct0 none ⟨hg, le_refl' _, fun j hj => by omega, fun X => rfl, fun u h _ => h⟩
    refine ⟨r, us, ct, ?_, h3⟩
    refine rnN 2 rfl ?_
    exact h1
  · intro us ct o4 p
    have hx := hb (8 * t + n)
    obtain ⟨x, hxd⟩ : ∃ x, x = w (8 * t + n) := ⟨_, rfl⟩
    rw [← hxd] at hx
    have hsz : w 2 < 2147483648 := by omega
    by_cases x0 : x = 0
    · have pn : PW us0 ct0 (fun X => sm (n + 1) fun i => lc w X (w (8 * t + i))) (okTb w t (n + 1)) (okTb w t 8) us ct := by
        refine ⟨p.1, p.2.1, fun j hj => ?_, fun X => ?_, p.2.2.2.2⟩
        · by_cases e : j = n
          · rw [e, ← hxd]; exact Or.inl x0
          · exact p.2.2.1 j (by omega)
        · have e1 : ct X = ct0 X + sm n fun i => lc w X (w (8 * t + i)) := p.2.2.2.1 X
          show ct X = ct0 X + (sm n (fun i => lc w X (w (8 * t + i))) + lc w X (w (8 * t + n)))
          rw [← hxd, x0, e1]
          rfl
      obtain ⟨r, us', ct', h1, h3⟩ := K us ct (some (vI (nI x))) pn
      refine ⟨r, us', ct', ?_, h3⟩
      refine rnN 2 rfl ?_
      refine rnT (nI_lt hn (by decide)) rfl ?_
      refine rnN 3 rfl ?_
      refine rnK rfl (c_at (hw3 us ct) ht hn) ?_
      rw [← hxd]
      refine rnN 2 rfl ?_
      refine rnT ((show nI x = 0 by rw [x0]; rfl)) rfl ?_
      refine rnN 1 rfl ?_
      refine rnN 2 rfl ?_
      simp (disch := omega) only [nI_add, pk_mul, pk_sub, nd8, nd4, nsub8, nand63, nand7, nshr2, nI_clamp, E_at, hup_at, hup_hup]
      exact h1
    · by_cases hlt : 8 * n < w 2
      · obtain ⟨v0, hc1, hc2⟩ := c_clusterLedTo (d := d + 1) (h := rh h f0 f1 us ct) hx
        rcases c_claim (d := d + 2) (h := h) (f0 := f0) (f1 := f1) (v0 := v0) (a := 8 + n) p.1 (by omega) (by omega) with ⟨c, q1, q2, q3, q4, q5⟩ | ⟨q1, q2⟩
        · have hLD : LD x ∧ c = x / 4 := by
            rcases hc2 with ⟨z1, z2⟩ | ⟨z1, z2⟩
            · rw [q3] at z2
              exact ⟨z1, (neq (by omega) (by unfold LD at z1; omega)).mp z2⟩
            · exact absurd q3 (z2 c q1 q2)
          have hxl : x < 2147483648 := by have := hLD.1; unfold LD at this; omega
          obtain ⟨g1, g2, g3⟩ := gd_claim p.1 q1 (show 8 + n < 88 by omega) (by omega) q4
          obtain ⟨r1, us1, ct1, lf1, lr1, lg1, ll1, lo1, lu1⟩ := c_leafLeads (d := d) (l := c) (i := n) (h := h) (f0 := f0) (f1 := f1) hw hb h2 q2 hn g1
          have head : ∀ r us' ct', Rn (d + 3) MX2_areTableLeadsRight 67 [some (vR (2, 0)), some (vR (0, 3)), some (vI (nI t)), some (vI (nI n)), some (vI (nI x))] [vI (nI r1)] (rh h f0 f1 us1 ct1) (some (vI (nI r))) (rh h f0 f1 us' ct') → Rn (d + 3) MX2_areTableLeadsRight 2 [some (vR (2, 0)), some (vR (0, 3)), some (vI (nI t)), some (vI (nI n)), o4] [] (rh h f0 f1 us ct) (some (vI (nI r))) (rh h f0 f1 us' ct') := fun r us' ct' kk => by
            refine rnN 2 rfl ?_
            refine rnT (nI_lt hn (by decide)) rfl ?_
            refine rnN 3 rfl ?_
            refine rnK rfl (c_at (hw3 us ct) ht hn) ?_
            rw [← hxd]
            refine rnN 2 rfl ?_
            refine rnF ((fun e => x0 ((neq0S hx).mp e))) rfl ?_
            refine rnN 6 rfl ?_
            refine rnK rfl (c_hd (hw3 us ct) (show 2 < 8 by decide)) ?_
            simp (disch := omega) only [nI_add, pk_mul, pk_sub, nd8, nd4, nsub8, nand63, nand7, nshr2, nI_clamp, E_at, hup_at, hup_hup]
            refine rnT (nI_lt hlt hsz) rfl ?_
            refine rnN 2 rfl ?_
            refine rnK rfl (hc1) ?_
            refine rnN 3 rfl ?_
            simp (disch := omega) only [nI_add, pk_mul, pk_sub, nd8, nd4, nsub8, nand63, nand7, nshr2, nI_clamp, E_at, hup_at, hup_hup]
            refine rnK rfl (q5) ?_
            refine rnN 4 rfl ?_
            refine rnK rfl (c_clusterOf hxl) ?_
            refine rnN 3 rfl ?_
            simp (disch := omega) only [nI_add, pk_mul, pk_sub, nd8, nd4, nsub8, nand63, nand7, nshr2, nI_clamp, E_at, hup_at, hup_hup]
            rw [← hLD.2]
            refine rnK rfl (lf1) ?_
            exact kk
          by_cases hr : r1 = 1
          · obtain ⟨o1, o2⟩ := lo1 hr
            have pn : PW us0 ct0 (fun X => sm (n + 1) fun i => lc w X (w (8 * t + i))) (okTb w t (n + 1)) (okTb w t 8) us1 ct1 := by
              refine ⟨lg1, le_trans' p.2.1 (le_trans' g2 ll1), fun j hj => ?_, fun X => ?_, fun u h1 h3 => ?_⟩
              · by_cases e : j = n
                · rw [e, ← hxd]
                  refine Or.inr ⟨hLD.1, hlt, ?_, fun j2 hj2 => ?_⟩
                  · rw [← hLD.2, ll1 c (by rw [up_at]; omega), up_at]
                  · rw [← hLD.2]
                    exact o1 j2 hj2
                · exact (p.2.2.1 j (by omega)).le (le_trans' g2 ll1)
              · have e1 : ct X = ct0 X + sm n fun i => lc w X (w (8 * t + i)) := p.2.2.2.1 X
                have e3 : ct1 X = ct X + iv c X + sm 8 fun j => bc X (w (8 * c + j)) := o2 X
                have e2 : lc w X x = iv c X + sm 8 fun j => bc X (w (8 * c + j)) := by unfold lc; rw [if_neg (by omega), ← hLD.2]
                show ct1 X = ct0 X + (sm n (fun i => lc w X (w (8 * t + i))) + lc w X (w (8 * t + n)))
                rw [← hxd, e2, e3, e1]
                omega
              · have h4 := h3 n hn
                rw [← hxd] at h4
                have h5 := h4.lead (by omega)
                rw [← hLD.2] at h5
                exact (lu1 u (g3 u (p.2.2.2.2 u h1 h3) h5.2.2.1) h5.2.2.2).2
            obtain ⟨r, us', ct', h1, h3⟩ := K _ _ (some (vI (nI x))) pn
            refine ⟨r, us', ct', head _ _ _ ?_, h3⟩
            rw [hr]
            refine rnN 1 rfl ?_
            refine rnN 2 rfl ?_
            simp (disch := omega) only [nI_add, pk_mul, pk_sub, nd8, nd4, nsub8, nand63, nand7, nshr2, nI_clamp, E_at, hup_at, hup_hup]
            exact h1
          · have hr0 : r1 = 0 := by omega
            refine ⟨0, us1, ct1, head _ _ _ ?_, by omega, lg1, le_trans' p.2.1 (le_trans' g2 ll1), fun e => absurd e (by decide), fun u h1 h3 => ?_⟩
            · rw [hr0]
              refine rnN 2 rfl ?_
              exact rnR rfl
            · exfalso
              have h4 := h3 n hn
              rw [← hxd] at h4
              have h5 := h4.lead (by omega)
              rw [← hLD.2] at h5
              exact hr (lu1 u (g3 u (p.2.2.2.2 u h1 h3) h5.2.2.1) h5.2.2.2).1
        · refine ⟨0, us, ct, ?_, p.fail fun u h1 h3 h5 => ?_⟩
          · refine rnN 2 rfl ?_
            refine rnT (nI_lt hn (by decide)) rfl ?_
            refine rnN 3 rfl ?_
            refine rnK rfl (c_at (hw3 us ct) ht hn) ?_
            rw [← hxd]
            refine rnN 2 rfl ?_
            refine rnF ((fun e => x0 ((neq0S hx).mp e))) rfl ?_
            refine rnN 6 rfl ?_
            refine rnK rfl (c_hd (hw3 us ct) (show 2 < 8 by decide)) ?_
            simp (disch := omega) only [nI_add, pk_mul, pk_sub, nd8, nd4, nsub8, nand63, nand7, nshr2, nI_clamp, E_at, hup_at, hup_hup]
            refine rnT (nI_lt hlt hsz) rfl ?_
            refine rnN 2 rfl ?_
            refine rnK rfl (hc1) ?_
            refine rnN 3 rfl ?_
            simp (disch := omega) only [nI_add, pk_mul, pk_sub, nd8, nd4, nsub8, nand63, nand7, nshr2, nI_clamp, E_at, hup_at, hup_hup]
            refine rnK rfl (q2) ?_
            refine rnN 2 rfl ?_
            exact rnR rfl
          · have h6 := h5 n hn
            rw [← hxd] at h6
            rcases h6 with e | ⟨e1, -, e2, -⟩
            · exact x0 e
            · have hp := e1.pos
              rcases hc2 with ⟨z1, z2⟩ | ⟨z1, z2⟩
              · obtain ⟨w1, w2⟩ := q1 (x / 4) hp.1 hp.2 z2
                have := h3 _ w1
                omega
              · exact z1 e1
      · refine ⟨0, us, ct, ?_, p.fail fun u h1 h3 h5 => ?_⟩
        · refine rnN 2 rfl ?_
          refine rnT (nI_lt hn (by decide)) rfl ?_
          refine rnN 3 rfl ?_
          refine rnK rfl (c_at (hw3 us ct) ht hn) ?_
          rw [← hxd]
          refine rnN 2 rfl ?_
          refine rnF ((fun e => x0 ((neq0S hx).mp e))) rfl ?_
          refine rnN 6 rfl ?_
          refine rnK rfl (c_hd (hw3 us ct) (show 2 < 8 by decide)) ?_
          simp (disch := omega) only [nI_add, pk_mul, pk_sub, nd8, nd4, nsub8, nand63, nand7, nshr2, nI_clamp, E_at, hup_at, hup_hup]
          refine rnF (nI_nlt (Nat.le_of_not_lt hlt) (by omega)) rfl ?_
          refine rnN 1 rfl ?_
          exact rnR rfl
        · have h6 := h5 n hn
          rw [← hxd] at h6
          rcases h6 with e | ⟨-, e, -⟩
          · exact x0 e
          · exact hlt e
  · intro us ct o4 p
    refine ⟨1, us, ct, ?_, p.done fun h => h⟩
    refine rnN 4 rfl ?_
    exact rnR rfl
end RD
