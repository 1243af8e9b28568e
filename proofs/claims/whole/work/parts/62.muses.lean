/-! ===== the reference's reader: all uses ===== -/
section MU
variable {d l t F F' F0 r1 r2 : Nat} {h : xH} {f : Nat → Int32} {us ct us' ct' us0 ct0 cn cn2 u v w M : Nat → Nat} {okn ok ok2 : (Nat → Nat) → Prop} {r : Nat} {P : Nat → xH → Prop}
theorem lh_rd {k q : Nat} (hw : h (12, 0) = E (pf M 3 w)) (hk : k < 512) (hq : q = 512 * 3 + k) : lh h f us F (12, 0) q = nI (w k) := by
  rw [lh_o (by decide) (by decide), hw, hq, E_at, pf_at hk]
theorem m_keepers (hw : h (12, 0) = E (pf M 3 w)) (hb : ∀ p, w p < 4294967296) (hg : gd us0 ct0) (hF : F0 ≤ 1) (hr : r2 ≤ 1) (h4 : r2 = 1 → w 4 < 64) (hr0 : r2 = 0 → F0 = 0)
    (K : ∀ F us ct (n : Nat) (o4 : Option xV), QW us0 ct0 F0 (fun X => kc w X) (okK w 8) (okK w 8) F us ct → ∃ r hf, Rn (d + 3) MX4_usesRight 109 [some (vR (4, 0)), some (vI (nI r1)), some (vI (nI r2)), some (vI (nI n)), o4, none, none] [] (lh h f us F) (some (vI (nI r))) hf ∧ P r hf) :
    ∃ r hf, Rn (d + 3) MX4_usesRight 56 [some (vR (4, 0)), some (vI (nI r1)), some (vI (nI r2)), some (vI (nI 0)), none, none, none] [] (lh h f us0 F0) (some (vI (nI r))) hf ∧ P r hf := by
  rcases (show r2 = 0 ∨ r2 = 1 by omega) with e | e
  · have e0 := hr0 e
    rw [e, e0] at K ⊢
    obtain ⟨r, hf, hR, hP⟩ := K 0 us0 ct0 0 none ⟨hg, le_refl' _, by decide, fun e => absurd e (by decide), fun u e h _ => absurd e (by decide)⟩
    refine ⟨r, hf, ?_, hP⟩
    refine rnN 3 rfl ?_
    refine rnN 2 rfl ?_
    exact hR
  · have h4l := h4 e
    rw [e] at K ⊢
    have go := lpN 8 (fun n => ∀ F us ct (o4 : Option xV), QW us0 ct0 F0 (fun X => sm n fun k => if w (8 * w 4 + k) = 0 then 0 else iv (w (8 * w 4 + k)) X) (okK w n) (okK w 8) F us ct → ∃ r hf, Rn (d + 3) MX4_usesRight 56 [some (vR (4, 0)), some (vI (nI r1)), some (vI (nI 1)), some (vI (nI n)), o4, none, none] [] (lh h f us F) (some (vI (nI r))) hf ∧ P r hf) (fun n hn K2 => ?_) ?_
    · exact go F0 us0 ct0 none ⟨hg, le_refl' _, hF, fun e => ⟨e, fun j hj => by omega, fun X => rfl⟩, fun u e h _ => ⟨e, h⟩⟩
    · intro F us ct o4 p
      have hx := hb (8 * w 4 + n)
      obtain ⟨x, hxd⟩ : ∃ x, x = w (8 * w 4 + n) := ⟨_, rfl⟩
      rw [← hxd] at hx
      have head : ∀ r hf, Rn (d + 3) MX4_usesRight 87 [some (vR (4, 0)), some (vI (nI r1)), some (vI (nI 1)), some (vI (nI n)), some (vI (nI x)), none, none] [] (lh h f us F) (some (vI (nI r))) hf → Rn (d + 3) MX4_usesRight 56 [some (vR (4, 0)), some (vI (nI r1)), some (vI (nI 1)), some (vI (nI n)), o4, none, none] [] (lh h f us F) (some (vI (nI r))) hf := fun r hf kk => by
        refine rnN 2 rfl ?_
        refine rnT (nI_lt hn (by decide)) rfl ?_
        refine rnN 2 rfl ?_
        refine rnN 6 rfl ?_
        refine rnC (inN (show 1540 < 2048 by decide) (by decide)) rfl ?_
        simp (disch := omega) only [nI_clamp]
        rw [lh_rd hw (show 4 < 512 by decide) rfl]
        refine rnK rfl (m_at) ?_
        refine rnN 2 rfl ?_
        simp (disch := omega) only [nI_add, pk_mul, pk_sub, nd8, nd4, nsub8, nand63, nand7, nshr2, nI_clamp, E_at, hup_at, hup_hup, hpt_def, pf_at, pf_at2, cf_at, h12_14, h14_12, h12_15, h15_12, h14_15, h15_14]
        refine rnC (inN (show 512 * 3 + 8 * w 4 + n < 2048 by omega) (by decide)) rfl ?_
        simp (disch := omega) only [nI_clamp]
        rw [lh_rd hw (show 8 * w 4 + n < 512 by omega) (by omega), ← hxd]
        refine rnN 1 rfl ?_
        exact kk
      by_cases x0 : x = 0
      · have pn : QW us0 ct0 F0 (fun X => sm (n + 1) fun k => if w (8 * w 4 + k) = 0 then 0 else iv (w (8 * w 4 + k)) X) (okK w (n + 1)) (okK w 8) F us ct := by
          refine p.chg (fun X => ?_) (fun u hu k hk hk0 => ?_)
          · show _ = sm n _ + if w (8 * w 4 + n) = 0 then 0 else iv (w (8 * w 4 + n)) X
            rw [if_pos (by omega)]
            rfl
          · by_cases e : k = n
            · rw [e] at hk0; omega
            · exact hu k (by omega) hk0
        obtain ⟨r, hf, hR, hP⟩ := K2 F us ct (some (vI (nI x))) pn
        refine ⟨r, hf, head _ _ ?_, hP⟩
        refine rnN 1 rfl ?_
        refine rnT ((show nI x = 0 by rw [x0]; rfl)) rfl ?_
        refine rnN 2 rfl ?_
        simp (disch := omega) only [nI_add, pk_mul, pk_sub, nd8, nd4, nsub8, nand63, nand7, nshr2, nI_clamp, E_at, hup_at, hup_hup]
        exact hR
      · obtain ⟨r3, F3, us3, ct3, a1, a2, a3, a4, a5⟩ := m_lead (d := d + 2) (h := h) (f := f) (a := 16 + n) hx rfl p.1 p.2.2.1 (by omega) (by omega)
        have hmo : mo (okK w n) := fun a b h1 h2 k hk h0 => mo_C (by omega) a b h1 (h2 k hk h0)
        have pn : QW us0 ct0 F0 (fun X => sm (n + 1) fun k => if w (8 * w 4 + k) = 0 then 0 else iv (w (8 * w 4 + k)) X) (okK w (n + 1)) (okK w 8) F3 us3 ct3 := by
          refine (p.seq a3 hmo (fun u hu => ?_)).chg (fun X => ?_) (fun u hu k hk hk0 => ?_)
          · have := hu n hn (by omega)
            rwa [← hxd] at this
          · show _ = sm n _ + if w (8 * w 4 + n) = 0 then 0 else iv (w (8 * w 4 + n)) X
            rw [if_neg (by omega), ← hxd]
          · by_cases e : k = n
            · rw [e, ← hxd]; exact hu.2
            · exact hu.1 k (by omega) hk0
        obtain ⟨r, hf, hR, hP⟩ := K2 F3 us3 ct3 (some (vI (nI x))) pn
        refine ⟨r, hf, head _ _ ?_, hP⟩
        refine rnN 1 rfl ?_
        refine rnF ((fun q => x0 ((neq0S hx).mp q))) rfl ?_
        refine rnN 5 rfl ?_
        simp (disch := omega) only [nI_add, pk_mul, pk_sub, nd8, nd4, nsub8, nand63, nand7, nshr2, nI_clamp, E_at, hup_at, hup_hup]
        rw [show nI (10 + n) = nI (mu (16 + n)) by rw [mu_16 hn]]
        refine rnK rfl (a2) ?_
        refine rnN 1 rfl ?_
        refine rnN 2 rfl ?_
        simp (disch := omega) only [nI_add, pk_mul, pk_sub, nd8, nd4, nsub8, nand63, nand7, nshr2, nI_clamp, E_at, hup_at, hup_hup]
        exact hR
    · intro F us ct o4 p
      obtain ⟨r, hf, hR, hP⟩ := K F us ct 8 o4 p
      refine ⟨r, hf, ?_, hP⟩
      refine rnN 3 rfl ?_
      exact hR
theorem m_listLeads {t3 : Nat} (hw : h (12, 0) = E (pf M 3 w)) (hb : ∀ p, w p < 4294967296) (h2 : w 2 ≤ 64) (h5 : w 5 ≤ 4) (hg : gd us0 ct0) (hF : F0 ≤ 1) (hr : t3 ≤ 1) (h6 : t3 = 1 → w 6 < 64) (hr0 : t3 = 0 → F0 = 0 ∨ w 5 = 0)
    (K : ∀ F us ct (n : Nat) (o5 o6 : Option xV), QW us0 ct0 F0 (fun X => sm (w 5) fun j => tc w X (tab w j)) (okSn w (w 5)) (okSn w (w 5)) F us ct → ∃ r hf, Rn (d + 3) MX4_usesRight 213 [some (vR (4, 0)), some (vI (nI r1)), some (vI (nI r2)), some (vI (nI t3)), some (vI (nI n)), o5, o6] [] (lh h f us F) (some (vI (nI r))) hf ∧ P r hf) :
    ∃ r hf, Rn (d + 3) MX4_usesRight 145 [some (vR (4, 0)), some (vI (nI r1)), some (vI (nI r2)), some (vI (nI t3)), some (vI (nI 0)), none, none] [] (lh h f us0 F0) (some (vI (nI r))) hf ∧ P r hf := by
  have hw3 : ∀ us F, lh h f us F (12, 0) = E (pf M 3 w) := fun us F => by rw [lh_o (by decide) (by decide)]; exact hw
  by_cases h50 : w 5 = 0
  · obtain ⟨r, hf, hR, hP⟩ := K F0 us0 ct0 0 none none ⟨hg, le_refl' _, hF, fun e => ⟨e, fun j hj => by omega, fun X => by rw [h50]; rfl⟩, fun u e h _ => ⟨e, h⟩⟩
    refine ⟨r, hf, ?_, hP⟩
    refine rnN 3 rfl ?_
    refine rnK rfl (m_snapshots (hw3 us0 F0) (by decide)) ?_
    refine rnF (nI_nlt (show w 5 ≤ 0 by omega) (by omega)) rfl ?_
    exact hR
  rcases (show t3 = 0 ∨ t3 = 1 by omega) with e | e
  · have e0 := (hr0 e).resolve_right h50
    rw [e, e0] at K ⊢
    obtain ⟨r, hf, hR, hP⟩ := K 0 us0 ct0 0 none none ⟨hg, le_refl' _, by decide, fun e => absurd e (by decide), fun u e h _ => absurd e (by decide)⟩
    refine ⟨r, hf, ?_, hP⟩
    refine rnN 3 rfl ?_
    refine rnK rfl (m_snapshots (hw3 us0 0) (by decide)) ?_
    refine rnT (nI_lt (show 0 < w 5 by omega) (by omega)) rfl ?_
    refine rnN 2 rfl ?_
    exact hR
  · have h6l := h6 e
    rw [e] at K ⊢
    have go := lpN (w 5) (fun n => ∀ F us ct (o5 o6 : Option xV), QW us0 ct0 F0 (fun X => sm n fun j => tc w X (tab w j)) (okSn w n) (okSn w (w 5)) F us ct → ∃ r hf, Rn (d + 3) MX4_usesRight 145 [some (vR (4, 0)), some (vI (nI r1)), some (vI (nI r2)), some (vI (nI 1)), some (vI (nI n)), o5, o6] [] (lh h f us F) (some (vI (nI r))) hf ∧ P r hf) (fun n hn K2 => ?_) ?_
    · exact go F0 us0 ct0 none none ⟨hg, le_refl' _, hF, fun e => ⟨e, fun j hj => by omega, fun X => rfl⟩, fun u e h _ => ⟨e, h⟩⟩
    · intro F us ct o5 o6 p
      have hx := hb (8 * w 6 + 2 * n)
      have hmo : mo (okSn w n) := fun a b h1 h2 j hj => ⟨mo_C (by omega) a b h1 (h2 j hj).1, mo_T a b h1 (h2 j hj).2⟩
      obtain ⟨x, hxd⟩ : ∃ x, x = tab w n := ⟨_, rfl⟩
      have hx : x < 4294967296 := by rw [hxd]; exact hb _
      obtain ⟨r3, F3, us3, ct3, a1, a2, a3, a4, a5⟩ := m_lead (d := d + 2) (h := h) (f := f) (a := 4 + n) hx rfl p.1 p.2.2.1 (by omega) (by omega)
      have ps := p.seq a3 hmo (fun u hu => by rw [hxd]; exact (hu n hn).1)
      have head : ∀ r hf, Rn (d + 3) MX4_usesRight 194 [some (vR (4, 0)), some (vI (nI r1)), some (vI (nI r2)), some (vI (nI 1)), some (vI (nI n)), some (vI (nI x)), o6] [vI (nI r3)] (lh h f us3 F3) (some (vI (nI r))) hf → Rn (d + 3) MX4_usesRight 145 [some (vR (4, 0)), some (vI (nI r1)), some (vI (nI r2)), some (vI (nI 1)), some (vI (nI n)), o5, o6] [] (lh h f us F) (some (vI (nI r))) hf := fun r hf kk => by
        refine rnN 3 rfl ?_
        refine rnK rfl (m_snapshots (hw3 us F) (by decide)) ?_
        refine rnT (nI_lt hn (by omega)) rfl ?_
        refine rnN 2 rfl ?_
        refine rnN 6 rfl ?_
        refine rnC (inN (show 1542 < 2048 by decide) (by decide)) rfl ?_
        simp (disch := omega) only [nI_clamp]
        rw [lh_rd hw (show 6 < 512 by decide) rfl]
        refine rnK rfl (m_at) ?_
        refine rnN 4 rfl ?_
        simp (disch := omega) only [nI_add, pk_mul, pk_sub, nd8, nd4, nsub8, nand63, nand7, nshr2, nI_clamp, E_at, hup_at, hup_hup]
        refine rnC (inN (show 512 * 3 + 8 * w 6 + 2 * n < 2048 by omega) (by decide)) rfl ?_
        simp (disch := omega) only [nI_clamp]
        rw [lh_rd hw (show 8 * w 6 + 2 * n < 512 by omega) (by omega), show w (8 * w 6 + 2 * n) = x from hxd.symm]
        refine rnN 6 rfl ?_
        simp (disch := omega) only [nI_add, pk_mul, pk_sub, nd8, nd4, nsub8, nand63, nand7, nshr2, nI_clamp, E_at, hup_at, hup_hup]
        rw [show nI (20 + n) = nI (mu (4 + n)) by rw [mu_4 (show n < 4 by omega)]]
        refine rnK rfl (a2) ?_
        exact kk
      by_cases hr : r3 = 1
      · have hx64 := (a4 hr).2
        obtain ⟨F4, us4, ct4, b1, b2⟩ := m_walkTable (d := d) (h := h) (f := f) (t := x) hw hb h2 hx64 a3.1 a3.2.2.1
        have hmo2 : mo fun u => okSn w n u ∧ okC x (4 + n) u := fun a b h1 h3 => ⟨hmo a b h1 h3.1, mo_C (by omega) a b h1 h3.2⟩
        have pl := ps.seq b2 hmo2 (fun u hu => by rw [hxd]; exact (hu n hn).2)
        have pn : QW us0 ct0 F0 (fun X => sm (n + 1) fun j => tc w X (tab w j)) (okSn w (n + 1)) (okSn w (w 5)) F4 us4 ct4 := by
          refine pl.chg (fun X => ?_) (fun u hu j hj => ?_)
          · show _ = sm n (fun j => tc w X (tab w j)) + tc w X (tab w n)
            rw [tc_tl w X (tab w n), ← hxd]
            show _ + _ + _ = _
            omega
          · by_cases e : j = n
            · rw [e, ← hxd]
              exact ⟨hu.1.2, hu.2⟩
            · exact hu.1.1 j (by omega)
        obtain ⟨r, hf, hR, hP⟩ := K2 F4 us4 ct4 (some (vI (nI x))) (some (vI (nI 1))) pn
        refine ⟨r, hf, head _ _ ?_, hP⟩
        rw [hr]
        refine rnN 3 rfl ?_
        refine rnN 2 rfl ?_
        refine rnK rfl (b1) ?_
        refine rnN 2 rfl ?_
        simp (disch := omega) only [nI_add, pk_mul, pk_sub, nd8, nd4, nsub8, nand63, nand7, nshr2, nI_clamp, E_at, hup_at, hup_hup]
        exact hR
      · have hr0 : r3 = 0 := by omega
        have hF3 := a5 hr0
        rw [hF3] at ps a2 head
        obtain ⟨r, hf, hR, hP⟩ := K2 0 us3 ct3 (some (vI (nI x))) (some (vI (nI 0))) ps.dead
        refine ⟨r, hf, head _ _ ?_, hP⟩
        rw [hr0]
        refine rnN 3 rfl ?_
        refine rnN 2 rfl ?_
        simp (disch := omega) only [nI_add, pk_mul, pk_sub, nd8, nd4, nsub8, nand63, nand7, nshr2, nI_clamp, E_at, hup_at, hup_hup]
        exact hR
    · intro F us ct o5 o6 p
      obtain ⟨r, hf, hR, hP⟩ := K F us ct (w 5) o5 o6 p
      refine ⟨r, hf, ?_, hP⟩
      refine rnN 3 rfl ?_
      refine rnK rfl (m_snapshots (hw3 us F) (by decide)) ?_
      refine rnF (nI_nlt (Nat.le_refl _) (by omega)) rfl ?_
      exact hR
/-- zeroes in the row of uses up to i, all fits so far -/
def zh (h : xH) (i : Nat) : xH := hup (hup h (14, 1) fun c => if c < i then nI 0 else h (14, 1) c) (4, 0) (upd (h (4, 0)) 5 (nI 1))
theorem zh_next {i : Nat} : hpt (zh h i) (14, 1) i (nI 0) = zh h (i + 1) := by
  have e1 : zh h i (14, 1) = fun c => if c < i then nI 0 else h (14, 1) c := by
    unfold zh
    rw [hup_ne (by decide), hup_at]
  unfold hpt
  rw [e1]
  have st : upd (fun c => if c < i then nI 0 else h (14, 1) c) i (nI 0) = fun c => if c < i + 1 then nI 0 else h (14, 1) c := by
    funext c
    simp only [upd]
    by_cases e : c = i
    · rw [if_pos e, if_pos (by omega)]
    · rw [if_neg e]
      by_cases e2 : c < i
      · rw [if_pos e2, if_pos (by omega)]
      · rw [if_neg e2, if_neg (by omega)]
  rw [st]
  funext q
  unfold zh hup
  by_cases h1 : q = (14, 1)
  · subst h1; rfl
  · simp only [if_neg h1]
theorem zh_0 : hpt h (4, 0) 5 (nI 1) = zh h 0 := by
  have e1 : (fun c => if c < 0 then nI 0 else h (14, 1) c) = h (14, 1) := by funext c; rw [if_neg (by omega)]
  unfold hpt zh
  rw [e1, hup_self (p := (14, 1)) rfl]
theorem zh_64 : zh h 64 = lh h (h (14, 1)) (fun _ => 0) 1 := rfl
theorem m_usesRight (hw : h (12, 0) = E (pf M 3 w)) (hb : ∀ p, w p < 4294967296) (hH : HR w) :
    ∃ F us, F ≤ 1 ∧ Cl (d + 3) MX4_usesRight [vR (4, 0)] h (some (vI (nI F))) (lh h (h (14, 1)) us F) ∧ (F = 1 → Str w us ∧ (∀ c, 1 ≤ c → (us c = 0 ↔ T w c = 0)) ∧ (∀ c, us c < 88) ∧ us 0 = 0) ∧ ((∃ u, Str w u) → F = 1) := by
  obtain ⟨g0, g1, g2, g5, g7, g6⟩ := hH
  have hw3 : ∀ us F, lh h (h (14, 1)) us F (12, 0) = E (pf M 3 w) := fun us F => by rw [lh_o (by decide) (by decide)]; exact hw
  have hg0 : gd (fun _ => 0) (fun X => iv X 0) := ⟨fun _ => (by decide : (0 : Nat) < 88), rfl, fun c hc => ⟨fun _ => iv_ne (by omega), fun _ => rfl⟩⟩
  have p0 : QW (fun _ => 0) (fun X => iv X 0) 1 (fun _ => 0) (fun _ => True) (Str w) 1 (fun _ => 0) (fun X => iv X 0) := QW.start hg0 (by decide)
  have init : ∀ x hf, Rn (d + 3) MX4_usesRight 26 [some (vR (4, 0)), some (vI (nI 64)), none, none, none, none, none] [] (lh h (h (14, 1)) (fun _ => 0) 1) x hf → Cl (d + 3) MX4_usesRight [vR (4, 0)] h x hf := fun x hf kk => by
    refine rnN 3 rfl ?_
    rw [zh_0]
    refine rnN 2 rfl ?_
    refine lpN 64 (fun i => Rn (d + 3) MX4_usesRight 7 [some (vR (4, 0)), some (vI (nI i)), none, none, none, none, none] [] (zh h i) x hf) (fun i hi K => ?_) ?_
    · refine rnN 2 rfl ?_
      refine rnT (nI_lt hi (by decide)) rfl ?_
      refine rnN 4 rfl ?_
      refine rnC (inN hi (by decide)) rfl ?_
      simp (disch := omega) only [nI_clamp, zh_next]
      refine rnN 2 rfl ?_
      simp (disch := omega) only [nI_add, pk_mul, pk_sub, nd8, nd4, nsub8, nand63, nand7, nshr2, nI_clamp, E_at, hup_at, hup_hup]
      exact K
    · rw [zh_64]
      refine rnN 3 rfl ?_
      exact kk
  obtain ⟨r1, F1, us1, ct1, a1, a2, a3, a4, a5⟩ := m_lead (d := d + 2) (h := h) (f := h (14, 1)) (x := w 3) (a := 1) (hb _) rfl hg0 (show 1 ≤ 1 by decide) (by decide) (by decide)
  obtain ⟨r2, F2, us2, ct2, b1, b2, b3, b4, b5⟩ := m_lead (d := d + 2) (h := h) (f := h (14, 1)) (x := w 4) (a := 2) (hb _) rfl a3.1 a3.2.2.1 (by decide) (by decide)
  have q1 := p0.seq a3 (fun _ _ _ _ => trivial) (fun u hu => hu.act)
  have q2 := q1.seq b3 (fun a b h1 h2 => ⟨trivial, mo_C (by decide) a b h1 h2.2⟩) (fun u hu => hu.ct)
  have moK : mo (okK w 8) := fun a b h1 h2 k hk h0 => mo_C (by omega) a b h1 (h2 k hk h0)
  have moS : mo (okSn w (w 5)) := fun a b h1 h2 j hj => ⟨mo_C (by omega) a b h1 (h2 j hj).1, mo_T a b h1 (h2 j hj).2⟩
  obtain ⟨P, hP⟩ : ∃ P : Nat → xH → Prop, P = fun F hf => ∃ us, F ≤ 1 ∧ hf = lh h (h (14, 1)) us F ∧ (F = 1 → Str w us ∧ (∀ c, 1 ≤ c → (us c = 0 ↔ T w c = 0)) ∧ (∀ c, us c < 88) ∧ us 0 = 0) ∧ ((∃ u, Str w u) → F = 1) := ⟨_, rfl⟩
  have main : ∃ r hf, Rn (d + 3) MX4_usesRight 56 [some (vR (4, 0)), some (vI (nI r1)), some (vI (nI r2)), some (vI (nI 0)), none, none, none] [] (lh h (h (14, 1)) us2 F2) (some (vI (nI r))) hf ∧ P r hf := by
    refine m_keepers hw hb b3.1 b3.2.2.1 b1 (fun e => (b4 e).2) b5 (fun F3 us3 ct3 n o4 c3 => ?_)
    have q3 := q2.seq c3 (fun a b h1 h2 => ⟨⟨trivial, mo_C (by decide) a b h1 h2.1.2⟩, mo_C (by decide) a b h1 h2.2⟩) (fun u hu k hk h0 => ⟨by omega, hu.keep hk h0⟩)
    -- the list
    have lst : ∀ t3 F4 us4 ct4, t3 ≤ 1 → (t3 = 1 → w 6 < 64) → (t3 = 0 → F4 = 0 ∨ w 5 = 0) → QW us3 ct3 F3 (fun X => if w 6 = 0 then 0 else iv (w 6) X) (fun u => w 6 ≠ 0 → okC (w 6) 3 u) (fun u => w 6 ≠ 0 → okC (w 6) 3 u) F4 us4 ct4 → ∃ r hf, Rn (d + 3) MX4_usesRight 145 [some (vR (4, 0)), some (vI (nI r1)), some (vI (nI r2)), some (vI (nI t3)), some (vI (nI 0)), none, none] [] (lh h (h (14, 1)) us4 F4) (some (vI (nI r))) hf ∧ P r hf := fun t3 F4 us4 ct4 z1 z2 z3 e3 => by
      have q4 := q3.seq e3 (fun a b h1 h2 => ⟨⟨⟨trivial, mo_C (by decide) a b h1 h2.1.1.2⟩, mo_C (by decide) a b h1 h2.1.2⟩, moK a b h1 h2.2⟩) (fun u hu e => ⟨by omega, hu.list e⟩)
      refine m_listLeads hw hb g2.2 g5 q4.1 q4.2.2.1 z1 z2 z3 (fun F5 us5 ct5 n o5 o6 d3 => ?_)
      have q5 := q4.seq d3 (fun a b h1 h2 => ⟨⟨⟨⟨trivial, mo_C (by decide) a b h1 h2.1.1.1.2⟩, mo_C (by decide) a b h1 h2.1.1.2⟩, moK a b h1 h2.1.2⟩, fun e => mo_C (by decide) a b h1 (h2.2 e)⟩) (fun u hu j hj => ⟨hu.tab hj, fun i hi => hu.tw (tab_tb hj) hi⟩)
      have fin : ∀ F us, F ≤ 1 → Rn (d + 3) MX4_usesRight 229 [some (vR (4, 0)), some (vI (nI r1)), some (vI (nI r2)), some (vI (nI t3)), some (vI (nI n)), o5, o6] [] (lh h (h (14, 1)) us F) (some (vI (nI F))) (lh h (h (14, 1)) us F) := fun F us hF => by
        rcases (show F = 0 ∨ F = 1 by omega) with e | e
        · rw [e]
          refine rnN 2 rfl ?_
          rw [lh_F]
          exact rnR rfl
        · rw [e]
          refine rnN 2 rfl ?_
          rw [lh_F]
          exact rnR rfl
      rcases (show r1 = 0 ∨ r1 = 1 by omega) with e | e
      · have e1 := a5 e
        have e5 : F5 = 0 := by
          refine Classical.byContradiction fun z => ?_
          have z5 := q5.2.2.1
          have y4 := (d3.2.2.2.1 (by omega)).1
          have y3 := (e3.2.2.2.1 y4).1
          have y2 := (c3.2.2.2.1 y3).1
          have y1 := (b3.2.2.2.1 y2).1
          omega
        refine ⟨F5, lh h (h (14, 1)) us5 F5, ?_, ?_⟩
        · have k9 := fin F5 us5 q5.2.2.1
          rw [e] at k9 ⊢
          refine rnN 2 rfl ?_
          exact k9
        · rw [hP, e5]
          exact ⟨us5, by decide, rfl, fun z => absurd z (by decide), fun ⟨u, hu⟩ => by have := (q5.2.2.2.2 u rfl (fun c hc => absurd rfl hc) hu).1; omega⟩
      · have h3l := (a4 e).2
        obtain ⟨F6, us6, ct6, f2, f3⟩ := m_walkTable (d := d) (h := h) (f := h (14, 1)) (t := w 3) hw hb g2.2 h3l q5.1 q5.2.2.1
        have q6 := q5.seq f3 (fun a b h1 h2 => ⟨⟨⟨⟨⟨trivial, mo_C (by decide) a b h1 h2.1.1.1.1.2⟩, mo_C (by decide) a b h1 h2.1.1.1.2⟩, moK a b h1 h2.1.1.2⟩, fun e => mo_C (by decide) a b h1 (h2.1.2 e)⟩, moS a b h1 h2.2⟩) (fun u hu i hi => hu.tw act_tb hi)
        refine ⟨F6, lh h (h (14, 1)) us6 F6, ?_, ?_⟩
        · have k9 := fin F6 us6 q6.2.2.1
          rw [e] at k9 ⊢
          refine rnN 2 rfl ?_
          refine rnN 4 rfl ?_
          refine rnC (inN (show 1539 < 2048 by decide) (by decide)) rfl ?_
          simp (disch := omega) only [nI_clamp]
          rw [lh_rd hw (show 3 < 512 by decide) rfl]
          refine rnK rfl (f2) ?_
          exact k9
        · rw [hP]
          refine ⟨us6, q6.2.2.1, rfl, fun z => ?_, fun ⟨u, hu⟩ => (q6.2.2.2.2 u rfl (fun c hc => absurd rfl hc) hu).1⟩
          obtain ⟨-, ⟨⟨⟨⟨⟨⟨-, oA⟩, oC⟩, oK⟩, oL⟩, oS⟩, oT⟩, hT0⟩ := q6.2.2.2.1 z
          have hS : Str w us6 := by
            refine ⟨g2, oA, oC, ⟨g5, fun e e2 => e (g6.mp e2)⟩, fun e => (oL e).2, fun k hk h0 => (oK k hk h0).2, fun j hj => (oS j hj).1, fun t ht i hi => ?_⟩
            rcases ht with rfl | ⟨j, hj, rfl⟩
            · exact oT i hi
            · exact (oS j hj).2 i hi
          have hT : ∀ X, ct6 X = T w X := fun X => by
            have e9 : ct6 X = iv X 0 + (0 + iv (w 3) X + iv (w 4) X + kc w X + (if w 6 = 0 then 0 else iv (w 6) X) + (sm (w 5) fun j => tc w X (tab w j)) + tl w X (w 3)) := hT0 X
            unfold T
            rw [e9, tc_tl w X (w 3)]
            omega
          exact ⟨hS, fun c hc => by rw [← hT]; exact q6.1.2.2 c hc, q6.1.1, q6.1.2.1⟩
    by_cases h60 : w 6 = 0
    · have h50 := g6.mp h60
      obtain ⟨r, hf, hR, hQ⟩ := lst 0 F3 us3 ct3 (by decide) (fun e => absurd e (by decide)) (fun _ => Or.inr h50) ⟨c3.1, le_refl' _, c3.2.2.1, fun e => ⟨e, fun e2 => absurd h60 e2, fun X => by show _ = _ + (if w 6 = 0 then 0 else iv (w 6) X); rw [if_pos h60]; rfl⟩, fun u e h _ => ⟨e, h⟩⟩
      refine ⟨r, hf, ?_, hQ⟩
      refine rnN 3 rfl ?_
      refine rnC (inN (show 1542 < 2048 by decide) (by decide)) rfl ?_
      simp (disch := omega) only [nI_clamp]
      rw [lh_rd hw (show 6 < 512 by decide) rfl]
      refine rnT ((show nI (w 6) = 0 by rw [h60]; rfl)) rfl ?_
      refine rnN 1 rfl ?_
      refine rnN 3 rfl ?_
      exact hR
    · obtain ⟨t3, F4, us4, ct4, e1, e2, e3, e4, e5⟩ := m_lead (d := d + 2) (h := h) (f := h (14, 1)) (x := w 6) (a := 3) (hb _) rfl c3.1 c3.2.2.1 (by decide) (by decide)
      obtain ⟨r, hf, hR, hQ⟩ := lst t3 F4 us4 ct4 e1 (fun e => (e4 e).2) (fun e => Or.inl (e5 e)) ⟨e3.1, e3.2.1, e3.2.2.1, fun e => ⟨(e3.2.2.2.1 e).1, fun _ => (e3.2.2.2.1 e).2.1, fun X => by show _ = _ + (if w 6 = 0 then 0 else iv (w 6) X); rw [if_neg h60]; exact (e3.2.2.2.1 e).2.2 X⟩, fun u z1 z2 z3 => e3.2.2.2.2 u z1 z2 (z3 h60)⟩
      refine ⟨r, hf, ?_, hQ⟩
      refine rnN 3 rfl ?_
      refine rnC (inN (show 1542 < 2048 by decide) (by decide)) rfl ?_
      simp (disch := omega) only [nI_clamp]
      rw [lh_rd hw (show 6 < 512 by decide) rfl]
      refine rnF ((fun q => h60 ((neq0S (hb _)).mp q))) rfl ?_
      refine rnN 4 rfl ?_
      refine rnC (inN (show 1542 < 2048 by decide) (by decide)) rfl ?_
      simp (disch := omega) only [nI_clamp]
      rw [lh_rd hw (show 6 < 512 by decide) rfl]
      refine rnN 1 rfl ?_
      refine rnK rfl (e2) ?_
      rcases (show t3 = 0 ∨ t3 = 1 by omega) with e | e
      · rw [e] at hR ⊢
        refine rnN 1 rfl ?_
        refine rnN 1 rfl ?_
        refine rnN 3 rfl ?_
        exact hR
      · rw [e] at hR ⊢
        refine rnN 1 rfl ?_
        refine rnN 2 rfl ?_
        refine rnN 3 rfl ?_
        exact hR
  obtain ⟨F, hf, hR, hQ⟩ := main
  rw [hP] at hQ
  obtain ⟨us, e1, e2, e3, e4⟩ := hQ
  rw [e2] at hR
  refine ⟨F, us, e1, init _ _ ?_, e3, e4⟩
  refine rnN 4 rfl ?_
  refine rnC (inN (show 1539 < 2048 by decide) (by decide)) rfl ?_
  simp (disch := omega) only [nI_clamp]
  rw [lh_rd hw (show 3 < 512 by decide) rfl]
  refine rnN 1 rfl ?_
  refine rnK rfl (a2) ?_
  refine rnN 5 rfl ?_
  refine rnC (inN (show 1540 < 2048 by decide) (by decide)) rfl ?_
  simp (disch := omega) only [nI_clamp]
  rw [lh_rd hw (show 4 < 512 by decide) rfl]
  refine rnN 1 rfl ?_
  refine rnK rfl (b2) ?_
  refine rnN 3 rfl ?_
  exact hR
end MU
