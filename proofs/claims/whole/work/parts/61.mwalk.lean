/-! ===== the reference's reader: tables ===== -/
section MW
variable {d l t F F' F0 : Nat} {h : xH} {f : Nat → Int32} {us ct us' ct' us0 ct0 cn cn2 u v w M : Nat → Nat} {okn ok ok2 : (Nat → Nat) → Prop} {r : Nat}
theorem mo_F {y a : Nat} (ha : a ≠ 0) : mo (okF y a) := fun p q h1 h2 => ⟨h2.1, by rw [h1 _ (by rw [h2.2]; exact ha)]; exact h2.2⟩
theorem mo_B {l i n : Nat} : mo (okB w l i n) := fun p q h1 h2 j hj => (h2 j hj).le h1
/-- a leaf's words -/
theorem m_walkLeaf {y i : Nat} {P : xH → Prop} (hw : h (12, 0) = E (pf M 3 w)) (hb : ∀ p, w p < 4294967296) (h2 : w 2 ≤ 64) (hy : LD y) (hc : l < 64) (hi : i < 8) (hg : gd us0 ct0) (hF : F0 ≤ 1)
    (K : ∀ F us ct (o6 o7 : Option xV), QW us0 ct0 F0 (fun X => sm 8 fun j => bc X (w (8 * (y / 4) + j))) (okB w (y / 4) i 8) (okB w (y / 4) i 8) F us ct → ∃ hf, Rn (d + 2) MX4_walkTable 169 [some (vR (4, 0)), some (vI (nI l)), some (vI (nI (w 2))), some (vI (nI i)), some (vI (nI y)), some (vI (nI 1)), o6, o7] [] (lh h f us F) none hf ∧ P hf) (o7 : Option xV) :
    ∃ hf, Rn (d + 2) MX4_walkTable 72 [some (vR (4, 0)), some (vI (nI l)), some (vI (nI (w 2))), some (vI (nI i)), some (vI (nI y)), some (vI (nI 1)), some (vI (nI 0)), o7] [] (lh h f us0 F0) none hf ∧ P hf := by
  have hyp := hy.pos
  have hyl : y < 2147483648 := by unfold LD at hy; omega
  have hw3 : ∀ us F, lh h f us F (12, 0) = E (pf M 3 w) := fun us F => by rw [lh_o (by decide) (by decide)]; exact hw
  have go := lpN 8 (fun n => ∀ F us ct (o7 : Option xV), QW us0 ct0 F0 (fun X => sm n fun j => bc X (w (8 * (y / 4) + j))) (okB w (y / 4) i n) (okB w (y / 4) i 8) F us ct → ∃ hf, Rn (d + 2) MX4_walkTable 72 [some (vR (4, 0)), some (vI (nI l)), some (vI (nI (w 2))), some (vI (nI i)), some (vI (nI y)), some (vI (nI 1)), some (vI (nI n)), o7] [] (lh h f us F) none hf ∧ P hf) (fun n hn K2 => ?_) ?_
  · exact go F0 us0 ct0 o7 ⟨hg, le_refl' _, hF, fun e => ⟨e, fun j hj => by omega, fun X => rfl⟩, fun u e h _ => ⟨e, h⟩⟩
  · intro F us ct o7 p
    have hz := hb (8 * (y / 4) + n)
    obtain ⟨z, hzd⟩ : ∃ z, z = w (8 * (y / 4) + n) := ⟨_, rfl⟩
    rw [← hzd] at hz
    have okz : ∀ u, okB w (y / 4) i 8 u → BOK (w 2) u i n z := fun u hu => by have := hu n hn; rwa [← hzd] at this
    have pt := p.test (c := z = 0 ∨ 8 * i + n < w 2) (fun u hu => by
      rcases okz u hu with e | ⟨e, -⟩
      · exact Or.inl e
      · exact Or.inr e)
    have hF1 := p.2.2.1
    -- up to the test's end
    have head : ∀ hf, (∀ F2, F2 = (if F = 1 ∧ (z = 0 ∨ 8 * i + n < w 2) then 1 else 0) → Rn (d + 2) MX4_walkTable 134 [some (vR (4, 0)), some (vI (nI l)), some (vI (nI (w 2))), some (vI (nI i)), some (vI (nI y)), some (vI (nI 1)), some (vI (nI n)), some (vI (nI z))] [] (lh h f us F2) none hf) → Rn (d + 2) MX4_walkTable 72 [some (vR (4, 0)), some (vI (nI l)), some (vI (nI (w 2))), some (vI (nI i)), some (vI (nI y)), some (vI (nI 1)), some (vI (nI n)), o7] [] (lh h f us F) none hf := fun hf kk => by
      have k131 : ∀ x, x ≤ 1 → x = (if F = 1 ∧ (z = 0 ∨ 8 * i + n < w 2) then 1 else 0) → Rn (d + 2) MX4_walkTable 131 [some (vR (4, 0)), some (vI (nI l)), some (vI (nI (w 2))), some (vI (nI i)), some (vI (nI y)), some (vI (nI 1)), some (vI (nI n)), some (vI (nI z))] [vI (nI x), vR (4, 0)] (lh h f us F) none hf := fun x hx1 hx => by
        have h9 := kk x hx
        rcases (show x = 0 ∨ x = 1 by omega) with e | e
        · rw [e] at h9 ⊢
          refine rnN 1 rfl ?_
          simp only [lhptF]
          exact h9
        · rw [e] at h9 ⊢
          refine rnN 1 rfl ?_
          simp only [lhptF]
          exact h9
      refine rnN 2 rfl ?_
      refine rnT (nI_lt hn (by decide)) rfl ?_
      refine rnN 2 rfl ?_
      refine rnN 6 rfl ?_
      simp (disch := omega) only [nI_add, pk_mul, pk_sub, nd8, nd4, nsub8, nand63, nand7, nshr2, nI_clamp, E_at, hup_at, hup_hup, hpt_def, pf_at, pf_at2, cf_at, h12_14, h14_12, h12_15, h15_12, h14_15, h15_14]
      refine rnK rfl (m_at) ?_
      refine rnN 2 rfl ?_
      simp (disch := omega) only [nI_add, pk_mul, pk_sub, nd8, nd4, nsub8, nand63, nand7, nshr2, nI_clamp, E_at, hup_at, hup_hup, hpt_def, pf_at, pf_at2, cf_at, h12_14, h14_12, h12_15, h15_12, h14_15, h15_14]
      refine rnC (inN (show 512 * 3 + 8 * (y / 4) + n < 2048 by omega) (by decide)) rfl ?_
      simp (disch := omega) only [nI_add, pk_mul, pk_sub, nd8, nd4, nsub8, nand63, nand7, nshr2, nI_clamp, E_at, hup_at, hup_hup, hpt_def, pf_at, pf_at2, cf_at, h12_14, h14_12, h12_15, h15_12, h14_15, h15_14, hw3]
      rw [← hzd]
      refine rnN 4 rfl ?_
      rw [lh_F]
      by_cases e1 : F = 1
      · rw [e1] at k131 ⊢
        refine rnN 2 rfl ?_
        by_cases e2 : z = 0
        · refine rnT ((show nI z = 0 by rw [e2]; rfl)) rfl ?_
          refine rnN 2 rfl ?_
          exact k131 1 (by decide) (by rw [if_pos ⟨rfl, Or.inl e2⟩])
        · refine rnF ((fun q => e2 ((neq0S hz).mp q))) rfl ?_
          refine rnN 6 rfl ?_
          simp (disch := omega) only [nI_add, pk_mul, pk_sub, nd8, nd4, nsub8, nand63, nand7, nshr2, nI_clamp, E_at, hup_at, hup_hup, hpt_def, pf_at, pf_at2, cf_at, h12_14, h14_12, h12_15, h15_12, h14_15, h15_14]
          by_cases e3 : 8 * i + n < w 2
          · refine rnT (nI_lt e3 (by omega)) rfl ?_
            refine rnN 2 rfl ?_
            exact k131 1 (by decide) (by rw [if_pos ⟨rfl, Or.inr e3⟩])
          · refine rnF (nI_nlt (Nat.le_of_not_lt e3) (by omega)) rfl ?_
            refine rnN 1 rfl ?_
            exact k131 0 (by decide) (by rw [if_neg (fun q => q.2.elim e2 e3)])
      · rw [show F = 0 by omega] at k131 ⊢
        refine rnN 1 rfl ?_
        refine rnN 1 rfl ?_
        exact k131 0 (by decide) (by rw [if_neg (fun q => absurd q.1 (by decide))])
    -- a word that leads nowhere
    have flat : z / 4 = 0 → (∀ u, okB w (y / 4) i n u → (z = 0 ∨ 8 * i + n < w 2) → BOK (w 2) u i n z) → ∀ F2, F2 = (if F = 1 ∧ (z = 0 ∨ 8 * i + n < w 2) then 1 else 0) → QW us0 ct0 F0 (fun X => sm (n + 1) fun j => bc X (w (8 * (y / 4) + j))) (okB w (y / 4) i (n + 1)) (okB w (y / 4) i 8) F2 us ct := fun h4 hB F2 hF2 => by
      rw [hF2]
      refine pt.chg (fun X => ?_) (fun u hu j hj => ?_)
      · show _ = sm n (fun j => bc X (w (8 * (y / 4) + j))) + bc X (w (8 * (y / 4) + n))
        have e2 : bc X z = 0 := by unfold bc; rw [if_pos h4]
        rw [← hzd, e2]
        rfl
      · by_cases e : j = n
        · rw [e, ← hzd]; exact hB u hu.1 hu.2
        · exact hu.1 j (by omega)
    obtain ⟨G, hG⟩ : ∃ G, G = (if F = 1 ∧ (z = 0 ∨ 8 * i + n < w 2) then 1 else 0) := ⟨_, rfl⟩
    by_cases z0 : z = 0
    · obtain ⟨hf, hR, hP⟩ := K2 G _ _ (some (vI (nI z))) (flat (by omega) (fun u _ _ => Or.inl z0) G hG)
      refine ⟨hf, head hf fun F2 hF2 => ?_, hP⟩
      rw [hF2, ← hG]
      refine rnN 1 rfl ?_
      refine rnT ((show nI z = 0 by rw [z0]; rfl)) rfl ?_
      refine rnN 2 rfl ?_
      simp (disch := omega) only [nI_add, pk_mul, pk_sub, nd8, nd4, nsub8, nand63, nand7, nshr2, nI_clamp, E_at, hup_at, hup_hup]
      exact hR
    · by_cases z2 : z = 2
      · obtain ⟨hf, hR, hP⟩ := K2 G _ _ (some (vI (nI z))) (flat (by omega) (fun u _ hu => Or.inr ⟨hu.resolve_left z0, Or.inl z2⟩) G hG)
        refine ⟨hf, head hf fun F2 hF2 => ?_, hP⟩
        rw [hF2, ← hG]
        refine rnN 1 rfl ?_
        refine rnF ((fun q => z0 ((neq0S hz).mp q))) rfl ?_
        refine rnN 2 rfl ?_
        refine rnT ((show nI z = nI 2 by rw [z2])) rfl ?_
        refine rnN 2 rfl ?_
        simp (disch := omega) only [nI_add, pk_mul, pk_sub, nd8, nd4, nsub8, nand63, nand7, nshr2, nI_clamp, E_at, hup_at, hup_hup]
        exact hR
      · have ptF : (if F = 1 ∧ (z = 0 ∨ 8 * i + n < w 2) then 1 else 0) ≤ 1 := by split <;> decide
        obtain ⟨r, F3, us3, ct3, a1, a2, a3, a4, a5⟩ := m_follow (d := d) (h := h) (f := f) (a := 24 + (8 * i + n)) hz pt.1 ptF (by omega) (by omega)
        have pn : QW us0 ct0 F0 (fun X => sm (n + 1) fun j => bc X (w (8 * (y / 4) + j))) (okB w (y / 4) i (n + 1)) (okB w (y / 4) i 8) F3 us3 ct3 := by
          have ps := pt.seq a3 (fun a b h1 h2 => ⟨mo_B a b h1 h2.1, h2.2⟩) (fun u hu => by
            rcases okz u hu with e | ⟨-, e | e⟩
            · exact absurd e z0
            · exact absurd e z2
            · exact e)
          by_cases hL : LD z
          · refine ps.chg (fun X => ?_) (fun u hu j hj => ?_)
            · show _ = sm n (fun j => bc X (w (8 * (y / 4) + j))) + bc X (w (8 * (y / 4) + n))
              have hzp := hL.pos
              have e2 : bc X z = iv (z / 4) X := by unfold bc; rw [if_neg (by omega)]
              rw [← hzd, e2]
            · by_cases e : j = n
              · rw [e, ← hzd]
                exact Or.inr ⟨hu.1.2.resolve_left z0, Or.inr hu.2⟩
              · exact hu.1.1 j (by omega)
          · obtain ⟨s1, s2, s3, s4, s5⟩ := ps
            exact ⟨s1, s2, s3, fun e => absurd (s4 e).2.1.2.1 hL, s5⟩
        obtain ⟨hf, hR, hP⟩ := K2 _ _ _ (some (vI (nI z))) pn
        refine ⟨hf, head hf fun F2 hF2 => ?_, hP⟩
        rw [hF2]
        refine rnN 1 rfl ?_
        refine rnF ((fun q => z0 ((neq0S hz).mp q))) rfl ?_
        refine rnN 2 rfl ?_
        refine rnF ((fun q => z2 ((neqS hz (by decide)).mp q))) rfl ?_
        refine rnN 9 rfl ?_
        simp (disch := omega) only [nI_add, pk_mul, pk_sub, nd8, nd4, nsub8, nand63, nand7, nshr2, nI_clamp, E_at, hup_at, hup_hup]
        rw [show nI (200 + 8 * i + n) = nI (mu (24 + (8 * i + n))) by rw [mu_24 (by omega)]; congr 1; omega]
        refine rnK rfl (a2) ?_
        refine rnN 1 rfl ?_
        refine rnN 2 rfl ?_
        simp (disch := omega) only [nI_add, pk_mul, pk_sub, nd8, nd4, nsub8, nand63, nand7, nshr2, nI_clamp, E_at, hup_at, hup_hup]
        exact hR
  · intro F us ct o7 p
    obtain ⟨hf, hR, hP⟩ := K F us ct _ o7 p
    refine ⟨hf, ?_, hP⟩
    refine rnN 3 rfl ?_
    exact hR
theorem QW.dead {cn' : Nat → Nat} {okn' : (Nat → Nat) → Prop} (p : QW us0 ct0 F0 cn okn ok 0 us ct) : QW us0 ct0 F0 cn' okn' ok 0 us ct := ⟨p.1, p.2.1, by decide, fun e => absurd e (by decide), p.2.2.2.2⟩
theorem m_walkTable (hw : h (12, 0) = E (pf M 3 w)) (hb : ∀ p, w p < 4294967296) (h2 : w 2 ≤ 64) (ht : t < 64) (hg : gd us0 ct0) (hF : F0 ≤ 1) :
    ∃ F us ct, Cl (d + 2) MX4_walkTable [vR (4, 0), vI (nI t)] (lh h f us0 F0) none (lh h f us F) ∧ QW us0 ct0 F0 (fun X => tl w X t) (okTb w t 8) (okTb w t 8) F us ct := by
  have hw3 : ∀ us F, lh h f us F (12, 0) = E (pf M 3 w) := fun us F => by rw [lh_o (by decide) (by decide)]; exact hw
  obtain ⟨P, hP⟩ : ∃ P : xH → Prop, P = fun hf => ∃ F us ct, hf = lh h f us F ∧ QW us0 ct0 F0 (fun X => tl w X t) (okTb w t 8) (okTb w t 8) F us ct := ⟨_, rfl⟩
  have go := lpN 8 (fun n => ∀ F us ct (o4 o5 o6 o7 : Option xV), QW us0 ct0 F0 (fun X => sm n fun i => lc w X (w (8 * t + i))) (okTb w t n) (okTb w t 8) F us ct → ∃ hf, Rn (d + 2) MX4_walkTable 8 [some (vR (4, 0)), some (vI (nI t)), some (vI (nI (w 2))), some (vI (nI n)), o4, o5, o6, o7] [] (lh h f us F) none hf ∧ P hf) (fun n hn K2 => ?_) ?_
  · obtain ⟨hf, h1, h3⟩ := go F0 us0 ct0 none none none none ⟨hg, le_refl' _, hF, fun e => ⟨e, fun j hj => by omega, fun X => rfl⟩, fun u e h _ => ⟨e, h⟩⟩
    rw [hP] at h3
    obtain ⟨F, us, ct, e1, q⟩ := h3
    rw [e1] at h1
    refine ⟨F, us, ct, ?_, q⟩
    refine rnN 2 rfl ?_
    refine rnK rfl (m_sizeOf (hw3 us0 F0) (by decide)) ?_
    refine rnN 3 rfl ?_
    exact h1
  · intro F us ct o4 o5 o6 o7 p
    have hx := hb (8 * t + n)
    obtain ⟨x, hxd⟩ : ∃ x, x = w (8 * t + n) := ⟨_, rfl⟩
    rw [← hxd] at hx
    have hF1 := p.2.2.1
    have okx : ∀ u, okTb w t 8 u → LOK w u n x := fun u hu => by have := hu n hn; rwa [← hxd] at this
    by_cases x0 : x = 0
    · have pn : QW us0 ct0 F0 (fun X => sm (n + 1) fun i => lc w X (w (8 * t + i))) (okTb w t (n + 1)) (okTb w t 8) F us ct := by
        refine p.chg (fun X => ?_) (fun u hu j hj => ?_)
        · show _ = sm n (fun i => lc w X (w (8 * t + i))) + lc w X (w (8 * t + n))
          rw [← hxd, x0]
          rfl
        · by_cases e : j = n
          · rw [e, ← hxd]; exact Or.inl x0
          · exact hu j (by omega)
      obtain ⟨hf, hR, hQ⟩ := K2 F us ct (some (vI (nI x))) o5 o6 o7 pn
      refine ⟨hf, ?_, hQ⟩
      refine rnN 2 rfl ?_
      refine rnT (nI_lt hn (by decide)) rfl ?_
      refine rnN 4 rfl ?_
      refine rnK rfl (m_at) ?_
      refine rnN 2 rfl ?_
      simp (disch := omega) only [nI_add, pk_mul, pk_sub, nd8, nd4, nsub8, nand63, nand7, nshr2, nI_clamp, E_at, hup_at, hup_hup, hpt_def, pf_at, pf_at2, cf_at, h12_14, h14_12, h12_15, h15_12, h14_15, h15_14]
      refine rnC (inN (show 512 * 3 + 8 * t + n < 2048 by omega) (by decide)) rfl ?_
      simp (disch := omega) only [nI_add, pk_mul, pk_sub, nd8, nd4, nsub8, nand63, nand7, nshr2, nI_clamp, E_at, hup_at, hup_hup, hpt_def, pf_at, pf_at2, cf_at, h12_14, h14_12, h12_15, h15_12, h14_15, h15_14, hw3]
      rw [← hxd]
      refine rnN 2 rfl ?_
      refine rnT ((show nI x = 0 by rw [x0]; rfl)) rfl ?_
      refine rnN 2 rfl ?_
      simp (disch := omega) only [nI_add, pk_mul, pk_sub, nd8, nd4, nsub8, nand63, nand7, nshr2, nI_clamp, E_at, hup_at, hup_hup]
      exact hR
    · have pt := p.test (c := 8 * n < w 2) (fun u hu => ((okx u hu).resolve_left x0).2.1)
      obtain ⟨G, hG⟩ : ∃ G, G = (if F = 1 ∧ 8 * n < w 2 then 1 else 0) := ⟨_, rfl⟩
      rw [← hG] at pt
      obtain ⟨r, F3, us3, ct3, a1, a2, a3, a4, a5⟩ := m_follow (d := d) (h := h) (f := f) (a := 8 + n) hx pt.1 pt.2.2.1 (by omega) (by omega)
      have head : ∀ hf, Rn (d + 2) MX4_walkTable 67 [some (vR (4, 0)), some (vI (nI t)), some (vI (nI (w 2))), some (vI (nI n)), some (vI (nI x)), o5, o6, o7] [vI (nI r)] (lh h f us3 F3) none hf → Rn (d + 2) MX4_walkTable 8 [some (vR (4, 0)), some (vI (nI t)), some (vI (nI (w 2))), some (vI (nI n)), o4, o5, o6, o7] [] (lh h f us F) none hf := fun hf kk => by
        have k54 : ∀ g, g ≤ 1 → g = G → Rn (d + 2) MX4_walkTable 54 [some (vR (4, 0)), some (vI (nI t)), some (vI (nI (w 2))), some (vI (nI n)), some (vI (nI x)), o5, o6, o7] [vI (nI g), vR (4, 0)] (lh h f us F) none hf := fun g hg1 hg => by
          rw [← hg] at a2
          rcases (show g = 0 ∨ g = 1 by omega) with e | e
          · rw [e] at a2 ⊢
            refine rnN 6 rfl ?_
            simp only [lhptF]
            simp (disch := omega) only [nI_add, pk_mul, pk_sub, nd8, nd4, nsub8, nand63, nand7, nshr2, nI_clamp, E_at, hup_at, hup_hup]
            rw [show nI (100 + n) = nI (mu (8 + n)) by rw [mu_8 hn]]
            refine rnK rfl (a2) ?_
            exact kk
          · rw [e] at a2 ⊢
            refine rnN 6 rfl ?_
            simp only [lhptF]
            simp (disch := omega) only [nI_add, pk_mul, pk_sub, nd8, nd4, nsub8, nand63, nand7, nshr2, nI_clamp, E_at, hup_at, hup_hup]
            rw [show nI (100 + n) = nI (mu (8 + n)) by rw [mu_8 hn]]
            refine rnK rfl (a2) ?_
            exact kk
        refine rnN 2 rfl ?_
        refine rnT (nI_lt hn (by decide)) rfl ?_
        refine rnN 4 rfl ?_
        refine rnK rfl (m_at) ?_
        refine rnN 2 rfl ?_
        simp (disch := omega) only [nI_add, pk_mul, pk_sub, nd8, nd4, nsub8, nand63, nand7, nshr2, nI_clamp, E_at, hup_at, hup_hup, hpt_def, pf_at, pf_at2, cf_at, h12_14, h14_12, h12_15, h15_12, h14_15, h15_14]
        refine rnC (inN (show 512 * 3 + 8 * t + n < 2048 by omega) (by decide)) rfl ?_
        simp (disch := omega) only [nI_add, pk_mul, pk_sub, nd8, nd4, nsub8, nand63, nand7, nshr2, nI_clamp, E_at, hup_at, hup_hup, hpt_def, pf_at, pf_at2, cf_at, h12_14, h14_12, h12_15, h15_12, h14_15, h15_14, hw3]
        rw [← hxd]
        refine rnN 2 rfl ?_
        refine rnF ((fun q => x0 ((neq0S hx).mp q))) rfl ?_
        refine rnN 3 rfl ?_
        rw [lh_F]
        by_cases e1 : F = 1
        · rw [e1] at hG k54 ⊢
          refine rnN 1 rfl ?_
          refine rnN 4 rfl ?_
          simp (disch := omega) only [nI_add, pk_mul, pk_sub, nd8, nd4, nsub8, nand63, nand7, nshr2, nI_clamp, E_at, hup_at, hup_hup]
          by_cases e2 : 8 * n < w 2
          · refine rnT (nI_lt e2 (by omega)) rfl ?_
            refine rnN 2 rfl ?_
            exact k54 1 (by decide) (by rw [hG, if_pos ⟨rfl, e2⟩])
          · refine rnF (nI_nlt (Nat.le_of_not_lt e2) (by omega)) rfl ?_
            refine rnN 1 rfl ?_
            exact k54 0 (by decide) (by rw [hG, if_neg (fun q => e2 q.2)])
        · rw [show F = 0 by omega] at hG k54 ⊢
          refine rnN 1 rfl ?_
          refine rnN 1 rfl ?_
          exact k54 0 (by decide) (by rw [hG, if_neg (fun q => absurd q.1 (by decide))])
      have hmo : mo (okTb w t n) := fun a b h1 h2 i hi => (h2 i hi).le h1
      have ps := pt.seq a3 (fun a b h1 h2 => ⟨hmo a b h1 h2.1, h2.2⟩) (fun u hu => by
        have e := (okx u hu).resolve_left x0
        exact ⟨e.1, e.2.2.1⟩)
      by_cases hr : r = 1
      · have hL := a4 hr
        have hLp := hL.pos
        have KK : ∀ F4 us4 ct4 (o6 o7 : Option xV), QW us3 ct3 F3 (fun X => sm 8 fun j => bc X (w (8 * (x / 4) + j))) (okB w (x / 4) n 8) (okB w (x / 4) n 8) F4 us4 ct4 → ∃ hf, Rn (d + 2) MX4_walkTable 169 [some (vR (4, 0)), some (vI (nI t)), some (vI (nI (w 2))), some (vI (nI n)), some (vI (nI x)), some (vI (nI 1)), o6, o7] [] (lh h f us4 F4) none hf ∧ P hf := fun F4 us4 ct4 o6 o7 q => by
          have hmo2 : mo fun u => (okTb w t n u ∧ 8 * n < w 2) ∧ okF x (8 + n) u := fun a b h1 h3 => ⟨⟨hmo a b h1 h3.1.1, h3.1.2⟩, mo_F (Nat.ne_of_gt (Nat.lt_of_lt_of_le (by decide) (Nat.le_add_right 8 n))) a b h1 h3.2⟩
          have pl := ps.seq q hmo2 (fun u hu => ((okx u hu).resolve_left x0).2.2.2)
          have pn : QW us0 ct0 F0 (fun X => sm (n + 1) fun i => lc w X (w (8 * t + i))) (okTb w t (n + 1)) (okTb w t 8) F4 us4 ct4 := by
            refine pl.chg (fun X => ?_) (fun u hu j hj => ?_)
            · show _ = sm n (fun i => lc w X (w (8 * t + i))) + lc w X (w (8 * t + n))
              have e2 : lc w X x = iv (x / 4) X + sm 8 fun j => bc X (w (8 * (x / 4) + j)) := by unfold lc; rw [if_neg (by omega)]
              rw [← hxd, e2]
              show _ + _ + _ = _
              omega
            · by_cases e : j = n
              · rw [e, ← hxd]
                exact Or.inr ⟨hL, hu.1.1.2, hu.1.2.2, hu.2⟩
              · exact hu.1.1.1 j (by omega)
          obtain ⟨hf, hR, hQ⟩ := K2 F4 us4 ct4 (some (vI (nI x))) (some (vI (nI 1))) o6 o7 pn
          refine ⟨hf, ?_, hQ⟩
          refine rnN 2 rfl ?_
          simp (disch := omega) only [nI_add, pk_mul, pk_sub, nd8, nd4, nsub8, nand63, nand7, nshr2, nI_clamp, E_at, hup_at, hup_hup]
          exact hR
        obtain ⟨hf, hR, hQ⟩ := m_walkLeaf (d := d) (h := h) (f := f) (l := t) (y := x) (i := n) (P := P) hw hb h2 hL ht hn a3.1 a3.2.2.1 KK o7
        refine ⟨hf, head hf ?_, hQ⟩
        rw [hr]
        refine rnN 3 rfl ?_
        exact hR
      · have hr0 : r = 0 := by omega
        have hF3 := a5 hr0
        rw [hF3] at ps a2 head
        obtain ⟨hf, hR, hQ⟩ := K2 0 us3 ct3 (some (vI (nI x))) (some (vI (nI 0))) (some (vI (nI 0))) o7 ps.dead
        refine ⟨hf, head hf ?_, hQ⟩
        rw [hr0]
        refine rnN 3 rfl ?_
        refine rnN 3 rfl ?_
        refine rnN 2 rfl ?_
        refine rnN 2 rfl ?_
        simp (disch := omega) only [nI_add, pk_mul, pk_sub, nd8, nd4, nsub8, nand63, nand7, nshr2, nI_clamp, E_at, hup_at, hup_hup]
        exact hR
  · intro F us ct o4 o5 o6 o7 p
    refine ⟨lh h f us F, ?_, ?_⟩
    · refine rnN 3 rfl ?_
      exact rnR rfl
    · rw [hP]
      exact ⟨F, us, ct, rfl, p⟩
end MW
