/-! ===== the class's reader: which is wrong first ===== -/
/-- the numbers that load answers -/
def wrongN (w : Nat → Nat) (n : Nat) : Prop :=
  (n = 1 ∧ ¬ HR w) ∨ (n = 2 ∧ HR w ∧ ¬ ∃ u, Str w u) ∨ (n ≠ 1 ∧ n ≠ 2 ∧ HR w ∧ ∃ u, Str w u ∧ ((n = 3 ∧ ¬ LsR w) ∨ (n = 4 ∧ LsR w ∧ ¬ CR w) ∨ (n = 5 ∧ LsR w ∧ CR w ∧ ¬ FR w u) ∨ (n = 6 ∧ LsR w ∧ CR w ∧ FR w u ∧ ¬ BR w) ∨ (n = 0 ∧ LsR w ∧ CR w ∧ FR w u ∧ BR w)) ∧ (∀ c, 1 ≤ c → (u c = 0 ↔ T w c = 0)) ∧ u 0 = 0)
section RI
variable {d l t : Nat} {h : xH} {f0 f1 : Nat → Int32} {us ct u v w : Nat → Nat} {r : Nat}
theorem c_flagsRight (hw : h (10, 3) = E w) (hu : h (11, 0) = cf f0 us) (hcc : h (11, 1) = cf f1 ct) (hs : Str w us) (hu88 : ∀ c, us c < 88) (h0 : us 0 = 0) (hct : ∀ X, ct X = T w X) (hz : ∀ c, 1 ≤ c → (us c = 0 ↔ T w c = 0)) : ∃ r, r ≤ 1 ∧ Cl (d + 2) MX2_areFlagsRight [vR (2, 0), vR (0, 3)] h (some (vI (nI r))) h ∧ (r = 1 ↔ FR w us) := by
  have go := lpN 64 (fun a => ∃ r, r ≤ 1 ∧ Rn (d + 2) MX2_areFlagsRight 2 [some (vR (2, 0)), some (vR (0, 3)), some (vI (nI a))] [] h (some (vI (nI r))) h ∧ (r = 1 ↔ ∀ c, a ≤ c → c < 64 → TL us c → ∀ j, j < 8 → mk w (w (8 * c + j)) = w (8 * c + j))) (fun a ha K => ?_) ?_
  · obtain ⟨r, h1, h2, h3⟩ := go
    refine ⟨r, h1, ?_, ?_⟩
    · refine rnN 2 rfl ?_
      exact h2
    · rw [h3]
      unfold FR
      exact ⟨fun q c hc => q c (Nat.zero_le _) hc, fun q c _ hc => q c hc⟩
  · have head : ∀ x, Rn (d + 2) MX2_areFlagsRight 17 [some (vR (2, 0)), some (vR (0, 3)), some (vI (nI a))] [vI (nI (if us a = 1 ∨ (4 ≤ us a ∧ us a < 16) then 1 else 0))] h x h → Rn (d + 2) MX2_areFlagsRight 2 [some (vR (2, 0)), some (vR (0, 3)), some (vI (nI a))] [] h x h := fun x kk => by
      refine rnN 2 rfl ?_
      refine rnT (nI_lt ha (by decide)) rfl ?_
      refine rnN 3 rfl ?_
      refine rnC (inN ha (by decide)) rfl ?_
      simp (disch := omega) only [nI_clamp, hu, cf_at]
      refine rnK rfl (c_hasFlags (hu88 a)) ?_
      exact kk
    by_cases hT : us a = 1 ∨ (4 ≤ us a ∧ us a < 16)
    · have ha1 : 1 ≤ a := by
        refine Classical.byContradiction fun e => ?_
        rw [show a = 0 by omega, h0] at hT
        omega
      have hTa : T w a ≠ 0 := fun e => by have := (hz a ha1).mpr e; omega
      have hok : ∀ j, j < 8 → w (8 * a + j) < 256 ∧ (2 < w (8 * a + j) ↔ w (8 * a + j) / 4 ≠ 0) := by
        rcases TL_role hs ha1 hT hTa with q | ⟨t, i, q1, q2, q3, q4⟩
        · exact hs.tOK q
        · rw [q4]; exact hs.lOK q1 q2 q3
      obtain ⟨r1, a1, a2, a3⟩ := c_flagsIn (d := d) hw hcc hs.ns.1 hct ha hok
      by_cases hr : r1 = 1
      · obtain ⟨r, h1, h2, h3⟩ := K
        refine ⟨r, h1, head _ ?_, ?_⟩
        · rw [if_pos hT]
          refine rnN 4 rfl ?_
          refine rnK rfl (a2) ?_
          rw [hr]
          refine rnN 1 rfl ?_
          refine rnN 2 rfl ?_
          simp (disch := omega) only [nI_add, pk_mul, pk_sub, nd8, nd4, nsub8, nand63, nand7, nshr2, nI_clamp, E_at, hup_at, hup_hup]
          exact h2
        · rw [h3]
          constructor
          · intro q c hc1 hc2 hc3
            by_cases e : c = a
            · rw [e]; exact a3.mp hr
            · exact q c (by omega) hc2 hc3
          · intro q c hc1 hc2
            exact q c (by omega) hc2
      · refine ⟨0, by decide, head _ ?_, ⟨fun z => absurd z (by decide), fun z => absurd (a3.mpr (z a (Nat.le_refl _) ha hT)) hr⟩⟩
        rw [if_pos hT]
        refine rnN 4 rfl ?_
        refine rnK rfl (a2) ?_
        rw [show r1 = 0 by omega]
        refine rnN 2 rfl ?_
        exact rnR rfl
    · obtain ⟨r, h1, h2, h3⟩ := K
      refine ⟨r, h1, head _ ?_, ?_⟩
      · rw [if_neg hT]
        refine rnN 1 rfl ?_
        refine rnN 2 rfl ?_
        simp (disch := omega) only [nI_add, pk_mul, pk_sub, nd8, nd4, nsub8, nand63, nand7, nshr2, nI_clamp, E_at, hup_at, hup_hup]
        exact h2
      · rw [h3]
        constructor
        · intro q c hc1 hc2 hc3
          by_cases e : c = a
          · rw [e] at hc3
            exact absurd hc3 hT
          · exact q c (by omega) hc2 hc3
        · intro q c hc1 hc2
          exact q c (by omega) hc2
  · refine ⟨1, by decide, ?_, ⟨fun _ c h1 h2 => by omega, fun _ => rfl⟩⟩
    refine rnN 4 rfl ?_
    exact rnR rfl
theorem c_othersBlank (hw : h (10, 3) = E w) (hb : ∀ p, w p < 4294967296) (hu : h (11, 0) = cf f0 us) (hu88 : ∀ c, us c < 88) (hz : ∀ c, 1 ≤ c → (us c = 0 ↔ T w c = 0)) : ∃ r, r ≤ 1 ∧ Cl (d + 2) MX2_areOthersBlank [vR (2, 0), vR (0, 3)] h (some (vI (nI r))) h ∧ (r = 1 ↔ BR w) := by
  have go := lpN 63 (fun a => ∃ r, r ≤ 1 ∧ Rn (d + 2) MX2_areOthersBlank 2 [some (vR (2, 0)), some (vR (0, 3)), some (vI (nI (1 + a)))] [] h (some (vI (nI r))) h ∧ (r = 1 ↔ ∀ c, 1 + a ≤ c → c < 64 → T w c = 0 → ∀ j, j < 8 → w (8 * c + j) = 0)) (fun a ha K => ?_) ?_
  · obtain ⟨r, h1, h2, h3⟩ := go
    refine ⟨r, h1, ?_, ?_⟩
    · refine rnN 2 rfl ?_
      exact h2
    · rw [h3]
      unfold BR
      exact ⟨fun q c hc1 hc => q c (by omega) hc, fun q c hc1 hc => q c (by omega) hc⟩
  · have hua := hu88 (1 + a)
    have head : ∀ x, Rn (d + 2) MX2_areOthersBlank 14 [some (vR (2, 0)), some (vR (0, 3)), some (vI (nI (1 + a)))] [vI (nI (us (1 + a)))] h x h → Rn (d + 2) MX2_areOthersBlank 2 [some (vR (2, 0)), some (vR (0, 3)), some (vI (nI (1 + a)))] [] h x h := fun x kk => by
      refine rnN 2 rfl ?_
      refine rnT (nI_lt (show 1 + a < 64 by omega) (by decide)) rfl ?_
      refine rnN 3 rfl ?_
      refine rnC (inN (show 1 + a < 64 by omega) (by decide)) rfl ?_
      simp (disch := omega) only [nI_clamp, hu, cf_at]
      exact kk
    by_cases h0 : us (1 + a) = 0
    · have hT := (hz (1 + a) (by omega)).mp h0
      by_cases hbl : ∀ j, j < 8 → w (8 * (1 + a) + j) = 0
      · obtain ⟨r, h1, h2, h3⟩ := K
        refine ⟨r, h1, head _ ?_, ?_⟩
        · rw [h0]
          refine rnN 4 rfl ?_
          refine rnK rfl (c_blankT (f := 0) hw (show 1 + a < 64 by omega) (Nat.zero_le _) (fun j _ hj => hbl j hj)) ?_
          refine rnN 1 rfl ?_
          refine rnN 2 rfl ?_
          simp (disch := omega) only [nI_add, pk_mul, pk_sub, nd8, nd4, nsub8, nand63, nand7, nshr2, nI_clamp, E_at, hup_at, hup_hup]
          rw [show 1 + a + 1 = 1 + (a + 1) by omega]
          exact h2
        · rw [h3]
          constructor
          · intro q c hc1 hc2 hc3
            by_cases e : c = 1 + a
            · rw [e]; exact hbl
            · exact q c (by omega) hc2 hc3
          · intro q c hc1 hc2
            exact q c (by omega) hc2
      · obtain ⟨j, hj1, hj2⟩ : ∃ j, j < 8 ∧ w (8 * (1 + a) + j) ≠ 0 := Classical.byContradiction fun e => hbl fun j h1 => Classical.byContradiction fun h3 => e ⟨j, h1, h3⟩
        refine ⟨0, by decide, head _ ?_, ⟨fun z => absurd z (by decide), fun z => absurd (z (1 + a) (Nat.le_refl _) (by omega) hT) hbl⟩⟩
        rw [h0]
        refine rnN 4 rfl ?_
        refine rnK rfl (c_blankF (f := 0) hw (show 1 + a < 64 by omega) (fun j _ => hb _) (Nat.zero_le _) hj1 hj2) ?_
        refine rnN 2 rfl ?_
        exact rnR rfl
    · obtain ⟨r, h1, h2, h3⟩ := K
      refine ⟨r, h1, head _ ?_, ?_⟩
      · refine rnF ((nI_ne0 (Nat.pos_of_ne_zero h0) (by omega))) rfl ?_
        refine rnN 2 rfl ?_
        simp (disch := omega) only [nI_add, pk_mul, pk_sub, nd8, nd4, nsub8, nand63, nand7, nshr2, nI_clamp, E_at, hup_at, hup_hup]
        rw [show 1 + a + 1 = 1 + (a + 1) by omega]
        exact h2
      · rw [h3]
        constructor
        · intro q c hc1 hc2 hc3
          by_cases e : c = 1 + a
          · rw [e] at hc3
            exact absurd ((hz (1 + a) (by omega)).mpr hc3) h0
          · exact q c (by omega) hc2 hc3
        · intro q c hc1 hc2
          exact q c (by omega) hc2
  · refine ⟨1, by decide, ?_, ⟨fun _ c h1 h2 => by omega, fun _ => rfl⟩⟩
    refine rnN 4 rfl ?_
    exact rnR rfl
theorem rh_keep {A B : Nat → Int32} {q : xP} (h1 : q ≠ (11, 0)) (h2 : q ≠ (11, 1)) : rg h A B q = h q := by
  unfold rg
  rw [hup_ne h2, hup_ne h1]
theorem c_firstWrong (hw : h (10, 3) = E w) (hb : ∀ p, w p < 4294967296) : ∃ n A B, n ≤ 6 ∧ wrongN w n ∧ Cl (d + 6) MX2_firstWrong [vR (2, 0), vR (0, 3)] h (some (vI (nI n))) (rg h A B) := by
  have hself : rg h (h (11, 0)) (h (11, 1)) = h := by
    unfold rg
    rw [hup_self (p := (11, 0)) rfl, hup_self rfl]
  obtain ⟨r1, a1, a2, a3⟩ := c_headerRight (d := d + 4) hw hb
  by_cases hr1 : r1 = 1
  · have hH := a3.mp hr1
    obtain ⟨r2, us, ct, b1, b2, b3, b4⟩ := c_leadsRight (d := d) hw hb hH
    by_cases hr2 : r2 = 1
    · obtain ⟨hs, hct, hz, hu88, hu0⟩ := b3 hr2
      obtain ⟨hR, hRd⟩ : ∃ hR, hR = rh h (h (11, 0)) (h (11, 1)) us ct := ⟨_, rfl⟩
      have hRg : hR = rg h (cf (h (11, 0)) us) (cf (h (11, 1)) ct) := hRd
      rw [← hRd] at b2
      have q3 : hR (10, 3) = E w := by rw [hRd, rh_o (by decide) (by decide)]; exact hw
      have q0 : hR (11, 0) = cf (h (11, 0)) us := by rw [hRd]; exact rh_0
      have q1 : hR (11, 1) = cf (h (11, 1)) ct := by rw [hRd]; exact rh_1
      have h6 := hs.l6
      obtain ⟨r3, c1, c2, c3⟩ := c_listRight (d := d + 3) (h := hR) q3 hb hs.ns.1 h6
      obtain ⟨r4, d1, d2, d3⟩ := c_countsRight (d := d + 3) (h := hR) q3 q1 hb hs hct
      obtain ⟨r5, e1, e2, e3⟩ := c_flagsRight (d := d + 3) (h := hR) q3 q0 q1 hs hu88 hu0 hct hz
      obtain ⟨r6, f1, f2, f3⟩ := c_othersBlank (d := d + 3) (h := hR) q3 hb q0 hu88 hz
      have head : ∀ x, Rn (d + 6) MX2_firstWrong 23 [some (vR (2, 0)), some (vR (0, 3))] [vI (nI r3)] hR x hR → Cl (d + 6) MX2_firstWrong [vR (2, 0), vR (0, 3)] h x hR := fun x kk => by
        refine rnN 1 rfl ?_
        refine rnK rfl (a2) ?_
        rw [hr1]
        refine rnN 3 rfl ?_
        refine rnK rfl (b2) ?_
        rw [hr2]
        refine rnN 2 rfl ?_
        refine rnK rfl (c2) ?_
        exact kk
      by_cases hr3 : r3 = 1
      · by_cases hr4 : r4 = 1
        · by_cases hr5 : r5 = 1
          · by_cases hr6 : r6 = 1
            · refine ⟨0, cf (h (11, 0)) us, cf (h (11, 1)) ct, by decide, Or.inr (Or.inr ⟨by decide, by decide, hH, us, hs, Or.inr (Or.inr (Or.inr (Or.inr ⟨rfl, c3.mp hr3, d3.mp hr4, e3.mp hr5, f3.mp hr6⟩))), hz, hu0⟩), ?_⟩
              rw [← hRg]
              refine head _ ?_
              rw [hr3]
              refine rnN 3 rfl ?_
              refine rnK rfl (d2) ?_
              rw [hr4]
              refine rnN 3 rfl ?_
              refine rnK rfl (e2) ?_
              rw [hr5]
              refine rnN 3 rfl ?_
              refine rnK rfl (f2) ?_
              rw [hr6]
              refine rnN 3 rfl ?_
              exact rnR rfl
            · refine ⟨6, cf (h (11, 0)) us, cf (h (11, 1)) ct, by decide, Or.inr (Or.inr ⟨by decide, by decide, hH, us, hs, Or.inr (Or.inr (Or.inr (Or.inl ⟨rfl, c3.mp hr3, d3.mp hr4, e3.mp hr5, fun z => hr6 (f3.mpr z)⟩))), hz, hu0⟩), ?_⟩
              rw [← hRg]
              refine head _ ?_
              rw [hr3]
              refine rnN 3 rfl ?_
              refine rnK rfl (d2) ?_
              rw [hr4]
              refine rnN 3 rfl ?_
              refine rnK rfl (e2) ?_
              rw [hr5]
              refine rnN 3 rfl ?_
              refine rnK rfl (f2) ?_
              rw [show r6 = 0 by omega]
              refine rnN 2 rfl ?_
              exact rnR rfl
          · refine ⟨5, cf (h (11, 0)) us, cf (h (11, 1)) ct, by decide, Or.inr (Or.inr ⟨by decide, by decide, hH, us, hs, Or.inr (Or.inr (Or.inl ⟨rfl, c3.mp hr3, d3.mp hr4, fun z => hr5 (e3.mpr z)⟩)), hz, hu0⟩), ?_⟩
            rw [← hRg]
            refine head _ ?_
            rw [hr3]
            refine rnN 3 rfl ?_
            refine rnK rfl (d2) ?_
            rw [hr4]
            refine rnN 3 rfl ?_
            refine rnK rfl (e2) ?_
            rw [show r5 = 0 by omega]
            refine rnN 2 rfl ?_
            exact rnR rfl
        · refine ⟨4, cf (h (11, 0)) us, cf (h (11, 1)) ct, by decide, Or.inr (Or.inr ⟨by decide, by decide, hH, us, hs, Or.inr (Or.inl ⟨rfl, c3.mp hr3, fun z => hr4 (d3.mpr z)⟩), hz, hu0⟩), ?_⟩
          rw [← hRg]
          refine head _ ?_
          rw [hr3]
          refine rnN 3 rfl ?_
          refine rnK rfl (d2) ?_
          rw [show r4 = 0 by omega]
          refine rnN 2 rfl ?_
          exact rnR rfl
      · refine ⟨3, cf (h (11, 0)) us, cf (h (11, 1)) ct, by decide, Or.inr (Or.inr ⟨by decide, by decide, hH, us, hs, Or.inl ⟨rfl, fun z => hr3 (c3.mpr z)⟩, hz, hu0⟩), ?_⟩
        rw [← hRg]
        refine head _ ?_
        rw [show r3 = 0 by omega]
        refine rnN 2 rfl ?_
        exact rnR rfl
    · refine ⟨2, cf (h (11, 0)) us, cf (h (11, 1)) ct, by decide, Or.inr (Or.inl ⟨rfl, hH, fun e => hr2 (b4 e)⟩), ?_⟩
      refine rnN 1 rfl ?_
      refine rnK rfl (a2) ?_
      rw [hr1]
      refine rnN 3 rfl ?_
      refine rnK rfl (b2) ?_
      rw [show r2 = 0 by omega]
      refine rnN 2 rfl ?_
      exact rnR rfl
  · refine ⟨1, h (11, 0), h (11, 1), by decide, Or.inl ⟨rfl, fun e => hr1 (a3.mpr e)⟩, ?_⟩
    rw [hself]
    refine rnN 1 rfl ?_
    refine rnK rfl (a2) ?_
    rw [show r1 = 0 by omega]
    refine rnN 2 rfl ?_
    exact rnR rfl
end RI
