/-! ===== the reference's reader: header, list ===== -/
section MHd
variable {d : Nat} {h : xH} {w M : Nat → Nat}
theorem h_rd {h : xH} {M w : Nat → Nat} {k q : Nat} (hw : h (12, 0) = E (pf M 3 w)) (hk : k < 512) (hq : q = 512 * 3 + k) : h (12, 0) q = nI (w k) := by
  rw [hw, hq, E_at, pf_at hk]
def SH (d pc : Nat) (o : Option xV) (h : xH) (C : Prop) : Prop := ∃ r, r ≤ 1 ∧ Rn d MX4_headerRight pc [some (vR (4, 0)), some (vI (nI 1536)), o] [] h (some (vI (nI r))) h ∧ (r = 1 ↔ C)
theorem SH.no {pc : Nat} {o : Option xV} {C : Prop} (hC : ¬ C) (kk : Rn d MX4_headerRight pc [some (vR (4, 0)), some (vI (nI 1536)), o] [] h (some (vI (nI 0))) h) : SH d pc o h C := ⟨0, by decide, kk, ⟨fun e => absurd e (by decide), fun e => absurd e hC⟩⟩
theorem SH.yes {pc pc' : Nat} {o o' : Option xV} {C C' : Prop} (s : SH d pc' o' h C') (kk : ∀ r, Rn d MX4_headerRight pc' [some (vR (4, 0)), some (vI (nI 1536)), o'] [] h (some (vI (nI r))) h → Rn d MX4_headerRight pc [some (vR (4, 0)), some (vI (nI 1536)), o] [] h (some (vI (nI r))) h) (hC : C ↔ C') : SH d pc o h C := by
  obtain ⟨r, h1, h2, h3⟩ := s
  exact ⟨r, h1, kk r h2, h3.trans hC.symm⟩
theorem m_headerRight (hw : h (12, 0) = E (pf M 3 w)) (hb : ∀ p, w p < 4294967296) : ∃ r, r ≤ 1 ∧ Cl d MX4_headerRight [vR (4, 0)] h (some (vI (nI r))) h ∧ (r = 1 ↔ HR w) := by
  have b138 : ∀ o, Rn d MX4_headerRight 138 [some (vR (4, 0)), some (vI (nI 1536)), o] [] h (some (vI (nI 0))) h := fun o => by
    refine rnN 1 rfl ?_
    exact rnR rfl
  have b57 : Rn d MX4_headerRight 57 [some (vR (4, 0)), some (vI (nI 1536)), none] [] h (some (vI (nI 0))) h := by
    refine rnN 3 rfl ?_
    refine rnN 1 rfl ?_
    exact b138 _
  have s98 : SH d 98 (some (vI (nI 1))) h (w 6 = 0 ↔ w 5 = 0) := by
    have k5 : ∀ z r, (z = 1 ↔ w 5 = 0) → z ≤ 1 → Rn d MX4_headerRight 114 [some (vR (4, 0)), some (vI (nI 1536)), some (vI (nI 1))] [vI (nI z)] h (some (vI (nI r))) h → Rn d MX4_headerRight 98 [some (vR (4, 0)), some (vI (nI 1536)), some (vI (nI 1))] [] h (some (vI (nI r))) h := fun z r hz hz1 kk => by
      refine rnN 5 rfl ?_
      simp (disch := omega) only [nI_add, pk_mul, pk_sub, nd8, nd4, nsub8, nand63, nand7, nshr2, nI_clamp, E_at, hup_at, hup_hup]
      refine rnC (inN (show 1541 < 2048 by decide) (by decide)) rfl ?_
      simp (disch := omega) only [nI_add, pk_mul, pk_sub, nd8, nd4, nsub8, nand63, nand7, nshr2, nI_clamp, E_at, hup_at, hup_hup]
      rw [h_rd hw (show 5 < 512 by decide) rfl]
      by_cases e : w 5 = 0
      · rw [hz.mpr e] at kk
        refine rnT ((show nI (w 5) = 0 by rw [e]; rfl)) rfl ?_
        refine rnN 2 rfl ?_
        exact kk
      · rw [show z = 0 by have : z ≠ 1 := fun q => e (hz.mp q); omega] at kk
        refine rnF ((fun q => e ((neq0S (hb _)).mp q))) rfl ?_
        refine rnN 1 rfl ?_
        exact kk
    have k6 : ∀ z y r, (y = 1 ↔ w 6 = 0) → y ≤ 1 → Rn d MX4_headerRight 131 [some (vR (4, 0)), some (vI (nI 1536)), some (vI (nI 1))] [vI (nI y), vI (nI z)] h (some (vI (nI r))) h → Rn d MX4_headerRight 114 [some (vR (4, 0)), some (vI (nI 1536)), some (vI (nI 1))] [vI (nI z)] h (some (vI (nI r))) h := fun z y r hy hy1 kk => by
      refine rnN 5 rfl ?_
      simp (disch := omega) only [nI_add, pk_mul, pk_sub, nd8, nd4, nsub8, nand63, nand7, nshr2, nI_clamp, E_at, hup_at, hup_hup]
      refine rnC (inN (show 1542 < 2048 by decide) (by decide)) rfl ?_
      simp (disch := omega) only [nI_add, pk_mul, pk_sub, nd8, nd4, nsub8, nand63, nand7, nshr2, nI_clamp, E_at, hup_at, hup_hup]
      rw [h_rd hw (show 6 < 512 by decide) rfl]
      by_cases e : w 6 = 0
      · rw [hy.mpr e] at kk
        refine rnT ((show nI (w 6) = 0 by rw [e]; rfl)) rfl ?_
        refine rnN 2 rfl ?_
        exact kk
      · rw [show y = 0 by have : y ≠ 1 := fun q => e (hy.mp q); omega] at kk
        refine rnF ((fun q => e ((neq0S (hb _)).mp q))) rfl ?_
        refine rnN 1 rfl ?_
        exact kk
    by_cases e5 : w 5 = 0
    · by_cases e6 : w 6 = 0
      · refine ⟨1, by decide, k5 1 1 ⟨fun _ => e5, fun _ => rfl⟩ (by decide) (k6 1 1 1 ⟨fun _ => e6, fun _ => rfl⟩ (by decide) ?_), ⟨fun _ => ⟨fun _ => e5, fun _ => e6⟩, fun _ => rfl⟩⟩
        refine rnN 1 rfl ?_
        refine rnN 2 rfl ?_
        exact rnR rfl
      · refine SH.no (fun q => e6 (q.mpr e5)) (k5 1 0 ⟨fun _ => e5, fun _ => rfl⟩ (by decide) (k6 1 0 0 ⟨fun q => absurd q (by decide), fun q => absurd q e6⟩ (by decide) ?_))
        refine rnN 1 rfl ?_
        exact b138 _
    · by_cases e6 : w 6 = 0
      · refine SH.no (fun q => e5 (q.mp e6)) (k5 0 0 ⟨fun q => absurd q (by decide), fun q => absurd q e5⟩ (by decide) (k6 0 1 0 ⟨fun _ => e6, fun _ => rfl⟩ (by decide) ?_))
        refine rnN 1 rfl ?_
        exact b138 _
      · refine ⟨1, by decide, k5 0 1 ⟨fun q => absurd q (by decide), fun q => absurd q e5⟩ (by decide) (k6 0 0 1 ⟨fun q => absurd q (by decide), fun q => absurd q e6⟩ (by decide) ?_), ⟨fun _ => ⟨fun q => absurd q e6, fun q => absurd q e5⟩, fun _ => rfl⟩⟩
        refine rnN 1 rfl ?_
        refine rnN 2 rfl ?_
        exact rnR rfl
  have s86 : SH d 86 (some (vI (nI 1))) h (w 7 = 0 ∧ (w 6 = 0 ↔ w 5 = 0)) := by
    by_cases e : w 7 = 0
    · refine s98.yes (fun r kk => ?_) ⟨fun q => q.2, fun q => ⟨e, q⟩⟩
      refine rnN 5 rfl ?_
      simp (disch := omega) only [nI_add, pk_mul, pk_sub, nd8, nd4, nsub8, nand63, nand7, nshr2, nI_clamp, E_at, hup_at, hup_hup]
      refine rnC (inN (show 1543 < 2048 by decide) (by decide)) rfl ?_
      simp (disch := omega) only [nI_add, pk_mul, pk_sub, nd8, nd4, nsub8, nand63, nand7, nshr2, nI_clamp, E_at, hup_at, hup_hup]
      rw [h_rd hw (show 7 < 512 by decide) rfl]
      refine rnT ((show nI (w 7) = 0 by rw [e]; rfl)) rfl ?_
      exact kk
    · refine SH.no (fun q => e q.1) ?_
      refine rnN 5 rfl ?_
      simp (disch := omega) only [nI_add, pk_mul, pk_sub, nd8, nd4, nsub8, nand63, nand7, nshr2, nI_clamp, E_at, hup_at, hup_hup]
      refine rnC (inN (show 1543 < 2048 by decide) (by decide)) rfl ?_
      simp (disch := omega) only [nI_add, pk_mul, pk_sub, nd8, nd4, nsub8, nand63, nand7, nshr2, nI_clamp, E_at, hup_at, hup_hup]
      rw [h_rd hw (show 7 < 512 by decide) rfl]
      refine rnF ((fun q => e ((neq0S (hb _)).mp q))) rfl ?_
      exact b138 _
  have s63 : SH d 63 (some (vI (nI 1))) h (w 5 ≤ 4 ∧ w 7 = 0 ∧ (w 6 = 0 ↔ w 5 = 0)) := by
    by_cases e : w 5 ≤ 4
    · refine s86.yes (fun r kk => ?_) ⟨fun q => q.2, fun q => ⟨e, q⟩⟩
      refine rnN 5 rfl ?_
      simp (disch := omega) only [nI_add, pk_mul, pk_sub, nd8, nd4, nsub8, nand63, nand7, nshr2, nI_clamp, E_at, hup_at, hup_hup]
      refine rnC (inN (show 1541 < 2048 by decide) (by decide)) rfl ?_
      simp (disch := omega) only [nI_add, pk_mul, pk_sub, nd8, nd4, nsub8, nand63, nand7, nshr2, nI_clamp, E_at, hup_at, hup_hup]
      rw [h_rd hw (show 5 < 512 by decide) rfl]
      refine rnF ((fun e => by have := (nlt0S (hb 5)).mp e; omega)) rfl ?_
      refine rnN 5 rfl ?_
      simp (disch := omega) only [nI_add, pk_mul, pk_sub, nd8, nd4, nsub8, nand63, nand7, nshr2, nI_clamp, E_at, hup_at, hup_hup]
      refine rnC (inN (show 1541 < 2048 by decide) (by decide)) rfl ?_
      simp (disch := omega) only [nI_add, pk_mul, pk_sub, nd8, nd4, nsub8, nand63, nand7, nshr2, nI_clamp, E_at, hup_at, hup_hup]
      rw [h_rd hw (show 5 < 512 by decide) rfl]
      refine rnN 1 rfl ?_
      refine rnF ((fun e => by have := (ngtS (hb 5) (show 4 < 2147483648 by decide)).mp e; omega)) rfl ?_
      exact kk
    · refine SH.no (fun q => e q.1) ?_
      refine rnN 5 rfl ?_
      simp (disch := omega) only [nI_add, pk_mul, pk_sub, nd8, nd4, nsub8, nand63, nand7, nshr2, nI_clamp, E_at, hup_at, hup_hup]
      refine rnC (inN (show 1541 < 2048 by decide) (by decide)) rfl ?_
      simp (disch := omega) only [nI_add, pk_mul, pk_sub, nd8, nd4, nsub8, nand63, nand7, nshr2, nI_clamp, E_at, hup_at, hup_hup]
      rw [h_rd hw (show 5 < 512 by decide) rfl]
      by_cases e2 : 2147483648 ≤ w 5
      · refine rnT ((nlt0S (hb 5)).mpr e2) rfl ?_
        exact b138 _
      · refine rnF ((fun q => e2 ((nlt0S (hb 5)).mp q))) rfl ?_
        refine rnN 5 rfl ?_
        simp (disch := omega) only [nI_add, pk_mul, pk_sub, nd8, nd4, nsub8, nand63, nand7, nshr2, nI_clamp, E_at, hup_at, hup_hup]
        refine rnC (inN (show 1541 < 2048 by decide) (by decide)) rfl ?_
        simp (disch := omega) only [nI_add, pk_mul, pk_sub, nd8, nd4, nsub8, nand63, nand7, nshr2, nI_clamp, E_at, hup_at, hup_hup]
        rw [h_rd hw (show 5 < 512 by decide) rfl]
        refine rnN 1 rfl ?_
        refine rnT ((ngtS (hb 5) (show 4 < 2147483648 by decide)).mpr (by omega)) rfl ?_
        exact b138 _
  have s28 : SH d 28 none h ((1 ≤ w 2 ∧ w 2 ≤ 64) ∧ w 5 ≤ 4 ∧ w 7 = 0 ∧ (w 6 = 0 ↔ w 5 = 0)) := by
    by_cases e1 : 1 ≤ w 2 ∧ w 2 < 2147483648
    · have z1 : ¬ nI (w 2) < nI 1 := fun e => by have := (nltS (hb 2) (show 1 < 2147483648 by decide)).mp e; omega
      by_cases e2 : w 2 ≤ 64
      · have z2 : ¬ nI 64 < nI (w 2) := fun e => by have := (ngtS (hb 2) (show 64 < 2147483648 by decide)).mp e; omega
        refine s63.yes (fun r kk => ?_) ⟨fun q => q.2, fun q => ⟨⟨e1.1, e2⟩, q⟩⟩
        refine rnN 5 rfl ?_
        simp (disch := omega) only [nI_add, pk_mul, pk_sub, nd8, nd4, nsub8, nand63, nand7, nshr2, nI_clamp, E_at, hup_at, hup_hup]
        refine rnC (inN (show 1538 < 2048 by decide) (by decide)) rfl ?_
        simp (disch := omega) only [nI_add, pk_mul, pk_sub, nd8, nd4, nsub8, nand63, nand7, nshr2, nI_clamp, E_at, hup_at, hup_hup]
        rw [h_rd hw (show 2 < 512 by decide) rfl]
        refine rnN 1 rfl ?_
        refine rnF (z1) rfl ?_
        refine rnN 5 rfl ?_
        simp (disch := omega) only [nI_add, pk_mul, pk_sub, nd8, nd4, nsub8, nand63, nand7, nshr2, nI_clamp, E_at, hup_at, hup_hup]
        refine rnC (inN (show 1538 < 2048 by decide) (by decide)) rfl ?_
        simp (disch := omega) only [nI_add, pk_mul, pk_sub, nd8, nd4, nsub8, nand63, nand7, nshr2, nI_clamp, E_at, hup_at, hup_hup]
        rw [h_rd hw (show 2 < 512 by decide) rfl]
        refine rnN 1 rfl ?_
        refine rnF (z2) rfl ?_
        refine rnN 2 rfl ?_
        refine rnN 3 rfl ?_
        exact kk
      · refine SH.no (fun q => e2 q.1.2) ?_
        refine rnN 5 rfl ?_
        simp (disch := omega) only [nI_add, pk_mul, pk_sub, nd8, nd4, nsub8, nand63, nand7, nshr2, nI_clamp, E_at, hup_at, hup_hup]
        refine rnC (inN (show 1538 < 2048 by decide) (by decide)) rfl ?_
        simp (disch := omega) only [nI_add, pk_mul, pk_sub, nd8, nd4, nsub8, nand63, nand7, nshr2, nI_clamp, E_at, hup_at, hup_hup]
        rw [h_rd hw (show 2 < 512 by decide) rfl]
        refine rnN 1 rfl ?_
        refine rnF (z1) rfl ?_
        refine rnN 5 rfl ?_
        simp (disch := omega) only [nI_add, pk_mul, pk_sub, nd8, nd4, nsub8, nand63, nand7, nshr2, nI_clamp, E_at, hup_at, hup_hup]
        refine rnC (inN (show 1538 < 2048 by decide) (by decide)) rfl ?_
        simp (disch := omega) only [nI_add, pk_mul, pk_sub, nd8, nd4, nsub8, nand63, nand7, nshr2, nI_clamp, E_at, hup_at, hup_hup]
        rw [h_rd hw (show 2 < 512 by decide) rfl]
        refine rnN 1 rfl ?_
        refine rnT ((ngtS (hb 2) (show 64 < 2147483648 by decide)).mpr (by omega)) rfl ?_
        exact b57
    · refine SH.no (fun q => by omega) ?_
      refine rnN 5 rfl ?_
      simp (disch := omega) only [nI_add, pk_mul, pk_sub, nd8, nd4, nsub8, nand63, nand7, nshr2, nI_clamp, E_at, hup_at, hup_hup]
      refine rnC (inN (show 1538 < 2048 by decide) (by decide)) rfl ?_
      simp (disch := omega) only [nI_add, pk_mul, pk_sub, nd8, nd4, nsub8, nand63, nand7, nshr2, nI_clamp, E_at, hup_at, hup_hup]
      rw [h_rd hw (show 2 < 512 by decide) rfl]
      refine rnN 1 rfl ?_
      refine rnT ((nltS (hb 2) (show 1 < 2147483648 by decide)).mpr (by omega)) rfl ?_
      exact b57
  have s16 : SH d 16 none h (w 1 = 1 ∧ (1 ≤ w 2 ∧ w 2 ≤ 64) ∧ w 5 ≤ 4 ∧ w 7 = 0 ∧ (w 6 = 0 ↔ w 5 = 0)) := by
    by_cases e : w 1 = 1
    · refine s28.yes (fun r kk => ?_) ⟨fun q => q.2, fun q => ⟨e, q⟩⟩
      refine rnN 5 rfl ?_
      simp (disch := omega) only [nI_add, pk_mul, pk_sub, nd8, nd4, nsub8, nand63, nand7, nshr2, nI_clamp, E_at, hup_at, hup_hup]
      refine rnC (inN (show 1537 < 2048 by decide) (by decide)) rfl ?_
      simp (disch := omega) only [nI_add, pk_mul, pk_sub, nd8, nd4, nsub8, nand63, nand7, nshr2, nI_clamp, E_at, hup_at, hup_hup]
      rw [h_rd hw (show 1 < 512 by decide) rfl]
      refine rnN 1 rfl ?_
      refine rnT ((show nI (w 1) = nI 1 by rw [e])) rfl ?_
      exact kk
    · refine SH.no (fun q => e q.1) ?_
      refine rnN 5 rfl ?_
      simp (disch := omega) only [nI_add, pk_mul, pk_sub, nd8, nd4, nsub8, nand63, nand7, nshr2, nI_clamp, E_at, hup_at, hup_hup]
      refine rnC (inN (show 1537 < 2048 by decide) (by decide)) rfl ?_
      simp (disch := omega) only [nI_add, pk_mul, pk_sub, nd8, nd4, nsub8, nand63, nand7, nshr2, nI_clamp, E_at, hup_at, hup_hup]
      rw [h_rd hw (show 1 < 512 by decide) rfl]
      refine rnN 1 rfl ?_
      refine rnF ((fun q => e ((neqS (hb _) (by decide)).mp q))) rfl ?_
      exact b57
  by_cases e : w 0 = 7001
  · obtain ⟨r, h1, h2, h3⟩ := s16
    refine ⟨r, h1, ?_, h3.trans ⟨fun q => ⟨e, q⟩, fun q => q.2⟩⟩
    refine rnN 5 rfl ?_
    refine rnC (inN (show 1536 < 2048 by decide) (by decide)) rfl ?_
    simp (disch := omega) only [nI_add, pk_mul, pk_sub, nd8, nd4, nsub8, nand63, nand7, nshr2, nI_clamp, E_at, hup_at, hup_hup]
    rw [h_rd hw (show 0 < 512 by decide) rfl]
    refine rnN 1 rfl ?_
    refine rnT ((show nI (w 0) = nI 7001 by rw [e])) rfl ?_
    exact h2
  · refine ⟨0, by decide, ?_, ⟨fun q => absurd q (by decide), fun q => absurd q.1 e⟩⟩
    refine rnN 5 rfl ?_
    refine rnC (inN (show 1536 < 2048 by decide) (by decide)) rfl ?_
    simp (disch := omega) only [nI_add, pk_mul, pk_sub, nd8, nd4, nsub8, nand63, nand7, nshr2, nI_clamp, E_at, hup_at, hup_hup]
    rw [h_rd hw (show 0 < 512 by decide) rfl]
    refine rnN 1 rfl ?_
    refine rnF ((fun q => e ((neqS (hb _) (by decide)).mp q))) rfl ?_
    exact b57
end MHd
