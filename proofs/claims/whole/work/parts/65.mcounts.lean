/-! ===== the reference's reader: counts ===== -/
section MCn
variable {d : Nat} {h : xH} {w M us : Nat → Nat}
theorem m_countsRight (hw : h (12, 0) = E (pf M 3 w)) (hb : ∀ p, w p < 4294967296) (hs : Str w us) : ∃ r, r ≤ 1 ∧ Cl (d + 3) MX4_countsRight [vR (4, 0)] h (some (vI (nI r))) (hup h (14, 0) (cf (h (14, 0)) (T w))) ∧ (r = 1 ↔ CR w) := by
  have hct := hs.ct
  obtain ⟨H, hH⟩ : ∃ H, H = hup h (14, 0) (cf (h (14, 0)) (T w)) := ⟨_, rfl⟩
  have hw2 : H (12, 0) = E (pf M 3 w) := by rw [hH, hup_ne (by decide)]; exact hw
  have hc2 : H (14, 0) = cf (h (14, 0)) (T w) := by rw [hH, hup_at]
  have go := lpN 64 (fun n => ∀ x (o4 o5 : Option xV), x ≤ 1 → (x = 1 ↔ ∀ c, c < n → cnt w c = T w c) → ∃ r, r ≤ 1 ∧ Rn (d + 3) MX4_countsRight 22 [some (vR (4, 0)), some (vI (nI (512 * 3 + 8 * w 4))), some (vI (nI x)), some (vI (nI n)), o4, o5] [] H (some (vI (nI r))) H ∧ (r = 1 ↔ CR w)) (fun n hn K => ?_) ?_
  · obtain ⟨r, q1, q2, q3⟩ := go 1 none none (by decide) ⟨fun _ c hc => by omega, fun _ => rfl⟩
    refine ⟨r, q1, ?_, q3⟩
    refine rnN 2 rfl ?_
    refine rnK rfl (m_recount hw (by decide) hs) ?_
    rw [← hH]
    refine rnN 4 rfl ?_
    refine rnC (inN (show 1540 < 2048 by decide) (by decide)) rfl ?_
    simp (disch := omega) only [nI_add, pk_mul, pk_sub, nd8, nd4, nsub8, nand63, nand7, nshr2, nI_clamp, E_at, hup_at, hup_hup]
    rw [h_rd hw2 (show 4 < 512 by decide) rfl]
    refine rnK rfl (m_at) ?_
    refine rnN 5 rfl ?_
    exact q2
  · intro x o4 o5 hx hxi
    have hT := T_le (w := w) hs.ns.1 n
    obtain ⟨y, hy⟩ : ∃ y, y = cnt w n := ⟨_, rfl⟩
    have hyb : y < 4294967296 := by
      rw [hy]
      unfold cnt
      split
      · decide
      · exact hb _
    -- the count that is kept
    have pre : ∀ r, Rn (d + 3) MX4_countsRight 66 [some (vR (4, 0)), some (vI (nI (512 * 3 + 8 * w 4))), some (vI (nI x)), some (vI (nI n)), some (vI (nI (w (8 * w 4 + n / 8)))), o5] [vI (nI y)] H (some (vI (nI r))) H → Rn (d + 3) MX4_countsRight 22 [some (vR (4, 0)), some (vI (nI (512 * 3 + 8 * w 4))), some (vI (nI x)), some (vI (nI n)), o4, o5] [] H (some (vI (nI r))) H := fun r kk => by
      refine rnN 2 rfl ?_
      refine rnT (nI_lt hn (by decide)) rfl ?_
      refine rnN 7 rfl ?_
      simp (disch := omega) only [nI_add, pk_mul, pk_sub, nd8, nd4, nsub8, nand63, nand7, nshr2, nI_clamp, E_at, hup_at, hup_hup]
      refine rnC (inN (show 512 * 3 + 8 * w 4 + n / 8 < 2048 by omega) (by decide)) rfl ?_
      simp (disch := omega) only [nI_add, pk_mul, pk_sub, nd8, nd4, nsub8, nand63, nand7, nshr2, nI_clamp, E_at, hup_at, hup_hup]
      rw [h_rd hw2 (show 8 * w 4 + n / 8 < 512 by omega) (by omega)]
      refine rnN 2 rfl ?_
      have hk : n / 8 < 8 := by omega
      by_cases e : w (8 * w 4 + n / 8) = 0
      · have y0 : y = 0 := by rw [hy]; unfold cnt; rw [if_pos e]
        rw [y0] at kk
        refine rnT ((show nI (w (8 * w 4 + n / 8)) = 0 by rw [e]; rfl)) rfl ?_
        refine rnN 2 rfl ?_
        exact kk
      · have y0 : y = w (8 * w (8 * w 4 + n / 8) + n % 8) := by rw [hy]; unfold cnt; rw [if_neg e]
        have hl := hs.keepLt hk
        rw [y0] at kk
        refine rnF ((fun q => e ((neq0S (hb _)).mp q))) rfl ?_
        refine rnN 4 rfl ?_
        refine rnK rfl (m_at) ?_
        refine rnN 4 rfl ?_
        simp (disch := omega) only [nI_add, pk_mul, pk_sub, nd8, nd4, nsub8, nand63, nand7, nshr2, nI_clamp, E_at, hup_at, hup_hup]
        refine rnC (inN (show 512 * 3 + 8 * w (8 * w 4 + n / 8) + n % 8 < 2048 by omega) (by decide)) rfl ?_
        simp (disch := omega) only [nI_add, pk_mul, pk_sub, nd8, nd4, nsub8, nand63, nand7, nshr2, nI_clamp, E_at, hup_at, hup_hup]
        rw [h_rd hw2 (show 8 * w (8 * w 4 + n / 8) + n % 8 < 512 by omega) (by omega)]
        exact kk
    by_cases x1 : x = 1
    · by_cases e : y = T w n
      · obtain ⟨r, q1, q2, q3⟩ := K 1 (some (vI (nI (w (8 * w 4 + n / 8))))) (some (vI (nI y))) (by decide) ⟨fun _ c hc => by
          by_cases e2 : c = n
          · rw [e2, ← hy]; exact e
          · exact hxi.mp x1 c (by omega), fun _ => rfl⟩
        refine ⟨r, q1, pre r ?_, q3⟩
        rw [x1]
        refine rnN 3 rfl ?_
        refine rnN 4 rfl ?_
        refine rnC (inN hn (by decide)) rfl ?_
        simp (disch := omega) only [nI_clamp, hc2, cf_at]
        refine rnT ((show nI y = nI (T w n) by rw [e])) rfl ?_
        refine rnN 2 rfl ?_
        refine rnN 3 rfl ?_
        simp (disch := omega) only [nI_add, pk_mul, pk_sub, nd8, nd4, nsub8, nand63, nand7, nshr2, nI_clamp, E_at, hup_at, hup_hup]
        exact q2
      · obtain ⟨r, q1, q2, q3⟩ := K 0 (some (vI (nI (w (8 * w 4 + n / 8))))) (some (vI (nI y))) (by decide) ⟨fun q => absurd q (by decide), fun q => absurd (hy.trans (q n (by omega))) e⟩
        refine ⟨r, q1, pre r ?_, q3⟩
        rw [x1]
        refine rnN 3 rfl ?_
        refine rnN 4 rfl ?_
        refine rnC (inN hn (by decide)) rfl ?_
        simp (disch := omega) only [nI_clamp, hc2, cf_at]
        refine rnF ((fun q => e ((neqS hyb (by omega)).mp q))) rfl ?_
        refine rnN 1 rfl ?_
        refine rnN 3 rfl ?_
        simp (disch := omega) only [nI_add, pk_mul, pk_sub, nd8, nd4, nsub8, nand63, nand7, nshr2, nI_clamp, E_at, hup_at, hup_hup]
        exact q2
    · obtain ⟨r, q1, q2, q3⟩ := K 0 (some (vI (nI (w (8 * w 4 + n / 8))))) (some (vI (nI y))) (by decide) ⟨fun q => absurd q (by decide), fun q => absurd (hxi.mpr fun c hc => q c (by omega)) x1⟩
      refine ⟨r, q1, pre r ?_, q3⟩
      rw [show x = 0 by omega]
      refine rnN 3 rfl ?_
      refine rnN 1 rfl ?_
      refine rnN 3 rfl ?_
      simp (disch := omega) only [nI_add, pk_mul, pk_sub, nd8, nd4, nsub8, nand63, nand7, nshr2, nI_clamp, E_at, hup_at, hup_hup]
      exact q2
  · intro x o4 o5 hx hxi
    refine ⟨x, hx, ?_, hxi⟩
    refine rnN 3 rfl ?_
    rcases (show x = 0 ∨ x = 1 by omega) with e | e
    · rw [e]
      refine rnN 1 rfl ?_
      exact rnR rfl
    · rw [e]
      refine rnN 1 rfl ?_
      exact rnR rfl
end MCn
