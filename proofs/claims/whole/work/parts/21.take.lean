/-! ===== taking a cluster ===== -/
def lfn (w : Nat → Nat) : Nat → Nat → Nat
  | 0, c => c
  | n + 1, c => if 0 < cnt w c then lfn w n (c + 1) else c
def lf (w : Nat → Nat) : Nat := lfn w 62 1
def rm (w : Nat → Nat) : Nat := 64 - inUse w - noKeep w
/-- the file with a count cluster for the cluster that is taken, and that cluster -/
def tkW (w : Nat → Nat) : Nat → Nat := if w (8 * w 4 + lf w / 8) = 0 then addK w (lf w) else w
def tkC (w : Nat → Nat) : Nat := lf (tkW w)
theorem lfn_spec (w : Nat → Nat) : ∀ n c, c ≤ lfn w n c ∧ lfn w n c ≤ c + n ∧ (∀ x, c ≤ x → x < lfn w n c → 0 < cnt w x) ∧ (lfn w n c = c + n ∨ cnt w (lfn w n c) = 0) := by
  intro n
  induction n with
  | zero => intro c; exact ⟨Nat.le_refl _, Nat.le_refl _, fun x h1 h2 => by simp only [lfn] at h2; omega, Or.inl rfl⟩
  | succ n ih =>
    intro c
    rw [lfn]
    split
    · next h =>
      obtain ⟨h1, h2, h3, h4⟩ := ih (c + 1)
      refine ⟨by omega, by omega, fun x hx1 hx2 => ?_, ?_⟩
      · by_cases e : x = c
        · rw [e]; exact h
        · exact h3 x (by omega) hx2
      · rcases h4 with h4 | h4
        · exact Or.inl (by omega)
        · exact Or.inr h4
    · next h => exact ⟨Nat.le_refl _, by omega, fun x h1 h2 => by omega, Or.inr (by omega)⟩
theorem lf_LF (w : Nat → Nat) : LF w (lf w) := by
  obtain ⟨h1, h2, h3, h4⟩ := lfn_spec w 62 1
  exact ⟨h1, h2, h3, h4⟩
section TK
variable {d k : Nat} {h : xH} {w u : Nat → Nat}
theorem inUse_T (hi : Inv w u) : inUse w = sm 64 fun c => if 0 < T w c then 1 else 0 := sm_congr fun c hc => by rw [hi.2.1 c hc]
theorem T_zero (w : Nat → Nat) : 1 ≤ T w 0 := by
  unfold T
  have := iv_self 0
  omega
/-- where there is a free cluster, the least one is free -/
theorem lf_free (hi : Inv w u) (hr : inUse w < 64) : T w (lf w) = 0 := by
  obtain ⟨h1, h2, h3, h4⟩ := lf_LF w
  rcases h4 with h4 | h4
  · refine Classical.byContradiction fun h5 => ?_
    have h6 : inUse w = 64 := by
      unfold inUse
      have h7 : (sm 64 fun c => if 0 < cnt w c then 1 else 0) = sm 64 fun _ => 1 := sm_congr fun c hc => by
        rw [if_pos]
        by_cases e : c = 0
        · rw [e, hi.2.1 0 (by decide)]
          exact T_zero w
        · by_cases e2 : c = 63
          · rw [e2, hi.2.1 63 (by decide)]
            rw [h4] at h5
            omega
          · exact h3 c (by omega) (by omega)
      rw [h7, sm_const]
    omega
  · rw [← hi.2.1 _ (by omega)]
    exact h4
theorem rm_pos (hr : 1 ≤ rm w) : inUse w < 64 := by
  unfold rm at hr
  omega
theorem addK_rm (hi : Inv w u) {c : Nat} (h1 : 1 ≤ c) (h2 : c < 64) (hz : T w c = 0) (hk : w (8 * w 4 + c / 8) = 0) : rm (addK w c) = rm w := by
  obtain ⟨ha, hT, hO⟩ := addK_inv hi h1 h2 hz hk
  have e1 : inUse (addK w c) = inUse w + 1 := by
    rw [inUse_T ha, inUse_T hi]
    have h3 := sm_one (n := 64) (i := c) (f := fun X => if 0 < T (addK w c) X then 1 else 0) (g := fun X => if 0 < T w X then 1 else 0) h2 (fun X hX hne => by
      show (if 0 < T (addK w c) X then 1 else 0) = if 0 < T w X then 1 else 0
      rw [hT X, iv_ne (fun e => hne e.symm), Nat.add_zero])
    have e2 : (if 0 < T (addK w c) c then 1 else 0) = 1 := by rw [hT c, iv_self, if_pos (by omega)]
    have e3 : (if 0 < T w c then 1 else 0) = 0 := by rw [hz]; rfl
    simp only [e2, e3] at h3
    omega
  have e4 : noKeep (addK w c) + 1 = noKeep w := by
    unfold noKeep
    have hct := hi.1.ct
    have e5 : addK w c 4 = w 4 := hO 4 (by omega) (by omega)
    rw [e5]
    have hne := ne_fresh (w := w) hz T_ct
    have h3 := sm_one (n := 8) (i := c / 8) (f := fun k => if addK w c (8 * w 4 + k) = 0 then 1 else 0) (g := fun k => if w (8 * w 4 + k) = 0 then 1 else 0) (by omega) (fun k hk2 hne2 => by
      show (if addK w c (8 * w 4 + k) = 0 then 1 else 0) = if w (8 * w 4 + k) = 0 then 1 else 0
      rw [hO _ (by omega) (by omega)])
    have e6 : addK w c (8 * w 4 + c / 8) = c := by
      unfold addK
      rw [up_ne (by omega), up_at]
    have e7 : (if addK w c (8 * w 4 + c / 8) = 0 then 1 else 0) = 0 := by rw [e6, if_neg (by omega)]
    have e8 : (if w (8 * w 4 + c / 8) = 0 then 1 else 0) = 1 := by rw [hk]; rfl
    simp only [e7, e8] at h3
    omega
  unfold rm
  omega
/-- what a taking is -/
theorem tk_spec (hi : Inv w u) (hr : 1 ≤ rm w) : ∃ u1, Inv (tkW w) u1 ∧ (∀ X, T w X ≠ 0 → u1 X = u X) ∧ 1 ≤ tkC w ∧ tkC w < 64 ∧ T (tkW w) (tkC w) = 0 ∧ tkW w (8 * w 4 + tkC w / 8) ≠ 0 ∧ rm (tkW w) = rm w
    ∧ (∀ X, T w X ≠ 0 → T (tkW w) X = T w X) ∧ (∀ p, T w (p / 8) ≠ 0 → ¬ (p / 8 = w 4) → tkW w p = w p) ∧ (∀ p, p < 8 → tkW w p = w p) ∧ T w (tkC w) = 0 := by
  obtain ⟨h1, h2, h3, h4⟩ := lf_LF w
  have hz := lf_free hi (rm_pos hr)
  by_cases hk : w (8 * w 4 + lf w / 8) = 0
  · have e : tkW w = addK w (lf w) := if_pos hk
    obtain ⟨ha, hT, hO⟩ := addK_inv hi h1 (by omega) hz hk
    have hrm := addK_rm hi h1 (by omega) hz hk
    have hz2 := lf_free ha (rm_pos (by rw [hrm]; exact hr))
    obtain ⟨g1, g2, g3, g4⟩ := lf_LF (addK w (lf w))
    -- all of the group is free
    have hgrp : ∀ X, X < 64 → X / 8 = lf w / 8 → T w X = 0 := fun X hX e => hi.noK hX (by rw [e]; exact hk)
    have hc0 : lf w % 8 = 0 := by
      refine Classical.byContradiction fun h5 => ?_
      by_cases h6 : lf w < 8
      · have h7 := hgrp 0 (by decide) (by omega)
        have := T_zero w
        omega
      · have h7 := h3 (lf w - 1) (by omega) (by omega)
        rw [hi.2.1 _ (by omega), hgrp (lf w - 1) (by omega) (by omega)] at h7
        omega
    have hle : lf (addK w (lf w)) ≤ lf w + 1 := by
      refine Classical.byContradiction fun h5 => ?_
      have h6 := g3 (lf w + 1) (by omega) (by omega)
      rw [ha.2.1 _ (by omega), hT, hgrp (lf w + 1) (by omega) (by omega), iv_ne (by omega)] at h6
      omega
    have hge : lf w ≤ lf (addK w (lf w)) := by
      refine Classical.byContradiction fun h5 => ?_
      have h6 := h3 (lf (addK w (lf w))) g1 (by omega)
      rw [hi.2.1 _ (by omega)] at h6
      have h7 := hT (lf (addK w (lf w)))
      omega
    have hne : lf (addK w (lf w)) ≠ lf w := fun e2 => by
      have h7 := hT (lf (addK w (lf w)))
      rw [e2] at h7 hz2
      rw [iv_self] at h7
      omega
    have hC : tkC w = lf (addK w (lf w)) := by unfold tkC; rw [e]
    have hCe : lf (addK w (lf w)) = lf w + 1 := by omega
    have hzC : T w (tkC w) = 0 := by
      have h7 := hT (lf (addK w (lf w)))
      rw [hC]
      omega
    rw [hC, e] at *
    refine ⟨up u (lf w) (16 + lf w / 8), ha, fun X hX => u_fresh hz hX, by omega, by omega, hz2, ?_, hrm, fun X hX => ?_, fun p hp hp4 => ?_, fun p hp => ?_, hzC⟩
    · rw [hCe, show (lf w + 1) / 8 = lf w / 8 by omega]
      have hct := hi.1.ct
      have hne4 := ne_fresh (w := w) hz T_ct
      have e6 : addK w (lf w) (8 * w 4 + lf w / 8) = lf w := by
        unfold addK
        rw [up_ne (by omega), up_at]
      rw [e6]
      omega
    · rw [hT, iv_ne (fun e2 => by rw [← e2] at hX; exact hX hz), Nat.add_zero]
    · have := ne_fresh (X := p / 8) hz (by omega)
      exact hO p (by omega) this
    · have hct := hi.1.ct
      exact hO p (by omega) (by omega)
  · have e : tkW w = w := if_neg hk
    have hC : tkC w = lf w := by unfold tkC; rw [e]
    rw [hC, e]
    exact ⟨u, hi, fun _ _ => rfl, h1, by omega, hz, hk, rfl, fun _ _ => rfl, fun _ _ _ => rfl, fun _ _ => rfl, hz⟩
theorem c_take (hw : h (10, k) = E w) (hi : Inv w u) (hr : 1 ≤ rm w) : Cl (d + 3) MX0_take [vR (0, k)] h (some (vI (nI (tkC w)))) (hup h (10, k) (E (setc (tkW w) (tkC w) 1))) := by
  have hg := hi.cg
  obtain ⟨h1, h2, h3, h4⟩ := lf_LF w
  have hz := lf_free hi (rm_pos hr)
  obtain ⟨u1, ha, hu, hC1, hC2, hC3, hC4, hrm, hTT, hO, hH, -⟩ := tk_spec hi hr
  have hg1 := ha.cg
  have last : ∀ (h : xH) (o1 o2 : Option xV), h (10, k) = E (tkW w) → Rn (d + 3) MX0_take 45 [some (vR (0, k)), some (vI (nI (tkC w))), o2] [] h (some (vI (nI (tkC w)))) (hup h (10, k) (E (setc (tkW w) (tkC w) 1))) := by
    intro h o1 o2 hw
    have e0 : tkW w (8 * tkW w (8 * tkW w 4 + tkC w / 8) + tkC w % 8) = 0 := by
      have h5 := ha.cntAt (X := tkC w) hC2 (by rw [hH 4 (by decide)]; exact hC4)
      rw [hC3] at h5
      exact h5
    have hca := c_addToCount (d := d + 1) (dl := nI 1) (b := 1) hw hC2 hg1.1 (hg1.2.1 (tkC w / 8) (by omega)) (by rw [e0, nI_add]) (by decide)
    have ea : adc (tkW w) (tkC w) 1 = setc (tkW w) (tkC w) 1 := if_neg (by decide)
    rw [ea] at hca
    refine rnN 3 rfl ?_
    refine rnK rfl (hca) ?_
    refine rnN 1 rfl ?_
    exact rnR rfl
  refine rnN 1 rfl ?_
  refine rnK rfl (c_leastFree hw hg (lf_LF w)) ?_
  refine rnN 4 rfl ?_
  refine rnK rfl (c_hd hw (show 4 < 8 by decide)) ?_
  refine rnN 6 rfl ?_
  simp (disch := omega) only [nI_add, pk_mul, pk_sub, nd8, nd4, nsub8, nand63, nand7, nshr2, nI_clamp, E_at, hup_at, hup_hup]
  refine rnK rfl (c_at hw hg.1 (show lf w / 8 < 8 by omega)) ?_
  by_cases hk : w (8 * w 4 + lf w / 8) = 0
  · have e : tkW w = addK w (lf w) := if_pos hk
    have hC : tkC w = lf (addK w (lf w)) := by unfold tkC; rw [e]
    rw [hk]
    refine rnN 7 rfl ?_
    simp (disch := omega) only [nI_add, pk_mul, pk_sub, nd8, nd4, nsub8, nand63, nand7, nshr2, nI_clamp, E_at, hup_at, hup_hup]
    refine rnK rfl (c_put hw hg.1 (show lf w / 8 < 8 by omega)) ?_
    refine rnN 3 rfl ?_
    have hct := hi.1.ct
    have hne4 := ne_fresh (w := w) hz T_ct
    have q1 : up w (8 * w 4 + lf w / 8) (lf w) 4 = w 4 := up_ne (by omega)
    have q2 : up w (8 * w 4 + lf w / 8) (lf w) (8 * w 4 + lf w / 8) = lf w := up_at
    have q3 : up w (8 * w 4 + lf w / 8) (lf w) (8 * lf w + lf w % 8) = 0 := by
      rw [up_ne (by omega)]
      exact hi.2.2.1 (lf w) (by omega) hz (lf w % 8) (by omega)
    have hca := c_addToCount (d := d + 1) (h := hup h (10, k) (E (up w (8 * w 4 + lf w / 8) (lf w)))) (k := k) (w := up w (8 * w 4 + lf w / 8) (lf w)) (c := lf w) (dl := nI 1) (b := 1) hup_at (by omega) (by rw [q1]; exact hg.1) (by rw [q1, q2]; omega) (by rw [q1, q2, q3, nI_add]) (by decide)
    have ea : adc (up w (8 * w 4 + lf w / 8) (lf w)) (lf w) 1 = addK w (lf w) := by
      unfold adc setc addK
      rw [if_neg (by decide), q1, q2]
    rw [ea, hup_hup] at hca
    refine rnK rfl (hca) ?_
    refine rnN 1 rfl ?_
    refine rnK rfl (c_leastFree hup_at (by rw [← e]; exact hg1) (lf_LF (addK w (lf w)))) ?_
    refine rnN 1 rfl ?_
    have h9 := last (hup h (10, k) (E (addK w (lf w)))) none (some (vI (nI (w 4)))) (by rw [hup_at, e])
    rw [hup_hup, hC] at h9
    rw [hC]
    exact h9
  · have e : tkW w = w := if_neg hk
    have hC : tkC w = lf w := by unfold tkC; rw [e]
    have hqb := hg.2.1 (lf w / 8) (by omega)
    refine rnF (fun e2 => hk ((neq0 (by omega)).mp e2)) rfl ?_
    have h9 := last h none (some (vI (nI (w 4)))) (by rw [hw, e])
    rw [hC] at h9 ⊢
    exact h9
end TK
