/-! ===== the marks told anew, table by table ===== -/
section FL2
variable {d k : Nat} {h : xH} {w u : Nat → Nat} {S : Nat → Bool}
theorem Str.tOK (hs : Str w u) {t : Nat} (ht : TB w t) : ∀ j, j < 8 → w (8 * t + j) < 256 ∧ (2 < w (8 * t + j) ↔ w (8 * t + j) / 4 ≠ 0) := fun j hj => ⟨(hs.tw ht hj).lt, (hs.tw ht hj).isLead⟩
theorem Str.lOK (hs : Str w u) {t i : Nat} (ht : TB w t) (hi : i < 8) (h0 : w (8 * t + i) / 4 ≠ 0) : ∀ j, j < 8 → w (8 * (w (8 * t + i) / 4) + j) < 256 ∧ (2 < w (8 * (w (8 * t + i) / 4) + j) ↔ w (8 * (w (8 * t + i) / 4) + j) / 4 ≠ 0) := fun j hj => ⟨(hs.bw ht hi hj h0).lt, (hs.bw ht hi hj h0).isLead⟩
theorem Sbel_ok (hs : Str w u) (hS : SOK u S) {t : Nat} (ht : TB w t) : ∀ i, i ≤ 8 → SOK u (Sbel w S t i) := by
  intro i
  induction i with
  | zero =>
    intro _
    have h1 := hs.tb ht
    exact hS.add h1.1 h1.2.1 (by omega)
  | succ i ih =>
    intro hi
    rw [Sbel]
    split
    · exact ih (by omega)
    · next h0 =>
      have h1 := (hs.tw ht (show i < 8 by omega)).lead h0
      have h2 := h1.1.pos
      exact (ih (by omega)).add h2.1 h2.2 (by omega)
theorem Sbel_mono {t : Nat} {x : Nat} (hx : S x = true ∨ x = t) : ∀ i, Sbel w S t i x = true := by
  intro i
  induction i with
  | zero => exact Sin_iff.mpr hx
  | succ i ih =>
    rw [Sbel]
    split
    · exact ih
    · exact Sin_iff.mpr (Or.inl ih)
theorem Sbel_leaf {t i : Nat} (h0 : w (8 * t + i) / 4 ≠ 0) : ∀ n, i < n → Sbel w S t n (w (8 * t + i) / 4) = true := by
  intro n
  induction n with
  | zero => intro h; omega
  | succ n ih =>
    intro hn
    rw [Sbel]
    by_cases e : i = n
    · subst e
      rw [if_neg h0]
      exact Sin_iff.mpr (Or.inr rfl)
    · split
      · exact ih (by omega)
      · exact Sin_iff.mpr (Or.inl (ih (by omega)))
theorem Sall_ok (hs : Str w u) : ∀ j, j ≤ w 5 → SOK u (Sall w j) := by
  intro j
  induction j with
  | zero => intro _; exact Sbel_ok hs (fun c hc => by cases hc) act_tb 8 (Nat.le_refl 8)
  | succ j ih => intro hj; exact Sbel_ok hs (ih (by omega)) (tab_tb (by omega)) 8 (Nat.le_refl 8)
theorem Sall_mono {x j : Nat} (hx : Sall w j x = true) : ∀ n, j ≤ n → Sall w n x = true := by
  intro n
  induction n with
  | zero => intro h; rwa [show j = 0 by omega] at hx
  | succ n ih =>
    intro h
    by_cases e : j = n + 1
    · rwa [e] at hx
    · exact Sbel_mono (Or.inl (ih (by omega))) 8
theorem Sall_has {t x : Nat} (ht : TB w t) (hx : x = t ∨ ∃ i, i < 8 ∧ w (8 * t + i) / 4 ≠ 0 ∧ x = w (8 * t + i) / 4) : Sall w (w 5) x = true := by
  have one : ∀ S : Nat → Bool, Sbel w S t 8 x = true := fun S => by
    rcases hx with rfl | ⟨i, hi, h0, rfl⟩
    · exact Sbel_mono (Or.inr rfl) 8
    · exact Sbel_leaf h0 8 hi
  rcases ht with rfl | ⟨j, hj, rfl⟩
  · exact Sall_mono (j := 0) (one _) _ (Nat.zero_le _)
  · exact Sall_mono (j := j + 1) (one _) _ (by omega)
theorem fS_all (hi : Inv w u) : fS (Sall w (w 5)) w = flg w u := by
  funext p
  unfold flg fS
  have hok := Sall_ok hi.1 (w 5) (Nat.le_refl _)
  by_cases e : Sall w (w 5) (p / 8) = true
  · rw [if_pos e, if_pos (show tlB u (p / 8) = true from decide_eq_true (hok _ e))]
  · rw [if_neg e]
    by_cases e2 : tlB u (p / 8) = true
    · rw [if_pos e2]
      have h3 := of_decide_eq_true e2
      have hz : T w (p / 8) = 0 := Classical.byContradiction fun h0 => e (by
        rcases TL_role hi.1 h3.1 h3.2.2 h0 with h4 | ⟨t, i, ht, h5, h6, h7⟩
        · exact Sall_has h4 (Or.inl rfl)
        · exact Sall_has ht (Or.inr ⟨i, h5, h6, h7⟩))
      have h4 := hi.2.2.1 (p / 8) h3.2.1 hz (p % 8) (by omega)
      rw [show 8 * (p / 8) + p % 8 = p by omega] at h4
      rw [h4]
      rfl
    · rw [if_neg e2]
theorem c_tellFlagsBelow {t : Nat} (hw : h (10, k) = E (fS S w)) (hi : Inv w u) (hS : SOK u S) (ht : TB w t) : Cl (d + 3) MX1_tellFlagsBelow [vR (1, k), vI (nI t)] h none (hup h (10, k) (E (fS (Sbel w S t 8) w))) := by
  have htb := hi.1.tb ht
  refine rnN 2 rfl ?_
  refine rnK rfl (c_tellFlagsIn hw hi hS htb.1 htb.2.1 (by omega) (hi.1.tOK ht)) ?_
  refine rnN 2 rfl ?_
  have go := lpN 8 (fun i => ∀ o3 : Option xV, Rn (d + 3) MX1_tellFlagsBelow 7 [some (vR (1, k)), some (vI (nI t)), some (vI (nI i)), o3] [] (hup h (10, k) (E (fS (Sbel w S t i) w))) none (hup h (10, k) (E (fS (Sbel w S t 8) w)))) (fun i hlt K => ?_) ?_
  · exact go none
  · intro o3
    have hok := Sbel_ok hi.1 hS ht i (by omega)
    have hx := hi.1.tw ht hlt
    -- the word as it stands
    have hvd := fS_div' (S := Sbel w S t i) (w := w) (8 * t + i)
    have hvl : fS (Sbel w S t i) w (8 * t + i) = w (8 * t + i) ∨ fS (Sbel w S t i) w (8 * t + i) = mk w (w (8 * t + i)) := by
      unfold fS
      split
      · exact Or.inr rfl
      · exact Or.inl rfl
    have hlt2 := hx.lt
    have hv2 : 2 < fS (Sbel w S t i) w (8 * t + i) ↔ w (8 * t + i) / 4 ≠ 0 := by
      rcases hvl with e | e
      · rw [e]; exact hx.isLead
      · constructor
        · intro z hz
          rw [e, mk_flat hz] at z
          exact hx.isLead.mp z hz
        · intro z; omega
    refine rnN 2 rfl ?_
    refine rnT (nI_lt hlt (by decide)) rfl ?_
    refine rnN 4 rfl ?_
    refine rnK rfl (c_at hup_at htb.2.1 hlt) ?_
    refine rnN 2 rfl ?_
    refine rnK rfl (c_isLead (show fS (Sbel w S t i) w (8 * t + i) < 2147483648 by omega)) ?_
    by_cases hl : 2 < fS (Sbel w S t i) w (8 * t + i)
    · have h4 := hv2.mp hl
      have hld := hx.lead h4
      have hpos := hld.1.pos
      rw [if_pos hl]
      refine rnN 3 rfl ?_
      refine rnK rfl (c_clusterOf (show fS (Sbel w S t i) w (8 * t + i) < 2147483648 by omega)) ?_
      rw [hvd]
      refine rnK rfl (c_tellFlagsIn hup_at hi hok hpos.1 hpos.2 (by omega) (hi.1.lOK ht hlt h4)) ?_
      refine rnN 2 rfl ?_
      simp (disch := omega) only [nI_add, pk_mul, pk_sub, nd8, nd4, nsub8, nand63, nand7, nshr2, nI_clamp, E_at, hup_at, hup_hup]
      have K2 := K (some (vI (nI (fS (Sbel w S t i) w (8 * t + i)))))
      rw [Sbel, if_neg h4] at K2
      exact K2
    · have h4 : w (8 * t + i) / 4 = 0 := Classical.byContradiction fun z => hl (hv2.mpr z)
      rw [if_neg hl]
      refine rnN 3 rfl ?_
      simp (disch := omega) only [nI_add, pk_mul, pk_sub, nd8, nd4, nsub8, nand63, nand7, nshr2, nI_clamp, E_at, hup_at, hup_hup]
      have K2 := K (some (vI (nI (fS (Sbel w S t i) w (8 * t + i)))))
      rw [Sbel, if_pos h4] at K2
      exact K2
  · intro o3
    refine rnN 3 rfl ?_
    exact rnR rfl
theorem c_tellFlags (hw : h (10, k) = E w) (hi : Inv w u) : Cl (d + 4) MX1_tellFlags [vR (1, k)] h none (hup h (10, k) (E (flg w u))) := by
  have h0 : w = fS (fun _ => false) w := by
    funext p
    unfold fS
    exact (if_neg (fun e => by cases e)).symm
  have hok : ∀ j, j ≤ w 5 → SOK u (Sall w j) := Sall_ok hi.1
  have hns := hi.1.ns
  refine rnN 2 rfl ?_
  refine rnK rfl (c_activeTable hw) ?_
  refine rnK rfl (c_tellFlagsBelow (hw.trans (congrArg E h0)) hi (fun c hc => by cases hc) act_tb) ?_
  refine rnN 1 rfl ?_
  refine rnK rfl (c_snapshotCount hup_at) ?_
  rw [show fS (Sbel w (fun _ => false) (w 3) 8) w 5 = w 5 from fS_out (hok 0 (Nat.zero_le _)) (Or.inl rfl)]
  refine rnN 3 rfl ?_
  rw [← fS_all hi]
  refine lpN (w 5) (fun j => Rn (d + 4) MX1_tellFlags 15 [some (vR (1, k)), some (vI (nI (w 5))), some (vI (nI j))] [] (hup h (10, k) (E (fS (Sall w j) w))) none (hup h (10, k) (E (fS (Sall w (w 5)) w)))) (fun j hj K => ?_) ?_
  · have ho := hok j (by omega)
    have h5 : fS (Sall w j) w 5 = w 5 := fS_out ho (Or.inl rfl)
    have h6 : fS (Sall w j) w 6 = w 6 := fS_out ho (Or.inl rfl)
    have h6n := hns.2 (by omega)
    have hls := hi.1.list h6n
    have htab : tab (fS (Sall w j) w) j = tab w j := by
      unfold tab
      rw [h6]
      exact fS_out ho (Or.inr (Or.inr (Or.inl (by rw [ix_div (show 2 * j < 8 by omega)]; exact hls.2))))
    refine rnN 2 rfl ?_
    refine rnT (nI_lt hj (by omega)) rfl ?_
    refine rnN 3 rfl ?_
    refine rnK rfl (c_snapshotTable hup_at (by rw [h6]; exact hls.1) (show j < 4 by omega)) ?_
    rw [htab]
    refine rnK rfl (c_tellFlagsBelow hup_at hi ho (tab_tb hj)) ?_
    refine rnN 2 rfl ?_
    simp (disch := omega) only [nI_add, pk_mul, pk_sub, nd8, nd4, nsub8, nand63, nand7, nshr2, nI_clamp, E_at, hup_at, hup_hup]
    exact K
  · have h5 : fS (Sall w (w 5)) w 5 = w 5 := fS_out (hok _ (Nat.le_refl _)) (Or.inl rfl)
    refine rnN 2 rfl ?_
    refine rnF (nI_nlt (Nat.le_refl _) (by omega)) rfl ?_
    exact rnR rfl
end FL2
