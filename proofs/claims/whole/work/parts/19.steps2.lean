/-! ===== a leaf of its own, a cluster of its own, a block that is zero ===== -/
section ST2
variable {w v u u' : Nat → Nat}
theorem Inv_mk (hi : Inv w u) (hS : Str v u') (hH : ∀ p, p < 8 → v p = w p) (hct : ∀ k, k < 8 → v (8 * w 4 + k) = w (8 * w 4 + k)) (hls : w 6 ≠ 0 → ∀ j, j < 8 → v (8 * w 6 + j) = w (8 * w 6 + j)) (hcnt : ∀ X, X < 64 → (if w (8 * w 4 + X / 8) = 0 then 0 else v (cpl w X)) = T v X) (hz : ∀ X, X < 64 → T v X = 0 → ∀ j, j < 8 → v (8 * X + j) = 0) (hb : ∀ p, v p < 4294967296) : Inv v u' := by
  refine ⟨hS, fun X hX => by rw [cnt_of (hH 4 (by decide)) hct hX]; exact hcnt X hX, hz, ?_, hb⟩
  obtain ⟨g0, g1, g7, gl, gn⟩ := hi.2.2.2.1
  refine ⟨by rw [hH 0 (by decide)]; exact g0, by rw [hH 1 (by decide)]; exact g1, by rw [hH 7 (by decide)]; exact g7, ?_, ?_⟩
  · rw [hH 5 (by decide), hH 6 (by decide)]
    intro h6 j hj hj8
    rw [hls h6 j hj8]
    exact gl h6 j hj hj8
  · rw [hH 5 (by decide), hH 6 (by decide)]
    intro i j hi2 hj
    have h5 := hi.1.ns
    have h6 := h5.2 (by omega)
    rw [show 8 * w 6 + 2 * i + 1 = 8 * w 6 + (2 * i + 1) by omega, show 8 * w 6 + 2 * j + 1 = 8 * w 6 + (2 * j + 1) by omega, hls h6 _ (by omega), hls h6 _ (by omega)]
    exact gn i j hi2 hj
/-- what a word leads to, counted for X -/
def ld (x X : Nat) : Nat := if x / 4 = 0 then 0 else iv (x / 4) X
theorem ld_le (x X : Nat) : ld x X ≤ 1 := bc_le X x
theorem ld_bc (x X : Nat) : bc X x = ld x X := rfl
theorem lc_ld (w : Nat → Nat) (X x : Nat) : lc w X x = ld x X + (if x / 4 = 0 then 0 else sm 8 fun j => ld (w (8 * (x / 4) + j)) X) := by
  unfold lc ld
  split <;> rfl
/-- the active table gets a leaf of its own: a free cluster with the words of the old leaf -/
theorem leaf_inv (hi : Inv w u) {c i f : Nat} (h1 : 1 ≤ c) (h2 : c < 64) (hz : T w c = 0) (hkc : w (8 * w 4 + c / 8) ≠ 0) (hi8 : i < 8) (hsz : 8 * i < w 2) (hf : f ≤ 1) (hx : w (8 * w 3 + i) / 4 = 0 ∨ 2 ≤ T w (w (8 * w 3 + i) / 4))
    (vC : ∀ j, j < 8 → v (8 * c + j) = if w (8 * w 3 + i) / 4 = 0 then 0 else w (8 * (w (8 * w 3 + i) / 4) + j)) (vA : v (8 * w 3 + i) = 4 * c + f)
    (vK : ∀ X, X < 64 → w (8 * w 4 + X / 8) ≠ 0 → v (cpl w X) = T w X + iv c X - ld (w (8 * w 3 + i)) X)
    (vO : ∀ p, p / 8 ≠ c → p ≠ 8 * w 3 + i → ¬ kp w p → v p = w p) (vb : ∀ p, v p < 4294967296) :
    Inv v (up u c (8 + i)) ∧ ∀ X, T v X + ld (w (8 * w 3 + i)) X = T w X + iv c X := by
  have hs := hi.1
  have hact := hs.act
  have hH : ∀ p, p < 8 → v p = w p := fun p hp => vO p (by omega) (by omega) (nk0 hp)
  have hcl : ∀ X j, j < 8 → T w X ≠ 0 → X ≠ w 3 → (u X < 16 ∨ 24 ≤ u X) → v (8 * X + j) = w (8 * X + j) := by
    intro X j hj hX hX3 hu
    have := ne_fresh (X := X) hz (by omega)
    exact vO _ (by omega) (by omega) (hs.nk (by rw [ix_div hj]; exact hu))
  have hct : ∀ k, k < 8 → v (8 * w 4 + k) = w (8 * w 4 + k) := fun k hk => hcl _ k hk (by have := T_ct (w := w); omega) (fun e => by have h3 := hs.ct; rw [e] at h3; omega) (by have := hs.ct; omega)
  have hls : w 6 ≠ 0 → ∀ j, j < 8 → v (8 * w 6 + j) = w (8 * w 6 + j) := fun h6 j hj => hcl _ j hj (by have := T_list h6; omega) (fun e => by have h3 := hs.list h6; rw [e] at h3; omega) (by have := hs.list h6; omega)
  have hactw : ∀ k, k < 8 → k ≠ i → v (8 * w 3 + k) = w (8 * w 3 + k) := fun k hk hne => vO _ (by have := ne_fresh (X := w 3) hz T_act; omega) (by omega) (hs.nk (by rw [ix_div hk]; omega))
  have hLF : ∀ t i2 j, TB w t → i2 < 8 → j < 8 → w (8 * t + i2) / 4 ≠ 0 → v (8 * (w (8 * t + i2) / 4) + j) = w (8 * (w (8 * t + i2) / 4) + j) := fun t i2 j ht hi2 hj h0 => by
    have h3 := ((hs.tw ht hi2).lead h0).2.2.1
    exact hcl _ j hj (by have := T_leaf ht hi2 h0; omega) (fun e => by rw [e] at h3; omega) (by omega)
  have htabw : ∀ j i2, j < w 5 → i2 < 8 → v (8 * tab w j + i2) = w (8 * tab w j + i2) := fun j i2 hj hi2 => hcl _ i2 hi2 (by have := T_tab (tab_tb hj); omega) (fun e => by have h3 := hs.tab hj; rw [e] at h3; omega) (by have := hs.tab hj; have := hs.ns; omega)
  have etab : ∀ j, j < w 5 → tab v j = tab w j := fun j hj => by
    unfold tab
    rw [hH 6 (by decide)]
    have := hs.ns
    exact hls (this.2 (by omega)) _ (by omega)
  have htc : ∀ X j, j < w 5 → tc v X (tab w j) = tc w X (tab w j) := fun X j hj => tc_congr (fun i2 hi2 => by rw [htabw j i2 hj hi2]) (fun i2 hi2 h0 j2 hj2 => by rw [hLF _ i2 j2 (tab_tb hj) hi2 hj2 h0])
  have hT : ∀ X, T v X + ld (w (8 * w 3 + i)) X = T w X + iv c X := by
    intro X
    have e1 := TF (v := v) X (fun p _ hp => hH p (by omega)) hct etab (htc X)
    have e2 := tc_one (w := w) (v := v) (X := X) (t := w 3) hi8 (fun k hk hne => by
      rw [hactw k hk hne]
      exact lc_congr fun h0 j hj => by rw [hLF _ k j act_tb hk hj h0])
    have e3 : lc v X (v (8 * w 3 + i)) + ld (w (8 * w 3 + i)) X = lc w X (w (8 * w 3 + i)) + iv c X := by
      have e5 : (4 * c + f) / 4 = c := by omega
      rw [vA, lc_ld v X (4 * c + f), lc_ld w X]
      have e4 : ld (4 * c + f) X = iv c X := by
        unfold ld
        rw [e5, if_neg (by omega)]
      rw [e4, e5, if_neg (by omega)]
      by_cases h0 : w (8 * w 3 + i) / 4 = 0
      · rw [if_pos h0]
        have e6 : (sm 8 fun j => ld (v (8 * c + j)) X) = 0 := sm_zero fun j hj => by
          rw [vC j hj, if_pos h0]
          rfl
        rw [e6]
        omega
      · rw [if_neg h0]
        have e6 : (sm 8 fun j => ld (v (8 * c + j)) X) = sm 8 fun j => ld (w (8 * (w (8 * w 3 + i) / 4) + j)) X := sm_congr fun j hj => by
          rw [vC j hj, if_neg h0]
        rw [e6]
        omega
    omega
  have hge : ∀ X, ld (w (8 * w 3 + i)) X ≤ T w X := by
    intro X
    have h3 := T_tc (w := w) (X := X) act_tb
    have h4 := tc_lc (w := w) (t := w 3) (X := X) hi8
    rw [lc_ld] at h4
    omega
  refine ⟨Inv_mk hi ?_ hH hct hls ?_ ?_ vb, hT⟩
  · refine StrF hs (fun X hX => u_fresh hz hX) (fun p _ hp => hH p (by omega)) (fun k hk => Or.inl (hct k hk)) (fun h6 j hj => by have := hs.ns; exact hls h6 _ (by omega)) (fun t i2 ht hi2 => ?_) (fun t i2 j ht hi2 hj _ h0 => Or.inl (hLF t i2 j ht hi2 hj h0))
    rcases ht with rfl | ⟨j, hj, rfl⟩
    · by_cases e : i2 = i
      · subst e
        rw [vA]
        refine Or.inr (Or.inr ⟨by unfold LD; omega, by rw [hH 2 (by decide)]; exact hsz, by rw [show (4 * c + f) / 4 = c by omega, up_at], fun j hj => ?_⟩)
        rw [show (4 * c + f) / 4 = c by omega, vC j hj, hH 2 (by decide)]
        by_cases h0 : w (8 * w 3 + i2) / 4 = 0
        · rw [if_pos h0]; exact Or.inl rfl
        · rw [if_neg h0]
          exact (hs.bw act_tb hi2 hj h0).move fun hy => u_fresh hz (by have := T_blk act_tb hi2 hj h0 hy; omega)
      · exact Or.inl (hactw i2 hi2 e)
    · exact Or.inl (htabw j i2 hj hi2)
  · intro X hX
    have h3 := hT X
    split
    · next h0 =>
      have h4 := hi.noK hX h0
      have h5 : c ≠ X := fun e => by rw [e] at hkc; exact hkc h0
      rw [iv_ne h5] at h3
      omega
    · next h0 =>
      rw [vK X hX h0]
      omega
  · intro X hX h0 j hj
    have h3 := hT X
    have h4 : c ≠ X := fun e => by
      rw [e, iv_self] at h3
      rw [e] at hz
      have := ld_le (w (8 * w 3 + i)) X
      have h5 : ld (w (8 * w 3 + i)) X = 0 := by have := hge X; omega
      omega
    rw [iv_ne h4] at h3
    have h5 : T w X = 0 := by
      have h6 := ld_le (w (8 * w 3 + i)) X
      by_cases h7 : ld (w (8 * w 3 + i)) X = 0
      · omega
      · exfalso
        unfold ld at h7 h3
        split at h7
        · exact h7 rfl
        · next h8 =>
          have h9 := iv_pos h7
          rcases hx with hx | hx
          · exact h8 hx
          · rw [if_neg h8, h9, iv_self] at h3
            rw [h9] at hx
            omega
    have h6 := hi.2.2.1 X hX h5 j hj
    have hX3 : X ≠ w 3 := fun e => by have := T_act (w := w); rw [e] at h5; omega
    rw [vO _ (by omega) (by omega) ?_]
    · exact h6
    · rintro ⟨k, hk, hk0, e⟩
      rw [ix_div hj] at e
      have := T_keep hk hk0
      rw [← e] at this
      omega
end ST2
