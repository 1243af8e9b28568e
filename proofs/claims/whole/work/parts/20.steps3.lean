/-! ===== a block's word in the active table's own leaf; data ===== -/
section ST3
variable {w v u u' : Nat → Nat} {Q : Nat → Prop}
/-- clusters that no structure reads: free ones and blocks' -/
def QOK (w u : Nat → Nat) (Q : Nat → Prop) : Prop := ∀ X, Q X → 1 ≤ X ∧ (T w X = 0 ∨ 24 ≤ u X)
theorem blk_inv (hi : Inv w u) (hu : ∀ X, T w X ≠ 0 → u' X = u X) (hQ : QOK w u Q) {i j z : Nat} (hi8 : i < 8) (hj8 : j < 8) (hl : w (8 * w 3 + i) / 4 ≠ 0) (hown : T w (w (8 * w 3 + i) / 4) = 1)
    (hzb : BOK (w 2) u' i j z) (vB : v (8 * (w (8 * w 3 + i) / 4) + j) = z) (vO : ∀ p, ¬ Q (p / 8) → p ≠ 8 * (w (8 * w 3 + i) / 4) + j → ¬ kp w p → v p = w p)
    (vK : ∀ X, X < 64 → w (8 * w 4 + X / 8) ≠ 0 → v (cpl w X) = T w X + ld z X - ld (w (8 * (w (8 * w 3 + i) / 4) + j)) X)
    (vN : ∀ X, X < 64 → w (8 * w 4 + X / 8) = 0 → ld z X = 0)
    (vZ : ∀ X, X < 64 → T w X + ld z X = ld (w (8 * (w (8 * w 3 + i) / 4) + j)) X → ∀ k, k < 8 → v (8 * X + k) = 0) (vb : ∀ p, v p < 4294967296) :
    Inv v u' ∧ ∀ X, T v X + ld (w (8 * (w (8 * w 3 + i) / 4) + j)) X = T w X + ld z X := by
  have hs := hi.1
  have hact := hs.act
  have hlL := (hs.tw act_tb hi8).lead hl
  have hlp := hlL.1.pos
  have hH : ∀ p, p < 8 → v p = w p := fun p hp => vO p (fun h => by have := (hQ _ h).1; omega) (by omega) (nk0 hp)
  have hcl : ∀ X k, k < 8 → T w X ≠ 0 → X ≠ w (8 * w 3 + i) / 4 → u X < 16 → v (8 * X + k) = w (8 * X + k) := by
    intro X k hk hX hX3 hu2
    refine vO _ (fun h => ?_) (by omega) (hs.nk (by rw [ix_div hk]; omega))
    rw [ix_div hk] at h
    have := (hQ _ h).2
    omega
  have hct : ∀ k, k < 8 → v (8 * w 4 + k) = w (8 * w 4 + k) := fun k hk => hcl _ k hk (by have := T_ct (w := w); omega) (fun e => by have h3 := hs.ct; rw [e] at h3; omega) (by have := hs.ct; omega)
  have hls : w 6 ≠ 0 → ∀ k, k < 8 → v (8 * w 6 + k) = w (8 * w 6 + k) := fun h6 k hk => hcl _ k hk (by have := T_list h6; omega) (fun e => by have h3 := hs.list h6; rw [e] at h3; omega) (by have := hs.list h6; omega)
  have htw : ∀ t i2, TB w t → i2 < 8 → v (8 * t + i2) = w (8 * t + i2) := fun t i2 ht hi2 => by
    have h3 := (hs.tb ht).2.2
    exact hcl _ i2 hi2 (by have := T_tab ht; omega) (fun e => by rw [e] at h3; omega) (by omega)
  have hLF : ∀ t i2 j2, TB w t → i2 < 8 → j2 < 8 → w (8 * t + i2) / 4 ≠ 0 → w (8 * t + i2) / 4 ≠ w (8 * w 3 + i) / 4 → v (8 * (w (8 * t + i2) / 4) + j2) = w (8 * (w (8 * t + i2) / 4) + j2) := fun t i2 j2 ht hi2 hj2 h0 hne => by
    have h3 := ((hs.tw ht hi2).lead h0).2.2.1
    exact hcl _ j2 hj2 (by have := T_leaf ht hi2 h0; omega) hne (by omega)
  have hLo : ∀ j2, j2 < 8 → j2 ≠ j → v (8 * (w (8 * w 3 + i) / 4) + j2) = w (8 * (w (8 * w 3 + i) / 4) + j2) := fun j2 hj2 hne => by
    refine vO _ (fun h => ?_) (by omega) (hs.nk (by rw [ix_div hj2]; omega))
    rw [ix_div hj2] at h
    have := (hQ _ h).2
    have := hlL.2.2.1
    omega
  have hai : ∀ i2, i2 < 8 → i2 ≠ i → w (8 * w 3 + i2) / 4 ≠ 0 → w (8 * w 3 + i2) / 4 ≠ w (8 * w 3 + i) / 4 := fun i2 hi2 hne h0 e => by
    have h3 := ((hs.tw act_tb hi2).lead h0).2.2.1
    rw [e] at h3
    have := hlL.2.2.1
    omega
  have etab : ∀ k, k < w 5 → tab v k = tab w k := fun k hk => by
    unfold tab
    rw [hH 6 (by decide)]
    have := hs.ns
    exact hls (this.2 (by omega)) _ (by omega)
  have htc : ∀ X k, k < w 5 → tc v X (tab w k) = tc w X (tab w k) := fun X k hk => tc_congr (fun i2 hi2 => by rw [htw _ i2 (tab_tb hk) hi2]) (fun i2 hi2 h0 j2 hj2 => by rw [hLF _ i2 j2 (tab_tb hk) hi2 hj2 h0 (own_leaf hs hi8 hl hown hk hi2 h0)])
  have hT : ∀ X, T v X + ld (w (8 * (w (8 * w 3 + i) / 4) + j)) X = T w X + ld z X := by
    intro X
    have e1 := TF (v := v) X (fun p _ hp => hH p (by omega)) hct etab (htc X)
    have e2 := tc_one (w := w) (v := v) (X := X) (t := w 3) hi8 (fun k hk hne => by
      rw [htw _ k act_tb hk]
      exact lc_congr fun h0 j2 hj2 => by rw [hLF _ k j2 act_tb hk hj2 h0 (hai k hk hne h0)])
    have e3 : lc v X (v (8 * w 3 + i)) + ld (w (8 * (w (8 * w 3 + i) / 4) + j)) X = lc w X (w (8 * w 3 + i)) + ld z X := by
      rw [htw _ i act_tb hi8, lc_ld v X, lc_ld w X, if_neg hl, if_neg hl]
      have e4 := sm_one (n := 8) (i := j) (f := fun k => ld (v (8 * (w (8 * w 3 + i) / 4) + k)) X) (g := fun k => ld (w (8 * (w (8 * w 3 + i) / 4) + k)) X) hj8 (fun k hk hne => by
        show ld (v _) X = ld (w _) X
        rw [hLo k hk hne])
      rw [vB] at e4
      omega
    omega
  refine ⟨Inv_mk hi ?_ hH hct hls ?_ ?_ vb, hT⟩
  · refine StrF hs hu (fun p _ hp => hH p (by omega)) (fun k hk => Or.inl (hct k hk)) (fun h6 k hk => by have := hs.ns; exact hls h6 _ (by omega)) (fun t i2 ht hi2 => Or.inl (htw t i2 ht hi2)) (fun t i2 j2 ht hi2 hj2 _ h0 => ?_)
    by_cases e : w (8 * t + i2) / 4 = w (8 * w 3 + i) / 4
    · have h3 := ((hs.tw ht hi2).lead h0).2.2.1
      rw [e] at h3 ⊢
      have h4 : i2 = i := by have := hlL.2.2.1; omega
      by_cases e2 : j2 = j
      · rw [e2, vB, h4]
        exact Or.inr hzb
      · exact Or.inl (hLo j2 hj2 e2)
    · exact Or.inl (hLF t i2 j2 ht hi2 hj2 h0 e)
  · intro X hX
    have h3 := hT X
    split
    · next h0 =>
      have h4 := hi.noK hX h0
      have h5 := vN X hX h0
      omega
    · next h0 =>
      rw [vK X hX h0]
      omega
  · intro X hX h0 k hk
    exact vZ X hX (by have := hT X; omega) k hk
/-- the active table's block gets a free cluster -/
theorem clus_inv (hi : Inv w u) {c i j f : Nat} (h1 : 1 ≤ c) (h2 : c < 64) (hz : T w c = 0) (hkc : w (8 * w 4 + c / 8) ≠ 0) (hi8 : i < 8) (hj8 : j < 8) (hsz : 8 * i + j < w 2) (hf : f ≤ 1) (hl : w (8 * w 3 + i) / 4 ≠ 0) (hown : T w (w (8 * w 3 + i) / 4) = 1)
    (hy : w (8 * (w (8 * w 3 + i) / 4) + j) / 4 = 0 ∨ 2 ≤ T w (w (8 * (w (8 * w 3 + i) / 4) + j) / 4))
    (vB : v (8 * (w (8 * w 3 + i) / 4) + j) = 4 * c + f)
    (vK : ∀ X, X < 64 → w (8 * w 4 + X / 8) ≠ 0 → v (cpl w X) = T w X + iv c X - ld (w (8 * (w (8 * w 3 + i) / 4) + j)) X)
    (vO : ∀ p, p / 8 ≠ c → p ≠ 8 * (w (8 * w 3 + i) / 4) + j → ¬ kp w p → v p = w p) (vb : ∀ p, v p < 4294967296) :
    Inv v (up u c (24 + (8 * i + j))) ∧ ∀ X, T v X + ld (w (8 * (w (8 * w 3 + i) / 4) + j)) X = T w X + iv c X := by
  have e5 : (4 * c + f) / 4 = c := by omega
  have e4 : ∀ X, ld (4 * c + f) X = iv c X := fun X => by
    unfold ld
    rw [e5, if_neg (by omega)]
  have hge : ∀ X, ld (w (8 * (w (8 * w 3 + i) / 4) + j)) X ≤ T w X := by
    intro X
    have h3 := T_tc (w := w) (X := X) act_tb
    have h4 := tc_lc (w := w) (t := w 3) (X := X) hi8
    rw [lc_ld, if_neg hl] at h4
    have h5 := sm_ge (n := 8) (f := fun j => ld (w (8 * (w (8 * w 3 + i) / 4) + j)) X) hj8
    omega
  have h := blk_inv (v := v) (u' := up u c (24 + (8 * i + j))) (Q := fun X => X = c) hi (fun X hX => u_fresh hz hX) (fun X hX => by rw [hX]; exact ⟨h1, Or.inl hz⟩) hi8 hj8 hl hown
    (z := 4 * c + f) (Or.inr ⟨hsz, Or.inr ⟨by unfold LD; omega, by rw [e5, up_at]⟩⟩) vB vO (fun X hX h0 => by rw [vK X hX h0, e4]) (fun X hX h0 => by rw [e4, iv_ne (fun e => by rw [e] at hkc; exact hkc h0)]) (fun X hX h0 k hk => by
      rw [e4] at h0
      have h4 : c ≠ X := fun e => by
        rw [e, iv_self] at h0
        rw [e] at hz
        have h5 := hge X
        omega
      rw [iv_ne h4] at h0
      have h5 : T w X = 0 := by
        by_cases h7 : ld (w (8 * (w (8 * w 3 + i) / 4) + j)) X = 0
        · omega
        · exfalso
          have h10 := ld_le (w (8 * (w (8 * w 3 + i) / 4) + j)) X
          unfold ld at h7
          split at h7
          · exact h7 rfl
          · next h8 =>
            have h9 := iv_pos h7
            rcases hy with hy | hy
            · exact h8 hy
            · rw [h9] at hy
              omega
      have h6 := hi.2.2.1 X hX h5 k hk
      have hlne : X ≠ w (8 * w 3 + i) / 4 := fun e => by rw [← e] at hown; omega
      rw [vO _ (by rw [ix_div hk]; exact fun e => h4 e.symm) (by omega) ?_]
      · exact h6
      · rintro ⟨k2, hk2, hk0, e⟩
        rw [ix_div hk] at e
        have := T_keep hk2 hk0
        rw [← e] at this
        omega) vb
  exact ⟨h.1, fun X => by have := h.2 X; rw [e4] at this; exact this⟩
/-- the active table's block becomes zero -/
theorem zero_inv (hi : Inv w u) {i j : Nat} (hi8 : i < 8) (hj8 : j < 8) (hsz : 8 * i + j < w 2) (hl : w (8 * w 3 + i) / 4 ≠ 0) (hown : T w (w (8 * w 3 + i) / 4) = 1)
    (vB : v (8 * (w (8 * w 3 + i) / 4) + j) = 2)
    (vK : ∀ X, X < 64 → w (8 * w 4 + X / 8) ≠ 0 → v (cpl w X) = T w X - ld (w (8 * (w (8 * w 3 + i) / 4) + j)) X)
    (vO : ∀ p, ¬ (w (8 * (w (8 * w 3 + i) / 4) + j) / 4 ≠ 0 ∧ p / 8 = w (8 * (w (8 * w 3 + i) / 4) + j) / 4 ∧ T w (w (8 * (w (8 * w 3 + i) / 4) + j) / 4) = 1) → p ≠ 8 * (w (8 * w 3 + i) / 4) + j → ¬ kp w p → v p = w p)
    (vZ : w (8 * (w (8 * w 3 + i) / 4) + j) / 4 ≠ 0 → T w (w (8 * (w (8 * w 3 + i) / 4) + j) / 4) = 1 → ∀ k, k < 8 → v (8 * (w (8 * (w (8 * w 3 + i) / 4) + j) / 4) + k) = 0) (vb : ∀ p, v p < 4294967296) :
    Inv v u ∧ ∀ X, T v X + ld (w (8 * (w (8 * w 3 + i) / 4) + j)) X = T w X := by
  have hs := hi.1
  have hlL := (hs.tw act_tb hi8).lead hl
  have e4 : ∀ X, ld 2 X = 0 := fun X => rfl
  have h := blk_inv (v := v) (u' := u) (Q := fun X => w (8 * (w (8 * w 3 + i) / 4) + j) / 4 ≠ 0 ∧ X = w (8 * (w (8 * w 3 + i) / 4) + j) / 4 ∧ T w (w (8 * (w (8 * w 3 + i) / 4) + j) / 4) = 1) hi (fun X hX => rfl) (fun X hX => by
      have h3 := (hlL.2.2.2 j hj8).lead hX.1
      have h4 := h3.1.pos
      rw [hX.2.1]
      exact ⟨h4.1, Or.inr (by omega)⟩) hi8 hj8 hl hown
    (z := 2) (Or.inr ⟨hsz, Or.inl rfl⟩) vB vO (fun X hX h0 => by rw [vK X hX h0, e4, Nat.add_zero]) (fun X hX h0 => rfl) (fun X hX h0 k hk => by
      rw [e4, Nat.add_zero] at h0
      by_cases h7 : ld (w (8 * (w (8 * w 3 + i) / 4) + j)) X = 0
      · have h5 : T w X = 0 := by omega
        have h6 := hi.2.2.1 X hX h5 k hk
        have hlne : X ≠ w (8 * w 3 + i) / 4 := fun e => by rw [← e] at hown; omega
        rw [vO _ ?_ (by omega) ?_]
        · exact h6
        · rw [ix_div hk]
          rintro ⟨-, e, h8⟩
          rw [← e] at h8
          omega
        · rintro ⟨k2, hk2, hk0, e⟩
          rw [ix_div hk] at e
          have := T_keep hk2 hk0
          rw [← e] at this
          omega
      · have h10 := ld_le (w (8 * (w (8 * w 3 + i) / 4) + j)) X
        have h11 := h7
        unfold ld at h7
        split at h7
        · exact absurd rfl h7
        · next h8 =>
          have h9 := iv_pos h7
          rw [← h9]
          exact vZ h8 (by rw [h9]; omega) k hk) vb
  exact ⟨h.1, fun X => by have := h.2 X; rw [e4] at this; omega⟩
/-- words of a block's cluster may be any -/
theorem data_inv (hi : Inv w u) {c : Nat} (h1 : 1 ≤ c) (hu : 24 ≤ u c) (hT : T w c ≠ 0) (vO : ∀ p, p / 8 ≠ c → v p = w p) (vb : ∀ p, v p < 4294967296) : Inv v u ∧ ∀ X, T v X = T w X := by
  have hs := hi.1
  have hcl : ∀ X k, k < 8 → u X < 24 → v (8 * X + k) = w (8 * X + k) := fun X k hk hX => vO _ (by rw [ix_div hk]; intro e; rw [e] at hX; omega)
  have hH : ∀ p, p < 8 → v p = w p := fun p hp => vO p (by omega)
  have hct : ∀ k, k < 8 → v (8 * w 4 + k) = w (8 * w 4 + k) := fun k hk => hcl _ k hk (by have := hs.ct; omega)
  have hls : w 6 ≠ 0 → ∀ k, k < 8 → v (8 * w 6 + k) = w (8 * w 6 + k) := fun h6 k hk => hcl _ k hk (by have := hs.list h6; omega)
  have htw : ∀ t i2, TB w t → i2 < 8 → v (8 * t + i2) = w (8 * t + i2) := fun t i2 ht hi2 => hcl _ i2 hi2 (by have h3 := (hs.tb ht).2.2; omega)
  have hLF : ∀ t i2 j2, TB w t → i2 < 8 → j2 < 8 → w (8 * t + i2) / 4 ≠ 0 → v (8 * (w (8 * t + i2) / 4) + j2) = w (8 * (w (8 * t + i2) / 4) + j2) := fun t i2 j2 ht hi2 hj2 h0 => hcl _ j2 hj2 (by have h3 := ((hs.tw ht hi2).lead h0).2.2.1; omega)
  have etab : ∀ k, k < w 5 → tab v k = tab w k := fun k hk => by
    unfold tab
    rw [hH 6 (by decide)]
    have := hs.ns
    exact hls (this.2 (by omega)) _ (by omega)
  have htc : ∀ X t, TB w t → tc v X t = tc w X t := fun X t ht => tc_congr (fun i2 hi2 => by rw [htw _ i2 ht hi2]) (fun i2 hi2 h0 j2 hj2 => by rw [hLF _ i2 j2 ht hi2 hj2 h0])
  have hT2 : ∀ X, T v X = T w X := fun X => by
    have e1 := TF (v := v) X (fun p _ hp => hH p (by omega)) hct etab (fun j hj => htc X _ (tab_tb hj))
    rw [htc X _ act_tb] at e1
    omega
  refine ⟨Inv_mk hi ?_ hH hct hls ?_ ?_ vb, hT2⟩
  · exact StrF hs (fun X hX => rfl) (fun p _ hp => hH p (by omega)) (fun k hk => Or.inl (hct k hk)) (fun h6 k hk => by have := hs.ns; exact hls h6 _ (by omega)) (fun t i2 ht hi2 => Or.inl (htw t i2 ht hi2)) (fun t i2 j2 ht hi2 hj2 _ h0 => Or.inl (hLF t i2 j2 ht hi2 hj2 h0))
  · intro X hX
    rw [hT2 X]
    split
    · next h0 => exact (hi.noK hX h0).symm
    · next h0 =>
      rw [← hi.cntAt hX h0]
      unfold cpl
      have h3 := hs.keep (show X / 8 < 8 by omega) h0
      exact hcl _ _ (by omega) (by omega)
  · intro X hX h0 k hk
    rw [hT2 X] at h0
    rw [vO _ (by rw [ix_div hk]; intro e; rw [e] at h0; exact hT h0)]
    exact hi.2.2.1 X hX h0 k hk
end ST3
