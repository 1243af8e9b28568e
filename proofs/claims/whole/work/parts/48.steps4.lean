/-! ===== what the steps of a commit leave as it was ===== -/
/-- words alike but for the mark -/
def sim (x y : Nat) : Prop := x / 4 = y / 4 ∧ (y / 4 = 0 → x = y)
section S4
variable {V W' u : Nat → Nat}
theorem sim_refl (x : Nat) : sim x x := ⟨rfl, fun _ => rfl⟩
theorem sim_trans {x y z : Nat} (h1 : sim x y) (h2 : sim y z) : sim x z := ⟨h1.1.trans h2.1, fun e => (h1.2 (by rw [h2.1]; exact e)).trans (h2.2 e)⟩
theorem sim_symm {x y : Nat} (h : sim x y) : sim y x := ⟨h.1.symm, fun e => (h.2 (by rw [← h.1]; exact e)).symm⟩
theorem agr_aw {v w : Nat → Nat} (ha : Agr v w u) (hs : Str w u) {m : Nat} (hm : m < 64) : sim (awd v m) (awd w m) := by
  have e3 := ha.hdr (p := 3) (by decide)
  have e := ha.tb4 hs act_tb (show m / 8 < 8 by omega)
  unfold awd bwd
  rw [e3, e]
  split
  · exact sim_refl _
  · next h0 =>
    rcases ha.lfw hs act_tb (show m / 8 < 8 by omega) (show m % 8 < 8 by omega) h0 with e2 | ⟨e2, e3, e4⟩
    · rw [e2]; exact sim_refl _
    · exact ⟨e3, fun e5 => absurd e5 e2⟩
theorem gL_more (hi : Inv V u) {n : Nat} (hn : n < V 2) (hr : nLeaf V n ≤ rm V) : (∀ i, i < 8 → i ≠ n / 8 → gL V n (8 * V 3 + i) = V (8 * V 3 + i)) ∧ (∀ m, m < 64 → awd (gL V n) m = awd V m) ∧ (∀ i, i < 8 → i ≠ n / 8 → V (8 * V 3 + i) / 4 ≠ 0 → T (gL V n) (V (8 * V 3 + i) / 4) = T V (V (8 * V 3 + i) / 4)) := by
  have hs := hi.1
  have hn64 := hs.sz.2
  by_cases ho : ow V (V (8 * V 3 + n / 8)) = true
  · have e : gL V n = V := if_pos ho
    rw [e]
    exact ⟨fun _ _ _ => rfl, fun _ _ => rfl, fun _ _ _ _ => rfl⟩
  · have en : nLeaf V n = 1 := if_neg ho
    rw [en] at hr
    obtain ⟨u0, ha0, hu0, -, -, -, -, -, hTT, hO, hH, hC5⟩ := tk_spec hi hr
    obtain ⟨u1, ha, hI, hT, vC, vA, vO, hC1, hC2, hC3⟩ := gL_specT hi hn ho hr
    have hsv := ha.1
    have hi8 : n / 8 < 8 := by omega
    have e3 := hH 3 (by decide)
    have hact := hs.act
    have hct := hs.ct
    have hne34 : V 3 ≠ V 4 := fun e => by rw [e] at hact; omega
    have hlf4 : ∀ i, i < 8 → V (8 * V 3 + i) / 4 ≠ 0 → V (8 * V 3 + i) / 4 ≠ V 4 := fun i hi2 h0 e => by have := ((hs.tw act_tb hi2).lead h0).2.2.1; rw [e] at this; omega
    have htw : ∀ i, i < 8 → tkW V (8 * V 3 + i) = V (8 * V 3 + i) := fun i hi2 => hO _ (by rw [ix_div hi2]; have := T_act (w := V); omega) (by rw [ix_div hi2]; exact hne34)
    have htl : ∀ i j, i < 8 → j < 8 → V (8 * V 3 + i) / 4 ≠ 0 → tkW V (8 * (V (8 * V 3 + i) / 4) + j) = V (8 * (V (8 * V 3 + i) / 4) + j) := fun i j hi2 hj h0 => hO _ (by rw [ix_div hj]; have := T_leaf act_tb hi2 h0; omega) (by rw [ix_div hj]; exact hlf4 i hi2 h0)
    rw [e3] at vA vO hT vC
    rw [htw _ hi8] at hT vC
    have hG3 : gL V n 3 = V 3 := by rw [vO 3 (by omega) (by omega) (nk0 (by decide))]; exact e3
    have hne3 : V 3 ≠ tkC V := ne_fresh hC5 T_act
    have hact1 := hsv.act
    rw [e3] at hact1
    have hGt : ∀ i, i < 8 → i ≠ n / 8 → gL V n (8 * V 3 + i) = V (8 * V 3 + i) := fun i hi2 hne => by
      rw [vO _ (by rw [ix_div hi2]; exact hne3) (by omega) (hsv.nk (by rw [ix_div hi2]; omega)), htw i hi2]
    have hGl : ∀ i j, i < 8 → j < 8 → V (8 * V 3 + i) / 4 ≠ 0 → gL V n (8 * (V (8 * V 3 + i) / 4) + j) = V (8 * (V (8 * V 3 + i) / 4) + j) := fun i j hi2 hj h0 => by
      have h1 := T_leaf act_tb hi2 h0
      have h2 := ((hs.tw act_tb hi2).lead h0).2.2.1
      have h3 : V (8 * V 3 + i) / 4 ≠ V 3 := fun e => by rw [e] at h2; omega
      have h4 : u1 (V (8 * V 3 + i) / 4) = 8 + i := by
        have h5 := (hsv.tw act_tb hi2).lead (by rw [e3, htw i hi2]; exact h0)
        rw [e3, htw i hi2] at h5
        exact h5.2.2.1
      rw [vO _ (by rw [ix_div hj]; exact ne_fresh hC5 h1) (by omega) (hsv.nk (by rw [ix_div hj]; omega)), htl i j hi2 hj h0]
    refine ⟨hGt, fun m hm => ?_, fun i hi2 hne h0 => ?_⟩
    · unfold awd bwd
      rw [hG3]
      by_cases em : m / 8 = n / 8
      · rw [em, vA, if_neg (by omega), show (4 * tkC V + 1) / 4 = tkC V by omega, vC _ (by omega)]
        split
        · rfl
        · next h0 => exact htl _ _ hi8 (by omega) h0
      · rw [hGt _ (by omega) em]
        split
        · rfl
        · next h0 => exact hGl _ _ (by omega) (by omega) h0
    · have h1 := T_leaf act_tb hi2 h0
      have h3 := hT (V (8 * V 3 + i) / 4)
      have h4 : ld (V (8 * V 3 + n / 8)) (V (8 * V 3 + i) / 4) = 0 := by
        unfold ld
        split
        · rfl
        · next h5 =>
          refine iv_ne fun e => ?_
          have h6 := ((hs.tw act_tb hi8).lead h5).2.2.1
          have h7 := ((hs.tw act_tb hi2).lead h0).2.2.1
          rw [e] at h6
          omega
      rw [h4, iv_ne (fun e => ne_fresh hC5 h1 e.symm), hTT _ (by omega)] at h3
      omega
theorem gC_more (hi : Inv V u) {n : Nat} {dat : Nat → Nat} (hn : n < V 2) (ho : ow V (V (8 * V 3 + n / 8)) = true) (hr : nClus V n ≤ rm V) (hd : ∀ j, dat j < 4294967296) : (∀ m, m < 64 → m ≠ n → awd (gC V n dat) m = awd V m) ∧ (∀ X, T V X ≠ 0 → X ≠ awd V n / 4 → T (gC V n dat) X = T V X) ∧ T (gC V n dat) (V (8 * V 3 + n / 8) / 4) = 1 := by
  have hs := hi.1
  have hn64 := hs.sz.2
  obtain ⟨hl, hown⟩ := ow_iff.mp ho
  have hi8 : n / 8 < 8 := by omega
  have hj8 : n % 8 < 8 := by omega
  have eaw := awd_own (w := V) (b := n) hl
  have hlL := (hs.tw act_tb hi8).lead hl
  have hyl : awd V n / 4 ≠ 0 → V (8 * V 3 + n / 8) / 4 ≠ awd V n / 4 := fun h0 e => by
    have h1 := ((hs.bok act_tb (show n < 64 by omega)).lead (show bwd V (V 3) n / 4 ≠ 0 from h0)).2.2
    have h1 : u (awd V n / 4) = 24 + (8 * (n / 8) + n % 8) := h1
    rw [← e] at h1
    omega
  by_cases hoc : ow V (awd V n) = true
  · have e : gC V n dat = V := if_pos hoc
    rw [e]
    exact ⟨fun _ _ _ => rfl, fun _ _ _ => rfl, hown⟩
  · have en : nClus V n = 1 := if_neg hoc
    rw [en] at hr
    obtain ⟨u2, hI2, hu2, hc2, hc3, hc4, hc5, hc6, hH2, hA2, hr2⟩ := gC_spec (dat := dat) hi hn ho (by rw [en]; exact hr) hd
    obtain ⟨u0, ha0, hu0, -, -, -, -, -, hTT, hO, hH, hC5⟩ := tk_spec hi hr
    obtain ⟨u1, ha, hI, hT, e3, t1, vB, vD, vO, hC1, hC2, hC3, -, hlne, hul, hl64⟩ := gC_specT hi hn ho hoc hr hd
    have hsv := ha.1
    have hct := hs.ct
    have hact := hs.act
    have hne34 : V 3 ≠ V 4 := fun e => by rw [e] at hact; omega
    have hTX : ∀ X, T V X ≠ 0 → X ≠ awd V n / 4 → T (gC V n dat) X = T V X := fun X hX hne => by
      have h3 := hT X
      have h4 : ld (V (8 * (V (8 * V 3 + n / 8) / 4) + n % 8)) X = 0 := by
        unfold ld
        rw [← eaw]
        split
        · rfl
        · exact iv_ne fun e => hne e.symm
      rw [h4, iv_ne (fun e => ne_fresh hC5 (show 1 ≤ T V X by omega) e.symm), hTT X hX] at h3
      omega
    refine ⟨fun m hm hne => ?_, hTX, ?_⟩
    · unfold awd bwd
      rw [hH2 3 (by decide), hA2 _ (by omega)]
      split
      · rfl
      · next h0 =>
        have hi2 : m / 8 < 8 := by omega
        have h1 := T_leaf act_tb hi2 h0
        have h2 := ((hs.tw act_tb hi2).lead h0).2.2.1
        have h4 : u1 (V (8 * V 3 + m / 8) / 4) = 8 + m / 8 := by
          have h6 : tkW V (8 * V 3 + m / 8) = V (8 * V 3 + m / 8) := hO _ (by rw [ix_div hi2]; have := T_act (w := V); omega) (by rw [ix_div hi2]; exact hne34)
          have h5 := (hsv.tw act_tb hi2).lead (by rw [e3, h6]; exact h0)
          rw [e3, h6] at h5
          exact h5.2.2.1
        have hq : 8 * (V (8 * V 3 + m / 8) / 4) + m % 8 ≠ 8 * (V (8 * V 3 + n / 8) / 4) + n % 8 := fun e => by
          have e5 : V (8 * V 3 + m / 8) / 4 = V (8 * V 3 + n / 8) / 4 := by omega
          rw [e5] at h2
          have := hlL.2.2.1
          omega
        rw [vO _ (by rw [ix_div (by omega)]; exact ne_fresh hC5 h1) hq (hsv.nk (by rw [ix_div (by omega)]; omega))]
        exact hO _ (by rw [ix_div (by omega)]; omega) (by rw [ix_div (by omega)]; intro e; rw [e] at h2; omega)
    · by_cases h0 : awd V n / 4 = 0
      · rw [hTX _ (by omega) (by omega)]; exact hown
      · rw [hTX _ (by omega) (hyl h0)]; exact hown
theorem mz_more (hi : Inv V u) {n : Nat} (hn : n < V 2) (ho : ow V (V (8 * V 3 + n / 8)) = true) : (∀ i, i < 8 → mzF V n (8 * V 3 + i) / 4 = V (8 * V 3 + i) / 4) ∧ (∀ m, m < 64 → m ≠ n → sim (awd (mzF V n) m) (awd V m)) ∧ (∀ X, X ≠ awd V n / 4 → T (mzF V n) X = T V X) ∧ T (mzF V n) (V (8 * V 3 + n / 8) / 4) = 1 := by
  have hs := hi.1
  have hn64 := hs.sz.2
  obtain ⟨hl, hown⟩ := ow_iff.mp ho
  have hi8 : n / 8 < 8 := by omega
  have hj8 : n % 8 < 8 := by omega
  have eaw := awd_own (w := V) (b := n) hl
  have hlL := (hs.tw act_tb hi8).lead hl
  obtain ⟨⟨hI, hT⟩, hH⟩ := mzF_specT hi hn ho
  have hag := mz_agr hi hn ho
  have e3 := hH 3 (by decide)
  have hf3 : flg V u 3 = V 3 := (flg_agr V u).hdr (by decide)
  have hact := hs.act
  have hl3 : V 3 ≠ V (8 * V 3 + n / 8) / 4 := fun e => by have := hlL.2.2.1; rw [← e] at this; omega
  have hTX : ∀ X, X ≠ awd V n / 4 → T (mzF V n) X = T V X := fun X hne => by
    have h3 := hT X
    have h4 : ld (V (8 * (V (8 * V 3 + n / 8) / 4) + n % 8)) X = 0 := by
      unfold ld
      rw [← eaw]
      split
      · rfl
      · exact iv_ne fun e => hne e.symm
    omega
  have hyl : V (8 * V 3 + n / 8) / 4 ≠ awd V n / 4 := fun e => by
    have h0 : awd V n / 4 ≠ 0 := by rw [← e]; exact hl
    have h1 := ((hs.bok act_tb (show n < 64 by omega)).lead (show bwd V (V 3) n / 4 ≠ 0 from h0)).2.2
    have h1 : u (awd V n / 4) = 24 + (8 * (n / 8) + n % 8) := h1
    rw [← e] at h1
    omega
  refine ⟨fun i hi2 => ?_, fun m hm hne => ?_, hTX, by rw [hTX _ hyl]; exact hown⟩
  · have h1 := hag.tb4 hI.1 act_tb hi2
    rw [e3, up_ne (by omega)] at h1
    rw [← h1]
    exact (flg_agr V u).tb4 hs act_tb hi2
  · have h1 := agr_aw hag hI.1 hm
    have h2 : awd (up (flg V u) (8 * (V (8 * V 3 + n / 8) / 4) + n % 8) 2) m = awd (flg V u) m := by
      have hlp := hlL.1.pos
      unfold awd bwd
      rw [up_ne (show 3 ≠ 8 * (V (8 * V 3 + n / 8) / 4) + n % 8 by omega), hf3, up_ne (by omega)]
      split
      · rfl
      · next h0 =>
        rw [up_ne]
        intro e
        have e4 := (flg_agr V u).tb4 hs act_tb (show m / 8 < 8 by omega)
        rw [e4] at h0 e
        have h5 := ((hs.tw act_tb (show m / 8 < 8 by omega)).lead h0).2.2.1
        have e5 : V (8 * V 3 + m / 8) / 4 = V (8 * V 3 + n / 8) / 4 := by omega
        rw [e5] at h5
        have := hlL.2.2.1
        omega
    rw [h2] at h1
    exact sim_trans (sim_symm h1) (agr_aw (flg_agr V u) hs hm)
end S4
