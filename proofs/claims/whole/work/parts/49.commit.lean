/-! ===== a commit, block by block ===== -/
def cmT (b : Nat) (wu V : Nat → Nat) (n : Nat) : Nat := if awd wu n / 4 ≠ 0 then nLeaf V n + nClus V n else if awd wu n = 2 ∧ dch b (awd V n) = true then nLeaf V n else 0
def cmS (b : Nat) (W : Nat → Nat → Nat) (wu V : Nat → Nat) (n : Nat) : Nat → Nat := if awd wu n / 4 ≠ 0 then cpc (gC (gL V n) n (datm (gL V n) W b n)) wu (awd wu n / 4) (gCc (gL V n) n) else if awd wu n = 2 ∧ dch b (awd V n) = true then mzF (gL V n) n else V
def cmV (b : Nat) (W : Nat → Nat → Nat) (wu w0 : Nat → Nat) : Nat → Nat → Nat
  | 0 => up w0 2 (wu 2)
  | n + 1 => cmS b W wu (cmV b W wu w0 n) n
/-- whether a block changes, by the file as it is before -/
def cmC (b : Nat) (wu w0 : Nat → Nat) (n : Nat) : Bool := decide (awd wu n / 4 ≠ 0 ∨ (awd wu n = 2 ∧ dch b (awd w0 n) = true))
def cmL (b : Nat) (wu w0 : Nat → Nat) : Nat → Nat
  | 0 => 0
  | n + 1 => if cmC b wu w0 n = true then n / 8 + 1 else cmL b wu w0 n
def cmK (b : Nat) (wu w0 : Nat → Nat) : Nat → Nat
  | 0 => 0
  | n + 1 => cmK b wu w0 n + (if awd wu n / 4 ≠ 0 then nClus w0 n else 0) + if cmC b wu w0 n = true ∧ cmL b wu w0 n ≠ n / 8 + 1 then nLeaf w0 n else 0
def JJ (b : Nat) (wu w0 : Nat → Nat) (n : Nat) (V u : Nat → Nat) : Prop :=
  Inv V u ∧ (∀ p, p < 8 → p ≠ 2 → V p = w0 p) ∧ V 2 = wu 2 ∧ (∀ m, n ≤ m → m < 64 → sim (awd V m) (awd w0 m) ∧ (awd w0 m / 4 ≠ 0 → T V (awd w0 m / 4) = T w0 (awd w0 m / 4)))
    ∧ (∀ i, i < 8 → n ≤ 8 * i + 7 → if cmL b wu w0 n = i + 1 then ow V (V (8 * w0 3 + i)) = true else (V (8 * w0 3 + i) / 4 = w0 (8 * w0 3 + i) / 4 ∧ (w0 (8 * w0 3 + i) / 4 ≠ 0 → T V (w0 (8 * w0 3 + i) / 4) = T w0 (w0 (8 * w0 3 + i) / 4)))) ∧ rm w0 ≤ rm V + cmK b wu w0 n
section CM
variable {b n : Nat} {wu w0 V u v w : Nat → Nat} {W U : Nat → Nat → Nat}
theorem ow_eq {x y : Nat} (e : x / 4 = y / 4) (hT : y / 4 ≠ 0 → T V (y / 4) = T w (y / 4)) : ow V x = ow w y := by
  unfold ow
  rw [e]
  by_cases h0 : y / 4 = 0
  · simp [h0]
  · rw [hT h0]
theorem dch_sim {x y : Nat} (h : sim x y) : dch b x = dch b y := by
  unfold dch
  by_cases h0 : y / 4 = 0
  · rw [h.2 h0]
  · rw [decide_eq_true (show x / 4 ≠ 0 ∨ x = 0 ∧ b ≠ 0 from Or.inl (by rw [h.1]; exact h0)), decide_eq_true (show y / 4 ≠ 0 ∨ y = 0 ∧ b ≠ 0 from Or.inl h0)]
theorem cmL_le : ∀ n, cmL b wu w0 n ≤ n / 8 + 1 := by
  intro n
  induction n with
  | zero => exact Nat.zero_le _
  | succ n ih =>
    rw [cmL]
    split
    · omega
    · omega
/-- what a block takes as it comes is what was counted for it before -/
theorem JJ_take (J : JJ b wu w0 n V u) (hn : n < 64) : cmK b wu w0 (n + 1) = cmK b wu w0 n + cmT b wu V n := by
  obtain ⟨hi, hH, h2, ha, hl, hr⟩ := J
  have e3 := hH 3 (by decide) (by decide)
  have h1 := ha n (Nat.le_refl n) hn
  have hc : nClus V n = nClus w0 n := by
    unfold nClus
    rw [ow_eq h1.1.1 h1.2]
  have hlf : nLeaf V n = if cmL b wu w0 n = n / 8 + 1 then 0 else nLeaf w0 n := by
    have h3 := hl (n / 8) (by omega) (by omega)
    unfold nLeaf
    rw [e3]
    by_cases e : cmL b wu w0 n = n / 8 + 1
    · rw [if_pos e] at h3 ⊢
      rw [if_pos h3]
    · rw [if_neg e] at h3 ⊢
      rw [ow_eq h3.1 h3.2]
  have hd : dch b (awd V n) = dch b (awd w0 n) := dch_sim h1.1
  rw [cmK, hc.symm]
  unfold cmT
  by_cases h4 : awd wu n / 4 = 0
  · have hz : ¬ (awd wu n / 4 ≠ 0) := fun e => e h4
    simp only [if_neg hz, Nat.add_zero]
    by_cases h5 : awd wu n = 2 ∧ dch b (awd V n) = true
    · rw [if_pos h5]
      have h6 : cmC b wu w0 n = true := decide_eq_true (Or.inr ⟨h5.1, by rw [← hd]; exact h5.2⟩)
      rw [hlf]
      by_cases e : cmL b wu w0 n = n / 8 + 1
      · rw [if_pos e, if_neg (fun z => z.2 e)]
      · rw [if_neg e, if_pos ⟨h6, e⟩]
    · rw [if_neg h5, if_neg]
      rintro ⟨z, -⟩
      rcases of_decide_eq_true z with z | z
      · exact z h4
      · exact h5 ⟨z.1, by rw [hd]; exact z.2⟩
  · have hz : awd wu n / 4 ≠ 0 := h4
    simp only [if_pos hz]
    have h6 : cmC b wu w0 n = true := decide_eq_true (Or.inl h4)
    rw [hlf]
    by_cases e : cmL b wu w0 n = n / 8 + 1
    · rw [if_pos e, if_neg (fun z => z.2 e)]
      omega
    · rw [if_neg e, if_pos ⟨h6, e⟩]
      omega
theorem awd_data (hs : Str w u) {c : Nat} (h1 : 1 ≤ c) (hc : 24 ≤ u c) (hv : ∀ p, p / 8 ≠ c → v p = w p) {m : Nat} (hm : m < 64) : awd v m = awd w m := by
  have hact := hs.act
  unfold awd bwd
  rw [hv 3 (by omega), hv _ (by rw [ix_div (by omega)]; intro e; rw [e] at hact; omega)]
  split
  · rfl
  · next h0 => exact hv _ (by rw [ix_div (by omega)]; intro e; have := ((hs.tw act_tb (show m / 8 < 8 by omega)).lead h0).2.2.1; rw [e] at this; omega)
theorem rm_mono {v u' : Nat → Nat} (hi : Inv w u) (hv : Inv v u') (hT : ∀ X, T v X ≤ T w X) (h4 : v 4 = w 4) (hk : ∀ k, k < 8 → v (8 * w 4 + k) = w (8 * w 4 + k)) : rm w ≤ rm v := by
  have e1 : inUse v ≤ inUse w := by
    rw [inUse_T hv, inUse_T hi]
    refine sm_le fun c _ => ?_
    have := hT c
    show (if 0 < T v c then 1 else 0) ≤ if 0 < T w c then 1 else 0
    by_cases e : 0 < T v c
    · rw [if_pos e, if_pos (by omega)]
      exact Nat.le_refl _
    · rw [if_neg e]
      exact Nat.zero_le _
  have e2 : noKeep v = noKeep w := by
    unfold noKeep
    rw [h4]
    exact sm_congr fun k hk2 => by rw [hk k hk2]
  unfold rm
  omega
theorem JJ_base {u0 : Nat → Nat} (hi : Inv w0 u0) (h1 : w0 2 ≤ wu 2) (h2 : wu 2 ≤ 64) : JJ b wu w0 0 (up w0 2 (wu 2)) u0 := by
  obtain ⟨g1, g2, g3⟩ := grow_inv hi h1 h2
  have hs := hi.1
  have hact := hs.act
  have hp : ∀ p, p ≠ 2 → up w0 2 (wu 2) p = w0 p := fun p hp => up_ne hp
  have haw : ∀ m, m < 64 → awd (up w0 2 (wu 2)) m = awd w0 m := fun m hm => by
    unfold awd bwd
    rw [hp 3 (by decide), hp _ (by omega)]
    split
    · rfl
    · next h0 => exact hp _ (by omega)
  refine ⟨g1, fun p _ h => hp p h, up_at, fun m _ hm => ⟨by rw [haw m hm]; exact sim_refl _, fun _ => g3 _⟩, fun i hi8 _ => ?_, ?_⟩
  · rw [if_neg (by simp [cmL])]
    rw [hp _ (by omega)]
    exact ⟨rfl, fun _ => g3 _⟩
  · have h9 := rm_mono (w := w0) (v := up w0 2 (wu 2)) hi g1 (fun X => by rw [g3]; exact Nat.le_refl _) (hp 4 (by decide)) (fun k hk => hp _ (by have := hs.ct; omega))
    omega
theorem JJ_step (J : JJ b wu w0 n V u) (hsu : ∃ uu, Str wu uu) (hn : n < 64) (hr : cmT b wu V n ≤ rm V) (hWb : ∀ j p, W j p < 4294967296) (hub : ∀ p, wu p < 4294967296) : ∃ u', JJ b wu w0 (n + 1) (cmS b W wu V n) u' := by
  have hK := JJ_take J hn
  obtain ⟨hi, hH, h2, ha, hl, hrm⟩ := J
  have hs := hi.1
  have e3 := hH 3 (by decide) (by decide)
  obtain ⟨uu, hsu⟩ := hsu
  have hbu := hsu.bok act_tb hn
  have hLle := cmL_le (b := b) (wu := wu) (w0 := w0) n
  have h1 := ha n (Nat.le_refl n) hn
  have hd : dch b (awd V n) = dch b (awd w0 n) := dch_sim h1.1
  have hdat := fun m => ((hs.bok act_tb (b := m)))
  -- clusters of other blocks
  have hblk : ∀ m, m < 64 → awd V m / 4 ≠ 0 → u (awd V m / 4) = 24 + m ∧ T V (awd V m / 4) ≠ 0 := fun m hm h0 => by
    have h5 := ((hs.bok act_tb hm).lead (show bwd V (V 3) m / 4 ≠ 0 from h0)).2.2
    have h5 : u (awd V m / 4) = 24 + (8 * (m / 8) + m % 8) := h5
    have h6 : 1 ≤ T V (awd V m / 4) := T_bw act_tb hm h0
    exact ⟨by rw [h5]; omega, by omega⟩
  by_cases h4 : awd wu n / 4 = 0
  · by_cases h5 : awd wu n = 2 ∧ dch b (awd V n) = true
    · -- made zero
      have hns : n < V 2 := by
        rw [h2]
        rcases hbu with e | ⟨e, -⟩
        · have e : awd wu n = 0 := e
          omega
        · omega
      have eS : cmS b W wu V n = mzF (gL V n) n := by
        unfold cmS
        rw [if_neg (fun e => e h4), if_pos h5]
      have eT : cmT b wu V n = nLeaf V n := by
        unfold cmT
        rw [if_neg (fun e => e h4), if_pos h5]
      have hC : cmC b wu w0 n = true := decide_eq_true (Or.inr ⟨h5.1, by rw [← hd]; exact h5.2⟩)
      have eL : cmL b wu w0 (n + 1) = n / 8 + 1 := by rw [cmL, if_pos hC]
      rw [eT] at hr hK
      obtain ⟨u1, hI1, hu1, ho1, hrm1, haw1, hT1, hH1, hO1⟩ := gL_spec hi hns hr
      obtain ⟨m1, m2, m3⟩ := gL_more hi hns hr
      have hns1 : n < gL V n 2 := by rw [hH1 2 (by decide)]; exact hns
      have e13 : gL V n 3 = V 3 := hH1 3 (by decide)
      obtain ⟨⟨hI2, hT2⟩, hH2⟩ := mzF_specT hI1 hns1 ho1
      obtain ⟨z1, z2, z3, z4⟩ := mz_more hI1 hns1 ho1
      have hag := mz_agr hI1 hns1 ho1
      rw [eS]
      refine ⟨u1, hI2, fun p hp hp2 => by rw [hH2 p hp, hH1 p hp]; exact hH p hp hp2, by rw [hH2 2 (by decide), hH1 2 (by decide)]; exact h2, fun m hm1 hm => ?_, fun i hi8 hni => ?_, ?_⟩
      · have hm3 := ha m (by omega) hm
        have z5 := z2 m hm (by omega)
        rw [m2 m hm] at z5
        refine ⟨sim_trans z5 hm3.1, fun h0 => ?_⟩
        rw [← hm3.2 h0]
        rw [← hm3.1.1] at h0 ⊢
        obtain ⟨q1, q2⟩ := hblk m hm h0
        rw [z3 _ (fun e => by
          rw [haw1] at e
          have h0n : awd V n / 4 ≠ 0 := by rw [← e]; exact h0
          have := (hblk n hn h0n).1
          rw [← e] at this
          omega), hT1 _ (by omega) q2]
      · rw [eL]
        by_cases e : n / 8 + 1 = i + 1
        · rw [if_pos e]
          have e' : i = n / 8 := by omega
          obtain ⟨o1, o2⟩ := ow_iff.mp ho1
          rw [e13] at o1 o2 z1 z4
          refine ow_iff.mpr ?_
          rw [← e3, e', z1 _ (by omega)]
          exact ⟨o1, z4⟩
        · rw [if_neg e]
          have hi3 := hl i hi8 (by omega)
          rw [if_neg (by omega)] at hi3
          rw [e13] at z1
          rw [← e3] at hi3 ⊢
          rw [z1 i hi8, m1 i hi8 (by omega)]
          refine ⟨hi3.1, fun h0 => ?_⟩
          rw [← hi3.2 h0]
          rw [← hi3.1] at h0 ⊢
          rw [z3 _ (fun e5 => by
            rw [haw1] at e5
            have h0n : awd V n / 4 ≠ 0 := by rw [← e5]; exact h0
            have h6 := (hblk n hn h0n).1
            have h7 := ((hs.tw act_tb hi8).lead h0).2.2.1
            rw [e5] at h7
            omega), m3 i hi8 (by omega) h0]
      · have h9 := rm_mono (w := gL V n) (v := mzF (gL V n) n) hI1 hI2 (fun X => by have := hT2 X; omega) (hH2 4 (by decide)) (fun k hk => by
          have h10 := hag.ctw hI2.1 hk
          rw [hH2 4 (by decide)] at h10
          have hlp := (hI1.1.tw act_tb (show n / 8 < 8 by omega)).lead (ow_iff.mp ho1).1
          rw [← h10, up_ne (fun e5 => by
            have e6 : gL V n 4 = gL V n (8 * gL V n 3 + n / 8) / 4 := by omega
            have h11 := hI1.1.ct
            rw [e6] at h11
            omega)]
          exact (flg_agr (gL V n) u1).ctw hI1.1 hk)
        omega
    · -- as it was
      have eS : cmS b W wu V n = V := by
        unfold cmS
        rw [if_neg (fun e => e h4), if_neg h5]
      have eT : cmT b wu V n = 0 := by
        unfold cmT
        rw [if_neg (fun e => e h4), if_neg h5]
      have hC : ¬ cmC b wu w0 n = true := fun z => by
        rcases of_decide_eq_true z with z | z
        · exact z h4
        · exact h5 ⟨z.1, by rw [hd]; exact z.2⟩
      have eL : cmL b wu w0 (n + 1) = cmL b wu w0 n := by rw [cmL, if_neg hC]
      rw [eS]
      refine ⟨u, hi, hH, h2, fun m hm1 hm => ha m (by omega) hm, fun i hi8 hni => ?_, ?_⟩
      · rw [eL]
        exact hl i hi8 (by omega)
      · rw [hK, eT]
        exact hrm
  · -- written
    have hns : n < V 2 := by
      rw [h2]
      have := hbu.lead (show bwd wu (wu 3) n / 4 ≠ 0 from h4)
      omega
    have eS : cmS b W wu V n = cpc (gC (gL V n) n (datm (gL V n) W b n)) wu (awd wu n / 4) (gCc (gL V n) n) := by
      unfold cmS
      rw [if_pos h4]
    have eT : cmT b wu V n = nLeaf V n + nClus V n := by
      unfold cmT
      rw [if_pos h4]
    have hC : cmC b wu w0 n = true := decide_eq_true (Or.inl h4)
    have eL : cmL b wu w0 (n + 1) = n / 8 + 1 := by rw [cmL, if_pos hC]
    rw [eT] at hr hK
    obtain ⟨u1, hI1, hu1, ho1, hrm1, haw1, hT1, hH1, hO1⟩ := gL_spec hi hns (by omega)
    obtain ⟨m1, m2, m3⟩ := gL_more hi hns (by omega)
    have hcl := gL_clus hi hns (by omega)
    have hns1 : n < gL V n 2 := by rw [hH1 2 (by decide)]; exact hns
    have e13 : gL V n 3 = V 3 := hH1 3 (by decide)
    have hdl := datm_lt (V := gL V n) (W := W) hI1.2.2.2.2 hWb b n
    obtain ⟨u2, hI2, hu2, hc2, hc3, hc4, hc5, hc6, hH2, hA2, hrm2⟩ := gC_spec (dat := datm (gL V n) W b n) hI1 hns1 ho1 (by omega) hdl
    obtain ⟨z2, z3, z4⟩ := gC_more (dat := datm (gL V n) W b n) hI1 hns1 ho1 (by omega) hdl
    have hcp : ∀ p, p / 8 ≠ gCc (gL V n) n → cpc (gC (gL V n) n (datm (gL V n) W b n)) wu (awd wu n / 4) (gCc (gL V n) n) p = gC (gL V n) n (datm (gL V n) W b n) p := fun p hp => by
      unfold cpc
      rw [if_neg hp]
    obtain ⟨hI3, hT3⟩ := data_inv (v := cpc (gC (gL V n) n (datm (gL V n) W b n)) wu (awd wu n / 4) (gCc (gL V n) n)) hI2 hc3 (by omega) (by omega) hcp (fun p => by
      unfold cpc
      split
      · exact hub _
      · exact hI2.2.2.2.2 p)
    rw [eS]
    have hwt : ∀ i, i < 8 → cpc (gC (gL V n) n (datm (gL V n) W b n)) wu (awd wu n / 4) (gCc (gL V n) n) (8 * V 3 + i) = gL V n (8 * V 3 + i) := fun i hi8 => by
      rw [hcp _ (by rw [ix_div hi8]; intro e; have := hI2.1.act; rw [hH2 3 (by decide), e13, e] at this; omega), ← e13, hA2 i hi8]
    refine ⟨u2, hI3, fun p hp hp2 => by rw [hcp _ (by omega), hH2 p hp, hH1 p hp]; exact hH p hp hp2, by rw [hcp _ (by omega), hH2 2 (by decide), hH1 2 (by decide)]; exact h2, fun m hm1 hm => ?_, fun i hi8 hni => ?_, ?_⟩
    · have hm3 := ha m (by omega) hm
      have q3 : awd (cpc (gC (gL V n) n (datm (gL V n) W b n)) wu (awd wu n / 4) (gCc (gL V n) n)) m = awd V m := by
        rw [awd_data hI2.1 hc3 (by omega) hcp hm, z2 m hm (by omega), m2 m hm]
      rw [q3]
      refine ⟨hm3.1, fun h0 => ?_⟩
      rw [← hm3.2 h0]
      rw [← hm3.1.1] at h0 ⊢
      obtain ⟨q1, q2⟩ := hblk m hm h0
      have q4 := hT1 _ (by omega) q2
      rw [hT3, z3 _ (by rw [q4]; exact q2) (fun e => by
        rw [haw1] at e
        have h0n : awd V n / 4 ≠ 0 := by rw [← e]; exact h0
        have := (hblk n hn h0n).1
        rw [← e] at this
        omega), q4]
    · rw [eL]
      by_cases e : n / 8 + 1 = i + 1
      · rw [if_pos e]
        have e' : i = n / 8 := by omega
        obtain ⟨o1, o2⟩ := ow_iff.mp ho1
        rw [e13] at o1 z4
        refine ow_iff.mpr ?_
        rw [← e3, e', hwt _ (by omega), hT3]
        exact ⟨o1, z4⟩
      · rw [if_neg e]
        have hi3 := hl i hi8 (by omega)
        rw [if_neg (by omega)] at hi3
        rw [← e3] at hi3 ⊢
        rw [hwt i hi8, m1 i hi8 (by omega)]
        refine ⟨hi3.1, fun h0 => ?_⟩
        rw [← hi3.2 h0]
        rw [← hi3.1] at h0 ⊢
        have q4 := m3 i hi8 (by omega) h0
        have q5 := T_leaf act_tb hi8 h0
        rw [hT3, z3 _ (by rw [q4]; omega) (fun e5 => by
          rw [haw1] at e5
          have h0n : awd V n / 4 ≠ 0 := by rw [← e5]; exact h0
          have h6 := (hblk n hn h0n).1
          have h7 := ((hs.tw act_tb hi8).lead h0).2.2.1
          rw [e5] at h7
          omega), q4]
    · have h9 := rm_mono (w := gC (gL V n) n (datm (gL V n) W b n)) (v := cpc (gC (gL V n) n (datm (gL V n) W b n)) wu (awd wu n / 4) (gCc (gL V n) n)) hI2 hI3 (fun X => by rw [hT3]; exact Nat.le_refl _) (hcp 4 (by omega)) (fun k hk => hcp _ (by rw [ix_div hk]; intro e; have := hI2.1.ct; rw [e] at this; omega))
      omega
end CM
