/-! ===== giveLeaf ===== -/
/-- a free cluster c becomes the active table's leaf i -/
def glF (w : Nat → Nat) (c i : Nat) : Nat → Nat :=
  let x := w (8 * w 3 + i)
  if x / 4 = 0 then up (setc w c 1) (8 * w 3 + i) (4 * c + 1)
  else setc (up (cpc (setc w c 1) (setc w c 1) (x / 4) c) (8 * w 3 + i) (4 * c + 1)) (x / 4) (T w (x / 4) - 1)
def gL (w : Nat → Nat) (b : Nat) : Nat → Nat := if ow w (w (8 * w 3 + b / 8)) = true then w else glF (tkW w) (tkC w) (b / 8)
section GL
variable {d k : Nat} {h : xH} {w u : Nat → Nat}
theorem cpl_eq {w : Nat → Nat} {X : Nat} : 8 * w (8 * w 4 + X / 8) + X % 8 = cpl w X := rfl
theorem setc_up (w : Nat → Nat) (c b : Nat) : setc w c b = up w (cpl w c) b := rfl
/-- a place of a count lies in a cluster of another use -/
theorem cpl_in (hs : Str w u) {X : Nat} (hX : X < 64) (h : w (8 * w 4 + X / 8) ≠ 0) : 16 ≤ u (cpl w X / 8) ∧ u (cpl w X / 8) < 24 ∧ T w (cpl w X / 8) ≠ 0 ∧ 8 ≤ cpl w X := by
  have h1 := hs.keep (show X / 8 < 8 by omega) h
  have h2 : cpl w X / 8 = w (8 * w 4 + X / 8) := by unfold cpl; omega
  have h3 := T_keep (show X / 8 < 8 by omega) h
  rw [h2]
  refine ⟨by omega, by omega, by omega, ?_⟩
  unfold cpl
  omega
theorem glF_words (hi : Inv w u) {c i : Nat} (h1 : 1 ≤ c) (h2 : c < 64) (hz : T w c = 0) (hkc : w (8 * w 4 + c / 8) ≠ 0) (hi8 : i < 8) (hx : w (8 * w 3 + i) / 4 = 0 ∨ 2 ≤ T w (w (8 * w 3 + i) / 4)) :
    (∀ j, j < 8 → glF w c i (8 * c + j) = if w (8 * w 3 + i) / 4 = 0 then 0 else w (8 * (w (8 * w 3 + i) / 4) + j)) ∧ glF w c i (8 * w 3 + i) = 4 * c + 1
    ∧ (∀ X, X < 64 → w (8 * w 4 + X / 8) ≠ 0 → glF w c i (cpl w X) = T w X + iv c X - ld (w (8 * w 3 + i)) X)
    ∧ (∀ p, p / 8 ≠ c → p ≠ 8 * w 3 + i → ¬ kp w p → glF w c i p = w p) ∧ ∀ p, glF w c i p < 4294967296 := by
  have hs := hi.1
  have hact := hs.act
  have hne3 := ne_fresh (w := w) hz T_act
  have hcc := cpl_in hs h2 hkc
  have hcne := ne_fresh (X := cpl w c / 8) hz (by omega)
  have hTb := hi.2.2.2.2
  have hle := T_le hs.ns.1
  have hzc : ∀ j, j < 8 → w (8 * c + j) = 0 := hi.2.2.1 c h2 hz
  -- places of counts are apart from the other places
  have hA : ∀ X, X < 64 → w (8 * w 4 + X / 8) ≠ 0 → cpl w X ≠ 8 * w 3 + i ∧ cpl w X / 8 ≠ c := by
    intro X hX h0
    have h3 := cpl_in hs hX h0
    refine ⟨fun e => ?_, ne_fresh hz (by omega)⟩
    rw [e, ix_div hi8] at h3
    omega
  by_cases hx0 : w (8 * w 3 + i) / 4 = 0
  · have eg : glF w c i = up (up w (cpl w c) 1) (8 * w 3 + i) (4 * c + 1) := by
      unfold glF
      rw [if_pos hx0, setc_up]
    rw [eg]
    refine ⟨fun j hj => ?_, up_at, fun X hX h0 => ?_, fun p hp1 hp2 hp3 => ?_, fun p => ?_⟩
    · rw [if_pos hx0, up_ne (by omega), up_ne (by omega)]
      exact hzc j hj
    · have h3 := hA X hX h0
      rw [up_ne h3.1]
      have e1 : ld (w (8 * w 3 + i)) X = 0 := if_pos hx0
      rw [e1]
      by_cases e : X = c
      · rw [e, up_at, hz, iv_self]
      · rw [up_ne (fun e2 => e (cpl_inj hs hX h2 h0 hkc e2)), hi.cntAt hX h0, iv_ne (fun e2 => e e2.symm)]
        rfl
    · rw [up_ne hp2, up_ne (fun e => hp3 (by rw [e]; exact cpl_kp h2 hkc))]
    · unfold up
      split
      · omega
      · split
        · omega
        · exact hTb p
  · have hx2 : 2 ≤ T w (w (8 * w 3 + i) / 4) := hx.resolve_left hx0
    have hlL := (hs.tw act_tb hi8).lead hx0
    have hlp := hlL.1.pos
    have hlne := ne_fresh (X := w (8 * w 3 + i) / 4) hz (by omega)
    have hkl : w (8 * w 4 + w (8 * w 3 + i) / 4 / 8) ≠ 0 := fun e => by
      have := hi.noK hlp.2 e
      omega
    have hlc := cpl_in hs hlp.2 hkl
    have hl3 := hA _ hlp.2 hkl
    -- the words before the last step
    obtain ⟨z, hzd⟩ : ∃ z, z = up (cpc (up w (cpl w c) 1) (up w (cpl w c) 1) (w (8 * w 3 + i) / 4) c) (8 * w 3 + i) (4 * c + 1) := ⟨_, rfl⟩
    have hzp : ∀ p, p ≠ 8 * w 3 + i → p / 8 ≠ c → p ≠ cpl w c → z p = w p := by
      intro p hp1 hp2 hp3
      rw [hzd, up_ne hp1]
      unfold cpc
      rw [if_neg hp2, up_ne hp3]
    have hz4 : z 4 = w 4 := hzp 4 (by omega) (by omega) (by omega)
    have hct := hs.ct
    have hne4 := ne_fresh (w := w) hz T_ct
    have hzk : ∀ k, k < 8 → z (8 * w 4 + k) = w (8 * w 4 + k) := by
      intro k hk
      refine hzp _ (fun e => ?_) (by omega) (fun e => ?_)
      · have e2 : w 4 = w 3 := by omega
        rw [e2] at hct
        omega
      · have e2 : cpl w c / 8 = w 4 := by omega
        rw [e2] at hcc
        omega
    have hzcpl : cpl z (w (8 * w 3 + i) / 4) = cpl w (w (8 * w 3 + i) / 4) := by
      unfold cpl
      rw [hz4, hzk _ (by omega)]
    have eg : glF w c i = up z (cpl w (w (8 * w 3 + i) / 4)) (T w (w (8 * w 3 + i) / 4) - 1) := by
      unfold glF
      simp only [if_neg hx0, setc_up]
      rw [← hzd, hzcpl]
    rw [eg]
    refine ⟨fun j hj => ?_, ?_, fun X hX h0 => ?_, fun p hp1 hp2 hp3 => ?_, fun p => ?_⟩
    · rw [if_neg hx0, up_ne (by omega), hzd, up_ne (by omega)]
      unfold cpc
      rw [if_pos (ix_div hj), ix_mod hj, up_ne (fun e => ?_)]
      have e2 : cpl w c / 8 = w (8 * w 3 + i) / 4 := by omega
      rw [e2] at hcc
      omega
    · rw [up_ne (fun e => hl3.1 e.symm), hzd, up_at]
    · have h3 := hA X hX h0
      by_cases e : X = w (8 * w 3 + i) / 4
      · have e1 : ld (w (8 * w 3 + i)) X = 1 := by
          unfold ld
          rw [if_neg hx0, ← e, iv_self]
        rw [e1, ← e, up_at, iv_ne (fun e2 => hlne (by rw [← e, e2]))]
        rfl
      · have e1 : ld (w (8 * w 3 + i)) X = 0 := by
          unfold ld
          rw [if_neg hx0, iv_ne (fun e2 => e e2.symm)]
        rw [e1, up_ne (fun e2 => e (cpl_inj hs hX hlp.2 h0 hkl e2))]
        by_cases e2 : X = c
        · have h9 := h3
          rw [e2] at h9
          rw [e2, hzd, up_ne h9.1]
          unfold cpc
          rw [if_neg h9.2, up_at, hz, iv_self]
        · rw [hzp _ h3.1 h3.2 (fun e4 => e2 (cpl_inj hs hX h2 h0 hkc e4)), hi.cntAt hX h0, iv_ne (fun e4 => e2 e4.symm)]
          rfl
    · rw [up_ne (fun e => hp3 (by rw [e]; exact cpl_kp hlp.2 hkl)), hzp p hp2 hp1 (fun e => hp3 (by rw [e]; exact cpl_kp h2 hkc))]
    · have h4 := hle (w (8 * w 3 + i) / 4)
      have hub : ∀ p, up w (cpl w c) 1 p < 4294967296 := fun p => by
        unfold up
        split
        · omega
        · exact hTb p
      have hzb : z p < 4294967296 := by
        rw [hzd, up]
        split
        · omega
        · unfold cpc
          split
          · exact hub _
          · exact hub _
      rw [up]
      split
      · omega
      · exact hzb
theorem rm_less {v : Nat → Nat} {u' : Nat → Nat} (hi : Inv w u) (hv : Inv v u') {c : Nat} (h2 : c < 64) (hz : T w c = 0) (hc : 1 ≤ T v c) (hT : ∀ X, X ≠ c → (0 < T v X ↔ 0 < T w X)) (h4 : v 4 = w 4) (hk : ∀ k, k < 8 → v (8 * w 4 + k) = w (8 * w 4 + k)) : rm v = rm w - 1 := by
  have e1 : inUse v = inUse w + 1 := by
    rw [inUse_T hv, inUse_T hi]
    have h3 := sm_one (n := 64) (i := c) (f := fun X => if 0 < T v X then 1 else 0) (g := fun X => if 0 < T w X then 1 else 0) h2 (fun X hX hne => by
      show (if 0 < T v X then 1 else 0) = if 0 < T w X then 1 else 0
      by_cases e : 0 < T w X
      · rw [if_pos e, if_pos ((hT X hne).mpr e)]
      · rw [if_neg e, if_neg (fun e2 => e ((hT X hne).mp e2))])
    have e2 : (if 0 < T v c then 1 else 0) = 1 := if_pos (by omega)
    have e3 : (if 0 < T w c then 1 else 0) = 0 := by rw [hz]; rfl
    simp only [e2, e3] at h3
    omega
  have e2 : noKeep v = noKeep w := by
    unfold noKeep
    rw [h4]
    exact sm_congr fun k hk8 => by rw [hk k hk8]
  unfold rm
  omega
/-- what a leaf of its own is -/
theorem gL_spec (hi : Inv w u) {b : Nat} (hb : b < w 2) (hr : nLeaf w b ≤ rm w) : ∃ u', Inv (gL w b) u' ∧ (∀ X, T w X ≠ 0 → u' X = u X) ∧ ow (gL w b) (gL w b (8 * gL w b 3 + b / 8)) = true ∧ rm w - nLeaf w b ≤ rm (gL w b) ∧ awd (gL w b) b = awd w b
    ∧ (∀ X, 24 ≤ u X → T w X ≠ 0 → T (gL w b) X = T w X) ∧ (∀ p, p < 8 → gL w b p = w p) ∧ (∀ p, 24 ≤ u (p / 8) → T w (p / 8) ≠ 0 → gL w b p = w p) := by
  have hs := hi.1
  have hb64 := hs.sz.2
  by_cases ho : ow w (w (8 * w 3 + b / 8)) = true
  · have e : gL w b = w := if_pos ho
    rw [e]
    have en : nLeaf w b = 0 := if_pos ho
    rw [en]
    exact ⟨u, hi, fun _ _ => rfl, ho, Nat.le_refl _, rfl, fun _ _ _ => rfl, fun _ _ => rfl, fun _ _ _ => rfl⟩
  · have e : gL w b = glF (tkW w) (tkC w) (b / 8) := if_neg ho
    have en : nLeaf w b = 1 := if_neg ho
    rw [en] at hr ⊢
    obtain ⟨u1, ha, hu, hC1, hC2, hC3, hC4, hrm, hTT, hO, hH, hC5⟩ := tk_spec hi hr
    have hi8 : b / 8 < 8 := by omega
    have hact := hs.act
    have hne3 := ne_fresh (w := w) hC5 T_act
    have hneq : w 3 ≠ w 4 := fun e2 => by have := hs.ct; rw [e2] at hact; omega
    have e3 := hH 3 (by decide)
    have e4 := hH 4 (by decide)
    have e2s := hH 2 (by decide)
    have exw : tkW w (8 * w 3 + b / 8) = w (8 * w 3 + b / 8) := hO _ (by rw [ix_div hi8]; have := T_act (w := w); omega) (by rw [ix_div hi8]; exact hneq)
    have hx : tkW w (8 * tkW w 3 + b / 8) / 4 = 0 ∨ 2 ≤ T (tkW w) (tkW w (8 * tkW w 3 + b / 8) / 4) := by
      rw [e3, exw]
      by_cases h0 : w (8 * w 3 + b / 8) / 4 = 0
      · exact Or.inl h0
      · right
        have h5 := T_leaf act_tb hi8 h0
        rw [hTT _ (by omega)]
        have h6 : ¬ T w (w (8 * w 3 + b / 8) / 4) = 1 := fun e5 => ho (decide_eq_true ⟨h0, e5⟩)
        omega
    obtain ⟨vC, vA, vK, vO, vb⟩ := glF_words ha hC1 hC2 hC3 (by rw [e4]; exact hC4) hi8 hx
    obtain ⟨hV, hT⟩ := leaf_inv ha hC1 hC2 hC3 (by rw [e4]; exact hC4) hi8 (by rw [e2s]; omega) (Nat.le_refl 1) hx vC vA vK vO vb
    rw [e]
    rw [e3] at vA
    rw [e3, exw] at vC hT
    have hH2 : ∀ p, p < 8 → glF (tkW w) (tkC w) (b / 8) p = w p := fun p hp => by
      rw [vO p (by omega) (by rw [e3]; omega) (nk0 hp)]
      exact hH p hp
    have hg3 := hH2 3 (by decide)
    have hTc : T (glF (tkW w) (tkC w) (b / 8)) (tkC w) = 1 := by
      have h5 := hT (tkC w)
      have h6 : ld (w (8 * w 3 + b / 8)) (tkC w) = 0 := by
        unfold ld
        split
        · rfl
        · next h0 => exact iv_ne (ne_fresh hC5 (T_leaf act_tb hi8 h0))
      rw [h6, hC3, iv_self] at h5
      omega
    refine ⟨_, hV, fun X hX => ?_, ?_, ?_, ?_, fun X hX1 hX2 => ?_, hH2, fun p hp1 hp2 => ?_⟩
    · rw [up_ne (ne_fresh hC5 (by omega)), hu X hX]
    · rw [hg3, vA]
      refine decide_eq_true ⟨by omega, ?_⟩
      rw [show (4 * tkC w + 1) / 4 = tkC w by omega]
      exact hTc
    · have h5 := rm_less ha hV hC2 hC3 (by omega) (fun X hX => ?_) (by rw [hH2 4 (by decide), e4]) (fun k hk => ?_)
      · rw [h5, hrm]
        exact Nat.le_refl _
      · have h6 := hT X
        rw [iv_ne (fun e5 => hX e5.symm)] at h6
        have h7 := ld_le (w (8 * w 3 + b / 8)) X
        by_cases h8 : ld (w (8 * w 3 + b / 8)) X = 0
        · omega
        · have h9 := h8
          unfold ld at h8
          split at h8
          · exact absurd rfl h8
          · next h0 =>
            have h10 := iv_pos h8
            rw [e3, exw] at hx
            have h11 := hx.resolve_left h0
            rw [h10] at h11
            omega
      · have hct := ha.1.ct
        have hne4 := ne_fresh (w := tkW w) hC3 T_ct
        exact vO _ (by rw [ix_div hk]; exact hne4) (fun e5 => by
          have e6 : tkW w 4 = tkW w 3 := by omega
          rw [e4, e3] at e6
          exact hneq e6.symm) (ha.1.nk (by rw [ix_div hk]; omega))
    · show awd _ b = awd w b
      unfold awd
      rw [hg3]
      unfold bwd
      rw [vA, if_neg (by omega), show (4 * tkC w + 1) / 4 = tkC w by omega, vC _ (by omega)]
      split
      · rfl
      · next h0 =>
        have h5 := ((hs.tw act_tb hi8).lead h0).2.2.1
        have h6 := T_leaf act_tb hi8 h0
        exact hO _ (by rw [ix_div (by omega)]; omega) (fun e5 => by rw [ix_div (by omega)] at e5; have := hs.ct; rw [e5] at h5; omega)
    · have h5 := hT X
      have h6 : ld (w (8 * w 3 + b / 8)) X = 0 := by
        unfold ld
        split
        · rfl
        · next h0 =>
          refine iv_ne (fun e5 => ?_)
          have h7 := ((hs.tw act_tb hi8).lead h0).2.2.1
          rw [e5] at h7
          omega
      rw [h6, iv_ne (fun e5 => ne_fresh hC5 (show 1 ≤ T w X by omega) e5.symm), hTT X hX2] at h5
      omega
    · have h5 : u1 (p / 8) = u (p / 8) := hu _ hp2
      have h6 : p / 8 ≠ w 3 := fun e5 => by rw [e5] at hp1; omega
      rw [vO p (ne_fresh hC5 (by omega)) (by rw [e3]; omega) (ha.1.nk (by omega))]
      exact hO p hp2 (fun e5 => by have := hs.ct; rw [e5] at hp1; omega)
theorem c_release0 {x : Nat} (hx : x ≤ 2) : Cl (d + 2) MX1_release [vR (1, k), vI (nI x)] h none h := by
  refine rnN 1 rfl ?_
  refine rnK rfl (c_isLead (show x < 2147483648 by omega)) ?_
  rw [if_neg (by omega)]
  refine rnN 1 rfl ?_
  exact rnR rfl
theorem c_release {x b : Nat} (hw : h (10, k) = E w) (hx : x < 256) (h2 : 2 < x) (h4 : w 4 < 64) (hq : w (8 * w 4 + x / 4 / 8) < 64) (hd : w (8 * w (8 * w 4 + x / 4 / 8) + x / 4 % 8) = b + 1) (hb : b < 1000) : Cl (d + 2) MX1_release [vR (1, k), vI (nI x)] h none (hup h (10, k) (E (adc w (x / 4) b))) := by
  refine rnN 1 rfl ?_
  refine rnK rfl (c_isLead (show x < 2147483648 by omega)) ?_
  rw [if_pos h2]
  refine rnN 4 rfl ?_
  refine rnK rfl (c_clusterOf (show x < 2147483648 by omega)) ?_
  refine rnN 1 rfl ?_
  refine rnK rfl (c_addToCount (b := b) hw (show x / 4 < 64 by omega) h4 hq (by rw [hd]; exact pk_m1 b) hb) ?_
  exact rnR rfl
end GL
