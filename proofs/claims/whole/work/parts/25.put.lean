/-! ===== makeZero, putWord, dropBlock ===== -/
section PW
variable {d k : Nat} {h : xH} {w u : Nat → Nat} {W U : Nat → Nat → Nat}
theorem mzF_specT (hi : Inv w u) {b : Nat} (hb : b < w 2) (ho : ow w (w (8 * w 3 + b / 8)) = true) : (Inv (mzF w b) u ∧ ∀ X, T (mzF w b) X + ld (w (8 * (w (8 * w 3 + b / 8) / 4) + b % 8)) X = T w X) ∧ (∀ p, p < 8 → mzF w b p = w p) := by
  have hs := hi.1
  have hb64 := hs.sz.2
  obtain ⟨hl, hown⟩ := ow_iff.mp ho
  have hi8 : b / 8 < 8 := by omega
  have hj8 : b % 8 < 8 := by omega
  have hlL := (hs.tw act_tb hi8).lead hl
  have hlp := hlL.1.pos
  have hTl := T_leaf act_tb hi8 hl
  have hBB := hlL.2.2.2 (b % 8) hj8
  have hTb := hi.2.2.2.2
  have hle := T_le hs.ns.1
  have hA : ∀ X, X < 64 → w (8 * w 4 + X / 8) ≠ 0 → cpl w X ≠ 8 * (w (8 * w 3 + b / 8) / 4) + b % 8 := by
    intro X hX h0 e
    have h3 := cpl_in hs hX h0
    rw [e, ix_div hj8] at h3
    omega
  by_cases hy0 : w (8 * (w (8 * w 3 + b / 8) / 4) + b % 8) / 4 = 0
  · have eg : mzF w b = up w (8 * (w (8 * w 3 + b / 8) / 4) + b % 8) 2 := by
      unfold mzF
      simp only [if_pos hy0]
    rw [eg]
    refine ⟨(zero_inv hi hi8 hj8 (by omega) hl hown up_at (fun X hX h0 => ?_) (fun p _ hp2 _ => up_ne hp2) (fun h0 => absurd hy0 h0) (fun p => ?_)), fun p hp => up_ne (by omega)⟩
    · have e1 : ld (w (8 * (w (8 * w 3 + b / 8) / 4) + b % 8)) X = 0 := if_pos hy0
      rw [e1, up_ne (hA X hX h0), hi.cntAt hX h0]
      rfl
    · unfold up
      split
      · omega
      · exact hTb p
  · have hyL := hBB.lead hy0
    have hyp := hyL.1.pos
    have hTy := T_blk act_tb hi8 hj8 hl hy0
    have hky : w (8 * w 4 + w (8 * (w (8 * w 3 + b / 8) / 4) + b % 8) / 4 / 8) ≠ 0 := fun e => by
      have := hi.noK hyp.2 e
      omega
    have hyc := cpl_in hs hyp.2 hky
    have hct := hs.ct
    obtain ⟨z, hzd⟩ : ∃ z, z = up w (8 * (w (8 * w 3 + b / 8) / 4) + b % 8) 2 := ⟨_, rfl⟩
    have hzp : ∀ p, p ≠ 8 * (w (8 * w 3 + b / 8) / 4) + b % 8 → z p = w p := fun p hp => by rw [hzd, up_ne hp]
    have hz4 : z 4 = w 4 := hzp 4 (by omega)
    have hzk : z (8 * w 4 + w (8 * (w (8 * w 3 + b / 8) / 4) + b % 8) / 4 / 8) = w (8 * w 4 + w (8 * (w (8 * w 3 + b / 8) / 4) + b % 8) / 4 / 8) := hzp _ (fun e => by
      have e2 : w 4 = w (8 * w 3 + b / 8) / 4 := by omega
      rw [e2] at hct
      omega)
    have hzcpl : cpl z (w (8 * (w (8 * w 3 + b / 8) / 4) + b % 8) / 4) = cpl w (w (8 * (w (8 * w 3 + b / 8) / 4) + b % 8) / 4) := by
      unfold cpl
      rw [hz4, hzk]
    have hcy : cpl w (w (8 * (w (8 * w 3 + b / 8) / 4) + b % 8) / 4) / 8 ≠ w (8 * (w (8 * w 3 + b / 8) / 4) + b % 8) / 4 := fun e => by rw [e] at hyc; omega
    have hly : w (8 * w 3 + b / 8) / 4 ≠ w (8 * (w (8 * w 3 + b / 8) / 4) + b % 8) / 4 := fun e => by have := hlL.2.2.1; rw [e] at this; omega
    by_cases h1 : T w (w (8 * (w (8 * w 3 + b / 8) / 4) + b % 8) / 4) = 1
    · have eg : mzF w b = zc (up z (cpl w (w (8 * (w (8 * w 3 + b / 8) / 4) + b % 8) / 4)) 0) (w (8 * (w (8 * w 3 + b / 8) / 4) + b % 8) / 4) := by
        unfold mzF
        simp only [if_neg hy0, h1]
        rw [← hzd]
        unfold adc
        rw [if_pos rfl, setc_up, hzcpl]
      rw [eg]
      refine ⟨(zero_inv hi hi8 hj8 (by omega) hl hown ?_ (fun X hX h0 => ?_) (fun p hp1 hp2 hp3 => ?_) (fun _ _ k hk => ?_) (fun p => ?_)), fun p hp => ?_⟩
      · unfold zc
        rw [ix_div hj8, if_neg hly, up_ne (fun e => hA _ hyp.2 hky e.symm), hzd, up_at]
      · have h3 := cpl_in hs hX h0
        unfold zc
        rw [if_neg (fun e => by rw [e] at h3; omega)]
        by_cases e : X = w (8 * (w (8 * w 3 + b / 8) / 4) + b % 8) / 4
        · have e1 : ld (w (8 * (w (8 * w 3 + b / 8) / 4) + b % 8)) X = 1 := by
            unfold ld
            rw [if_neg hy0, ← e, iv_self]
          rw [e1, ← e, up_at, e, h1]
        · have e1 : ld (w (8 * (w (8 * w 3 + b / 8) / 4) + b % 8)) X = 0 := by
            unfold ld
            rw [if_neg hy0, iv_ne (fun e2 => e e2.symm)]
          rw [e1, up_ne (fun e2 => e (cpl_inj hs hX hyp.2 h0 hky e2)), hzp _ (hA X hX h0), hi.cntAt hX h0]
          rfl
      · unfold zc
        rw [if_neg (fun e => hp1 ⟨hy0, e, h1⟩), up_ne (fun e => hp3 (by rw [e]; exact cpl_kp hyp.2 hky)), hzp p hp2]
      · unfold zc
        rw [if_pos (ix_div hk)]
      · unfold zc
        split
        · omega
        · rw [up]
          split
          · omega
          · rw [hzd, up]
            split
            · omega
            · exact hTb p
      · unfold zc
        rw [if_neg (by omega), up_ne (by omega), hzp p (by omega)]
    · have eg : mzF w b = up z (cpl w (w (8 * (w (8 * w 3 + b / 8) / 4) + b % 8) / 4)) (T w (w (8 * (w (8 * w 3 + b / 8) / 4) + b % 8) / 4) - 1) := by
        unfold mzF
        simp only [if_neg hy0]
        rw [← hzd]
        unfold adc
        rw [if_neg (by omega), setc_up, hzcpl]
      rw [eg]
      refine ⟨(zero_inv hi hi8 hj8 (by omega) hl hown ?_ (fun X hX h0 => ?_) (fun p hp1 hp2 hp3 => ?_) (fun _ h2 => absurd h2 h1) (fun p => ?_)), fun p hp => ?_⟩
      · rw [up_ne (fun e => hA _ hyp.2 hky e.symm), hzd, up_at]
      · by_cases e : X = w (8 * (w (8 * w 3 + b / 8) / 4) + b % 8) / 4
        · have e1 : ld (w (8 * (w (8 * w 3 + b / 8) / 4) + b % 8)) X = 1 := by
            unfold ld
            rw [if_neg hy0, ← e, iv_self]
          rw [e1, ← e, up_at]
        · have e1 : ld (w (8 * (w (8 * w 3 + b / 8) / 4) + b % 8)) X = 0 := by
            unfold ld
            rw [if_neg hy0, iv_ne (fun e2 => e e2.symm)]
          rw [e1, up_ne (fun e2 => e (cpl_inj hs hX hyp.2 h0 hky e2)), hzp _ (hA X hX h0), hi.cntAt hX h0]
          rfl
      · rw [up_ne (fun e => hp3 (by rw [e]; exact cpl_kp hyp.2 hky)), hzp p hp2]
      · have h4 := hle (w (8 * (w (8 * w 3 + b / 8) / 4) + b % 8) / 4)
        rw [up]
        split
        · omega
        · rw [hzd, up]
          split
          · omega
          · exact hTb p
      · rw [up_ne (by omega), hzp p (by omega)]
theorem mzF_spec (hi : Inv w u) {b : Nat} (hb : b < w 2) (ho : ow w (w (8 * w 3 + b / 8)) = true) : Inv (mzF w b) u ∧ (∀ p, p < 8 → mzF w b p = w p) := ⟨(mzF_specT hi hb ho).1.1, (mzF_specT hi hb ho).2⟩
theorem c_makeZero {b : Nat} (hw : h (10, k) = E w) (hi : Inv w u) (hb : b < w 2) (ho : ow w (w (8 * w 3 + b / 8)) = true) : Cl (d + 4) MX1_makeZero [vR (1, k), vI (nI b)] h none (hup h (10, k) (E (mzF w b))) := by
  have hs := hi.1
  have hb64 := hs.sz.2
  obtain ⟨hl, hown⟩ := ow_iff.mp ho
  have hi8 : b / 8 < 8 := by omega
  have hj8 : b % 8 < 8 := by omega
  have hlL := (hs.tw act_tb hi8).lead hl
  have hlp := hlL.1.pos
  have hBB := hlL.2.2.2 (b % 8) hj8
  have eaw := awd_own (w := w) (b := b) hl
  have hB := hs.bok act_tb (show b < 64 by omega)
  have hBl := hB.lt
  refine rnN 2 rfl ?_
  refine rnK rfl (c_activeWord hw hs (show b < 64 by omega)) ?_
  refine rnN 4 rfl ?_
  refine rnK rfl (c_putActiveWord hw hs.act.2.1 (show b < 64 by omega) (hs.tw act_tb hi8).lt) ?_
  refine rnN 2 rfl ?_
  by_cases hy0 : awd w b / 4 = 0
  · have hy2 : awd w b ≤ 2 := by
      have h5 := (hB.flat hy0)
      have h6 : awd w b = bwd w (w 3) b := rfl
      omega
    have eg : mzF w b = up w (8 * (w (8 * w 3 + b / 8) / 4) + b % 8) 2 := by
      unfold mzF
      simp only [← eaw, if_pos hy0]
    rw [eg]
    refine rnK rfl (c_release0 hy2) ?_
    exact rnR rfl
  · have hyL := hBB.lead (by rw [← eaw]; exact hy0)
    rw [← eaw] at hyL
    have hyp := hyL.1.pos
    have hy2 : 2 < awd w b := hB.isLead.mpr hy0
    have hTy : 1 ≤ T w (awd w b / 4) := T_bw (w := w) act_tb (show b < 64 by omega) hy0
    have hTle := T_le hs.ns.1 (awd w b / 4)
    have hky : w (8 * w 4 + awd w b / 4 / 8) ≠ 0 := fun e => by
      have := hi.noK hyp.2 e
      omega
    have hyc := cpl_in hs hyp.2 hky
    have hct := hs.ct
    obtain ⟨z, hzd⟩ : ∃ z, z = up w (8 * (w (8 * w 3 + b / 8) / 4) + b % 8) 2 := ⟨_, rfl⟩
    have hzp : ∀ p, p ≠ 8 * (w (8 * w 3 + b / 8) / 4) + b % 8 → z p = w p := fun p hp => by rw [hzd, up_ne hp]
    have hz4 : z 4 = w 4 := hzp 4 (by omega)
    have hzk : z (8 * w 4 + awd w b / 4 / 8) = w (8 * w 4 + awd w b / 4 / 8) := hzp _ (fun e => by
      have e2 : w 4 = w (8 * w 3 + b / 8) / 4 := by omega
      rw [e2] at hct
      omega)
    have hzc : z (cpl w (awd w b / 4)) = T w (awd w b / 4) := by
      rw [hzp _ (fun e => ?_), hi.cntAt hyp.2 hky]
      rw [e, ix_div hj8] at hyc
      omega
    rw [← hzd]
    have hrel := c_release (d := d + 1) (k := k) (h := hup h (10, k) (E z)) (x := awd w b) (b := T w (awd w b / 4) - 1) hup_at hBl hy2 (by rw [hz4]; exact hct.2.1) (by rw [hz4, hzk]; exact hs.keepLt (by omega)) (by
      rw [hz4, hzk, cpl_eq, hzc]
      omega) (by omega)
    rw [hup_hup] at hrel
    have eg : mzF w b = adc z (awd w b / 4) (T w (awd w b / 4) - 1) := by
      unfold mzF
      simp only [← eaw, if_neg hy0]
      rw [hzd]
    rw [eg]
    refine rnK rfl (hrel) ?_
    exact rnR rfl
/-- image k's words become w -/
def setW (W : Nat → Nat → Nat) (k : Nat) (w : Nat → Nat) : Nat → Nat → Nat := fun j => if j = k then w else W j
theorem setW_at {w : Nat → Nat} : setW W k w k = w := if_pos rfl
theorem setW_ne {w : Nat → Nat} {j : Nat} (h : j ≠ k) : setW W k w j = W j := if_neg h
/-- the words behind putWord, but for the marks -/
def pW1 (W : Nat → Nat → Nat) (k b : Nat) : Nat → Nat := gC (gL (W k) b) b fun j => sh W k (awd (W k) b) (8 * b + j)
def pW (W : Nat → Nat → Nat) (k b j x : Nat) : Nat → Nat := up (pW1 W k b) (8 * gCc (gL (W k) b) b + j) x
theorem gL_clus (hi : Inv w u) {b : Nat} (hb : b < w 2) (hr : nLeaf w b ≤ rm w) : nClus (gL w b) b = nClus w b := by
  obtain ⟨u', hI, hu, ho, hrm, ha, hT, hH, hO⟩ := gL_spec hi hb hr
  have hs := hi.1
  have hb64 := hs.sz.2
  unfold nClus
  rw [ha]
  have e : ow (gL w b) (awd w b) = ow w (awd w b) := by
    by_cases h0 : awd w b / 4 = 0
    · unfold ow
      simp [h0]
    · have h1 := T_bw (w := w) act_tb (show b < 64 by omega) h0
      have h2 := ((hs.bok act_tb (show b < 64 by omega)).lead h0).2.2
      have h3 : u (awd w b / 4) = 24 + (8 * (b / 8) + b % 8) := h2
      unfold ow
      rw [hT (awd w b / 4) (by omega) (by unfold awd; omega)]
  rw [e]
theorem gL_sh (hi : Inv (W k) u) {b : Nat} (hb : b < W k 2) (hr : nLeaf (W k) b ≤ rm (W k)) (a : Nat) : sh (setW W k (gL (W k) b)) k (awd (W k) b) a = sh W k (awd (W k) b) a := by
  obtain ⟨u', hI, hu, ho, hrm, ha, hT, hH, hO⟩ := gL_spec hi hb hr
  have hs := hi.1
  have hb64 := hs.sz.2
  refine sh_top (fun j hj => setW_ne (by omega)) (fun h0 => ?_)
  rw [setW_at]
  have h1 := T_bw (w := W k) act_tb (show b < 64 by omega) h0
  have h2 := ((hs.bok act_tb (show b < 64 by omega)).lead h0).2.2
  have h3 : u (awd (W k) b / 4) = 24 + (8 * (b / 8) + b % 8) := h2
  have h4 : 1 ≤ T (W k) (awd (W k) b / 4) := h1
  exact hO _ (by rw [ix_div (by omega)]; omega) (by rw [ix_div (by omega)]; omega)
theorem pW_spec (hi : Inv (W k) u) {b j x : Nat} (hb : b < W k 2) (hr : nLeaf (W k) b + nClus (W k) b ≤ rm (W k)) (hW : ∀ j p, W j p < 4294967296) (hj : j < 8) (hx : x < 4294967296) : ∃ u3, Inv (pW W k b j x) u3 ∧ (∀ p, p < 8 → pW W k b j x p = W k p) := by
  obtain ⟨u', hI, hu, ho, hrm, ha, hT, hH, hO⟩ := gL_spec hi hb (by omega)
  have hcl := gL_clus hi hb (by omega)
  obtain ⟨u2, hI2, hu2, hc2, hc3, hc4, hc5, hc6, hH2, hA2, hr2⟩ := gC_spec (dat := fun j => sh W k (awd (W k) b) (8 * b + j)) hI (by rw [hH 2 (by decide)]; exact hb) (by rw [hH 3 (by decide)] at ho ⊢; exact ho) (by omega) (fun j => sh_lt hW _ _ _)
  have hd := data_inv (v := pW W k b j x) hI2 hc3 (by omega) (by rw [hc5]; decide) (fun p hp => up_ne (by omega)) (fun p => by
    unfold pW up
    split
    · exact hx
    · exact hI2.2.2.2.2 p)
  refine ⟨u2, hd.1, fun p hp => ?_⟩
  unfold pW
  rw [up_ne (by omega)]
  show gC _ _ _ p = _
  rw [hH2 p hp, hH p hp]
theorem c_putWord {a x : Nat} (hh : ∀ j, j ≤ k → h (10, j) = E (W j) ∧ Inv (W j) (U j)) (ha : a < 8 * W k 2) (hr : nLeaf (W k) (a / 8) + nClus (W k) (a / 8) ≤ rm (W k)) (hx : x < 4294967296) {u3 : Nat → Nat} (h3 : Inv (pW W k (a / 8) (a % 8) x) u3) : Cl (d + 5) MX1_putWord [vR (1, k), vI (nI a), vI (nI x)] h (some (vI (nI (nLeaf (W k) (a / 8) + nClus (W k) (a / 8))))) (hup h (10, k) (E (flg (pW W k (a / 8) (a % 8) x) u3))) := by
  obtain ⟨hw, hi⟩ := hh k (Nat.le_refl _)
  have hs := hi.1
  have hsz := hs.sz
  obtain ⟨b, hb⟩ : ∃ b, b = a / 8 := ⟨_, rfl⟩
  rw [← hb] at hr h3 ⊢
  have hbl : b < W k 2 := by omega
  obtain ⟨u', hI, hu, ho, hrm, haw, hT, hH, hO⟩ := gL_spec hi hbl (by omega)
  have hcl := gL_clus hi hbl (by omega)
  have hrmle : rm (W k) ≤ 64 := by unfold rm; omega
  have hh2 : ∀ j, j ≤ k → hup h (10, k) (E (gL (W k) b)) (10, j) = E (setW W k (gL (W k) b) j) ∧ Inv (setW W k (gL (W k) b) j) (setW U k u' j) := fun j hj => by
    by_cases e : j = k
    · rw [e, setW_at, setW_at]
      exact ⟨hup_at, hI⟩
    · rw [setW_ne e, setW_ne e]
      have h5 := hh j hj
      exact ⟨(hup_ne (fun e5 => e (by injection e5))).trans h5.1, h5.2⟩
  have hgc := c_giveCluster (d := d) (k := k) (W := setW W k (gL (W k) b)) (U := setW U k u') (b := b) hh2 (by rw [setW_at, hH 2 (by decide)]; exact hbl) (by rw [setW_at]; exact ho) (by rw [setW_at]; omega)
  rw [setW_at, hup_hup, haw] at hgc
  have hdat : (fun j => sh (setW W k (gL (W k) b)) k (awd (W k) b) (8 * b + j)) = fun j => sh W k (awd (W k) b) (8 * b + j) := by
    funext j
    exact gL_sh hi hbl (by omega) _
  rw [hdat] at hgc
  have hcc : gCc (gL (W k) b) b < 64 := by
    by_cases e : ow (gL (W k) b) (awd (gL (W k) b) b) = true
    · have h5 := (ow_iff.mp e).1
      have h6 := hI.1.bok act_tb (show b < 64 by omega)
      have h7 : gCc (gL (W k) b) b = awd (gL (W k) b) b / 4 := if_pos e
      have h8 := h6.lt
      rw [h7]
      unfold awd
      omega
    · have h7 : gCc (gL (W k) b) b = tkC (gL (W k) b) := if_neg e
      have h8 : nClus (gL (W k) b) b = 1 := if_neg e
      obtain ⟨u1, ha1, hu1, hC1, hC2, -⟩ := tk_spec hI (show 1 ≤ rm (gL (W k) b) by omega)
      rw [h7]
      exact hC2
  refine rnN 6 rfl ?_
  simp (disch := omega) only [nI_add, pk_mul, pk_sub, nd8, nd4, nsub8, nand63, nand7, nshr2, nI_clamp, E_at, hup_at, hup_hup]
  rw [← hb]
  refine rnK rfl (c_leavesFor hw hi (show b < 64 by omega)) ?_
  refine rnN 2 rfl ?_
  refine rnK rfl (c_clustersFor hw hi (show b < 64 by omega)) ?_
  refine rnN 4 rfl ?_
  simp (disch := omega) only [nI_add, pk_mul, pk_sub, nd8, nd4, nsub8, nand63, nand7, nshr2, nI_clamp, E_at, hup_at, hup_hup]
  refine rnK rfl (c_room hw hi.cg) ?_
  refine rnN 1 rfl ?_
  refine rnF (nI_nlt (show nLeaf (W k) b + nClus (W k) b ≤ 64 - inUse (W k) - noKeep (W k) from hr) (by unfold rm at hrmle; omega)) rfl ?_
  refine rnN 2 rfl ?_
  refine rnK rfl (c_giveLeaf hw hi hbl (by omega)) ?_
  refine rnN 4 rfl ?_
  refine rnK rfl (hgc) ?_
  refine rnN 4 rfl ?_
  simp (disch := omega) only [nI_add, pk_mul, pk_sub, nd8, nd4, nsub8, nand63, nand7, nshr2, nI_clamp, E_at, hup_at, hup_hup]
  refine rnK rfl (c_put hup_at hcc (show a % 8 < 8 by omega)) ?_
  refine rnN 1 rfl ?_
  simp (disch := omega) only [nI_add, pk_mul, pk_sub, nd8, nd4, nsub8, nand63, nand7, nshr2, nI_clamp, E_at, hup_at, hup_hup]
  have ht := c_tellFlags (d := d) (h := hup h (10, k) (E (pW W k b (a % 8) x))) (k := k) hup_at h3
  rw [hup_hup] at ht
  refine rnK rfl (ht) ?_
  refine rnN 1 rfl ?_
  exact rnR rfl
theorem c_putWordF {a x : Nat} (hw : h (10, k) = E (W k)) (hi : Inv (W k) u) (ha : a < 8 * W k 2) (hr : ¬ nLeaf (W k) (a / 8) + nClus (W k) (a / 8) ≤ rm (W k)) : Cl (d + 5) MX1_putWord [vR (1, k), vI (nI a), vI (nI x)] h (some (vI (-2))) h := by
  have hs := hi.1
  have hsz := hs.sz
  have hn1 : nLeaf (W k) (a / 8) ≤ 1 := by unfold nLeaf; split <;> omega
  have hn2 : nClus (W k) (a / 8) ≤ 1 := by unfold nClus; split <;> omega
  refine rnN 6 rfl ?_
  simp (disch := omega) only [nI_add, pk_mul, pk_sub, nd8, nd4, nsub8, nand63, nand7, nshr2, nI_clamp, E_at, hup_at, hup_hup]
  refine rnK rfl (c_leavesFor hw hi (show a / 8 < 64 by omega)) ?_
  refine rnN 2 rfl ?_
  refine rnK rfl (c_clustersFor hw hi (show a / 8 < 64 by omega)) ?_
  refine rnN 4 rfl ?_
  simp (disch := omega) only [nI_add, pk_mul, pk_sub, nd8, nd4, nsub8, nand63, nand7, nshr2, nI_clamp, E_at, hup_at, hup_hup]
  refine rnK rfl (c_room hw hi.cg) ?_
  refine rnN 1 rfl ?_
  refine rnT (nI_lt (show 64 - inUse (W k) - noKeep (W k) < nLeaf (W k) (a / 8) + nClus (W k) (a / 8) from Nat.lt_of_not_le hr) (by omega)) rfl ?_
  refine rnN 1 rfl ?_
  exact rnR rfl
/-- the words behind dropBlock, but for the marks -/
def dB (w : Nat → Nat) (b : Nat) : Nat → Nat := mzF (gL w b) b
theorem dB_spec (hi : Inv w u) {b : Nat} (hb : b < w 2) (hr : nLeaf w b ≤ rm w) : ∃ u3, Inv (dB w b) u3 ∧ (∀ p, p < 8 → dB w b p = w p) := by
  obtain ⟨u', hI, hu, ho, hrm, haw, hT, hH, hO⟩ := gL_spec hi hb hr
  obtain ⟨h1, h2⟩ := mzF_spec hI (b := b) (by rw [hH 2 (by decide)]; exact hb) ho
  exact ⟨u', h1, fun p hp => by unfold dB; rw [h2 p hp, hH p hp]⟩
theorem c_dropBlock0 {b : Nat} (hw : h (10, k) = E w) (hi : Inv w u) (hb : b < w 2) (hd : ¬ dch k (awd w b) = true) : Cl (d + 5) MX1_dropBlock [vR (1, k), vI (nI b)] h (some (vI (nI 0))) h := by
  have hsz := hi.1.sz
  refine rnN 2 rfl ?_
  refine rnK rfl (c_dropChanges hw hi.1 (show b < 64 by omega)) ?_
  rw [if_neg hd]
  refine rnN 2 rfl ?_
  exact rnR rfl
theorem c_dropBlockF {b : Nat} (hw : h (10, k) = E w) (hi : Inv w u) (hb : b < w 2) (hd : dch k (awd w b) = true) (hr : ¬ nLeaf w b ≤ rm w) : Cl (d + 5) MX1_dropBlock [vR (1, k), vI (nI b)] h (some (vI (-2))) h := by
  have hsz := hi.1.sz
  have hn1 : nLeaf w b ≤ 1 := by unfold nLeaf; split <;> omega
  refine rnN 2 rfl ?_
  refine rnK rfl (c_dropChanges hw hi.1 (show b < 64 by omega)) ?_
  rw [if_pos hd]
  refine rnN 3 rfl ?_
  refine rnK rfl (c_leavesFor hw hi (show b < 64 by omega)) ?_
  refine rnN 3 rfl ?_
  refine rnK rfl (c_room hw hi.cg) ?_
  refine rnN 1 rfl ?_
  refine rnT (nI_lt (show 64 - inUse w - noKeep w < nLeaf w b from Nat.lt_of_not_le hr) (by omega)) rfl ?_
  refine rnN 1 rfl ?_
  exact rnR rfl
theorem c_dropBlock {b : Nat} (hw : h (10, k) = E w) (hi : Inv w u) (hb : b < w 2) (hd : dch k (awd w b) = true) (hr : nLeaf w b ≤ rm w) {u3 : Nat → Nat} (h3 : Inv (dB w b) u3) : Cl (d + 5) MX1_dropBlock [vR (1, k), vI (nI b)] h (some (vI (nI (nLeaf w b)))) (hup h (10, k) (E (flg (dB w b) u3))) := by
  have hsz := hi.1.sz
  have hrmle : rm w ≤ 64 := by unfold rm; omega
  obtain ⟨u', hI, hu, ho, hrm, haw, hT, hH, hO⟩ := gL_spec hi hb hr
  have hmz := c_makeZero (d := d) (h := hup h (10, k) (E (gL w b))) (k := k) (b := b) hup_at hI (by rw [hH 2 (by decide)]; exact hb) ho
  rw [hup_hup] at hmz
  have ht := c_tellFlags (d := d) (h := hup h (10, k) (E (dB w b))) (k := k) hup_at h3
  rw [hup_hup] at ht
  refine rnN 2 rfl ?_
  refine rnK rfl (c_dropChanges hw hi.1 (show b < 64 by omega)) ?_
  rw [if_pos hd]
  refine rnN 3 rfl ?_
  refine rnK rfl (c_leavesFor hw hi (show b < 64 by omega)) ?_
  refine rnN 3 rfl ?_
  refine rnK rfl (c_room hw hi.cg) ?_
  refine rnN 1 rfl ?_
  refine rnF (nI_nlt (show nLeaf w b ≤ 64 - inUse w - noKeep w from hr) (by unfold rm at hrmle; omega)) rfl ?_
  refine rnN 2 rfl ?_
  refine rnK rfl (c_giveLeaf hw hi hb hr) ?_
  refine rnN 2 rfl ?_
  refine rnK rfl (hmz) ?_
  refine rnN 1 rfl ?_
  refine rnK rfl (ht) ?_
  refine rnN 1 rfl ?_
  exact rnR rfl
end PW
