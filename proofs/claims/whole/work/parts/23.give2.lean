/-! ===== giveLeaf's contract; giveCluster, makeZero ===== -/
section G2
variable {d k : Nat} {h : xH} {w u : Nat → Nat}
theorem setc_at {c b p : Nat} (hp : p ≠ cpl w c) : setc w c b p = w p := up_ne hp
theorem c_putActiveWord {b x : Nat} (hw : h (10, k) = E w) (h3 : w 3 < 64) (hb : b < 64) (hx : w (8 * w 3 + b / 8) < 256) : Cl (d + 3) MX1_putActiveWord [vR (1, k), vI (nI b), vI (nI x)] h none (hup h (10, k) (E (up w (8 * (w (8 * w 3 + b / 8) / 4) + b % 8) x))) := by
  refine rnN 4 rfl ?_
  refine rnK rfl (c_leafLead hw h3 hb) ?_
  refine rnK rfl (c_clusterOf (show w (8 * w 3 + b / 8) < 2147483648 by omega)) ?_
  refine rnN 4 rfl ?_
  simp (disch := omega) only [nI_add, pk_mul, pk_sub, nd8, nd4, nsub8, nand63, nand7, nshr2, nI_clamp, E_at, hup_at, hup_hup]
  refine rnK rfl (c_put hw (show w (8 * w 3 + b / 8) / 4 < 64 by omega) (show b % 8 < 8 by omega)) ?_
  exact rnR rfl
theorem c_giveLeaf {b : Nat} (hw : h (10, k) = E w) (hi : Inv w u) (hb : b < w 2) (hr : nLeaf w b ≤ rm w) : Cl (d + 4) MX1_giveLeaf [vR (1, k), vI (nI b)] h none (hup h (10, k) (E (gL w b))) := by
  have hs := hi.1
  have hb64 := hs.sz.2
  have hxL := hs.tw act_tb (show b / 8 < 8 by omega)
  have hxl := hxL.lt
  refine rnN 2 rfl ?_
  refine rnK rfl (c_leafLead hw hs.act.2.1 (show b < 64 by omega)) ?_
  refine rnN 3 rfl ?_
  refine rnK rfl (c_isOwn hw hi hxl hxL.isLead) ?_
  by_cases ho : ow w (w (8 * w 3 + b / 8)) = true
  · have e : gL w b = w := if_pos ho
    rw [if_pos ho, e, hup_self hw]
    refine rnN 1 rfl ?_
    exact rnR rfl
  · have e : gL w b = glF (tkW w) (tkC w) (b / 8) := if_neg ho
    have en : nLeaf w b = 1 := if_neg ho
    rw [en] at hr
    rw [if_neg ho]
    obtain ⟨u1, ha, hu, hC1, hC2, hC3, hC4, hrm, hTT, hO, hH, hC5⟩ := tk_spec hi hr
    have hi8 : b / 8 < 8 := by omega
    have hact := hs.act
    have hne3 := ne_fresh (w := w) hC5 T_act
    have hneq : w 3 ≠ w 4 := fun e2 => by have := hs.ct; rw [e2] at hact; omega
    have e3 := hH 3 (by decide)
    have e4 := hH 4 (by decide)
    have hkc : tkW w (8 * tkW w 4 + tkC w / 8) ≠ 0 := by rw [e4]; exact hC4
    have hcc := cpl_in ha.1 hC2 hkc
    have hcne := ne_fresh (X := cpl (tkW w) (tkC w) / 8) hC3 (by omega)
    have exw : tkW w (8 * w 3 + b / 8) = w (8 * w 3 + b / 8) := hO _ (by rw [ix_div hi8]; have := T_act (w := w); omega) (by rw [ix_div hi8]; exact hneq)
    have hu3 : u1 (w 3) = 1 := by rw [hu _ (by have := T_act (w := w); omega)]; exact hact.2.2
    refine rnN 1 rfl ?_
    refine rnN 2 rfl ?_
    refine rnK rfl (c_take hw hi hr) ?_
    refine rnN 2 rfl ?_
    refine rnK rfl (c_isLead (show w (8 * w 3 + b / 8) < 2147483648 by omega)) ?_
    have hs3 : setc (tkW w) (tkC w) 1 3 = w 3 := by rw [setc_at (by omega), e3]
    by_cases hx0 : w (8 * w 3 + b / 8) / 4 = 0
    · have hx2 : ¬ 2 < w (8 * w 3 + b / 8) := fun e2 => hxL.isLead.mp e2 hx0
      have eg : gL w b = up (setc (tkW w) (tkC w) 1) (8 * w 3 + b / 8) (4 * tkC w + 1) := by
        rw [e]
        unfold glF
        simp only [e3, exw, if_pos hx0]
      rw [if_neg hx2, eg]
      refine rnN 1 rfl ?_
      refine rnN 3 rfl ?_
      refine rnK rfl (c_activeTable hup_at) ?_
      rw [hs3]
      refine rnN 5 rfl ?_
      simp (disch := omega) only [nI_add, pk_mul, pk_sub, nd8, nd4, nsub8, nand63, nand7, nshr2, nI_clamp, E_at, hup_at, hup_hup]
      refine rnK rfl (c_leadTo (Nat.le_refl 1)) ?_
      refine rnK rfl (c_put hup_at hact.2.1 hi8) ?_
      refine rnN 2 rfl ?_
      simp (disch := omega) only [nI_add, pk_mul, pk_sub, nd8, nd4, nsub8, nand63, nand7, nshr2, nI_clamp, E_at, hup_at, hup_hup]
      refine rnK rfl (c_release0 (show w (8 * w 3 + b / 8) ≤ 2 by omega)) ?_
      exact rnR rfl
    · have hx2 : 2 < w (8 * w 3 + b / 8) := hxL.isLead.mpr hx0
      have hlL := hxL.lead hx0
      have hlp := hlL.1.pos
      have hT1 := T_leaf act_tb hi8 hx0
      have hT2 : ¬ T w (w (8 * w 3 + b / 8) / 4) = 1 := fun e5 => ho (decide_eq_true ⟨hx0, e5⟩)
      have hTe := hTT (w (8 * w 3 + b / 8) / 4) (by omega)
      have hlne := ne_fresh (X := w (8 * w 3 + b / 8) / 4) hC3 (by omega)
      have hTle := T_le hs.ns.1 (w (8 * w 3 + b / 8) / 4)
      obtain ⟨z, hzd⟩ : ∃ z, z = up (cpc (setc (tkW w) (tkC w) 1) (setc (tkW w) (tkC w) 1) (w (8 * w 3 + b / 8) / 4) (tkC w)) (8 * w 3 + b / 8) (4 * tkC w + 1) := ⟨_, rfl⟩
      have eg : gL w b = setc z (w (8 * w 3 + b / 8) / 4) (T w (w (8 * w 3 + b / 8) / 4) - 1) := by
        rw [e, hzd]
        unfold glF
        simp only [e3, exw, if_neg hx0, hTe]
      have hzp : ∀ p, p ≠ 8 * w 3 + b / 8 → p / 8 ≠ tkC w → p ≠ cpl (tkW w) (tkC w) → z p = tkW w p := by
        intro p hp1 hp2 hp3
        rw [hzd, up_ne hp1]
        unfold cpc
        rw [if_neg hp2, setc_at hp3]
      have hct := ha.1.ct
      have hne4 := ne_fresh (w := tkW w) hC3 T_ct
      have hz4 : z 4 = tkW w 4 := hzp 4 (by omega) (by omega) (by omega)
      have hkl : tkW w (8 * tkW w 4 + w (8 * w 3 + b / 8) / 4 / 8) ≠ 0 := fun e5 => by
        have := ha.noK hlp.2 e5
        omega
      have hlc := cpl_in ha.1 hlp.2 hkl
      have hzk : z (8 * tkW w 4 + w (8 * w 3 + b / 8) / 4 / 8) = tkW w (8 * tkW w 4 + w (8 * w 3 + b / 8) / 4 / 8) := by
        refine hzp _ (fun e5 => ?_) (by omega) (fun e5 => ?_)
        · have e6 : tkW w 4 = w 3 := by omega
          rw [e6] at hct
          omega
        · have e6 : cpl (tkW w) (tkC w) / 8 = tkW w 4 := by omega
          rw [e6] at hcc
          omega
      have hzc : z (cpl (tkW w) (w (8 * w 3 + b / 8) / 4)) = T w (w (8 * w 3 + b / 8) / 4) := by
        rw [hzp _ (fun e5 => ?_) (ne_fresh hC3 (by omega)) (fun e5 => hlne (cpl_inj ha.1 hlp.2 hC2 hkl hkc e5)), ha.cntAt hlp.2 hkl, hTe]
        rw [e5, ix_div hi8] at hlc
        omega
      rw [if_pos hx2, eg]
      refine rnN 1 rfl ?_
      refine rnN 5 rfl ?_
      refine rnK rfl (c_clusterOf (show w (8 * w 3 + b / 8) < 2147483648 by omega)) ?_
      refine rnN 1 rfl ?_
      refine rnK rfl (c_copySame hup_at hlp.2 hC2 hlne) ?_
      refine rnN 3 rfl ?_
      simp (disch := omega) only [nI_add, pk_mul, pk_sub, nd8, nd4, nsub8, nand63, nand7, nshr2, nI_clamp, E_at, hup_at, hup_hup]
      have hc3 : cpc (setc (tkW w) (tkC w) 1) (setc (tkW w) (tkC w) 1) (w (8 * w 3 + b / 8) / 4) (tkC w) 3 = w 3 := by
        unfold cpc
        rw [if_neg (by omega), hs3]
      refine rnK rfl (c_activeTable hup_at) ?_
      rw [hc3]
      refine rnN 5 rfl ?_
      simp (disch := omega) only [nI_add, pk_mul, pk_sub, nd8, nd4, nsub8, nand63, nand7, nshr2, nI_clamp, E_at, hup_at, hup_hup]
      refine rnK rfl (c_leadTo (Nat.le_refl 1)) ?_
      refine rnK rfl (c_put hup_at hact.2.1 hi8) ?_
      refine rnN 2 rfl ?_
      simp (disch := omega) only [nI_add, pk_mul, pk_sub, nd8, nd4, nsub8, nand63, nand7, nshr2, nI_clamp, E_at, hup_at, hup_hup]
      rw [← hzd]
      have hrel := c_release (d := d + 1) (k := k) (h := hup h (10, k) (E z)) (x := w (8 * w 3 + b / 8)) (b := T w (w (8 * w 3 + b / 8) / 4) - 1) hup_at hxl hx2 (by rw [hz4]; exact hct.2.1) (by rw [hz4, hzk]; exact ha.1.keepLt (by omega)) (by
        rw [hz4, hzk, cpl_eq, hzc]
        omega) (by omega)
      rw [hup_hup] at hrel
      have ea : adc z (w (8 * w 3 + b / 8) / 4) (T w (w (8 * w 3 + b / 8) / 4) - 1) = setc z (w (8 * w 3 + b / 8) / 4) (T w (w (8 * w 3 + b / 8) / 4) - 1) := if_neg (by omega)
      rw [ea] at hrel
      refine rnK rfl (hrel) ?_
      exact rnR rfl
/-- a free cluster c becomes the cluster of the active table's block, with words of its own -/
def gcF (w : Nat → Nat) (c i j : Nat) (dat : Nat → Nat) : Nat → Nat :=
  let l := w (8 * w 3 + i) / 4
  let y := w (8 * l + j)
  let z := up (fun p => if p / 8 = c then dat (p % 8) else setc w c 1 p) (8 * l + j) (4 * c + 1)
  if y / 4 = 0 then z else setc z (y / 4) (T w (y / 4) - 1)
def gC (w : Nat → Nat) (b : Nat) (dat : Nat → Nat) : Nat → Nat := if ow w (awd w b) = true then w else gcF (tkW w) (tkC w) (b / 8) (b % 8) dat
def gCc (w : Nat → Nat) (b : Nat) : Nat := if ow w (awd w b) = true then awd w b / 4 else tkC w
/-- a block of the active table's own leaf becomes zero -/
def mzF (w : Nat → Nat) (b : Nat) : Nat → Nat :=
  let l := w (8 * w 3 + b / 8) / 4
  let y := w (8 * l + b % 8)
  if y / 4 = 0 then up w (8 * l + b % 8) 2 else adc (up w (8 * l + b % 8) 2) (y / 4) (T w (y / 4) - 1)
theorem gcF_words (hi : Inv w u) {c i j : Nat} {dat : Nat → Nat} (h1 : 1 ≤ c) (h2 : c < 64) (hz : T w c = 0) (hkc : w (8 * w 4 + c / 8) ≠ 0) (hi8 : i < 8) (hj8 : j < 8) (hl : w (8 * w 3 + i) / 4 ≠ 0) (hd : ∀ j, dat j < 4294967296)
    (hy : w (8 * (w (8 * w 3 + i) / 4) + j) / 4 = 0 ∨ 2 ≤ T w (w (8 * (w (8 * w 3 + i) / 4) + j) / 4)) :
    gcF w c i j dat (8 * (w (8 * w 3 + i) / 4) + j) = 4 * c + 1
    ∧ (∀ X, X < 64 → w (8 * w 4 + X / 8) ≠ 0 → gcF w c i j dat (cpl w X) = T w X + iv c X - ld (w (8 * (w (8 * w 3 + i) / 4) + j)) X)
    ∧ (∀ p, p / 8 ≠ c → p ≠ 8 * (w (8 * w 3 + i) / 4) + j → ¬ kp w p → gcF w c i j dat p = w p) ∧ (∀ p, gcF w c i j dat p < 4294967296)
    ∧ ∀ k, k < 8 → gcF w c i j dat (8 * c + k) = dat k := by
  have hs := hi.1
  have hlL := (hs.tw act_tb hi8).lead hl
  have hlp := hlL.1.pos
  have hTl := T_leaf act_tb hi8 hl
  have hlne := ne_fresh (w := w) hz hTl
  have hcc := cpl_in hs h2 hkc
  have hTb := hi.2.2.2.2
  have hle := T_le hs.ns.1
  have hA : ∀ X, X < 64 → w (8 * w 4 + X / 8) ≠ 0 → cpl w X ≠ 8 * (w (8 * w 3 + i) / 4) + j ∧ cpl w X / 8 ≠ c := by
    intro X hX h0
    have h3 := cpl_in hs hX h0
    refine ⟨fun e => ?_, ne_fresh hz (by omega)⟩
    rw [e, ix_div hj8] at h3
    omega
  obtain ⟨z, hzd⟩ : ∃ z, z = up (fun p => if p / 8 = c then dat (p % 8) else setc w c 1 p) (8 * (w (8 * w 3 + i) / 4) + j) (4 * c + 1) := ⟨_, rfl⟩
  have hzp : ∀ p, p ≠ 8 * (w (8 * w 3 + i) / 4) + j → p / 8 ≠ c → p ≠ cpl w c → z p = w p := by
    intro p hp1 hp2 hp3
    rw [hzd, up_ne hp1, if_neg hp2, setc_at hp3]
  have hzc : z (cpl w c) = 1 := by
    have h3 := hA c h2 hkc
    rw [hzd, up_ne h3.1, if_neg h3.2, setc_up, up_at]
  have hzb : ∀ p, z p < 4294967296 := by
    intro p
    rw [hzd, up]
    split
    · omega
    · split
      · exact hd _
      · rw [setc_up, up]
        split
        · omega
        · exact hTb p
  have hzC : ∀ k, k < 8 → z (8 * c + k) = dat k := by
    intro k hk
    rw [hzd, up_ne (by omega), if_pos (ix_div hk), ix_mod hk]
  by_cases hy0 : w (8 * (w (8 * w 3 + i) / 4) + j) / 4 = 0
  · have eg : gcF w c i j dat = z := by
      unfold gcF
      simp only [if_pos hy0]
      exact hzd.symm
    rw [eg]
    refine ⟨by rw [hzd, up_at], fun X hX h0 => ?_, fun p hp1 hp2 hp3 => hzp p hp2 hp1 (fun e => hp3 (by rw [e]; exact cpl_kp h2 hkc)), hzb, hzC⟩
    have h3 := hA X hX h0
    have e1 : ld (w (8 * (w (8 * w 3 + i) / 4) + j)) X = 0 := if_pos hy0
    rw [e1]
    by_cases e : X = c
    · rw [e, hzc, hz, iv_self]
    · rw [hzp _ h3.1 h3.2 (fun e2 => e (cpl_inj hs hX h2 h0 hkc e2)), hi.cntAt hX h0, iv_ne (fun e2 => e e2.symm)]
      rfl
  · have hy2 := hy.resolve_left hy0
    have hyL := (hlL.2.2.2 j hj8).lead hy0
    have hyp := hyL.1.pos
    have hyne := ne_fresh (X := w (8 * (w (8 * w 3 + i) / 4) + j) / 4) hz (by omega)
    have hky : w (8 * w 4 + w (8 * (w (8 * w 3 + i) / 4) + j) / 4 / 8) ≠ 0 := fun e => by
      have := hi.noK hyp.2 e
      omega
    have hy3 := hA _ hyp.2 hky
    have hct := hs.ct
    have hne4 := ne_fresh (w := w) hz T_ct
    have hact := hs.act
    have hz4 : z 4 = w 4 := hzp 4 (by omega) (by omega) (by omega)
    have hzk : ∀ k, k < 8 → z (8 * w 4 + k) = w (8 * w 4 + k) := by
      intro k hk
      refine hzp _ (fun e => ?_) (by omega) (fun e => ?_)
      · have e2 : w 4 = w (8 * w 3 + i) / 4 := by omega
        rw [e2] at hct
        omega
      · have e2 : cpl w c / 8 = w 4 := by omega
        rw [e2] at hcc
        omega
    have hzcpl : cpl z (w (8 * (w (8 * w 3 + i) / 4) + j) / 4) = cpl w (w (8 * (w (8 * w 3 + i) / 4) + j) / 4) := by
      unfold cpl
      rw [hz4, hzk _ (by omega)]
    have eg : gcF w c i j dat = up z (cpl w (w (8 * (w (8 * w 3 + i) / 4) + j) / 4)) (T w (w (8 * (w (8 * w 3 + i) / 4) + j) / 4) - 1) := by
      unfold gcF
      simp only [if_neg hy0]
      rw [← hzd, setc_up, hzcpl]
    rw [eg]
    refine ⟨?_, fun X hX h0 => ?_, fun p hp1 hp2 hp3 => ?_, fun p => ?_, fun k hk => ?_⟩
    · rw [up_ne (fun e => hy3.1 e.symm), hzd, up_at]
    · have h3 := hA X hX h0
      by_cases e : X = w (8 * (w (8 * w 3 + i) / 4) + j) / 4
      · have e1 : ld (w (8 * (w (8 * w 3 + i) / 4) + j)) X = 1 := by
          unfold ld
          rw [if_neg hy0, ← e, iv_self]
        rw [e1, ← e, up_at, iv_ne (fun e2 => hyne (by rw [← e, e2]))]
        rfl
      · have e1 : ld (w (8 * (w (8 * w 3 + i) / 4) + j)) X = 0 := by
          unfold ld
          rw [if_neg hy0, iv_ne (fun e2 => e e2.symm)]
        rw [e1, up_ne (fun e2 => e (cpl_inj hs hX hyp.2 h0 hky e2))]
        by_cases e2 : X = c
        · rw [e2, hzc, hz, iv_self]
        · rw [hzp _ h3.1 h3.2 (fun e4 => e2 (cpl_inj hs hX h2 h0 hkc e4)), hi.cntAt hX h0, iv_ne (fun e4 => e2 e4.symm)]
          rfl
    · rw [up_ne (fun e => hp3 (by rw [e]; exact cpl_kp hyp.2 hky)), hzp p hp2 hp1 (fun e => hp3 (by rw [e]; exact cpl_kp h2 hkc))]
    · have h4 := hle (w (8 * (w (8 * w 3 + i) / 4) + j) / 4)
      rw [up]
      split
      · omega
      · exact hzb p
    · rw [up_ne (fun e => hy3.2 (by rw [← e]; exact ix_div hk))]
      exact hzC k hk
end G2
