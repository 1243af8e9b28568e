/-! ===== the reference: own and drop without room; drop ===== -/
section MD
variable {d g : Nat} {h : xH} {M N w V u u' : Nat → Nat} {f : Nat → Int32} {W U : Nat → Nat → Nat}
theorem m_ownF1 {b nb : Nat} (hw : h (12, 0) = E (pf M g (flg V u))) (hg : g < 4) (hi : Inv V u) (hb : b < V 2) (hr : ¬ nLeaf V b ≤ rm V) : ∃ f', Cl (d + 6) MX4_own [vR (4, 0), vI (nI g), vI (jm nb), vI (nI b)] h (some (vI (nI 1000))) (mh h f' (pf M g (flg V u))) := by
  obtain ⟨f1, hol⟩ := m_ownLeafF (d := d) (M := M) hw hg hi hb hr
  refine ⟨f1, ?_⟩
  refine rnN 3 rfl ?_
  refine rnK rfl (hol) ?_
  refine rnN 5 rfl ?_
  exact rnR rfl
theorem m_ownF2 {b nb : Nat} (hw : h (12, 0) = E (pf M g (flg V u))) (hg : g < 4) (hi : Inv V u) (hb : b < V 2) (hr1 : nLeaf V b ≤ rm V) (hr2 : ¬ nClus V b ≤ rm (gL V b)) (hnb : nb ≤ 3) (hW : ∀ j, j < nb → j ≠ g ∧ Str (W j) (U j) ∧ ∀ p, p < 512 → M (512 * j + p) = W j p) :
    ∃ f' s' u1, Inv (gL V b) u1 ∧ Cl (d + 6) MX4_own [vR (4, 0), vI (nI g), vI (jm nb), vI (nI b)] h (some (vI (nI 1000))) (mh (hup h (15, 0) s') f' (pf M g (flg (gL V b) u1))) := by
  obtain ⟨u1, hI, hu, ho, hrm, haw, hT, hH, hO⟩ := gL_spec hi hb hr1
  have hcl := gL_clus hi hb hr1
  obtain ⟨f1, hol⟩ := m_ownLeaf (d := d) (M := M) hw hg hi hb hr1 hI
  have hle := nLeaf_le V b
  have hle2 := nClus_le V b
  have hb64 := hi.1.sz.2
  have hsf := (flg_inv hI).1.1
  have hlc := m_lacksCluster (d := d + 2) (h := mh h f1 (pf M g (flg (gL V b) u1))) (M := M) mh_12 hg hsf (show b < 64 by omega)
  rw [fl_nClus hI (by omega), hcl, show nClus V b = 1 by omega, mh_mh, mh_14] at hlc
  obtain ⟨f2, hf2⟩ : ∃ f2, f2 = cf f1 (T (flg (gL V b) u1)) := ⟨_, rfl⟩
  rw [← hf2] at hlc
  obtain ⟨s, hs⟩ : ∃ s : Nat → Int32, s = fun k => if k < 8 then nI (datm (gL V b) W nb b k) else h (15, 0) k := ⟨_, rfl⟩
  obtain ⟨f3, ht⟩ := m_takeF (d := d + 1) (h := hup (mh h f2 (pf M g (flg (gL V b) u1))) (15, 0) s) (M := M) (by rw [h12_15, mh_12]) hg hI (by omega)
  rw [mh_15, mh_mh] at ht
  obtain ⟨H, hH2⟩ : ∃ H, H = mh h f2 (pf M g (flg (gL V b) u1)) := ⟨_, rfl⟩
  have hH12 : H (12, 0) = E (pf M g (flg (gL V b) u1)) := by rw [hH2, mh_12]
  have hH15 : H (15, 0) = h (15, 0) := by rw [hH2]; exact mh_o (by decide) (by decide)
  have hHs : hup H (15, 0) s = mh (hup h (15, 0) s) f2 (pf M g (flg (gL V b) u1)) := by rw [hH2, mh_15]
  refine ⟨f3, s, u1, hI, ?_⟩
  refine rnN 3 rfl ?_
  refine rnK rfl (hol) ?_
  refine rnN 3 rfl ?_
  refine rnT (nI_lt (show nLeaf V b < 1000 by omega) (by decide)) rfl ?_
  refine rnN 3 rfl ?_
  refine rnK rfl (hlc) ?_
  refine rnN 4 rfl ?_
  refine rnK rfl (m_table (n := 0) mh_12 hg hsf.l6 (by decide)) ?_
  rw [show tbn (flg (gL V b) u1) 0 = flg (gL V b) u1 3 from rfl]
  refine rnN 3 rfl ?_
  rw [← hH2]
  refine rnH (hup_self (f := fun k => if k < 0 then nI (datm (gL V b) W nb b k) else h (15, 0) k) (by rw [hH15]; funext k; rw [if_neg (by omega)])).symm ?_
  refine lpN 8 (fun k => Rn (d + 6) MX4_own 39 [some (vR (4, 0)), some (vI (nI g)), some (vI (jm nb)), some (vI (nI b)), some (vI (nI (nLeaf V b))), some (vI (nI (512 * g + 8 * flg (gL V b) u1 3))), some (vI (nI k)), none, none] [] (hup H (15, 0) fun k2 => if k2 < k then nI (datm (gL V b) W nb b k2) else h (15, 0) k2) (some (vI (nI 1000))) (mh (hup h (15, 0) s) f3 (pf M g (flg (gL V b) u1)))) (fun k hk K => ?_) ?_
  · refine rnN 2 rfl ?_
    refine rnT (nI_lt hk (by decide)) rfl ?_
    refine rnN 9 rfl ?_
    refine rnK rfl (m_shows (W := W) (U := U) ((h12_15).trans hH12) hg hsf act_tb (show b < 64 by omega) hk hnb hW) ?_
    rw [fl_dat hI.1 (by omega) hk]
    refine rnC (inN (show k < 8 by omega) (by decide)) rfl ?_
    simp (disch := omega) only [nI_add, pk_mul, pk_sub, nd8, nd4, nsub8, nand63, nand7, nshr2, nI_clamp, E_at, hup_at, hup_hup, hpt_def, pf_at, pf_at2, cf_at, h12_14, h14_12, h12_15, h15_12, h14_15, h15_14]
    refine rnN 2 rfl ?_
    simp (disch := omega) only [nI_add, pk_mul, pk_sub, nd8, nd4, nsub8, nand63, nand7, nshr2, nI_clamp, E_at, hup_at, hup_hup, hpt_def, pf_at, pf_at2, cf_at, h12_14, h14_12, h12_15, h15_12, h14_15, h15_14]
    refine rnH ?_ K
    congr 1
    funext k2
    simp only [upd]
    by_cases e : k2 = k
    · rw [if_pos e, if_pos (by omega), e]
    · rw [if_neg e]
      by_cases e2 : k2 < k
      · rw [if_pos e2, if_pos (by omega)]
      · rw [if_neg e2, if_neg (by omega)]
  · rw [← hs, hHs]
    refine rnN 3 rfl ?_
    refine rnN 2 rfl ?_
    refine rnK rfl (ht) ?_
    refine rnN 4 rfl ?_
    exact rnR rfl
/-- a block made zero: the reference's words ahead of its settling agree with the class's -/
theorem mz_agr (hi : Inv V u) {b : Nat} (hb : b < V 2) (ho : ow V (V (8 * V 3 + b / 8)) = true) : Agr (up (flg V u) (8 * (V (8 * V 3 + b / 8) / 4) + b % 8) 2) (mzF V b) u := by
  obtain ⟨⟨hI, hT⟩, hH⟩ := mzF_specT hi hb ho
  have hs := hi.1
  have hb64 := hs.sz.2
  obtain ⟨hl, hown⟩ := ow_iff.mp ho
  have hi8 : b / 8 < 8 := by omega
  have hj8 : b % 8 < 8 := by omega
  have hlL := (hs.tw act_tb hi8).lead hl
  have hlp := hlL.1.pos
  have hBB := hlL.2.2.2 (b % 8) hj8
  obtain ⟨l, hld⟩ : ∃ l, l = V (8 * V 3 + b / 8) / 4 := ⟨_, rfl⟩
  have hdef : mzF V b = if V (8 * l + b % 8) / 4 = 0 then up V (8 * l + b % 8) 2 else adc (up V (8 * l + b % 8) 2) (V (8 * l + b % 8) / 4) (T V (V (8 * l + b % 8) / 4) - 1) := by
    rw [hld]
    rfl
  simp only [← hld] at hT hBB hlp hlL hown ⊢
  -- the words but the block's own
  have hw : ∀ p, p ≠ 8 * l + b % 8 → ¬ kp V p → T (mzF V b) (p / 8) ≠ 0 → mzF V b p = V p := by
    intro p h1 h2 h3
    rw [hdef]
    by_cases h0 : V (8 * l + b % 8) / 4 = 0
    · rw [if_pos h0]
      exact up_ne h1
    · rw [if_neg h0]
      have hyL := hBB.lead h0
      have hyp := hyL.1.pos
      obtain ⟨y, hy⟩ : ∃ y, y = V (8 * l + b % 8) / 4 := ⟨_, rfl⟩
      rw [← hy] at h0 hyL hyp ⊢
      have hTy := hT y
      have hldy : ld (V (8 * l + b % 8)) y = 1 := by
        unfold ld
        rw [← hy, if_neg h0, iv_self]
      rw [hldy] at hTy
      have hky : V (8 * V 4 + y / 8) ≠ 0 := fun e => by have := hi.noK hyp.2 e; omega
      have e4 : up V (8 * l + b % 8) 2 4 = V 4 := up_ne (by omega)
      have ek : up V (8 * l + b % 8) 2 (8 * V 4 + y / 8) = V (8 * V 4 + y / 8) := up_ne (fun e => by
        have e2 : V 4 = l := by omega
        have := hs.ct
        rw [e2] at this
        omega)
      have ec : cpl (up V (8 * l + b % 8) 2) y = cpl V y := by unfold cpl; rw [e4, ek]
      have hpc : p ≠ cpl V y := fun e => h2 (by rw [e]; exact cpl_kp hyp.2 hky)
      unfold adc
      by_cases h5 : T V y - 1 = 0
      · rw [if_pos h5]
        have hpy : p / 8 ≠ y := fun e => by rw [e] at h3; omega
        unfold zc
        rw [if_neg hpy, setc_up, ec, up_ne hpc, up_ne h1]
      · rw [if_neg h5, setc_up, ec, up_ne hpc, up_ne h1]
  have hq : mzF V b (8 * l + b % 8) = 2 := by
    rw [hdef]
    by_cases h0 : V (8 * l + b % 8) / 4 = 0
    · rw [if_pos h0]
      exact up_at
    · rw [if_neg h0]
      have hyL := hBB.lead h0
      have hyp := hyL.1.pos
      have hky : V (8 * V 4 + V (8 * l + b % 8) / 4 / 8) ≠ 0 := fun e => by
        have := hi.noK hyp.2 e
        have h1 := T_blk (w := V) act_tb hi8 hj8 hl (by rw [← hld]; exact h0)
        rw [← hld] at h1
        omega
      have hin := cpl_in hs hyp.2 hky
      have e4 : up V (8 * l + b % 8) 2 4 = V 4 := up_ne (by omega)
      have ek : up V (8 * l + b % 8) 2 (8 * V 4 + V (8 * l + b % 8) / 4 / 8) = V (8 * V 4 + V (8 * l + b % 8) / 4 / 8) := up_ne (fun e => by
        have e2 : V 4 = l := by omega
        have := hs.ct
        rw [e2] at this
        omega)
      have ec : cpl (up V (8 * l + b % 8) 2) (V (8 * l + b % 8) / 4) = cpl V (V (8 * l + b % 8) / 4) := by unfold cpl; rw [e4, ek]
      have hpc : 8 * l + b % 8 ≠ cpl V (V (8 * l + b % 8) / 4) := fun e => by rw [← e, ix_div hj8] at hin; omega
      have hly : l ≠ V (8 * l + b % 8) / 4 := fun e => by have := hlL.2.2.1; rw [e] at this; omega
      unfold adc
      split
      · unfold zc
        rw [ix_div hj8, if_neg hly, setc_up, ec, up_ne hpc, up_at]
      · rw [setc_up, ec, up_ne hpc, up_at]
  intro p hTp hu
  by_cases e1 : p = 8 * l + b % 8
  · left
    rw [e1, up_at, hq]
  · rw [up_ne e1]
    have hTv : T V (p / 8) ≠ 0 := fun e => by have := hT (p / 8); omega
    have hnk : ¬ kp V p := by
      rcases hu with hu | hu
      · exact nk0 (by omega)
      · exact hs.nk hu
    rw [hw p e1 hnk hTp]
    exact flg_agr V u p hTv hu
theorem dch_ne {nb y : Nat} (h : dch nb y = true) (hy : y / 4 = 0 → y = 0 ∨ y = 2) : y ≠ 2 ∧ (y = 0 → nb ≠ 0) := by
  have h1 := of_decide_eq_true h
  constructor
  · intro e
    omega
  · intro e
    omega
theorem m_drop0 {b nb : Nat} (hw : h (12, 0) = E (pf M g (flg V u))) (hg : g < 4) (hi : Inv V u) (hb : b < V 2) (hnb : nb ≤ 3) (hd : ¬ dch nb (awd V b) = true) : Cl (d + 6) MX4_drop [vR (4, 0), vI (nI g), vI (jm nb), vI (nI b)] h (some (vI (nI 0))) h := by
  have hb64 := hi.1.sz.2
  have hsf := (flg_inv hi).1.1
  have hB := hi.1.bok act_tb (show b < 64 by omega)
  have hfa := fl_aw hi.1 (show b < 64 by omega)
  have h4 : awd V b / 4 = 0 := Classical.byContradiction fun e => hd (decide_eq_true (Or.inl e))
  have hfe := hfa.2 h4
  refine rnN 3 rfl ?_
  refine rnK rfl (m_table (n := 0) hw hg hsf.l6 (by decide)) ?_
  rw [show tbn (flg V u) 0 = flg V u 3 from rfl]
  refine rnN 5 rfl ?_
  refine rnK rfl (m_entry hw hg hsf act_tb (show b < 64 by omega)) ?_
  rw [show bwd (flg V u) (flg V u 3) b = awd (flg V u) b from rfl, hfe]
  refine rnN 3 rfl ?_
  rcases hB.flat h4 with e | e
  · have e : awd V b = 0 := e
    have en : nb = 0 := Classical.byContradiction fun e2 => hd (decide_eq_true (Or.inr ⟨e, e2⟩))
    rw [e, en]
    refine rnN 6 rfl ?_
    exact rnR rfl
  · have e : awd V b = 2 := e
    rw [e]
    refine rnN 2 rfl ?_
    exact rnR rfl
/-- drop, up to its taking of a leaf -/
theorem drop_head {b nb : Nat} {r : Option xV} {hf : xH} (hw : h (12, 0) = E (pf M g (flg V u))) (hg : g < 4) (hi : Inv V u) (hb : b < V 2) (hnb : nb ≤ 3) (hd : dch nb (awd V b) = true)
    (K : Rn (d + 6) MX4_drop 35 [some (vR (4, 0)), some (vI (nI g)), some (vI (jm nb)), some (vI (nI b)), some (vI (nI (512 * g + 8 * flg V u 3))), some (vI (nI (awd (flg V u) b))), none, none] [] h r hf) : Cl (d + 6) MX4_drop [vR (4, 0), vI (nI g), vI (jm nb), vI (nI b)] h r hf := by
  have hb64 := hi.1.sz.2
  have hsf := (flg_inv hi).1.1
  have hB := hi.1.bok act_tb (show b < 64 by omega)
  have hBf := (hsf.bok act_tb (show b < 64 by omega)).lt
  have hBf : awd (flg V u) b < 256 := hBf
  have hfa := fl_aw hi.1 (show b < 64 by omega)
  have hne := dch_ne hd (fun e => hB.flat e)
  have h2 : awd (flg V u) b ≠ 2 := fun e => by
    have h4 : awd V b / 4 = 0 := by omega
    rw [hfa.2 h4] at e
    exact hne.1 e
  refine rnN 3 rfl ?_
  refine rnK rfl (m_table (n := 0) hw hg hsf.l6 (by decide)) ?_
  rw [show tbn (flg V u) 0 = flg V u 3 from rfl]
  refine rnN 5 rfl ?_
  refine rnK rfl (m_entry hw hg hsf act_tb (show b < 64 by omega)) ?_
  rw [show bwd (flg V u) (flg V u 3) b = awd (flg V u) b from rfl]
  refine rnN 3 rfl ?_
  refine rnF ((show ¬ nI (awd (flg V u) b) = nI 2 from fun e => h2 ((neq (by omega) (by decide)).mp e))) rfl ?_
  refine rnN 1 rfl ?_
  by_cases h0 : awd (flg V u) b = 0
  · have h4 : awd V b / 4 = 0 := by omega
    have hv0 : awd V b = 0 := by rw [← hfa.2 h4]; exact h0
    have hnb0 := hne.2 hv0
    obtain ⟨n, rfl⟩ : ∃ n, nb = n + 1 := ⟨nb - 1, by omega⟩
    refine rnT ((show nI (awd (flg V u) b) = 0 by rw [h0]; rfl)) rfl ?_
    refine rnN 1 rfl ?_
    refine rnF ((show ¬ jm (n + 1) < 0 from nI_pos (show n < 2147483648 by omega))) rfl ?_
    exact K
  · refine rnF (nI_ne0 (Nat.pos_of_ne_zero h0) (by omega)) rfl ?_
    exact K
theorem m_dropF {b nb : Nat} (hw : h (12, 0) = E (pf M g (flg V u))) (hg : g < 4) (hi : Inv V u) (hb : b < V 2) (hnb : nb ≤ 3) (hd : dch nb (awd V b) = true) (hr : ¬ nLeaf V b ≤ rm V) : ∃ f', Cl (d + 6) MX4_drop [vR (4, 0), vI (nI g), vI (jm nb), vI (nI b)] h (some (vI (nI 1000))) (mh h f' (pf M g (flg V u))) := by
  obtain ⟨f1, hol⟩ := m_ownLeafF (d := d) (M := M) hw hg hi hb hr
  refine ⟨f1, drop_head hw hg hi hb hnb hd ?_⟩
  refine rnN 3 rfl ?_
  refine rnK rfl (hol) ?_
  refine rnN 5 rfl ?_
  exact rnR rfl
theorem m_drop {b nb : Nat} (hw : h (12, 0) = E (pf M g (flg V u))) (hg : g < 4) (hi : Inv V u) (hb : b < V 2) (hnb : nb ≤ 3) (hd : dch nb (awd V b) = true) (hr : nLeaf V b ≤ rm V) (hi' : Inv (mzF (gL V b) b) u') : ∃ f', Cl (d + 6) MX4_drop [vR (4, 0), vI (nI g), vI (jm nb), vI (nI b)] h (some (vI (nI (nLeaf V b)))) (mh h f' (pf M g (flg (mzF (gL V b) b) u'))) := by
  obtain ⟨u1, hI, hu, ho, hrm, haw, hT, hH, hO⟩ := gL_spec hi hb hr
  obtain ⟨f1, hol⟩ := m_ownLeaf (d := d) (M := M) hw hg hi hb hr hI
  have hle := nLeaf_le V b
  have hb64 := hi.1.sz.2
  have hb2 : b < gL V b 2 := by rw [hH 2 (by decide)]; exact hb
  have hag := mz_agr hI hb2 ho
  have hI2 := (mzF_spec hI hb2 ho).1
  have hsf := (flg_inv hI).1.1
  have hsR := hag.eS hI2.1
  have hfa := flg_agr (gL V b) u1
  have e3 : flg (gL V b) u1 3 = gL V b 3 := hfa.hdr (by decide)
  have e3V : flg V u 3 = gL V b 3 := by rw [(flg_agr V u).hdr (by decide), hH 3 (by decide)]
  have el : flg (gL V b) u1 (8 * gL V b 3 + b / 8) / 4 = gL V b (8 * gL V b 3 + b / 8) / 4 := hfa.tb4 hI.1 act_tb (by omega)
  obtain ⟨hl, hown⟩ := ow_iff.mp ho
  have hlp := ((hI.1.tw act_tb (show b / 8 < 8 by omega)).lead hl).1.pos
  have hst := m_settle (d := d + 2) (h := mh h f1 (pf M g (up (flg (gL V b) u1) (8 * (gL V b (8 * gL V b 3 + b / 8) / 4) + b % 8) 2))) (M := M) mh_12 hg hsR
  rw [mh_mh, mh_14, pf_congr (stl_agr hI2 hag), flg_u hI2 hi'] at hst
  have hslot := m_slot (d := d + 4) (h := mh h f1 (pf M g (flg (gL V b) u1))) (M := M) (g := g) (b := b) mh_12 hg hsf act_tb (by omega)
  rw [e3, el, if_neg hl] at hslot
  refine ⟨cf f1 (T (up (flg (gL V b) u1) (8 * (gL V b (8 * gL V b 3 + b / 8) / 4) + b % 8) 2)), drop_head hw hg hi hb hnb hd ?_⟩
  rw [e3V]
  refine rnN 3 rfl ?_
  refine rnK rfl (hol) ?_
  refine rnN 3 rfl ?_
  refine rnT (nI_lt (show nLeaf V b < 1000 by omega) (by decide)) rfl ?_
  refine rnN 4 rfl ?_
  refine rnK rfl (hslot) ?_
  refine rnN 5 rfl ?_
  refine rnC (inN (show 512 * g + 8 * (gL V b (8 * gL V b 3 + b / 8) / 4) + b % 8 < 2048 by omega) (by decide)) rfl ?_
  simp (disch := omega) only [nI_clamp, mhpt]
  rw [show 512 * g + 8 * (gL V b (8 * gL V b 3 + b / 8) / 4) + b % 8 = 512 * g + (8 * (gL V b (8 * gL V b 3 + b / 8) / 4) + b % 8) by omega, pf_up (show 8 * (gL V b (8 * gL V b 3 + b / 8) / 4) + b % 8 < 512 by omega)]
  refine rnN 2 rfl ?_
  refine rnK rfl (hst) ?_
  refine rnN 1 rfl ?_
  exact rnR rfl
end MD
