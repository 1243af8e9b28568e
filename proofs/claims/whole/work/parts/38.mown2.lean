/-! ===== the reference: own, drop ===== -/
/-- the words that a block's new cluster begins with -/
def datm (V : Nat → Nat) (W : Nat → Nat → Nat) (nb b k : Nat) : Nat := if awd V b / 4 = 0 then (if awd V b = 0 then shB W nb b k else 0) else V (8 * (awd V b / 4) + k)
section MO2
variable {d g : Nat} {h : xH} {M N w V u u' : Nat → Nat} {f : Nat → Int32} {W U : Nat → Nat → Nat}
theorem mh_15 {s : Nat → Int32} : hup (mh h f N) (15, 0) s = mh (hup h (15, 0) s) f N := by
  funext q
  unfold mh hup
  by_cases h1 : q = (15, 0)
  · subst h1
    rfl
  · simp only [if_neg h1]
theorem shB_lt (hb : ∀ j p, W j p < 4294967296) : ∀ n b k, shB W n b k < 4294967296 := by
  intro n
  induction n with
  | zero => intro b k; simp [shB]
  | succ n ih =>
    intro b k
    rw [shB]
    split
    · split
      · exact ih b k
      · decide
    · exact hb _ _
theorem datm_lt (hV : ∀ p, V p < 4294967296) (hb : ∀ j p, W j p < 4294967296) (n b k : Nat) : datm V W n b k < 4294967296 := by
  unfold datm
  split
  · split
    · exact shB_lt hb _ _ _
    · decide
  · exact hV _
theorem fl_dat (hs : Str V u) {b nb k : Nat} (hb : b < 64) (hk : k < 8) : (if bwd (flg V u) (flg V u 3) b / 4 = 0 then (if bwd (flg V u) (flg V u 3) b = 0 then shB W nb b k else 0) else flg V u (8 * (bwd (flg V u) (flg V u 3) b / 4) + k)) = datm V W nb b k := by
  have h1 := fl_aw hs hb
  unfold datm
  rw [show bwd (flg V u) (flg V u 3) b = awd (flg V u) b from rfl]
  rw [h1.1]
  split
  · next h0 => rw [h1.2 h0]
  · next h0 =>
    have h2 := ((hs.bok act_tb hb).lead (show bwd V (V 3) b / 4 ≠ 0 from h0)).2.2
    have h3 : u (awd V b / 4) = 24 + (8 * (b / 8) + b % 8) := h2
    exact flg_out (fun e => by rw [ix_div hk] at e; have := e.2.2; unfold TL at this; omega)
theorem gC_specT (hi : Inv V u) {b : Nat} {dat : Nat → Nat} (hb : b < V 2) (ho : ow V (V (8 * V 3 + b / 8)) = true) (hoc : ¬ ow V (awd V b) = true) (hr : 1 ≤ rm V) (hd : ∀ j, dat j < 4294967296) : ∃ u1, Inv (tkW V) u1 ∧ Inv (gC V b dat) (up u1 (tkC V) (24 + (8 * (b / 8) + b % 8))) ∧ (∀ X, T (gC V b dat) X + ld (V (8 * (V (8 * V 3 + b / 8) / 4) + b % 8)) X = T (tkW V) X + iv (tkC V) X)
    ∧ tkW V 3 = V 3 ∧ tkW V (8 * V 3 + b / 8) = V (8 * V 3 + b / 8) ∧ gC V b dat (8 * (V (8 * V 3 + b / 8) / 4) + b % 8) = 4 * tkC V + 1 ∧ (∀ k, k < 8 → gC V b dat (8 * tkC V + k) = dat k) ∧ (∀ p, p / 8 ≠ tkC V → p ≠ 8 * (V (8 * V 3 + b / 8) / 4) + b % 8 → ¬ kp (tkW V) p → gC V b dat p = tkW V p)
    ∧ 1 ≤ tkC V ∧ tkC V < 64 ∧ T (tkW V) (tkC V) = 0 ∧ V (8 * V 3 + b / 8) / 4 ≠ 0 ∧ V (8 * V 3 + b / 8) / 4 ≠ tkC V ∧ u1 (V (8 * V 3 + b / 8) / 4) = 8 + b / 8 ∧ V (8 * V 3 + b / 8) / 4 < 64 := by
  have hs := hi.1
  have hb64 := hs.sz.2
  obtain ⟨hl, hown⟩ := ow_iff.mp ho
  have hi8 : b / 8 < 8 := by omega
  have hj8 : b % 8 < 8 := by omega
  have hlL := (hs.tw act_tb hi8).lead hl
  have eaw := awd_own (w := V) (b := b) hl
  have hB := hlL.2.2.2 (b % 8) hj8
  have e : gC V b dat = gcF (tkW V) (tkC V) (b / 8) (b % 8) dat := if_neg hoc
  obtain ⟨u1, ha, hu, hC1, hC2, hC3, hC4, hrm, hTT, hO, hH, hC5⟩ := tk_spec hi hr
  obtain ⟨t1, t2⟩ := tk_leaf hi hr hi8 hl
  have e3 := hH 3 (by decide)
  have e4 := hH 4 (by decide)
  have hl1 : tkW V (8 * tkW V 3 + b / 8) / 4 ≠ 0 := by rw [e3, t1]; exact hl
  have hown1 : T (tkW V) (tkW V (8 * tkW V 3 + b / 8) / 4) = 1 := by rw [e3, t1, hTT _ (by omega)]; exact hown
  have hy : tkW V (8 * (tkW V (8 * tkW V 3 + b / 8) / 4) + b % 8) / 4 = 0 ∨ 2 ≤ T (tkW V) (tkW V (8 * (tkW V (8 * tkW V 3 + b / 8) / 4) + b % 8) / 4) := by
    rw [e3, t1, t2 _ hj8]
    by_cases hy0 : V (8 * (V (8 * V 3 + b / 8) / 4) + b % 8) / 4 = 0
    · exact Or.inl hy0
    · right
      have h5 := T_blk act_tb hi8 hj8 hl hy0
      rw [hTT _ (by omega)]
      have h6 : ¬ T V (V (8 * (V (8 * V 3 + b / 8) / 4) + b % 8) / 4) = 1 := fun e5 => hoc (ow_iff.mpr (by rw [eaw]; exact ⟨hy0, e5⟩))
      omega
  obtain ⟨vB, vK, vO, vb, vD⟩ := gcF_words (dat := dat) ha hC1 hC2 hC3 (by rw [e4]; exact hC4) hi8 hj8 hl1 hd hy
  obtain ⟨hV, hT⟩ := clus_inv ha hC1 hC2 hC3 (by rw [e4]; exact hC4) hi8 hj8 (by rw [hH 2 (by decide)]; omega) (Nat.le_refl 1) hl1 hown1 hy vB vK vO vb
  rw [e3, t1] at vB vO
  rw [e3, t1, t2 _ hj8] at hT
  have hlne := ne_fresh (X := V (8 * V 3 + b / 8) / 4) hC5 (by omega)
  rw [e]
  exact ⟨u1, ha, hV, hT, e3, t1, vB, vD, vO, hC1, hC2, hC3, hl, hlne, by rw [hu _ (by omega)]; exact hlL.2.2.1, hlL.1.pos.2⟩
/-- the reference's words ahead of its settling agree with the class's -/
theorem gC_agr (hi : Inv V u) {b : Nat} {dat : Nat → Nat} (hb : b < V 2) (ho : ow V (V (8 * V 3 + b / 8)) = true) (hoc : ¬ ow V (awd V b) = true) (hr : 1 ≤ rm V) (hd : ∀ j, dat j < 4294967296) {u1 : Nat → Nat} (h1 : Inv (tkW V) u1) :
    ∃ u2, Inv (gC V b dat) u2 ∧ Agr (fun p => if p / 8 = tkC V then dat (p % 8) else up (flg (tkW V) u1) (8 * (V (8 * V 3 + b / 8) / 4) + b % 8) (4 * tkC V) p) (gC V b dat) u2 := by
  obtain ⟨u1', ha, hI, hT, e3, t1, vB, vD, vO, hC1, hC2, hC3, hl, hlne, hul, hl64⟩ := gC_specT hi hb ho hoc hr hd
  have hj8 : b % 8 < 8 := by omega
  have hi8 : b / 8 < 8 := by have := hi.1.sz.2; omega
  rw [flg_u h1 ha]
  refine ⟨_, hI, ?_⟩
  have hs := ha.1
  intro p hTp hu
  dsimp only
  by_cases e2 : p / 8 = tkC V
  · obtain ⟨k, hk, rfl⟩ : ∃ k, k < 8 ∧ p = 8 * tkC V + k := ⟨p % 8, by omega, by omega⟩
    left
    rw [if_pos e2, vD k hk, ix_mod hk]
  · rw [if_neg e2]
    by_cases e1 : p = 8 * (V (8 * V 3 + b / 8) / 4) + b % 8
    · right
      rw [e1, up_at, vB, ix_div hj8]
      refine ⟨by omega, ?_, by omega, by omega, by omega⟩
      unfold TL
      rw [up_ne hlne]
      omega
    · rw [up_ne e1]
      rw [up_ne e2] at hu
      have hTv : T (tkW V) (p / 8) ≠ 0 := fun e => by
        have := hT (p / 8)
        rw [e, iv_ne (fun e => e2 e.symm)] at this
        omega
      have hnk : ¬ kp (tkW V) p := by
        rcases hu with hu | hu
        · exact nk0 (by omega)
        · exact hs.nk hu
      rw [vO p e2 e1 hnk]
      rcases flg_agr (tkW V) u1' p hTv hu with q | ⟨q1, q2, q3⟩
      · exact Or.inl q
      · refine Or.inr ⟨q1, ?_, q3⟩
        unfold TL
        rw [up_ne e2]
        exact q2
/-- a cluster of its own, behind the leaf: from the second test on -/
theorem own_tail {b nb n : Nat} (hw : h (12, 0) = E (pf M g (flg V u))) (hg : g < 4) (hi : Inv V u) (hb : b < V 2) (ho : ow V (V (8 * V 3 + b / 8)) = true) (hr : nClus V b ≤ rm V) (hnb : nb ≤ 3) (hW : ∀ j, j < nb → j ≠ g ∧ Str (W j) (U j) ∧ ∀ p, p < 512 → M (512 * j + p) = W j p) (hWb : ∀ j p, W j p < 4294967296)
    (hi' : Inv (gC V b (datm V W nb b)) u') : ∃ f' s', Rn (d + 6) MX4_own 16 [some (vR (4, 0)), some (vI (nI g)), some (vI (jm nb)), some (vI (nI b)), some (vI (nI n)), none, none, none, none] [] h (some (vI (nI (n + nClus V b)))) (mh (hup h (15, 0) s') f' (pf M g (flg (gC V b (datm V W nb b)) u'))) := by
  have hb64 := hi.1.sz.2
  have hsf := (flg_inv hi).1.1
  have hlc := m_lacksCluster (d := d + 2) (M := M) hw hg hsf (show b < 64 by omega)
  rw [fl_nClus hi (by omega)] at hlc
  by_cases hoc : ow V (awd V b) = true
  · have e : gC V b (datm V W nb b) = V := if_pos hoc
    have en : nClus V b = 0 := if_pos hoc
    rw [e] at hi' ⊢
    rw [en] at hlc ⊢
    rw [← flg_u hi hi']
    refine ⟨cf (h (14, 0)) (T (flg V u)), h (15, 0), ?_⟩
    rw [hup_self rfl]
    refine rnN 3 rfl ?_
    refine rnK rfl (hlc) ?_
    refine rnN 2 rfl ?_
    exact rnR rfl
  · have en : nClus V b = 1 := if_neg hoc
    rw [en] at hr hlc ⊢
    have hd := datm_lt (V := V) (W := W) hi.2.2.2.2 hWb nb b
    obtain ⟨u1, ha, hI, hT, e3, t1, vB, vD, vO, hC1, hC2, hC3, hl, hlne, hul, hl64⟩ := gC_specT hi hb ho hoc hr hd
    obtain ⟨u2, hI2, hag⟩ := gC_agr hi hb ho hoc hr hd ha
    have hi8 : b / 8 < 8 := by omega
    obtain ⟨dat, hdat⟩ : ∃ dat, dat = datm V W nb b := ⟨_, rfl⟩
    rw [← hdat] at hi' hI vB vD vO hI2 hag hT ⊢
    obtain ⟨s, hs⟩ : ∃ s : Nat → Int32, s = fun k => if k < 8 then nI (dat k) else h (15, 0) k := ⟨_, rfl⟩
    obtain ⟨f1, ht⟩ := m_takeT (d := d + 1) (h := hup (mh h (cf (h (14, 0)) (T (flg V u))) (pf M g (flg V u))) (15, 0) s) (M := M) (by rw [h12_15, mh_12]) hg hi hr ha
    rw [mh_15, mh_mh] at ht
    have hsR := hag.eS hI2.1
    have hfa := flg_agr (tkW V) u1
    have hsv := (flg_inv ha).1.1
    have ev3 : flg (tkW V) u1 3 = V 3 := by rw [hfa.hdr (by decide), e3]
    have evl : flg (tkW V) u1 (8 * V 3 + b / 8) / 4 = V (8 * V 3 + b / 8) / 4 := by
      have h1 := hfa.tb4 ha.1 act_tb hi8
      rw [e3, t1] at h1
      exact h1
    have hst := m_settle (d := d + 2) (h := mh (hup h (15, 0) s) f1 (pf M g (fun p => if p / 8 = tkC V then dat (p % 8) else up (flg (tkW V) u1) (8 * (V (8 * V 3 + b / 8) / 4) + b % 8) (4 * tkC V) p))) (M := M) mh_12 hg hsR
    rw [mh_mh, mh_14, pf_congr (stl_agr hI2 hag), flg_u hI2 hi'] at hst
    obtain ⟨f2, hf2⟩ : ∃ f2, f2 = cf f1 (T (fun p => if p / 8 = tkC V then dat (p % 8) else up (flg (tkW V) u1) (8 * (V (8 * V 3 + b / 8) / 4) + b % 8) (4 * tkC V) p)) := ⟨_, rfl⟩
    rw [← hf2] at hst
    obtain ⟨c, hc⟩ : ∃ c, c = tkC V := ⟨_, rfl⟩
    obtain ⟨l, hld⟩ : ∃ l, l = V (8 * V 3 + b / 8) / 4 := ⟨_, rfl⟩
    simp only [← hc, ← hld] at ht hst hC1 hC2 hC3 hl hlne hl64 evl
    have hev3 : flg V u 3 = V 3 := (flg_agr V u).hdr (by decide)
    have hact := hi.1.act
    refine ⟨f2, s, ?_⟩
    refine rnN 3 rfl ?_
    refine rnK rfl (hlc) ?_
    refine rnN 4 rfl ?_
    refine rnK rfl (m_table (n := 0) mh_12 hg hsf.l6 (by decide)) ?_
    rw [show tbn (flg V u) 0 = flg V u 3 from rfl]
    refine rnN 3 rfl ?_
    obtain ⟨H, hH⟩ : ∃ H, H = mh h (cf (h (14, 0)) (T (flg V u))) (pf M g (flg V u)) := ⟨_, rfl⟩
    have hH12 : H (12, 0) = E (pf M g (flg V u)) := by rw [hH, mh_12]
    have hH15 : H (15, 0) = h (15, 0) := by rw [hH]; exact mh_o (by decide) (by decide)
    have hHs : hup H (15, 0) s = mh (hup h (15, 0) s) (cf (h (14, 0)) (T (flg V u))) (pf M g (flg V u)) := by rw [hH, mh_15]
    rw [← hH]
    refine rnH (hup_self (f := fun k => if k < 0 then nI (dat k) else h (15, 0) k) (by rw [hH15]; funext k; rw [if_neg (by omega)])).symm ?_
    refine lpN 8 (fun k => Rn (d + 6) MX4_own 39 [some (vR (4, 0)), some (vI (nI g)), some (vI (jm nb)), some (vI (nI b)), some (vI (nI n)), some (vI (nI (512 * g + 8 * flg V u 3))), some (vI (nI k)), none, none] [] (hup H (15, 0) fun k2 => if k2 < k then nI (dat k2) else h (15, 0) k2) (some (vI (nI (n + 1)))) (mh (hup h (15, 0) s) f2 (pf M g (flg (gC V b dat) u')))) (fun k hk K => ?_) ?_
    · refine rnN 2 rfl ?_
      refine rnT (nI_lt hk (by decide)) rfl ?_
      refine rnN 9 rfl ?_
      refine rnK rfl (m_shows (W := W) (U := U) ((h12_15).trans hH12) hg hsf act_tb (show b < 64 by omega) hk hnb hW) ?_
      rw [fl_dat hi.1 (by omega) hk, ← hdat]
      refine rnC (inN (show k < 8 by omega) (by decide)) rfl ?_
      simp (disch := omega) only [nI_add, pk_mul, pk_sub, nd8, nd4, nsub8, nand63, nand7, nshr2, nI_clamp, E_at, hup_at, hup_hup, hpt_def, pf_at, pf_at2, cf_at, h12_14, h14_12, h12_15, h15_12, h14_15, h15_14]
      refine rnN 2 rfl ?_
      simp (disch := omega) only [nI_add, pk_mul, pk_sub, nd8, nd4, nsub8, nand63, nand7, nshr2, nI_clamp, E_at, hup_at, hup_hup, hpt_def, pf_at, pf_at2, cf_at, h12_14, h14_12, h12_15, h15_12, h14_15, h15_14]
      refine rnH ?_ K
      congr 1
      funext k2
      simp only [upd]
      by_cases e : k2 = k
      · rw [if_pos e, if_pos (by omega), e]
      · rw [if_neg e]
        by_cases e2 : k2 < k
        · rw [if_pos e2, if_pos (by omega)]
        · rw [if_neg e2, if_neg (by omega)]
    · rw [← hs, hHs]
      refine rnN 3 rfl ?_
      refine rnN 2 rfl ?_
      refine rnK rfl (ht) ?_
      refine rnN 2 rfl ?_
      refine rnF (nI_pos (show c < 2147483648 by omega)) rfl ?_
      refine rnN 4 rfl ?_
      have hslot := m_slot (d := d + 4) (h := mh (hup h (15, 0) s) f1 (pf M g (flg (tkW V) u1))) (M := M) (g := g) (b := b) mh_12 hg hsv act_tb (by omega)
      rw [ev3, evl, if_neg hl] at hslot
      rw [hev3]
      refine rnK rfl (hslot) ?_
      refine rnN 7 rfl ?_
      simp (disch := omega) only [nI_add, pk_mul, pk_sub, nd8, nd4, nsub8, nand63, nand7, nshr2, nI_clamp, E_at, hup_at, hup_hup, hpt_def, pf_at, pf_at2, cf_at, h12_14, h14_12, h12_15, h15_12, h14_15, h15_14]
      refine rnC (inN (show 512 * g + 8 * l + b % 8 < 2048 by omega) (by decide)) rfl ?_
      simp (disch := omega) only [nI_clamp, mhpt]
      rw [show 512 * g + 8 * l + b % 8 = 512 * g + (8 * l + b % 8) by omega, pf_up (show 8 * l + b % 8 < 512 by omega)]
      refine rnN 2 rfl ?_
      have e0 : pf M g (up (flg (tkW V) u1) (8 * l + b % 8) (4 * c)) = pf M g fun p => if p / 8 = c ∧ p % 8 < 0 then dat (p % 8) else up (flg (tkW V) u1) (8 * l + b % 8) (4 * c) p := pf_congr fun p _ => by rw [if_neg (by omega)]
      rw [e0]
      refine lpN 8 (fun k => Rn (d + 6) MX4_own 110 [some (vR (4, 0)), some (vI (nI g)), some (vI (jm nb)), some (vI (nI b)), some (vI (nI n)), some (vI (nI (512 * g + 8 * V 3))), some (vI (nI c)), some (vI (nI (512 * g + (8 * l + b % 8)))), some (vI (nI k))] [] (mh (hup h (15, 0) s) f1 (pf M g fun p => if p / 8 = c ∧ p % 8 < k then dat (p % 8) else up (flg (tkW V) u1) (8 * l + b % 8) (4 * c) p)) (some (vI (nI (n + 1)))) (mh (hup h (15, 0) s) f2 (pf M g (flg (gC V b dat) u')))) (fun k hk K => ?_) ?_
      · refine rnN 2 rfl ?_
        refine rnT (nI_lt hk (by decide)) rfl ?_
        refine rnN 4 rfl ?_
        refine rnK rfl (m_at) ?_
        refine rnN 5 rfl ?_
        refine rnC (inN (show k < 8 by omega) (by decide)) rfl ?_
        simp (disch := omega) only [nI_add, pk_mul, pk_sub, nd8, nd4, nsub8, nand63, nand7, nshr2, nI_clamp, E_at, hup_at, hup_hup, hpt_def, pf_at, pf_at2, cf_at, h12_14, h14_12, h12_15, h15_12, h14_15, h15_14]
        rw [mh_o (by decide) (by decide), hup_at, show s k = nI (dat k) by rw [hs]; exact if_pos hk]
        refine rnC (inN (show 512 * g + 8 * c + k < 2048 by omega) (by decide)) rfl ?_
        simp (disch := omega) only [nI_clamp, mhpt]
        rw [show 512 * g + 8 * c + k = 512 * g + (8 * c + k) by omega, pf_up (show 8 * c + k < 512 by omega)]
        refine rnN 2 rfl ?_
        simp (disch := omega) only [nI_add, pk_mul, pk_sub, nd8, nd4, nsub8, nand63, nand7, nshr2, nI_clamp, E_at, hup_at, hup_hup, hpt_def, pf_at, pf_at2, cf_at, h12_14, h14_12, h12_15, h15_12, h14_15, h15_14]
        refine rnH ?_ K
        congr 2
        funext p
        simp only [up]
        by_cases e : p = 8 * c + k
        · rw [if_pos e, if_pos (by omega), e, ix_mod hk]
        · rw [if_neg e]
          by_cases e2 : p / 8 = c ∧ p % 8 < k
          · rw [if_pos e2, if_pos (show p / 8 = c ∧ p % 8 < k + 1 by omega)]
          · rw [if_neg e2, if_neg (show ¬ (p / 8 = c ∧ p % 8 < k + 1) by omega)]
      · refine rnN 3 rfl ?_
        refine rnN 2 rfl ?_
        have e1 : pf M g (fun p => if p / 8 = c ∧ p % 8 < 8 then dat (p % 8) else up (flg (tkW V) u1) (8 * l + b % 8) (4 * c) p) = pf M g (fun p => if p / 8 = c then dat (p % 8) else up (flg (tkW V) u1) (8 * l + b % 8) (4 * c) p) := pf_congr fun p _ => by
          by_cases e2 : p / 8 = c
          · rw [if_pos e2, if_pos ⟨e2, by omega⟩]
          · rw [if_neg e2, if_neg (fun z => e2 z.1)]
        rw [e1]
        refine rnK rfl (hst) ?_
        refine rnN 3 rfl ?_
        simp (disch := omega) only [nI_add, pk_mul, pk_sub, nd8, nd4, nsub8, nand63, nand7, nshr2, nI_clamp, E_at, hup_at, hup_hup, hpt_def, pf_at, pf_at2, cf_at, h12_14, h14_12, h12_15, h15_12, h14_15, h15_14]
        exact rnR rfl
theorem m_own {b nb : Nat} (hw : h (12, 0) = E (pf M g (flg V u))) (hg : g < 4) (hi : Inv V u) (hb : b < V 2) (hr1 : nLeaf V b ≤ rm V) (hr2 : nClus V b ≤ rm (gL V b)) (hnb : nb ≤ 3) (hW : ∀ j, j < nb → j ≠ g ∧ Str (W j) (U j) ∧ ∀ p, p < 512 → M (512 * j + p) = W j p) (hWb : ∀ j p, W j p < 4294967296)
    (hi' : Inv (gC (gL V b) b (datm (gL V b) W nb b)) u') : ∃ f' s', Cl (d + 6) MX4_own [vR (4, 0), vI (nI g), vI (jm nb), vI (nI b)] h (some (vI (nI (nLeaf V b + nClus V b)))) (mh (hup h (15, 0) s') f' (pf M g (flg (gC (gL V b) b (datm (gL V b) W nb b)) u'))) := by
  obtain ⟨u1, hI, hu, ho, hrm, haw, hT, hH, hO⟩ := gL_spec hi hb hr1
  have hcl := gL_clus hi hb hr1
  obtain ⟨f1, hol⟩ := m_ownLeaf (d := d) (M := M) hw hg hi hb hr1 hI
  obtain ⟨f2, s, htl⟩ := own_tail (d := d) (h := mh h f1 (pf M g (flg (gL V b) u1))) (M := M) (n := nLeaf V b) mh_12 hg hI (by rw [hH 2 (by decide)]; exact hb) ho (by rw [hcl]; exact hr2) hnb hW hWb hi'
  rw [mh_15, mh_mh, hcl] at htl
  have hle := nLeaf_le V b
  refine ⟨f2, s, ?_⟩
  refine rnN 3 rfl ?_
  refine rnK rfl (hol) ?_
  refine rnN 3 rfl ?_
  refine rnT (nI_lt (show nLeaf V b < 1000 by omega) (by decide)) rfl ?_
  exact htl
end MO2
