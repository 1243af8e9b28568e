/-! ===== the reference: ownLeaf, own, drop ===== -/
section MO
variable {d g : Nat} {h : xH} {M N w V u u' : Nat → Nat} {f : Nat → Int32} {W U : Nat → Nat → Nat}
/-- what a leaf of its own is, with its counts -/
theorem gL_specT (hi : Inv V u) {b : Nat} (hb : b < V 2) (ho : ¬ ow V (V (8 * V 3 + b / 8)) = true) (hr : 1 ≤ rm V) : ∃ u1, Inv (tkW V) u1 ∧ Inv (gL V b) (up u1 (tkC V) (8 + b / 8)) ∧ (∀ X, T (gL V b) X + ld (tkW V (8 * tkW V 3 + b / 8)) X = T (tkW V) X + iv (tkC V) X)
    ∧ (∀ j, j < 8 → gL V b (8 * tkC V + j) = if tkW V (8 * tkW V 3 + b / 8) / 4 = 0 then 0 else tkW V (8 * (tkW V (8 * tkW V 3 + b / 8) / 4) + j)) ∧ gL V b (8 * tkW V 3 + b / 8) = 4 * tkC V + 1 ∧ (∀ p, p / 8 ≠ tkC V → p ≠ 8 * tkW V 3 + b / 8 → ¬ kp (tkW V) p → gL V b p = tkW V p)
    ∧ 1 ≤ tkC V ∧ tkC V < 64 ∧ T (tkW V) (tkC V) = 0 := by
  have hs := hi.1
  have hb64 := hs.sz.2
  have e : gL V b = glF (tkW V) (tkC V) (b / 8) := if_neg ho
  obtain ⟨u1, ha, hu, hC1, hC2, hC3, hC4, hrm, hTT, hO, hH, hC5⟩ := tk_spec hi hr
  have hi8 : b / 8 < 8 := by omega
  have hact := hs.act
  have hneq : V 3 ≠ V 4 := fun e2 => by have := hs.ct; rw [e2] at hact; omega
  have e3 := hH 3 (by decide)
  have e4 := hH 4 (by decide)
  have e2s := hH 2 (by decide)
  have exw : tkW V (8 * V 3 + b / 8) = V (8 * V 3 + b / 8) := hO _ (by rw [ix_div hi8]; have := T_act (w := V); omega) (by rw [ix_div hi8]; exact hneq)
  have hx : tkW V (8 * tkW V 3 + b / 8) / 4 = 0 ∨ 2 ≤ T (tkW V) (tkW V (8 * tkW V 3 + b / 8) / 4) := by
    rw [e3, exw]
    by_cases h0 : V (8 * V 3 + b / 8) / 4 = 0
    · exact Or.inl h0
    · right
      have h5 := T_leaf act_tb hi8 h0
      rw [hTT _ (by omega)]
      have h6 : ¬ T V (V (8 * V 3 + b / 8) / 4) = 1 := fun e5 => ho (decide_eq_true ⟨h0, e5⟩)
      omega
  obtain ⟨vC, vA, vK, vO, vb⟩ := glF_words ha hC1 hC2 hC3 (by rw [e4]; exact hC4) hi8 hx
  obtain ⟨hV, hT⟩ := leaf_inv ha hC1 hC2 hC3 (by rw [e4]; exact hC4) hi8 (by rw [e2s]; omega) (Nat.le_refl 1) hx vC vA vK vO vb
  rw [e]
  exact ⟨u1, ha, hV, hT, vC, vA, vO, hC1, hC2, hC3⟩
/-- the reference's words ahead of its settling agree with the class's -/
theorem gL_agr (hi : Inv V u) {b : Nat} (hb : b < V 2) (ho : ¬ ow V (V (8 * V 3 + b / 8)) = true) (hr : 1 ≤ rm V) {u1 : Nat → Nat} (h1 : Inv (tkW V) u1) : ∃ u2, Inv (gL V b) u2 ∧ Agr (up (fun p => if p / 8 = tkC V then (if tkW V (8 * tkW V 3 + b / 8) / 4 = 0 then 0 else flg (tkW V) u1 (8 * (tkW V (8 * tkW V 3 + b / 8) / 4) + p % 8)) else flg (tkW V) u1 p) (8 * tkW V 3 + b / 8) (4 * tkC V)) (gL V b) u2 := by
  obtain ⟨u1', ha, hI, hT, vC, vA, vO, hC1, hC2, hC3⟩ := gL_specT hi hb ho hr
  have hb64 := hi.1.sz.2
  have hi8 : b / 8 < 8 := by omega
  rw [flg_u h1 ha]
  refine ⟨_, hI, ?_⟩
  have hs := ha.1
  have hact := hs.act
  have hne3 := ne_fresh (w := tkW V) hC3 T_act
  obtain ⟨v, hv⟩ : ∃ v, v = tkW V := ⟨_, rfl⟩
  obtain ⟨c, hc⟩ : ∃ c, c = tkC V := ⟨_, rfl⟩
  simp only [← hv, ← hc] at ha hI hT vC vA vO hC1 hC2 hC3 hs hact hne3 ⊢
  intro p hTp hu
  by_cases e1 : p = 8 * v 3 + b / 8
  · right
    rw [e1, up_at, vA, ix_div hi8]
    refine ⟨hact.1, ?_, by omega, by omega, by omega⟩
    unfold TL
    rw [up_ne hne3]
    exact Or.inl hact.2.2
  · rw [up_ne e1]
    by_cases e2 : p / 8 = c
    · obtain ⟨k, hk, rfl⟩ : ∃ k, k < 8 ∧ p = 8 * c + k := ⟨p % 8, by omega, by omega⟩
      rw [if_pos e2, vC k hk, ix_mod hk]
      by_cases h0 : v (8 * v 3 + b / 8) / 4 = 0
      · rw [if_pos h0, if_pos h0]
        exact Or.inl rfl
      · rw [if_neg h0, if_neg h0]
        rcases (flg_agr v u1').lfw hs act_tb hi8 hk h0 with q | ⟨q1, q2, q3⟩
        · exact Or.inl q
        · refine Or.inr ⟨by omega, ?_, q1, q2, q3⟩
          unfold TL
          rw [e2, up_at]
          omega
    · rw [if_neg e2]
      rw [up_ne e2] at hu
      have hTv : T v (p / 8) ≠ 0 := fun e => by
        have := hT (p / 8)
        rw [e, iv_ne (fun e => e2 e.symm)] at this
        omega
      have hnk : ¬ kp v p := by
        rcases hu with hu | hu
        · exact nk0 (by omega)
        · exact hs.nk hu
      rw [vO p e2 e1 hnk]
      rcases flg_agr v u1' p hTv hu with q | ⟨q1, q2, q3⟩
      · exact Or.inl q
      · refine Or.inr ⟨q1, ?_, q3⟩
        unfold TL
        rw [up_ne e2]
        exact q2
theorem m_ownLeafF {b : Nat} (hw : h (12, 0) = E (pf M g (flg V u))) (hg : g < 4) (hi : Inv V u) (hb : b < V 2) (hr : ¬ nLeaf V b ≤ rm V) : ∃ f', Cl (d + 5) MX4_ownLeaf [vR (4, 0), vI (nI g), vI (nI b)] h (some (vI (nI 1000))) (mh h f' (pf M g (flg V u))) := by
  have hb64 := hi.1.sz.2
  have hle := nLeaf_le V b
  have hll := m_lacksLeaf (d := d + 1) (M := M) hw hg (flg_inv hi).1.1 (show b < 64 by omega)
  rw [fl_nLeaf hi (by omega), show nLeaf V b = 1 by omega] at hll
  obtain ⟨f', ht⟩ := m_takeF (d := d) (h := mh h (cf (h (14, 0)) (T (flg V u))) (pf M g (flg V u))) (M := M) mh_12 hg hi (by omega)
  rw [mh_mh] at ht
  refine ⟨f', ?_⟩
  refine rnN 3 rfl ?_
  refine rnK rfl (hll) ?_
  refine rnN 3 rfl ?_
  refine rnK rfl (ht) ?_
  refine rnN 4 rfl ?_
  exact rnR rfl
theorem m_ownLeaf {b : Nat} (hw : h (12, 0) = E (pf M g (flg V u))) (hg : g < 4) (hi : Inv V u) (hb : b < V 2) (hr : nLeaf V b ≤ rm V) (hi' : Inv (gL V b) u') : ∃ f', Cl (d + 5) MX4_ownLeaf [vR (4, 0), vI (nI g), vI (nI b)] h (some (vI (nI (nLeaf V b)))) (mh h f' (pf M g (flg (gL V b) u'))) := by
  have hb64 := hi.1.sz.2
  have hll := m_lacksLeaf (d := d + 1) (M := M) hw hg (flg_inv hi).1.1 (show b < 64 by omega)
  rw [fl_nLeaf hi (by omega)] at hll
  by_cases ho : ow V (V (8 * V 3 + b / 8)) = true
  · have e : gL V b = V := if_pos ho
    have en : nLeaf V b = 0 := if_pos ho
    rw [e] at hi' ⊢
    rw [en] at hll ⊢
    rw [← flg_u hi hi']
    refine ⟨cf (h (14, 0)) (T (flg V u)), ?_⟩
    refine rnN 3 rfl ?_
    refine rnK rfl (hll) ?_
    refine rnN 2 rfl ?_
    exact rnR rfl
  · have en : nLeaf V b = 1 := if_neg ho
    rw [en] at hr hll ⊢
    obtain ⟨u1, ha, hu, hC1, hC2, hC3, hC4, hrm, hTT, hO, hH, hC5⟩ := tk_spec hi hr
    obtain ⟨u2, hI2, hag⟩ := gL_agr hi hb ho hr ha
    obtain ⟨f1, ht⟩ := m_takeT (d := d) (h := mh h (cf (h (14, 0)) (T (flg V u))) (pf M g (flg V u))) (M := M) mh_12 hg hi hr ha
    rw [mh_mh] at ht
    have hs := ha.1
    have hi8 : b / 8 < 8 := by omega
    have hfa := flg_agr (tkW V) u1
    have hsf := (flg_inv ha).1.1
    have e3 : flg (tkW V) u1 3 = tkW V 3 := hfa.hdr (by decide)
    have hact := hs.act
    have hL := (hs.tw act_tb hi8).lt
    have exw : flg (tkW V) u1 (8 * tkW V 3 + b / 8) / 4 = tkW V (8 * tkW V 3 + b / 8) / 4 := hfa.tb4 hs act_tb hi8
    have hLf : flg (tkW V) u1 (8 * tkW V 3 + b / 8) < 256 := by
      have := (hsf.tw act_tb hi8).lt
      rwa [e3] at this
    obtain ⟨v, hv⟩ : ∃ v, v = tkW V := ⟨_, rfl⟩
    obtain ⟨c, hc⟩ : ∃ c, c = tkC V := ⟨_, rfl⟩
    obtain ⟨l, hl⟩ : ∃ l, l = tkW V (8 * tkW V 3 + b / 8) / 4 := ⟨_, rfl⟩
    have hsR := hag.eS hI2.1
    have hTR := fun X => hag.eT hI2.1 X
    have hst := m_settle (d := d + 1) (h := mh h f1 (pf M g (up (fun p => if p / 8 = tkC V then (if tkW V (8 * tkW V 3 + b / 8) / 4 = 0 then 0 else flg (tkW V) u1 (8 * (tkW V (8 * tkW V 3 + b / 8) / 4) + p % 8)) else flg (tkW V) u1 p) (8 * tkW V 3 + b / 8) (4 * tkC V)))) (M := M) mh_12 hg hsR
    rw [mh_mh, mh_14, pf_congr (stl_agr hI2 hag), flg_u hI2 hi'] at hst
    obtain ⟨f2, hf2⟩ : ∃ f2, f2 = cf f1 (T (up (fun p => if p / 8 = tkC V then (if tkW V (8 * tkW V 3 + b / 8) / 4 = 0 then 0 else flg (tkW V) u1 (8 * (tkW V (8 * tkW V 3 + b / 8) / 4) + p % 8)) else flg (tkW V) u1 p) (8 * tkW V 3 + b / 8) (4 * tkC V))) := ⟨_, rfl⟩
    rw [← hf2] at hst
    refine ⟨f2, ?_⟩
    clear hf2 hag hsR hTR hrm hO hH hTT hu hI2 hC4 hC5
    simp only [← hv, ← hc] at ht hst e3 hsf hact hL exw hLf hl hC1 hC2 hC3 hs
    simp only [← hl] at hst exw
    refine rnN 3 rfl ?_
    refine rnK rfl (hll) ?_
    refine rnN 3 rfl ?_
    refine rnK rfl (ht) ?_
    refine rnN 2 rfl ?_
    refine rnF (nI_pos (show c < 2147483648 by omega)) rfl ?_
    refine rnN 3 rfl ?_
    refine rnK rfl (m_table (n := 0) mh_12 hg hsf.l6 (by decide)) ?_
    rw [show tbn (flg v u1) 0 = flg v u1 3 from rfl, e3]
    refine rnN 8 rfl ?_
    simp (disch := omega) only [nI_add, pk_mul, pk_sub, nd8, nd4, nsub8, nand63, nand7, nshr2, nI_clamp, E_at, hup_at, hup_hup, hpt_def, pf_at, pf_at2, cf_at, h12_14, h14_12, h12_15, h15_12, h14_15, h15_14]
    refine rnC (inN (show 512 * g + 8 * v 3 + b / 8 < 2048 by omega) (by decide)) rfl ?_
    simp (disch := omega) only [nI_add, pk_mul, pk_sub, nd8, nd4, nsub8, nand63, nand7, nshr2, nI_clamp, E_at, hup_at, hup_hup, hpt_def, pf_at, pf_at2, cf_at, h12_14, h14_12, h12_15, h15_12, h14_15, h15_14, mh_12]
    refine rnN 5 rfl ?_
    simp (disch := omega) only [nI_add, pk_mul, pk_sub, nd8, nd4, nsub8, nand63, nand7, nshr2, nI_clamp, E_at, hup_at, hup_hup, hpt_def, pf_at, pf_at2, cf_at, h12_14, h14_12, h12_15, h15_12, h14_15, h15_14]
    rw [exw]
    have e0 : pf M g (flg v u1) = pf M g fun p => if p / 8 = c ∧ p % 8 < 0 then (if l = 0 then 0 else flg v u1 (8 * l + p % 8)) else flg v u1 p := pf_congr fun p _ => by rw [if_neg (by omega)]
    rw [e0]
    have hlc : l ≠ 0 → l ≠ c ∧ l < 64 := fun h0 => by
      have h1 := T_leaf (w := v) act_tb hi8 (by rw [← hl]; exact h0)
      have h2 := ((hs.tw act_tb hi8).lead (by rw [← hl]; exact h0)).1.pos
      rw [← hl] at h1 h2
      exact ⟨ne_fresh hC3 h1, h2.2⟩
    refine lpN 8 (fun k => Rn (d + 5) MX4_ownLeaf 52 [some (vR (4, 0)), some (vI (nI g)), some (vI (nI b)), some (vI (nI c)), some (vI (nI (512 * g + 8 * v 3 + b / 8))), some (vI (nI l)), some (vI (nI k))] [] (mh h f1 (pf M g fun p => if p / 8 = c ∧ p % 8 < k then (if l = 0 then 0 else flg v u1 (8 * l + p % 8)) else flg v u1 p)) (some (vI (nI 1))) (mh h f2 (pf M g (flg (gL V b) u')))) (fun k hk K => ?_) ?_
    · have step : ∀ z, z = (if l = 0 then 0 else flg v u1 (8 * l + k)) → up (fun p => if p / 8 = c ∧ p % 8 < k then (if l = 0 then 0 else flg v u1 (8 * l + p % 8)) else flg v u1 p) (8 * c + k) z = fun p => if p / 8 = c ∧ p % 8 < k + 1 then (if l = 0 then 0 else flg v u1 (8 * l + p % 8)) else flg v u1 p := by
        intro z hz
        funext p
        simp only [up]
        by_cases e : p = 8 * c + k
        · rw [if_pos e, if_pos (by omega), hz, e, ix_mod hk]
        · rw [if_neg e]
          by_cases e2 : p / 8 = c ∧ p % 8 < k
          · rw [if_pos e2, if_pos (show p / 8 = c ∧ p % 8 < k + 1 by omega)]
          · rw [if_neg e2, if_neg (show ¬ (p / 8 = c ∧ p % 8 < k + 1) by omega)]
      refine rnN 2 rfl ?_
      refine rnT (nI_lt hk (by decide)) rfl ?_
      refine rnN 4 rfl ?_
      refine rnK rfl (m_at) ?_
      refine rnN 3 rfl ?_
      by_cases h0 : l = 0
      · refine rnT ((show nI l = 0 by rw [h0]; rfl)) rfl ?_
        refine rnN 2 rfl ?_
        simp (disch := omega) only [nI_add, pk_mul, pk_sub, nd8, nd4, nsub8, nand63, nand7, nshr2, nI_clamp, E_at, hup_at, hup_hup, hpt_def, pf_at, pf_at2, cf_at, h12_14, h14_12, h12_15, h15_12, h14_15, h15_14]
        refine rnC (inN (show 512 * g + 8 * c + k < 2048 by omega) (by decide)) rfl ?_
        simp (disch := omega) only [nI_clamp, mhpt]
        rw [show 512 * g + 8 * c + k = 512 * g + (8 * c + k) by omega, pf_up (show 8 * c + k < 512 by omega), step 0 (by rw [if_pos h0])]
        refine rnN 2 rfl ?_
        simp (disch := omega) only [nI_add, pk_mul, pk_sub, nd8, nd4, nsub8, nand63, nand7, nshr2, nI_clamp, E_at, hup_at, hup_hup, hpt_def, pf_at, pf_at2, cf_at, h12_14, h14_12, h12_15, h15_12, h14_15, h15_14]
        exact K
      · obtain ⟨q1, q2⟩ := hlc h0
        refine rnF (nI_ne0 (Nat.pos_of_ne_zero h0) (by omega)) rfl ?_
        refine rnN 4 rfl ?_
        refine rnK rfl (m_at) ?_
        refine rnN 2 rfl ?_
        simp (disch := omega) only [nI_add, pk_mul, pk_sub, nd8, nd4, nsub8, nand63, nand7, nshr2, nI_clamp, E_at, hup_at, hup_hup, hpt_def, pf_at, pf_at2, cf_at, h12_14, h14_12, h12_15, h15_12, h14_15, h15_14]
        refine rnC (inN (show 512 * g + 8 * l + k < 2048 by omega) (by decide)) rfl ?_
        simp (disch := omega) only [nI_add, pk_mul, pk_sub, nd8, nd4, nsub8, nand63, nand7, nshr2, nI_clamp, E_at, hup_at, hup_hup, hpt_def, pf_at, pf_at2, cf_at, h12_14, h14_12, h12_15, h15_12, h14_15, h15_14, mh_12]
        rw [if_neg (show ¬ ((8 * l + k) / 8 = c ∧ (8 * l + k) % 8 < k) by omega)]
        refine rnC (inN (show 512 * g + 8 * c + k < 2048 by omega) (by decide)) rfl ?_
        simp (disch := omega) only [nI_clamp, mhpt]
        rw [show 512 * g + 8 * c + k = 512 * g + (8 * c + k) by omega, pf_up (show 8 * c + k < 512 by omega), step _ (by rw [if_neg h0])]
        refine rnN 2 rfl ?_
        simp (disch := omega) only [nI_add, pk_mul, pk_sub, nd8, nd4, nsub8, nand63, nand7, nshr2, nI_clamp, E_at, hup_at, hup_hup, hpt_def, pf_at, pf_at2, cf_at, h12_14, h14_12, h12_15, h15_12, h14_15, h15_14]
        exact K
    · refine rnN 3 rfl ?_
      refine rnN 6 rfl ?_
      simp (disch := omega) only [nI_add, pk_mul, pk_sub, nd8, nd4, nsub8, nand63, nand7, nshr2, nI_clamp, E_at, hup_at, hup_hup, hpt_def, pf_at, pf_at2, cf_at, h12_14, h14_12, h12_15, h15_12, h14_15, h15_14]
      refine rnC (inN (show 512 * g + 8 * v 3 + b / 8 < 2048 by omega) (by decide)) rfl ?_
      simp (disch := omega) only [nI_clamp, mhpt]
      rw [show 512 * g + 8 * v 3 + b / 8 = 512 * g + (8 * v 3 + b / 8) by omega, pf_up (show 8 * v 3 + b / 8 < 512 by omega)]
      have e1 : pf M g (up (fun p => if p / 8 = c ∧ p % 8 < 8 then (if l = 0 then 0 else flg v u1 (8 * l + p % 8)) else flg v u1 p) (8 * v 3 + b / 8) (4 * c)) = pf M g (up (fun p => if p / 8 = c then (if l = 0 then 0 else flg v u1 (8 * l + p % 8)) else flg v u1 p) (8 * v 3 + b / 8) (4 * c)) := pf_congr fun p _ => by
        simp only [up]
        by_cases e : p = 8 * v 3 + b / 8
        · rw [if_pos e, if_pos e]
        · rw [if_neg e, if_neg e]
          by_cases e2 : p / 8 = c
          · rw [if_pos e2, if_pos ⟨e2, by omega⟩]
          · rw [if_neg e2, if_neg (fun z => e2 z.1)]
      rw [e1]
      refine rnN 2 rfl ?_
      refine rnK rfl (hst) ?_
      refine rnN 1 rfl ?_
      exact rnR rfl
end MO
