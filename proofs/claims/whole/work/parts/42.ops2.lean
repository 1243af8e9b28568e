/-! ===== word, grow, stage ===== -/
section OP2
variable {d k : Nat} {h : xH} {M : Nat → Nat} {W U : Nat → Nat → Nat} {f s : Nat → Int32}
theorem op_word (S : SI k W U h) (v1 v2 : Int32) : OpOK MX3_word MX4_word [vI v1, vI v2] h := by
  obtain ⟨M, hM, hMw, hMp⟩ := S.mem
  have hk := S.1
  have hn3 := S.2.2.2.2.1
  have hn4 := S.2.2.2.2.2.1
  by_cases a1 : v1 < 0
  · refine ⟨(nI 0), h, h, k, W, U, Cl_deep (n := 4) (by decide) ?_, Cl_deep (n := 4) (by decide) ?_, S⟩
    · refine rnN 1 rfl ?_
      refine rnT (a1) rfl ?_
      refine rnN 1 rfl ?_
      exact rnR rfl
    · refine rnN 1 rfl ?_
      refine rnT (a1) rfl ?_
      refine rnN 2 rfl ?_
      exact rnR rfl
  · by_cases a2 : v1 < nI (k + 1)
    · obtain ⟨i, hi, rfl⟩ := nI_of_small a1 (Int32.not_le.mpr a2) (by omega)
      by_cases b1 : v2 < 0
      · refine ⟨(nI 0), h, h, k, W, U, Cl_deep (n := 4) (by decide) ?_, Cl_deep (n := 4) (by decide) ?_, S⟩
        · refine rnN 1 rfl ?_
          refine rnF (a1) rfl ?_
          refine rnN 3 rfl ?_
          rw [hn3]
          refine rnT (a2) rfl ?_
          refine rnN 1 rfl ?_
          refine rnT (b1) rfl ?_
          refine rnN 1 rfl ?_
          exact rnR rfl
        · refine rnN 1 rfl ?_
          refine rnF (a1) rfl ?_
          refine rnN 3 rfl ?_
          rw [hn4]
          refine rnT (a2) rfl ?_
          refine rnN 1 rfl ?_
          refine rnT (b1) rfl ?_
          refine rnN 2 rfl ?_
          exact rnR rfl
      · by_cases b2 : v2 < nI 512
        · obtain ⟨q, hq, rfl⟩ := nI_of_small b1 (Int32.not_le.mpr b2) (by decide)
          have hw := S.file (show k - i ≤ k by omega)
          have hwm : h (12, 0) = E (pf M (k - i) (W (k - i))) := by rw [hM, hMp _ (by omega)]
          refine ⟨(nI (W (k - i) q)), h, h, k, W, U, Cl_deep (n := 4) (by decide) ?_, Cl_deep (n := 4) (by decide) ?_, S⟩
          · refine rnN 1 rfl ?_
            refine rnF (a1) rfl ?_
            refine rnN 3 rfl ?_
            rw [hn3]
            refine rnT (a2) rfl ?_
            refine rnN 1 rfl ?_
            refine rnF (b1) rfl ?_
            refine rnN 2 rfl ?_
            refine rnT (b2) rfl ?_
            refine rnN 8 rfl ?_
            rw [hn3]
            simp (disch := omega) only [nI_add, pk_mul, pk_sub, nd8, nd4, nsub8, nand63, nand7, nshr2, nI_clamp, E_at, hup_at, hup_hup]
            rw [show k + 1 - 1 - i = k - i by omega]
            refine rnC (inN (show k - i < 3 by omega) (by decide)) rfl ?_
            simp (disch := omega) only [nI_add, pk_mul, pk_sub, nd8, nd4, nsub8, nand63, nand7, nshr2, nI_clamp, E_at, hup_at, hup_hup]
            refine rnN 7 rfl ?_
            simp (disch := omega) only [nI_add, pk_mul, pk_sub, nd8, nd4, nsub8, nand63, nand7, nshr2, nI_clamp, E_at, hup_at, hup_hup]
            refine rnK rfl (c_at hw (show q / 8 < 64 by omega) (show q % 8 < 8 by omega)) ?_
            rw [show 8 * (q / 8) + q % 8 = q by omega]
            exact rnR rfl
          · refine rnN 1 rfl ?_
            refine rnF (a1) rfl ?_
            refine rnN 3 rfl ?_
            rw [hn4]
            refine rnT (a2) rfl ?_
            refine rnN 1 rfl ?_
            refine rnF (b1) rfl ?_
            refine rnN 2 rfl ?_
            refine rnF (nI_nlt (show q ≤ 511 by omega) (by decide)) rfl ?_
            refine rnN 7 rfl ?_
            rw [hn4]
            refine rnN 5 rfl ?_
            simp (disch := omega) only [nI_add, pk_mul, pk_sub, nd8, nd4, nsub8, nand63, nand7, nshr2, nI_clamp, E_at, hup_at, hup_hup, hpt_def, pf_at, pf_at2, cf_at, h12_14, h14_12, h12_15, h15_12, h14_15, h15_14]
            rw [show k + 1 - 1 - i = k - i by omega]
            refine rnC (inN (show 512 * (k - i) + q < 2048 by omega) (by decide)) rfl ?_
            simp (disch := omega) only [nI_add, pk_mul, pk_sub, nd8, nd4, nsub8, nand63, nand7, nshr2, nI_clamp, E_at, hup_at, hup_hup, hpt_def, pf_at, pf_at2, cf_at, h12_14, h14_12, h12_15, h15_12, h14_15, h15_14, hwm]
            exact rnR rfl
        · refine ⟨(nI 0), h, h, k, W, U, Cl_deep (n := 4) (by decide) ?_, Cl_deep (n := 4) (by decide) ?_, S⟩
          · refine rnN 1 rfl ?_
            refine rnF (a1) rfl ?_
            refine rnN 3 rfl ?_
            rw [hn3]
            refine rnT (a2) rfl ?_
            refine rnN 1 rfl ?_
            refine rnF (b1) rfl ?_
            refine rnN 2 rfl ?_
            refine rnF (b2) rfl ?_
            refine rnN 1 rfl ?_
            exact rnR rfl
          · refine rnN 1 rfl ?_
            refine rnF (a1) rfl ?_
            refine rnN 3 rfl ?_
            rw [hn4]
            refine rnT (a2) rfl ?_
            refine rnN 1 rfl ?_
            refine rnF (b1) rfl ?_
            refine rnN 2 rfl ?_
            refine rnT ((Int32.lt_of_lt_of_le (show nI 511 < nI 512 by decide) (Int32.not_lt.mp b2))) rfl ?_
            refine rnN 2 rfl ?_
            exact rnR rfl
    · refine ⟨(nI 0), h, h, k, W, U, Cl_deep (n := 4) (by decide) ?_, Cl_deep (n := 4) (by decide) ?_, S⟩
      · refine rnN 1 rfl ?_
        refine rnF (a1) rfl ?_
        refine rnN 3 rfl ?_
        rw [hn3]
        refine rnF (a2) rfl ?_
        refine rnN 1 rfl ?_
        exact rnR rfl
      · refine rnN 1 rfl ?_
        refine rnF (a1) rfl ?_
        refine rnN 3 rfl ?_
        rw [hn4]
        refine rnF (a2) rfl ?_
        refine rnN 2 rfl ?_
        exact rnR rfl
theorem grow_inv {w u : Nat → Nat} (hi : Inv w u) {n : Nat} (h1 : w 2 ≤ n) (h2 : n ≤ 64) : Inv (up w 2 n) u ∧ (flg w u = w → flg (up w 2 n) u = up w 2 n) ∧ ∀ X, T (up w 2 n) X = T w X := by
  have hs := hi.1
  have hR : ∀ p, p ≠ 2 → up w 2 n p = w p := fun p hp => up_ne hp
  have hct := hs.ct
  have hns := hs.ns
  have e3 := hR 3 (by decide)
  have e4 := hR 4 (by decide)
  have e5 := hR 5 (by decide)
  have e6 := hR 6 (by decide)
  have etab : ∀ j, j < w 5 → tab (up w 2 n) j = tab w j := fun j hj => by
    unfold tab
    rw [e6]
    exact hR _ (by have := hns.2 (by omega); omega)
  have eTB : ∀ t, TB (up w 2 n) t → TB w t := by
    rintro t (rfl | ⟨j, hj, rfl⟩)
    · exact Or.inl e3
    · rw [e5] at hj
      rw [etab j hj]
      exact tab_tb hj
  have etw : ∀ t i, TB w t → up w 2 n (8 * t + i) = w (8 * t + i) := fun t i ht => hR _ (by have := hs.tb ht; omega)
  have elf : ∀ t i j, TB w t → i < 8 → w (8 * t + i) / 4 ≠ 0 → up w 2 n (8 * (w (8 * t + i) / 4) + j) = w (8 * (w (8 * t + i) / 4) + j) := fun t i j ht hi8 h0 => hR _ (by omega)
  have hS : Str (up w 2 n) u := by
    refine ⟨?_, by rw [e3]; exact hs.act, by rw [e4]; exact hct, by rw [e5, e6]; exact hns, by rw [e6]; exact hs.list, ?_, ?_, ?_⟩
    · rw [up_at]; have := hs.sz; omega
    · rw [e4]
      intro k hk h0
      rw [hR _ (by omega)] at h0 ⊢
      exact hs.keep hk h0
    · rw [e5]
      intro j hj
      rw [etab j hj]
      exact hs.tab hj
    · intro t ht i hi8
      have ht := eTB t ht
      rw [etw t i ht]
      rcases hs.tw ht hi8 with e | ⟨a1, a2, a3, a4⟩
      · exact Or.inl e
      · refine Or.inr ⟨a1, by rw [up_at]; omega, a3, fun l hl => ?_⟩
        rw [up_at, elf t i l ht hi8 (by have := a1.pos; omega)]
        rcases a4 l hl with e | ⟨b1, b2⟩
        · exact Or.inl e
        · exact Or.inr ⟨by omega, b2⟩
  have hT : ∀ X, T (up w 2 n) X = T w X := by
    intro X
    have ek : kc (up w 2 n) X = kc w X := by
      unfold kc
      rw [e4]
      exact sm_congr fun k hk => by rw [hR _ (by omega)]
    have etc : ∀ t, TB w t → tc (up w 2 n) X t = tc w X t := fun t ht => tc_congr (fun i hi8 => by rw [etw t i ht]) (fun i hi8 h0 j hj => by rw [elf t i j ht hi8 h0])
    unfold T
    rw [e3, e4, e5, e6, ek, etc _ act_tb, sm_congr (n := w 5) (f := fun j => tc (up w 2 n) X (tab (up w 2 n) j)) (g := fun j => tc w X (tab w j)) (fun j hj => by rw [etab j hj, etc _ (tab_tb hj)])]
  refine ⟨⟨hS, fun X hX => ?_, fun X hX h0 j hj => ?_, ?_, fun p => ?_⟩, fun hf => ?_, hT⟩
  · rw [hT, cnt_of e4 (fun k hk => hR _ (by omega)) hX]
    split
    · next h0 => exact (hi.noK hX h0).symm
    · next h0 => rw [hR _ (by have := cpl_in hs hX h0; omega)]; exact hi.cntAt hX h0
  · rw [hT] at h0
    rw [hR _ (by
      have := T_zero w
      intro e
      have : X = 0 := by omega
      subst this
      omega)]
    exact hi.2.2.1 X hX h0 j hj
  · obtain ⟨g0, g1, g7, gl, gn⟩ := hi.2.2.2.1
    refine ⟨by rw [hR 0 (by decide)]; exact g0, by rw [hR 1 (by decide)]; exact g1, by rw [hR 7 (by decide)]; exact g7, ?_, ?_⟩
    · rw [e5, e6]
      intro h6 j hj hj8
      rw [hR _ (by omega)]
      exact gl h6 j hj hj8
    · rw [e5, e6]
      intro i j hi2 hj
      have h6 := hns.2 (by omega)
      rw [hR _ (by omega), hR _ (by omega)]
      exact gn i j hi2 hj
  · unfold up
    split
    · omega
    · exact hi.2.2.2.2 p
  · funext p
    by_cases e : p = 2
    · rw [e]
      exact flg_out (fun z => by omega)
    · have h9 := congrFun hf p
      by_cases e2 : 1 ≤ p / 8 ∧ p / 8 < 64 ∧ TL u (p / 8)
      · rw [flg_in e2] at h9 ⊢
        rw [hR p e, mk_congr hT]
        exact h9
      · rw [flg_out e2]
theorem op_grow (S : SI k W U h) (v : Int32) : OpOK MX3_grow MX4_grow [vI v] h := by
  obtain ⟨M, hM, hMw, hMp⟩ := S.mem
  have hk := S.1
  have hw := S.file (Nat.le_refl k)
  have hi := S.inv (Nat.le_refl k)
  have hsz := hi.1.sz
  have hw12 : h (12, 0) = E (pf M k (W k)) := by rw [hM, hMp k (Nat.le_refl k)]
  have hn3 := S.2.2.2.2.1
  have hn4 := S.2.2.2.2.2.1
  by_cases a1 : nI (W k 2) < v
  · by_cases a2 : nI 64 < v
    · refine ⟨(-1), h, h, k, W, U, Cl_deep (n := 4) (by decide) ?_, Cl_deep (n := 4) (by decide) ?_, S⟩
      · refine rnN 2 rfl ?_
        refine rnK rfl (c_top hn3 hk) ?_
        refine rnK rfl (c_blocks hw) ?_
        refine rnT (a1) rfl ?_
        refine rnN 2 rfl ?_
        refine rnT (a2) rfl ?_
        refine rnN 1 rfl ?_
        exact rnR rfl
      · refine rnN 5 rfl ?_
        rw [m_top hn4]
        refine rnN 3 rfl ?_
        refine rnK rfl (m_sizeOf hw12 (show k < 4 by omega)) ?_
        refine rnT (a1) rfl ?_
        refine rnN 2 rfl ?_
        refine rnT (a2) rfl ?_
        refine rnN 1 rfl ?_
        exact rnR rfl
    · have h0 : ¬ v < 0 := fun e => (nI_pos (n := W k 2) (by omega)) (Int32.lt_trans a1 e)
      obtain ⟨n, hn, rfl⟩ := nI_of_small (n := 65) h0 (fun e => a2 (Int32.lt_of_lt_of_le (show nI 64 < nI 65 by decide) e)) (by decide)
      have hn1 : W k 2 < n := (nI_ltI (by omega) (by omega)).mp a1
      obtain ⟨g1, g2, g3⟩ := grow_inv hi (n := n) (by omega) (by omega)
      have e0 : hup h (10, k) (E (up (W k) 2 n)) = hup (hup h (10, k) (E (up (W k) 2 n))) (15, 0) (h (15, 0)) := (hup_self (hup_ne (fun e => by injection e with e1 e2; omega))).symm
      have hne : ∀ q : xP, q ≠ (10, k) → hup h (10, k) (E (up (W k) 2 n)) q = h q := fun q hq => hup_ne hq
      refine ⟨(nI 0), hup (hup h (10, k) (E (up (W k) 2 n))) (15, 0) (h (15, 0)), mh (hup (hup h (10, k) (E (up (W k) 2 n))) (15, 0) (h (15, 0))) (h (14, 0)) (pf M k (up (W k) 2 n)), k, setW W k (up (W k) 2 n), setW U k (U k), Cl_deep (n := 4) (by decide) ?_, Cl_deep (n := 4) (by decide) ?_, SI_upd S g1 (g2 (S.fl (Nat.le_refl k))) (fun e => (S.2.1 k (Nat.le_refl k)).2.2.2 e) (by rw [up_at]; omega) hMw⟩
      · rw [← e0]
        refine rnN 2 rfl ?_
        refine rnK rfl (c_top hn3 hk) ?_
        refine rnK rfl (c_blocks hw) ?_
        refine rnT (a1) rfl ?_
        refine rnN 2 rfl ?_
        refine rnF (a2) rfl ?_
        refine rnN 1 rfl ?_
        refine rnK rfl (c_top hn3 hk) ?_
        refine rnN 4 rfl ?_
        refine rnK rfl (c_hput hw (show 2 < 8 by decide)) ?_
        refine rnN 1 rfl ?_
        exact rnR rfl
      · obtain ⟨h1, hh1⟩ : ∃ h1, h1 = hup (hup h (10, k) (E (up (W k) 2 n))) (15, 0) (h (15, 0)) := ⟨_, rfl⟩
        rw [← hh1]
        have q1 : h1 (12, 0) = E M := by rw [hh1, hup_ne (by decide), hup_ne (fun e => by injection e with e1 e2; omega)]; exact hM
        have q2 : h1 (4, 0) 2 = nI (k + 1) := by rw [hh1, hup_ne (by decide), hup_ne (fun e => by injection e with e1 e2; omega)]; exact hn4
        have q3 : h1 (14, 0) = h (14, 0) := by rw [hh1, hup_ne (by decide), hup_ne (fun e => by injection e with e1 e2; omega)]
        have q4 : mh h1 (h (14, 0)) M = h1 := by
          rw [← q3]
          unfold mh
          rw [hup_self (p := (14, 0)) rfl, hup_self q1]
        refine (?_ : Cl 4 MX4_grow [vR (4, 0), vI (nI n)] h1 (some (vI (nI 0))) (mh h1 (h (14, 0)) (pf M k (up (W k) 2 n))))
        have q6 : mh h1 (h (14, 0)) (pf M k (up (W k) 2 n)) = mh (mh h1 (h (14, 0)) M) (h (14, 0)) (pf M k (up (W k) 2 n)) := mh_mh.symm
        rw [q6]
        refine (?_ : Cl 4 MX4_grow [vR (4, 0), vI (nI n)] h1 (some (vI (nI 0))) (mh (mh h1 (h (14, 0)) M) (h (14, 0)) (pf M k (up (W k) 2 n))))
        conv => arg 4; rw [← q4]
        have q5 : mh h1 (h (14, 0)) M (4, 0) 2 = nI (k + 1) := by rw [mh_o (by decide) (by decide)]; exact q2
        refine rnN 5 rfl ?_
        rw [m_top q5]
        refine rnN 3 rfl ?_
        refine rnK rfl (m_sizeOf (w := W k) (M := M) (by rw [mh_12, hMp k (Nat.le_refl k)]) (show k < 4 by omega)) ?_
        refine rnT (a1) rfl ?_
        refine rnN 2 rfl ?_
        refine rnF (a2) rfl ?_
        refine rnN 8 rfl ?_
        simp (disch := omega) only [nI_add, pk_mul, pk_sub, nd8, nd4, nsub8, nand63, nand7, nshr2, nI_clamp, E_at, hup_at, hup_hup, hpt_def, pf_at, pf_at2, cf_at, h12_14, h14_12, h12_15, h15_12, h14_15, h15_14]
        refine rnC (inN (show 512 * k + 2 < 2048 by omega) (by decide)) rfl ?_
        simp (disch := omega) only [nI_clamp, mhpt, mh_mh]
        have e1 : up M (512 * k + 2) n = pf M k (up (W k) 2 n) := by
          rw [← pf_up (show 2 < 512 by decide), hMp k (Nat.le_refl k)]
        rw [e1]
        refine rnN 1 rfl ?_
        exact rnR rfl
  · refine ⟨(-1), h, h, k, W, U, Cl_deep (n := 4) (by decide) ?_, Cl_deep (n := 4) (by decide) ?_, S⟩
    · refine rnN 2 rfl ?_
      refine rnK rfl (c_top hn3 hk) ?_
      refine rnK rfl (c_blocks hw) ?_
      refine rnF (a1) rfl ?_
      refine rnN 1 rfl ?_
      exact rnR rfl
    · refine rnN 5 rfl ?_
      rw [m_top hn4]
      refine rnN 3 rfl ?_
      refine rnK rfl (m_sizeOf hw12 (show k < 4 by omega)) ?_
      refine rnF (a1) rfl ?_
      refine rnN 1 rfl ?_
      exact rnR rfl
end OP2
