/-! ===== giveCluster, makeZero: what they keep, their contracts ===== -/
section G3
variable {d k : Nat} {h : xH} {w u : Nat → Nat} {W U : Nat → Nat → Nat}
theorem ow_iff {x : Nat} : ow w x = true ↔ x / 4 ≠ 0 ∧ T w (x / 4) = 1 := by
  unfold ow
  exact decide_eq_true_iff
theorem awd_own {b : Nat} (hl : w (8 * w 3 + b / 8) / 4 ≠ 0) : awd w b = w (8 * (w (8 * w 3 + b / 8) / 4) + b % 8) := by
  unfold awd bwd
  rw [if_neg hl]
/-- the facts of a taking that a leaf of its own is not touched by -/
theorem tk_leaf (hi : Inv w u) (hr : 1 ≤ rm w) {i : Nat} (hi8 : i < 8) (hl : w (8 * w 3 + i) / 4 ≠ 0) : tkW w (8 * w 3 + i) = w (8 * w 3 + i) ∧ ∀ j, j < 8 → tkW w (8 * (w (8 * w 3 + i) / 4) + j) = w (8 * (w (8 * w 3 + i) / 4) + j) := by
  obtain ⟨u1, ha, hu, hC1, hC2, hC3, hC4, hrm, hTT, hO, hH, hC5⟩ := tk_spec hi hr
  have hs := hi.1
  refine ⟨hO _ (by rw [ix_div hi8]; have := T_act (w := w); omega) (fun e => ?_), fun j hj => hO _ (by rw [ix_div hj]; have := T_leaf act_tb hi8 hl; omega) (fun e => ?_)⟩
  · rw [ix_div hi8] at e
    have h1 := hs.ct
    have h2 := hs.act
    rw [e] at h2
    omega
  · rw [ix_div hj] at e
    have h1 := hs.ct
    have h2 := ((hs.tw act_tb hi8).lead hl).2.2.1
    rw [e] at h2
    omega
theorem gC_spec (hi : Inv w u) {b : Nat} {dat : Nat → Nat} (hb : b < w 2) (ho : ow w (w (8 * w 3 + b / 8)) = true) (hr : nClus w b ≤ rm w) (hd : ∀ j, dat j < 4294967296) : ∃ u', Inv (gC w b dat) u' ∧ (∀ X, T w X ≠ 0 → u' X = u X) ∧ u' (gCc w b) = 24 + b ∧ 1 ≤ gCc w b ∧ gCc w b < 64 ∧ T (gC w b dat) (gCc w b) = 1
    ∧ awd (gC w b dat) b / 4 = gCc w b ∧ (∀ p, p < 8 → gC w b dat p = w p) ∧ (∀ i, i < 8 → gC w b dat (8 * w 3 + i) = w (8 * w 3 + i)) ∧ rm w - nClus w b ≤ rm (gC w b dat) := by
  have hs := hi.1
  have hb64 := hs.sz.2
  obtain ⟨hl, hown⟩ := ow_iff.mp ho
  have hi8 : b / 8 < 8 := by omega
  have hj8 : b % 8 < 8 := by omega
  have hlL := (hs.tw act_tb hi8).lead hl
  have eaw := awd_own (w := w) (b := b) hl
  have hB := hlL.2.2.2 (b % 8) hj8
  by_cases hoc : ow w (awd w b) = true
  · have e : gC w b dat = w := if_pos hoc
    have ec : gCc w b = awd w b / 4 := if_pos hoc
    have en : nClus w b = 0 := if_pos hoc
    obtain ⟨hy0, hy1⟩ := ow_iff.mp hoc
    rw [eaw] at hy0 hy1
    have hyL := hB.lead hy0
    have hyp := hyL.1.pos
    rw [e, ec, en, eaw]
    refine ⟨u, hi, fun _ _ => rfl, by rw [hyL.2.2]; omega, hyp.1, hyp.2, hy1, rfl, fun _ _ => rfl, fun _ _ => rfl, Nat.le_refl _⟩
  · have e : gC w b dat = gcF (tkW w) (tkC w) (b / 8) (b % 8) dat := if_neg hoc
    have ec : gCc w b = tkC w := if_neg hoc
    have en : nClus w b = 1 := if_neg hoc
    rw [en] at hr
    obtain ⟨u1, ha, hu, hC1, hC2, hC3, hC4, hrm, hTT, hO, hH, hC5⟩ := tk_spec hi hr
    obtain ⟨t1, t2⟩ := tk_leaf hi hr hi8 hl
    have e3 := hH 3 (by decide)
    have e4 := hH 4 (by decide)
    have hl1 : tkW w (8 * tkW w 3 + b / 8) / 4 ≠ 0 := by rw [e3, t1]; exact hl
    have hown1 : T (tkW w) (tkW w (8 * tkW w 3 + b / 8) / 4) = 1 := by rw [e3, t1, hTT _ (by omega)]; exact hown
    have hy : tkW w (8 * (tkW w (8 * tkW w 3 + b / 8) / 4) + b % 8) / 4 = 0 ∨ 2 ≤ T (tkW w) (tkW w (8 * (tkW w (8 * tkW w 3 + b / 8) / 4) + b % 8) / 4) := by
      rw [e3, t1, t2 _ hj8]
      by_cases hy0 : w (8 * (w (8 * w 3 + b / 8) / 4) + b % 8) / 4 = 0
      · exact Or.inl hy0
      · right
        have h5 := T_blk act_tb hi8 hj8 hl hy0
        rw [hTT _ (by omega)]
        have h6 : ¬ T w (w (8 * (w (8 * w 3 + b / 8) / 4) + b % 8) / 4) = 1 := fun e5 => hoc (ow_iff.mpr (by rw [eaw]; exact ⟨hy0, e5⟩))
        omega
    obtain ⟨vB, vK, vO, vb, vD⟩ := gcF_words (dat := dat) ha hC1 hC2 hC3 (by rw [e4]; exact hC4) hi8 hj8 hl1 hd hy
    obtain ⟨hV, hT⟩ := clus_inv ha hC1 hC2 hC3 (by rw [e4]; exact hC4) hi8 hj8 (by rw [hH 2 (by decide)]; omega) (Nat.le_refl 1) hl1 hown1 hy vB vK vO vb
    rw [e3, t1] at vB
    rw [e3, t1, t2 _ hj8] at hT
    have hlne := ne_fresh (X := w (8 * w 3 + b / 8) / 4) hC5 (by omega)
    have hlp := hlL.1.pos
    have hne3 := ne_fresh (w := w) hC5 T_act
    have hact := hs.act
    have hH2 : ∀ p, p < 8 → gcF (tkW w) (tkC w) (b / 8) (b % 8) dat p = w p := fun p hp => by
      rw [vO p (by omega) (by rw [e3, t1]; omega) (nk0 hp)]
      exact hH p hp
    have hA2 : ∀ i, i < 8 → gcF (tkW w) (tkC w) (b / 8) (b % 8) dat (8 * w 3 + i) = w (8 * w 3 + i) := fun i hi => by
      have h7 : w 3 ≠ w (8 * w 3 + b / 8) / 4 := fun e5 => by have := hlL.2.2.1; rw [← e5] at this; omega
      rw [vO _ (by rw [ix_div hi]; exact hne3) (by rw [e3, t1]; omega) (ha.1.nk (by rw [ix_div hi, hu _ (by have := T_act (w := w); omega)]; omega))]
      exact hO _ (by rw [ix_div hi]; have := T_act (w := w); omega) (fun e5 => by rw [ix_div hi] at e5; have h8 := hs.ct; rw [← e5] at h8; omega)
    have hTc : T (gcF (tkW w) (tkC w) (b / 8) (b % 8) dat) (tkC w) = 1 := by
      have h5 := hT (tkC w)
      have h6 : ld (w (8 * (w (8 * w 3 + b / 8) / 4) + b % 8)) (tkC w) = 0 := by
        unfold ld
        split
        · rfl
        · next h0 => exact iv_ne (ne_fresh hC5 (T_blk act_tb hi8 hj8 hl h0))
      rw [h6, hC3, iv_self] at h5
      omega
    rw [e, ec, en]
    refine ⟨_, hV, fun X hX => by rw [up_ne (ne_fresh hC5 (by omega)), hu X hX], by rw [up_at]; omega, hC1, hC2, hTc, ?_, hH2, hA2, ?_⟩
    · unfold awd bwd
      rw [hH2 3 (by decide), hA2 _ hi8, if_neg hl, vB]
      omega
    · have h5 := rm_less ha hV hC2 hC3 (by omega) (fun X hX => ?_) (by rw [hH2 4 (by decide), e4]) (fun k hk => ?_)
      · rw [h5, hrm]
        exact Nat.le_refl _
      · have h6 := hT X
        rw [iv_ne (fun e5 => hX e5.symm)] at h6
        have h7 := ld_le (w (8 * (w (8 * w 3 + b / 8) / 4) + b % 8)) X
        by_cases h8 : ld (w (8 * (w (8 * w 3 + b / 8) / 4) + b % 8)) X = 0
        · omega
        · have h9 := h8
          unfold ld at h8
          split at h8
          · exact absurd rfl h8
          · next h0 =>
            have h10 := iv_pos h8
            rw [e3, t1, t2 _ hj8] at hy
            have h11 := hy.resolve_left h0
            rw [h10] at h11
            omega
      · have hct := ha.1.ct
        have hne4 := ne_fresh (w := tkW w) hC3 T_ct
        have h7 : tkW w 4 ≠ w (8 * w 3 + b / 8) / 4 := fun e5 => by
          rw [e4] at e5
          have h8 := hlL.2.2.1
          rw [← e5] at h8
          have := hs.ct
          omega
        exact vO _ (by rw [ix_div hk]; exact hne4) (by rw [e3, t1]; omega) (ha.1.nk (by rw [ix_div hk]; omega))
/-- the structure is not touched by words of a free cluster and of count clusters -/
theorem Str_fresh (hi : Inv w u) {v : Nat → Nat} {c : Nat} (hc : 1 ≤ c) (hz : T w c = 0) (vO : ∀ p, p / 8 ≠ c → ¬ kp w p → v p = w p) : Str v u := by
  have hs := hi.1
  have hcl : ∀ X j, j < 8 → T w X ≠ 0 → (u X < 16 ∨ 24 ≤ u X) → v (8 * X + j) = w (8 * X + j) := fun X j hj hX hu => vO _ (by rw [ix_div hj]; exact ne_fresh hz (by omega)) (hs.nk (by rw [ix_div hj]; exact hu))
  refine StrF hs (fun X hX => rfl) (fun p _ hp => vO p (by omega) (nk0 (by omega))) (fun k hk => Or.inl (hcl _ k hk (by have := T_ct (w := w); omega) (by have := hs.ct; omega))) (fun h6 j hj => ?_) (fun t i ht hi8 => Or.inl ?_) (fun t i j ht hi8 hj8 _ h0 => Or.inl ?_)
  · have h5 := hs.ns
    exact hcl _ _ (by omega) (by have := T_list h6; omega) (by have := hs.list h6; omega)
  · exact hcl t i hi8 (by have := T_tab ht; omega) (by have := (hs.tb ht).2.2; omega)
  · exact hcl _ j hj8 (by have := T_leaf ht hi8 h0; omega) (by have := ((hs.tw ht hi8).lead h0).2.2.1; omega)
theorem sh_top {V : Nat → Nat → Nat} {y a : Nat} (h1 : ∀ j, j < k → V j = W j) (h2 : y / 4 ≠ 0 → V k (8 * (y / 4) + a % 8) = W k (8 * (y / 4) + a % 8)) : sh V k y a = sh W k y a := by
  have below : ∀ n y, n < k → sh V n y a = sh W n y a := by
    intro n
    induction n with
    | zero => intro y hn; simp only [sh, h1 0 hn]
    | succ n ih =>
      intro y hn
      simp only [sh, h1 (n + 1) hn, h1 n (by omega)]
      rw [ih _ (by omega)]
  cases k with
  | zero =>
    simp only [sh]
    split
    · rfl
    · next h0 => exact h2 h0
  | succ k =>
    simp only [sh, h1 k (by omega)]
    rw [below k _ (by omega)]
    split
    · rfl
    · next h0 => exact h2 h0
theorem sh_lt (hb : ∀ j p, W j p < 4294967296) : ∀ k y a, sh W k y a < 4294967296 := by
  intro k
  induction k with
  | zero =>
    intro y a
    simp only [sh]
    split
    · omega
    · exact hb _ _
  | succ k ih =>
    intro y a
    simp only [sh]
    split
    · split
      · exact ih _ _
      · omega
    · exact hb _ _
theorem c_giveCluster {b : Nat} (hh : ∀ j, j ≤ k → h (10, j) = E (W j) ∧ Inv (W j) (U j)) (hb : b < W k 2) (ho : ow (W k) (W k (8 * W k 3 + b / 8)) = true) (hr : nClus (W k) b ≤ rm (W k)) : Cl (d + 4) MX1_giveCluster [vR (1, k), vI (nI b)] h (some (vI (nI (gCc (W k) b)))) (hup h (10, k) (E (gC (W k) b fun j => sh W k (awd (W k) b) (8 * b + j)))) := by
  obtain ⟨hw, hi⟩ := hh k (Nat.le_refl _)
  obtain ⟨w, hwd⟩ : ∃ w, w = W k := ⟨_, rfl⟩
  rw [← hwd] at hw hi hb ho hr ⊢
  obtain ⟨u, hud⟩ : ∃ u, u = U k := ⟨_, rfl⟩
  rw [← hud] at hi
  have hs := hi.1
  have hb64 := hs.sz.2
  have hi8 : b / 8 < 8 := by omega
  have hj8 : b % 8 < 8 := by omega
  obtain ⟨hl, hown⟩ := ow_iff.mp ho
  have hlL := (hs.tw act_tb hi8).lead hl
  have hlp := hlL.1.pos
  have eaw := awd_own (w := w) (b := b) hl
  have hBB := hlL.2.2.2 (b % 8) hj8
  have hB := hs.bok act_tb (show b < 64 by omega)
  have hBl := hB.lt
  have hact := hs.act
  refine rnN 2 rfl ?_
  refine rnK rfl (c_activeWord hw hs (show b < 64 by omega)) ?_
  refine rnN 3 rfl ?_
  refine rnK rfl (c_isOwn hw hi hBl hB.isLead) ?_
  by_cases hoc : ow w (awd w b) = true
  · have e : (gC w b fun j => sh W k (awd w b) (8 * b + j)) = w := if_pos hoc
    have ec : gCc w b = awd w b / 4 := if_pos hoc
    rw [if_pos hoc, e, ec, hup_self hw]
    refine rnN 2 rfl ?_
    refine rnK rfl (c_clusterOf (show awd w b < 2147483648 by unfold awd; omega)) ?_
    exact rnR rfl
  · have e : (gC w b fun j => sh W k (awd w b) (8 * b + j)) = gcF (tkW w) (tkC w) (b / 8) (b % 8) fun j => sh W k (awd w b) (8 * b + j) := if_neg hoc
    have ec : gCc w b = tkC w := if_neg hoc
    have en : nClus w b = 1 := if_neg hoc
    rw [en] at hr
    obtain ⟨u1, ha, hu, hC1, hC2, hC3, hC4, hrm, hTT, hO, hH, hC5⟩ := tk_spec hi hr
    obtain ⟨t1, t2⟩ := tk_leaf hi hr hi8 hl
    have e3 := hH 3 (by decide)
    have e4 := hH 4 (by decide)
    have hkc : tkW w (8 * tkW w 4 + tkC w / 8) ≠ 0 := by rw [e4]; exact hC4
    have hcc := cpl_in ha.1 hC2 hkc
    have hlne := ne_fresh (X := w (8 * w 3 + b / 8) / 4) hC5 (by omega)
    have hne3 := ne_fresh (w := w) hC5 T_act
    -- the words while the cluster is filled
    obtain ⟨F, hF⟩ : ∃ F : Nat → Nat → Nat, F = fun i p => if p / 8 = tkC w ∧ p % 8 < i then sh W k (awd w b) (8 * b + p % 8) else setc (tkW w) (tkC w) 1 p := ⟨_, rfl⟩
    have hFO : ∀ i p, p / 8 ≠ tkC w → ¬ kp (tkW w) p → F i p = tkW w p := by
      intro i p hp1 hp2
      rw [hF]
      simp only
      rw [if_neg (fun z => hp1 z.1), setc_at (fun z => hp2 (by rw [z]; exact cpl_kp hC2 hkc))]
    have hFS : ∀ i, Str (F i) u1 := fun i => Str_fresh ha hC1 hC3 (hFO i)
    have hF3 : ∀ i, F i 3 = w 3 := fun i => by rw [hFO i 3 (by omega) (nk0 (by decide)), e3]
    have hFa : ∀ i, F i (8 * w 3 + b / 8) = w (8 * w 3 + b / 8) := fun i => by
      rw [hFO i _ (by rw [ix_div hi8]; exact hne3) (ha.1.nk (by rw [ix_div hi8, hu _ (by have := T_act (w := w); omega)]; omega)), t1]
    have hFl : ∀ i, F i (8 * (w (8 * w 3 + b / 8) / 4) + b % 8) = awd w b := fun i => by
      rw [hFO i _ (by rw [ix_div hj8]; exact hlne) (ha.1.nk (by rw [ix_div hj8, hu _ (by omega)]; omega)), t2 _ hj8, eaw]
    have hFb : ∀ i, bwd (F i) (w 3) b = awd w b := fun i => by
      unfold bwd
      rw [hFa, if_neg hl, hFl]
    have hFy : ∀ i a, awd w b / 4 ≠ 0 → F i (8 * (awd w b / 4) + a % 8) = w (8 * (awd w b / 4) + a % 8) := fun i a h0 => by
      have h5 := T_bw (w := w) act_tb (show b < 64 by omega) h0
      have h6 := (hB.lead h0).2.2
      have h7 : u1 (awd w b / 4) = u (awd w b / 4) := hu _ (by unfold awd; omega)
      have h8 : u (awd w b / 4) = 24 + (8 * (b / 8) + b % 8) := h6
      rw [hFO i _ (by rw [ix_div (by omega)]; exact ne_fresh hC5 (by unfold awd; exact h5)) (ha.1.nk (by rw [ix_div (by omega)]; omega))]
      exact hO _ (by rw [ix_div (by omega)]; unfold awd; omega) (fun e5 => by rw [ix_div (by omega)] at e5; rw [e5] at h8; have := hs.ct; omega)
    rw [if_neg hoc, e, ec]
    refine rnN 1 rfl ?_
    refine rnN 2 rfl ?_
    refine rnK rfl (c_take hw hi hr) ?_
    refine rnN 3 rfl ?_
    refine rnH (congrArg (fun f => hup h (10, k) (E f)) (show setc (tkW w) (tkC w) 1 = F 0 by rw [hF]; funext p; simp only; rw [if_neg (by omega)])) ?_
    refine lpN 8 (fun i => Rn (d + 4) MX1_giveCluster 30 [some (vR (1, k)), some (vI (nI b)), some (vI (nI (awd w b))), some (vI (nI (tkC w))), some (vI (nI i))] [] (hup h (10, k) (E (F i))) (some (vI (nI (tkC w)))) (hup h (10, k) (E (gcF (tkW w) (tkC w) (b / 8) (b % 8) fun j => sh W k (awd w b) (8 * b + j))))) (fun i hlt K => ?_) ?_
    · have hshown := c_shown (d := d) (k := k) (h := hup h (10, k) (E (F i))) (W := fun j => if j = k then F i else W j) (U := fun j => if j = k then u1 else U j) (t := w 3) (a := 8 * b + i) (fun j hj => by
        by_cases ej : j = k
        · simp only [if_pos ej]
          rw [ej]
          exact ⟨hup_at, hFS i⟩
        · simp only [if_neg ej]
          have h5 := hh j hj
          exact ⟨(hup_ne (fun e5 => ej (by injection e5))).trans h5.1, h5.2.1⟩) (by simp only [if_true]; exact Or.inl (hF3 i).symm) (by omega)
      simp only [if_true, show (8 * b + i) / 8 = b by omega, hFb] at hshown
      rw [sh_top (W := W) (fun j hj => if_neg (by omega)) (fun h0 => by
        simp only [if_true]
        rw [hFy i (8 * b + i) h0, hwd])] at hshown
      refine rnN 2 rfl ?_
      refine rnT (nI_lt hlt (by decide)) rfl ?_
      refine rnN 6 rfl ?_
      refine rnK rfl (c_activeTable hup_at) ?_
      rw [hF3]
      refine rnN 5 rfl ?_
      simp (disch := omega) only [nI_add, pk_mul, pk_sub, nd8, nd4, nsub8, nand63, nand7, nshr2, nI_clamp, E_at, hup_at, hup_hup]
      refine rnK rfl (hshown) ?_
      refine rnK rfl (c_put hup_at hC2 hlt) ?_
      refine rnN 2 rfl ?_
      simp (disch := omega) only [nI_add, pk_mul, pk_sub, nd8, nd4, nsub8, nand63, nand7, nshr2, nI_clamp, E_at, hup_at, hup_hup]
      refine rnH ?_ K
      congr 2
      funext p
      rw [hF]
      simp only [up]
      by_cases hp : p = 8 * tkC w + i
      · subst hp
        rw [if_pos rfl, if_pos (by omega), ix_mod hlt]
      · rw [if_neg hp]
        by_cases h2 : p / 8 = tkC w ∧ p % 8 < i
        · rw [if_pos h2, if_pos (by omega)]
        · rw [if_neg h2, if_neg (by omega)]
    · refine rnN 3 rfl ?_
      refine rnN 4 rfl ?_
      refine rnK rfl (c_leadTo (Nat.le_refl 1)) ?_
      have hpa := c_putActiveWord (d := d) (k := k) (h := hup h (10, k) (E (F 8))) (w := F 8) (b := b) (x := 4 * tkC w + 1) hup_at (by rw [hF3]; exact hact.2.1) (show b < 64 by omega) (by rw [hF3, hFa]; exact (hs.tw act_tb hi8).lt)
      rw [hF3, hFa, hup_hup] at hpa
      refine rnK rfl (hpa) ?_
      refine rnN 2 rfl ?_
      obtain ⟨z, hzd⟩ : ∃ z, z = up (fun p => if p / 8 = tkC w then sh W k (awd w b) (8 * b + p % 8) else setc (tkW w) (tkC w) 1 p) (8 * (w (8 * w 3 + b / 8) / 4) + b % 8) (4 * tkC w + 1) := ⟨_, rfl⟩
      have hz8 : up (F 8) (8 * (w (8 * w 3 + b / 8) / 4) + b % 8) (4 * tkC w + 1) = z := by
        rw [hzd]
        congr 1
        rw [hF]
        funext p
        simp only
        by_cases h2 : p / 8 = tkC w
        · rw [if_pos h2, if_pos (by omega)]
        · rw [if_neg h2, if_neg (by omega)]
      rw [hz8]
      by_cases hy0 : awd w b / 4 = 0
      · have hy2 : awd w b ≤ 2 := by
          have h5 := (hB.flat hy0)
          have h6 : awd w b = bwd w (w 3) b := rfl
          omega
        have eg : (gcF (tkW w) (tkC w) (b / 8) (b % 8) fun j => sh W k (awd w b) (8 * b + j)) = z := by
          unfold gcF
          simp only [e3, t1, t2 _ hj8, ← eaw, if_pos hy0]
          exact hzd.symm
        rw [eg]
        refine rnK rfl (c_release0 hy2) ?_
        refine rnN 1 rfl ?_
        exact rnR rfl
      · have hyL := hBB.lead (by rw [← eaw]; exact hy0)
        rw [← eaw] at hyL
        have hyp := hyL.1.pos
        have hy2 : 2 < awd w b := hB.isLead.mpr hy0
        have h5 := T_bw (w := w) act_tb (show b < 64 by omega) hy0
        have h5' : 1 ≤ T w (awd w b / 4) := h5
        have h6 : ¬ T w (awd w b / 4) = 1 := fun e5 => hoc (ow_iff.mpr ⟨hy0, e5⟩)
        have hTe := hTT (awd w b / 4) (by omega)
        have hTle := T_le hs.ns.1 (awd w b / 4)
        have hyne := ne_fresh (X := awd w b / 4) hC3 (by omega)
        have hky : tkW w (8 * tkW w 4 + awd w b / 4 / 8) ≠ 0 := fun e5 => by
          have := ha.noK hyp.2 e5
          omega
        have hyc := cpl_in ha.1 hyp.2 hky
        have hct := ha.1.ct
        have hne4 := ne_fresh (w := tkW w) hC3 T_ct
        have hzp : ∀ p, p ≠ 8 * (w (8 * w 3 + b / 8) / 4) + b % 8 → p / 8 ≠ tkC w → p ≠ cpl (tkW w) (tkC w) → z p = tkW w p := by
          intro p hp1 hp2 hp3
          rw [hzd, up_ne hp1, if_neg hp2, setc_at hp3]
        have hu1l : u1 (w (8 * w 3 + b / 8) / 4) = 8 + b / 8 := by rw [hu _ (by omega)]; exact hlL.2.2.1
        have hz4 : z 4 = tkW w 4 := hzp 4 (by omega) (by omega) (by omega)
        have hzk : z (8 * tkW w 4 + awd w b / 4 / 8) = tkW w (8 * tkW w 4 + awd w b / 4 / 8) := by
          refine hzp _ (fun e5 => ?_) (by omega) (fun e5 => ?_)
          · have e6 : tkW w 4 = w (8 * w 3 + b / 8) / 4 := by omega
            rw [e6] at hct
            omega
          · have e6 : cpl (tkW w) (tkC w) / 8 = tkW w 4 := by omega
            rw [e6] at hcc
            omega
        have hzc : z (cpl (tkW w) (awd w b / 4)) = T w (awd w b / 4) := by
          rw [hzp _ (fun e5 => ?_) (ne_fresh hC3 (by omega)) (fun e5 => hyne (cpl_inj ha.1 hyp.2 hC2 hky hkc e5)), ha.cntAt hyp.2 hky, hTe]
          rw [e5, ix_div hj8] at hyc
          omega
        have hrel := c_release (d := d + 1) (k := k) (h := hup h (10, k) (E z)) (x := awd w b) (b := T w (awd w b / 4) - 1) hup_at hBl hy2 (by rw [hz4]; exact hct.2.1) (by rw [hz4, hzk]; exact ha.1.keepLt (by omega)) (by
          rw [hz4, hzk, cpl_eq, hzc]
          omega) (by omega)
        rw [hup_hup] at hrel
        have ea : adc z (awd w b / 4) (T w (awd w b / 4) - 1) = setc z (awd w b / 4) (T w (awd w b / 4) - 1) := if_neg (by omega)
        have eg : (gcF (tkW w) (tkC w) (b / 8) (b % 8) fun j => sh W k (awd w b) (8 * b + j)) = setc z (awd w b / 4) (T w (awd w b / 4) - 1) := by
          unfold gcF
          simp only [e3, t1, t2 _ hj8, ← eaw, if_neg hy0, hTe]
          rw [hzd]
        rw [ea, ← eg] at hrel
        refine rnK rfl (hrel) ?_
        refine rnN 1 rfl ?_
        exact rnR rfl
end G3
