/-! ===== the reference's commit: its loop ===== -/
section MC2
variable {d b k n : Nat} {h H : xH} {M N wu w0 V u v w : Nat → Nat} {W U : Nat → Nat → Nat} {f s : Nat → Int32}
/-- the state of the loop ahead of block n -/
def mcR (k b : Nat) (W : Nat → Nat → Nat) (wu N : Nat → Nat) (H : xH) (n : Nat) (r : Option xV) (P : xH → Prop) : Prop :=
  ∀ u f s o7 o8 o9, Inv (cmV b W wu (W b) n) u → ∃ hf, Rn 8 MX4_commit 71 [some (vR (4, 0)), some (vI (nI k)), some (vI (nI (rm (W b)))), some (vI (nI (512 * k + 8 * wu 3))), some (vI (nI (cmK b wu (W b) n))), some (vI (nI (cmD wu n))), some (vI (nI n)), o7, o8, o9] [] (mh (hup H (15, 0) s) f (pf N 3 (flg (cmV b W wu (W b) n) u))) r hf ∧ P hf
theorem mc_step {r : Option xV} {P : xH → Prop} {uu u0 : Nat → Nat} (hk1 : k = b + 1) (hk : k < 3) (hi0 : Inv (W b) u0) (hs : Str wu uu) (hNk : ∀ p, p < 512 → N (512 * k + p) = wu p) (hNW : ∀ j, j < b → j ≠ 3 ∧ Str (W j) (U j) ∧ ∀ p, p < 512 → N (512 * j + p) = W j p)
    (h1 : W b 2 ≤ wu 2) (hWb : ∀ j p, W j p < 4294967296) (hub : ∀ p, wu p < 4294967296) (hn : n < wu 2) (hr : cmK b wu (W b) (n + 1) ≤ rm (W b)) (K : mcR k b W wu N H (n + 1) r P) : mcR k b W wu N H n r P := by
  intro u f s o7 o8 o9 hu
  have hsz := hs.sz
  have hrml : rm (W b) ≤ 64 := by unfold rm; omega
  have hKn0 := cmK_mono (b := b) (wu := wu) (w0 := W b) (n := n) (m := n + 1) (by omega)
  obtain ⟨un, J⟩ := JJ_upto (b := b) (W := W) hi0 ⟨uu, hs⟩ h1 hWb hub n (by omega) (by omega)
  have hT := JJ_take J (by omega)
  have hJr := J.2.2.2.2.2
  have hJ2 := J.2.2.1
  unfold mcR at K
  obtain ⟨V, hV⟩ : ∃ V, V = cmV b W wu (W b) n := ⟨_, rfl⟩
  have hVs : cmV b W wu (W b) (n + 1) = cmS b W wu V n := by rw [hV]; rfl
  have eD : cmD wu (n + 1) = cmD wu n + if awd wu n = 0 then 0 else 1 := rfl
  rw [hVs, hT, eD] at K
  rw [← hV] at hT hJr hJ2 hu ⊢
  have hns : n < V 2 := by rw [hJ2]; exact hn
  have hy := hs.bok act_tb (show n < 64 by omega)
  have hyl : awd wu n < 256 := hy.lt
  rw [← hV] at K
  rw [hT] at hr
  by_cases h4 : awd wu n / 4 = 0
  · by_cases h2 : awd wu n = 2
    · rw [if_neg (show ¬ awd wu n = 0 by omega)] at K
      -- dropped
      have key : ∃ f' u', Inv (cmS b W wu V n) u' ∧ Cl 7 MX4_drop [vR (4, 0), vI (nI 3), vI (jm b), vI (nI n)] (mh (hup H (15, 0) s) f (pf N 3 (flg V u))) (some (vI (nI (cmT b wu V n)))) (mh (hup H (15, 0) s) f' (pf N 3 (flg (cmS b W wu V n) u'))) := by
        by_cases hd : dch b (awd V n) = true
        · have eT : cmT b wu V n = nLeaf V n := by unfold cmT; rw [if_neg (fun e => e h4), if_pos ⟨h2, hd⟩]
          have eS : cmS b W wu V n = mzF (gL V n) n := by unfold cmS; rw [if_neg (fun e => e h4), if_pos ⟨h2, hd⟩]
          obtain ⟨u1, hI1, hu1, ho1, hrm1, haw1, hT1, hH1, hO1⟩ := gL_spec hu hns (by omega)
          have hI2 := (mzF_spec hI1 (by rw [hH1 2 (by decide)]; exact hns) ho1).1
          obtain ⟨f', hc⟩ := m_drop (d := 1) (h := mh (hup H (15, 0) s) f (pf N 3 (flg V u))) (M := N) (g := 3) (nb := b) mh_12 (by decide) hu hns (by omega) hd (by omega) hI2
          rw [mh_mh] at hc
          rw [eT, eS]
          exact ⟨f', u1, hI2, hc⟩
        · have eT : cmT b wu V n = 0 := by unfold cmT; rw [if_neg (fun e => e h4), if_neg (fun z => hd z.2)]
          have eS : cmS b W wu V n = V := by unfold cmS; rw [if_neg (fun e => e h4), if_neg (fun z => hd z.2)]
          have hc := m_drop0 (d := 1) (h := mh (hup H (15, 0) s) f (pf N 3 (flg V u))) (M := N) (g := 3) (nb := b) mh_12 (by decide) hu hns (by omega) hd
          rw [eT, eS]
          exact ⟨f, u, hu, hc⟩
      obtain ⟨f', u', hI', hc⟩ := key
      obtain ⟨hf, hR, hP⟩ := K u' f' s (some (vI (nI (awd wu n)))) o8 o9 hI'
      refine ⟨hf, mc_head mh_12 hk hNk hs hn (by omega) (by omega) ?_, hP⟩
      refine rnN 3 rfl ?_
      refine rnT ((show nI (awd wu n) = nI 2 by rw [h2])) rfl ?_
      refine rnN 6 rfl ?_
      rw [hk1, jm_two, ← hk1]
      refine rnN 1 rfl ?_
      refine rnK rfl (hc) ?_
      refine rnN 4 rfl ?_
      simp (disch := omega) only [nI_add, pk_mul, pk_sub, nd8, nd4, nsub8, nand63, nand7, nshr2, nI_clamp, E_at, hup_at, hup_hup]
      refine rnN 2 rfl ?_
      simp (disch := omega) only [nI_add, pk_mul, pk_sub, nd8, nd4, nsub8, nand63, nand7, nshr2, nI_clamp, E_at, hup_at, hup_hup]
      exact hR
    · have h0 : awd wu n = 0 := (hy.flat h4).resolve_right h2
      have eT : cmT b wu V n = 0 := by unfold cmT; rw [if_neg (fun e => e h4), if_neg (fun z => h2 z.1)]
      have eS : cmS b W wu V n = V := by unfold cmS; rw [if_neg (fun e => e h4), if_neg (fun z => h2 z.1)]
      rw [if_pos h0, eS, eT, Nat.add_zero, Nat.add_zero] at K
      obtain ⟨hf, hR, hP⟩ := K u f s (some (vI (nI 0))) o8 o9 hu
      refine ⟨hf, mc_head mh_12 hk hNk hs hn (by omega) (by omega) ?_, hP⟩
      rw [h0]
      refine rnN 4 rfl ?_
      refine rnN 2 rfl ?_
      refine rnN 2 rfl ?_
      simp (disch := omega) only [nI_add, pk_mul, pk_sub, nd8, nd4, nsub8, nand63, nand7, nshr2, nI_clamp, E_at, hup_at, hup_hup]
      exact hR
  · rw [if_neg (show ¬ awd wu n = 0 by omega)] at K
    have hyp := (hy.lead h4).1.pos
    have hyp2 : awd wu n / 4 < 64 := hyp.2
    have eT : cmT b wu V n = nLeaf V n + nClus V n := by unfold cmT; rw [if_pos h4]
    have eS : cmS b W wu V n = cpc (gC (gL V n) n (datm (gL V n) W b n)) wu (awd wu n / 4) (gCc (gL V n) n) := by unfold cmS; rw [if_pos h4]
    obtain ⟨u1, hI1, hu1, ho1, hrm1, haw1, hT1, hH1, hO1⟩ := gL_spec hu hns (by omega)
    have hcl := gL_clus hu hns (by omega)
    have hdl := datm_lt (V := gL V n) (W := W) hI1.2.2.2.2 hWb b n
    obtain ⟨u2, hI2, hu2, hc2, hc3, hc4, hc5, hc6, hH2, hA2, hrm2⟩ := gC_spec (dat := datm (gL V n) W b n) hI1 (by rw [hH1 2 (by decide)]; exact hns) ho1 (by omega) hdl
    obtain ⟨hI3, hF3⟩ := flg_cpc (wu := wu) (a := awd wu n / 4) hI2 hc3 (by omega) (by omega) hub
    obtain ⟨f', s', hown⟩ := m_own (d := 1) (h := mh (hup H (15, 0) s) f (pf N 3 (flg V u))) (M := N) (g := 3) (W := W) (U := U) (nb := b) mh_12 (by decide) hu hns (by omega) (by omega) (by omega) hNW hWb hI2
    rw [mh_side, ← eT] at hown
    rw [← eS] at hI3 hF3
    have haw2 := (fl_aw hI2.1 (show n < 64 by omega)).1
    rw [hc6] at haw2
    obtain ⟨c, hc⟩ : ∃ c, c = gCc (gL V n) n := ⟨_, rfl⟩
    rw [← hc] at haw2 hF3 hc3 hc4
    obtain ⟨X, hX⟩ : ∃ X, X = gC (gL V n) n (datm (gL V n) W b n) := ⟨_, rfl⟩
    rw [← hX] at hown hI2 haw2 hF3
    obtain ⟨hf, hR, hP⟩ := K u2 f' s' (some (vI (nI (awd wu n)))) (some (vI (nI c))) (some (vI (nI 8))) hI3
    refine ⟨hf, mc_head mh_12 hk hNk hs hn (by omega) (by omega) (mc_lead hs hk1 hk hn h4 hown mh_12 hI2 ?_), hP⟩
    rw [haw2]
    have e0 : pf N 3 (flg X u2) = pf N 3 fun p => if p / 8 = c ∧ p % 8 < 0 then wu (8 * (awd wu n / 4) + p % 8) else flg X u2 p := pf_congr fun p _ => by rw [if_neg (by omega)]
    rw [e0]
    refine lpN 8 (fun i => Rn 8 MX4_commit 164 [some (vR (4, 0)), some (vI (nI k)), some (vI (nI (rm (W b)))), some (vI (nI (512 * k + 8 * wu 3))), some (vI (nI (cmK b wu (W b) n + cmT b wu V n))), some (vI (nI (cmD wu n))), some (vI (nI n)), some (vI (nI (awd wu n))), some (vI (nI c)), some (vI (nI i))] [] (mh (hup H (15, 0) s') f' (pf N 3 fun p => if p / 8 = c ∧ p % 8 < i then wu (8 * (awd wu n / 4) + p % 8) else flg X u2 p)) r hf) (fun i hi8 K2 => ?_) ?_
    · refine rnN 2 rfl ?_
      refine rnT (nI_lt hi8 (by decide)) rfl ?_
      refine rnN 2 rfl ?_
      refine rnF (nI_nlt hr (by omega)) rfl ?_
      refine rnN 4 rfl ?_
      refine rnK rfl (m_at) ?_
      refine rnN 8 rfl ?_
      simp (disch := omega) only [nI_add, pk_mul, pk_sub, nd8, nd4, nsub8, nand63, nand7, nshr2, nI_clamp, E_at, hup_at, hup_hup, hpt_def, pf_at, pf_at2, cf_at, h12_14, h14_12, h12_15, h15_12, h14_15, h15_14]
      refine rnK rfl (m_at) ?_
      refine rnN 2 rfl ?_
      simp (disch := omega) only [nI_add, pk_mul, pk_sub, nd8, nd4, nsub8, nand63, nand7, nshr2, nI_clamp, E_at, hup_at, hup_hup, hpt_def, pf_at, pf_at2, cf_at, h12_14, h14_12, h12_15, h15_12, h14_15, h15_14]
      rw [show 512 * k + 8 * (awd wu n / 4) + i = 512 * k + (8 * (awd wu n / 4) + i) by omega]
      refine rnC (inN (show 512 * k + (8 * (awd wu n / 4) + i) < 2048 by omega) (by decide)) rfl ?_
      simp (disch := omega) only [nI_add, pk_mul, pk_sub, nd8, nd4, nsub8, nand63, nand7, nshr2, nI_clamp, E_at, hup_at, hup_hup, hpt_def, pf_at, pf_at2, cf_at, h12_14, h14_12, h12_15, h15_12, h14_15, h15_14, mh_12]
      rw [pf_ne (show 8 * (awd wu n / 4) + i < 512 by omega) (show k ≠ 3 by omega), hNk _ (by omega)]
      refine rnC (inN (show 512 * 3 + 8 * c + i < 2048 by omega) (by decide)) rfl ?_
      simp (disch := omega) only [nI_clamp, mhpt]
      rw [show 512 * 3 + 8 * c + i = 512 * 3 + (8 * c + i) by omega, pf_up (show 8 * c + i < 512 by omega)]
      refine rnN 2 rfl ?_
      simp (disch := omega) only [nI_add, pk_mul, pk_sub, nd8, nd4, nsub8, nand63, nand7, nshr2, nI_clamp, E_at, hup_at, hup_hup, hpt_def, pf_at, pf_at2, cf_at, h12_14, h14_12, h12_15, h15_12, h14_15, h15_14]
      refine rnH ?_ K2
      congr 2
      funext p
      simp only [up]
      by_cases e : p = 8 * c + i
      · rw [if_pos e, if_pos (by omega), e, ix_mod hi8]
      · rw [if_neg e]
        by_cases e2 : p / 8 = c ∧ p % 8 < i
        · rw [if_pos e2, if_pos (show p / 8 = c ∧ p % 8 < i + 1 by omega)]
        · rw [if_neg e2, if_neg (show ¬ (p / 8 = c ∧ p % 8 < i + 1) by omega)]
    · have e1 : pf N 3 (fun p => if p / 8 = c ∧ p % 8 < 8 then wu (8 * (awd wu n / 4) + p % 8) else flg X u2 p) = pf N 3 (flg (cmS b W wu V n) u2) := pf_congr fun p _ => by
        rw [hF3]
        by_cases e2 : p / 8 = c
        · rw [if_pos e2, if_pos ⟨e2, by omega⟩]
        · rw [if_neg e2, if_neg (fun z => e2 z.1)]
      rw [e1]
      refine rnN 3 rfl ?_
      refine rnN 1 rfl ?_
      refine rnN 2 rfl ?_
      simp (disch := omega) only [nI_add, pk_mul, pk_sub, nd8, nd4, nsub8, nand63, nand7, nshr2, nI_clamp, E_at, hup_at, hup_hup]
      exact hR
/-- the step that takes more than there was room for -/
theorem mc_fail {uu u0 : Nat → Nat} (hk1 : k = b + 1) (hk : k < 3) (hi0 : Inv (W b) u0) (hs : Str wu uu) (hNk : ∀ p, p < 512 → N (512 * k + p) = wu p) (hNW : ∀ j, j < b → j ≠ 3 ∧ Str (W j) (U j) ∧ ∀ p, p < 512 → N (512 * j + p) = W j p)
    (h1 : W b 2 ≤ wu 2) (hWb : ∀ j p, W j p < 4294967296) (hub : ∀ p, wu p < 4294967296) (hn : n < wu 2) (hr0 : cmK b wu (W b) n ≤ rm (W b)) (hr : rm (W b) < cmK b wu (W b) (n + 1)) : mcR k b W wu N H n (some (vI (-2))) fun hf => ∃ s f x, hf = mh (hup H (15, 0) s) f (pf N 3 x) := by
  intro u f s o7 o8 o9 hu
  have hsz := hs.sz
  have hrml : rm (W b) ≤ 64 := by unfold rm; omega
  obtain ⟨un, J⟩ := JJ_upto (b := b) (W := W) hi0 ⟨uu, hs⟩ h1 hWb hub n (by omega) (by omega)
  have hT := JJ_take J (by omega)
  have hJ2 := J.2.2.1
  obtain ⟨V, hV⟩ : ∃ V, V = cmV b W wu (W b) n := ⟨_, rfl⟩
  rw [← hV] at hT hJ2 hu ⊢
  have hns : n < V 2 := by rw [hJ2]; exact hn
  have hy := hs.bok act_tb (show n < 64 by omega)
  have hyl : awd wu n < 256 := hy.lt
  rw [hT] at hr
  have hl1 := nLeaf_le V n
  have hl2 := nClus_le V n
  by_cases h4 : awd wu n / 4 = 0
  · have hh : awd wu n = 2 ∧ dch b (awd V n) = true := Classical.byContradiction fun e => by
      have eT : cmT b wu V n = 0 := by unfold cmT; rw [if_neg (fun e => e h4), if_neg e]
      omega
    obtain ⟨h2, hd⟩ := hh
    have eT : cmT b wu V n = nLeaf V n := by unfold cmT; rw [if_neg (fun e => e h4), if_pos ⟨h2, hd⟩]
    have key : ∃ f' x t1, rm (W b) < cmK b wu (W b) n + t1 ∧ t1 ≤ 1000 ∧ Cl 7 MX4_drop [vR (4, 0), vI (nI 3), vI (jm b), vI (nI n)] (mh (hup H (15, 0) s) f (pf N 3 (flg V u))) (some (vI (nI t1))) (mh (hup H (15, 0) s) f' (pf N 3 x)) := by
      by_cases hr2 : nLeaf V n ≤ rm V
      · obtain ⟨u1, hI1, hu1, ho1, hrm1, haw1, hT1, hH1, hO1⟩ := gL_spec hu hns hr2
        have hI2 := (mzF_spec hI1 (by rw [hH1 2 (by decide)]; exact hns) ho1).1
        obtain ⟨f', hc⟩ := m_drop (d := 1) (h := mh (hup H (15, 0) s) f (pf N 3 (flg V u))) (M := N) (g := 3) (nb := b) mh_12 (by decide) hu hns (by omega) hd hr2 hI2
        rw [mh_mh] at hc
        exact ⟨f', _, _, by omega, by omega, hc⟩
      · obtain ⟨f', hc⟩ := m_dropF (d := 1) (h := mh (hup H (15, 0) s) f (pf N 3 (flg V u))) (M := N) (g := 3) (nb := b) mh_12 (by decide) hu hns (by omega) hd hr2
        rw [mh_mh] at hc
        exact ⟨f', _, 1000, by omega, by omega, hc⟩
    obtain ⟨f', x, t1, ht1, ht2, hc⟩ := key
    refine ⟨_, mc_head mh_12 hk hNk hs hn hr0 (by omega) ?_, s, f', x, rfl⟩
    refine rnN 3 rfl ?_
    refine rnT ((show nI (awd wu n) = nI 2 by rw [h2])) rfl ?_
    refine rnN 6 rfl ?_
    rw [hk1, jm_two, ← hk1]
    refine rnN 1 rfl ?_
    refine rnK rfl (hc) ?_
    refine rnN 4 rfl ?_
    simp (disch := omega) only [nI_add, pk_mul, pk_sub, nd8, nd4, nsub8, nand63, nand7, nshr2, nI_clamp, E_at, hup_at, hup_hup]
    refine rnN 2 rfl ?_
    simp (disch := omega) only [nI_add, pk_mul, pk_sub, nd8, nd4, nsub8, nand63, nand7, nshr2, nI_clamp, E_at, hup_at, hup_hup]
    exact mc_over mh_12 hk hNk hs (by omega) ht1 (by omega)
  · have eT : cmT b wu V n = nLeaf V n + nClus V n := by unfold cmT; rw [if_pos h4]
    have key : ∃ f' s' X uX t1, Inv X uX ∧ rm (W b) < cmK b wu (W b) n + t1 ∧ t1 ≤ 1000 ∧ Cl 7 MX4_own [vR (4, 0), vI (nI 3), vI (jm b), vI (nI n)] (mh (hup H (15, 0) s) f (pf N 3 (flg V u))) (some (vI (nI t1))) (mh (hup H (15, 0) s') f' (pf N 3 (flg X uX))) := by
      by_cases hr1 : nLeaf V n ≤ rm V
      · obtain ⟨u1, hI1, hu1, ho1, hrm1, haw1, hT1, hH1, hO1⟩ := gL_spec hu hns hr1
        have hcl := gL_clus hu hns hr1
        by_cases hr2 : nClus V n ≤ rm (gL V n)
        · have hdl := datm_lt (V := gL V n) (W := W) hI1.2.2.2.2 hWb b n
          obtain ⟨u2, hI2, -⟩ := gC_spec (dat := datm (gL V n) W b n) hI1 (by rw [hH1 2 (by decide)]; exact hns) ho1 (by omega) hdl
          obtain ⟨f', s', hown⟩ := m_own (d := 1) (h := mh (hup H (15, 0) s) f (pf N 3 (flg V u))) (M := N) (g := 3) (W := W) (U := U) (nb := b) mh_12 (by decide) hu hns hr1 hr2 (by omega) hNW hWb hI2
          rw [mh_side] at hown
          exact ⟨f', s', _, u2, _, hI2, by omega, by omega, hown⟩
        · obtain ⟨f', s', u2, hI9, hown⟩ := m_ownF2 (d := 1) (h := mh (hup H (15, 0) s) f (pf N 3 (flg V u))) (M := N) (g := 3) (W := W) (U := U) (nb := b) mh_12 (by decide) hu hns hr1 hr2 (by omega) hNW
          rw [mh_side] at hown
          exact ⟨f', s', _, u2, 1000, hI9, by omega, by omega, hown⟩
      · obtain ⟨f', hown⟩ := m_ownF1 (d := 1) (h := mh (hup H (15, 0) s) f (pf N 3 (flg V u))) (M := N) (g := 3) (nb := b) mh_12 (by decide) hu hns hr1
        rw [mh_mh] at hown
        exact ⟨f', s, _, u, 1000, hu, by omega, by omega, hown⟩
    obtain ⟨f', s', X, uX, t1, hiX, ht1, ht2, hown⟩ := key
    exact ⟨_, mc_head mh_12 hk hNk hs hn hr0 (by omega) (mc_lead hs hk1 hk hn h4 hown mh_12 hiX (mc_leadF mh_12 hk hNk hs hn ht1 (by omega))), s', f', _, rfl⟩
end MC2
