/-! ===== the reference: take, room ===== -/
section MT
variable {d g : Nat} {h : xH} {M N w V u u' : Nat → Nat} {f : Nat → Int32}
theorem sm_lt {n i : Nat} {f g : Nat → Nat} (h : ∀ i, i < n → f i ≤ g i) (hi : i < n) (h2 : f i < g i) : sm n f < sm n g := by
  induction n with
  | zero => omega
  | succ n ih =>
    rw [sm_succ, sm_succ]
    have h3 := h n (by omega)
    by_cases e : i = n
    · subst e
      have h4 := sm_le (n := i) (f := f) (g := g) (fun j hj => h j (by omega))
      omega
    · have h4 := ih (fun j hj => h j (by omega)) (by omega)
      omega
theorem rm_all (hi : Inv V u) (hr : rm V = 0) : ∀ x, x < 64 → T V x ≠ 0 := by
  intro x hx h0
  have h1 := noKeep_le V
  have h2 : noKeep V + inUse V < 64 := by
    unfold noKeep inUse
    rw [show (64 : Nat) = 8 * 8 from rfl, sm_grp, ← sm_add]
    have hg1 : ∀ k, (sm 8 fun j => if 0 < cnt V (8 * k + j) then 1 else 0) ≤ 8 := fun k => by
      have e := sm_le (n := 8) (f := fun j => if 0 < cnt V (8 * k + j) then 1 else 0) (g := fun _ => 1) (fun j _ => by
        show (if 0 < cnt V (8 * k + j) then 1 else 0) ≤ 1
        split <;> omega)
      rw [sm_const] at e
      omega
    have hg2 : ∀ k, V (8 * V 4 + k) = 0 → (sm 8 fun j => if 0 < cnt V (8 * k + j) then 1 else 0) = 0 := fun k hk => sm_zero fun j hj => by
      have e : cnt V (8 * k + j) = 0 := by
        unfold cnt
        rw [ix_div hj, if_pos hk]
      rw [e]
      rfl
    have h3 := sm_lt (n := 8) (i := x / 8) (f := fun i => (if V (8 * V 4 + i) = 0 then 1 else 0) + sm 8 fun j => if 0 < cnt V (8 * i + j) then 1 else 0) (g := fun _ => 8) (fun k hk => by
      show (if V (8 * V 4 + k) = 0 then 1 else 0) + (sm 8 fun j => if 0 < cnt V (8 * k + j) then 1 else 0) ≤ 8
      have := hg1 k
      split
      · next e => rw [hg2 k e]; omega
      · omega) (by omega) (by
      show (if V (8 * V 4 + x / 8) = 0 then 1 else 0) + (sm 8 fun j => if 0 < cnt V (8 * (x / 8) + j) then 1 else 0) < 8
      split
      · next e => rw [hg2 _ e]; omega
      · have h4 := sm_lt (n := 8) (i := x % 8) (f := fun j => if 0 < cnt V (8 * (x / 8) + j) then 1 else 0) (g := fun _ => 1) (fun j _ => by
          show (if 0 < cnt V (8 * (x / 8) + j) then 1 else 0) ≤ 1
          split <;> omega) (by omega) (by
          show (if 0 < cnt V (8 * (x / 8) + x % 8) then 1 else 0) < 1
          rw [show 8 * (x / 8) + x % 8 = x by omega, hi.2.1 x hx, h0]
          decide)
        rw [sm_const] at h4
        omega)
    rw [sm_const] at h3
    exact h3
  unfold rm at hr
  omega
theorem rm_grp (hi : Inv w u) : (sm 8 fun k => if w (8 * w 4 + k) = 0 then 7 else sm 8 fun j => if T w (8 * k + j) = 0 then 1 else 0) = rm w := by
  have h1 : (sm 8 fun k => if w (8 * w 4 + k) = 0 then 7 else sm 8 fun j => if T w (8 * k + j) = 0 then 1 else 0) + (inUse w + noKeep w) = 64 := by
    unfold noKeep inUse
    rw [show sm 64 (fun c => if 0 < cnt w c then 1 else 0) = sm (8 * 8) fun c => if 0 < cnt w c then 1 else 0 from rfl, sm_grp, ← sm_add, ← sm_add]
    have h2 := sm_congr (n := 8) (f := fun i => (if w (8 * w 4 + i) = 0 then 7 else sm 8 fun j => if T w (8 * i + j) = 0 then 1 else 0) + ((sm 8 fun j => if 0 < cnt w (8 * i + j) then 1 else 0) + if w (8 * w 4 + i) = 0 then 1 else 0)) (g := fun _ => 8) (fun k hk => by
      show (if w (8 * w 4 + k) = 0 then 7 else sm 8 fun j => if T w (8 * k + j) = 0 then 1 else 0) + ((sm 8 fun j => if 0 < cnt w (8 * k + j) then 1 else 0) + if w (8 * w 4 + k) = 0 then 1 else 0) = 8
      by_cases e : w (8 * w 4 + k) = 0
      · rw [if_pos e, if_pos e]
        have h3 : (sm 8 fun j => if 0 < cnt w (8 * k + j) then 1 else 0) = 0 := sm_zero fun j hj => by
          have e2 : cnt w (8 * k + j) = 0 := by
            unfold cnt
            rw [ix_div hj, if_pos e]
          rw [e2]
          rfl
        rw [h3]
      · rw [if_neg e, if_neg e, Nat.add_zero, ← sm_add]
        have h3 := sm_congr (n := 8) (f := fun j => (if T w (8 * k + j) = 0 then 1 else 0) + if 0 < cnt w (8 * k + j) then 1 else 0) (g := fun _ => 1) (fun j hj => by
          show (if T w (8 * k + j) = 0 then 1 else 0) + (if 0 < cnt w (8 * k + j) then 1 else 0) = 1
          rw [hi.2.1 (8 * k + j) (by omega)]
          by_cases e2 : T w (8 * k + j) = 0
          · rw [if_pos e2, if_neg (by omega)]
          · rw [if_neg e2, if_pos (by omega)])
        rw [h3, sm_const])
    rw [h2, sm_const]
  unfold rm
  omega
theorem m_room (hw : h (12, 0) = E (pf M g w)) (hg : g < 4) (hi : Inv w u) : Cl (d + 3) MX4_room [vR (4, 0), vI (nI g)] h (some (vI (nI (rm w)))) (mh h (cf (h (14, 0)) (T w)) (pf M g w)) := by
  have hs := hi.1
  have hct := hs.ct
  have hns := hs.ns
  have hrc := m_recount (d := d) (M := M) hw hg hs
  rw [mh_eq hw] at hrc
  obtain ⟨f, hf⟩ : ∃ f, f = h (14, 0) := ⟨_, rfl⟩
  rw [← hf] at hrc ⊢
  refine rnN 2 rfl ?_
  refine rnK rfl (hrc) ?_
  refine rnN 4 rfl ?_
  have go := lpN 8 (fun k => ∀ o4 o5 : Option xV, Rn (d + 3) MX4_room 9 [some (vR (4, 0)), some (vI (nI g)), some (vI (nI (sm k fun k => if w (8 * w 4 + k) = 0 then 7 else sm 8 fun j => if T w (8 * k + j) = 0 then 1 else 0))), some (vI (nI k)), o4, o5] [] (mh h (cf f (T w)) (pf M g w)) (some (vI (nI (rm w)))) (mh h (cf f (T w)) (pf M g w))) (fun k hk K => ?_) ?_
  · exact go none none
  · intro o4 o5
    have hkl := hs.keepLt hk
    refine rnN 2 rfl ?_
    refine rnT (nI_lt hk (by decide)) rfl ?_
    refine rnN 4 rfl ?_
    have lp := lpN 8 (fun j => Rn (d + 3) MX4_room 21 [some (vR (4, 0)), some (vI (nI g)), some (vI (nI (sm k fun k => if w (8 * w 4 + k) = 0 then 7 else sm 8 fun j => if T w (8 * k + j) = 0 then 1 else 0))), some (vI (nI k)), some (vI (nI (sm j fun j => if T w (8 * k + j) = 0 then 1 else 0))), some (vI (nI j))] [] (mh h (cf f (T w)) (pf M g w)) (some (vI (nI (rm w)))) (mh h (cf f (T w)) (pf M g w))) (fun j hj K2 => ?_) ?_
    · exact lp
    · have hT := T_le (w := w) hns.1 (8 * k + j)
      refine rnN 2 rfl ?_
      refine rnT (nI_lt hj (by decide)) rfl ?_
      refine rnN 7 rfl ?_
      simp (disch := omega) only [nI_add, pk_mul, pk_sub, nd8, nd4, nsub8, nand63, nand7, nshr2, nI_clamp, E_at, hup_at, hup_hup, hpt_def, pf_at, pf_at2, cf_at, h12_14, h14_12, h12_15, h15_12, h14_15, h15_14]
      refine rnC (inN (show 8 * k + j < 64 by omega) (by decide)) rfl ?_
      simp (disch := omega) only [nI_add, pk_mul, pk_sub, nd8, nd4, nsub8, nand63, nand7, nshr2, nI_clamp, E_at, hup_at, hup_hup, hpt_def, pf_at, pf_at2, cf_at, h12_14, h14_12, h12_15, h15_12, h14_15, h15_14, mh_14]
      rw [sm_succ] at K2
      by_cases h0 : T w (8 * k + j) = 0
      · rw [h0]
        refine rnN 5 rfl ?_
        refine rnN 3 rfl ?_
        simp (disch := omega) only [nI_add, pk_mul, pk_sub, nd8, nd4, nsub8, nand63, nand7, nshr2, nI_clamp, E_at, hup_at, hup_hup, hpt_def, pf_at, pf_at2, cf_at, h12_14, h14_12, h12_15, h15_12, h14_15, h15_14]
        rw [if_pos h0] at K2
        exact K2
      · refine rnF (nI_ne0 (show 0 < T w (8 * k + j) by omega) (by omega)) rfl ?_
        refine rnN 1 rfl ?_
        refine rnN 3 rfl ?_
        simp (disch := omega) only [nI_add, pk_mul, pk_sub, nd8, nd4, nsub8, nand63, nand7, nshr2, nI_clamp, E_at, hup_at, hup_hup, hpt_def, pf_at, pf_at2, cf_at, h12_14, h14_12, h12_15, h15_12, h14_15, h15_14]
        rw [if_neg h0] at K2
        exact K2
    · refine rnN 3 rfl ?_
      refine rnN 11 rfl ?_
      simp (disch := omega) only [nI_add, pk_mul, pk_sub, nd8, nd4, nsub8, nand63, nand7, nshr2, nI_clamp, E_at, hup_at, hup_hup, hpt_def, pf_at, pf_at2, cf_at, h12_14, h14_12, h12_15, h15_12, h14_15, h15_14]
      refine rnC (inN (show 512 * g + 4 < 2048 by omega) (by decide)) rfl ?_
      simp (disch := omega) only [nI_add, pk_mul, pk_sub, nd8, nd4, nsub8, nand63, nand7, nshr2, nI_clamp, E_at, hup_at, hup_hup, hpt_def, pf_at, pf_at2, cf_at, h12_14, h14_12, h12_15, h15_12, h14_15, h15_14, mh_12]
      refine rnK rfl (m_at) ?_
      refine rnN 2 rfl ?_
      simp (disch := omega) only [nI_add, pk_mul, pk_sub, nd8, nd4, nsub8, nand63, nand7, nshr2, nI_clamp, E_at, hup_at, hup_hup, hpt_def, pf_at, pf_at2, cf_at, h12_14, h14_12, h12_15, h15_12, h14_15, h15_14]
      refine rnC (inN (show 512 * g + 8 * w 4 + k < 2048 by omega) (by decide)) rfl ?_
      simp (disch := omega) only [nI_add, pk_mul, pk_sub, nd8, nd4, nsub8, nand63, nand7, nshr2, nI_clamp, E_at, hup_at, hup_hup, hpt_def, pf_at, pf_at2, cf_at, h12_14, h14_12, h12_15, h15_12, h14_15, h15_14, mh_12]
      rw [sm_succ (n := k)] at K
      by_cases h0 : w (8 * w 4 + k) = 0
      · rw [h0]
        refine rnN 3 rfl ?_
        refine rnN 4 rfl ?_
        simp (disch := omega) only [nI_add, pk_mul, pk_sub, nd8, nd4, nsub8, nand63, nand7, nshr2, nI_clamp, E_at, hup_at, hup_hup, hpt_def, pf_at, pf_at2, cf_at, h12_14, h14_12, h12_15, h15_12, h14_15, h15_14]
        rw [if_pos h0] at K
        exact K _ _
      · refine rnF (nI_ne0 (show 0 < w (8 * w 4 + k) by omega) (by omega)) rfl ?_
        refine rnN 1 rfl ?_
        refine rnN 4 rfl ?_
        simp (disch := omega) only [nI_add, pk_mul, pk_sub, nd8, nd4, nsub8, nand63, nand7, nshr2, nI_clamp, E_at, hup_at, hup_hup, hpt_def, pf_at, pf_at2, cf_at, h12_14, h14_12, h12_15, h15_12, h14_15, h15_14]
        rw [if_neg h0] at K
        exact K _ _
  · intro o4 o5
    rw [rm_grp hi]
    refine rnN 4 rfl ?_
    exact rnR rfl
/-! a file and its settled words -/
theorem fl_rm (hi : Inv V u) : rm (flg V u) = rm V := by
  obtain ⟨h1, h2, h3⟩ := flg_inv hi
  have ha := flg_agr V u
  unfold rm
  rw [inUse_T h1, inUse_T hi]
  have e1 : noKeep (flg V u) = noKeep V := by
    unfold noKeep
    rw [ha.hdr (by decide)]
    exact sm_congr fun k hk => by rw [ha.ctw hi.1 hk]
  rw [e1, sm_congr (n := 64) (f := fun c => if 0 < T (flg V u) c then 1 else 0) (g := fun c => if 0 < T V c then 1 else 0) (fun c _ => by simp only [h2])]
theorem addK_agr (hi : Inv V u) {c : Nat} (h1 : 1 ≤ c) (h2 : c < 64) (hz : T V c = 0) (hk : V (8 * V 4 + c / 8) = 0) : Agr (up (flg V u) (8 * V 4 + c / 8) c) (addK V c) (up u c (16 + c / 8)) := by
  obtain ⟨ha, hT, hO⟩ := addK_inv hi h1 h2 hz hk
  have hct := hi.1.ct
  have hne4 : V 4 ≠ c := ne_fresh hz T_ct
  intro p hTp hu
  by_cases e : p = 8 * V 4 + c / 8
  · left
    rw [e, up_at]
    unfold addK
    rw [up_ne (by omega), up_at]
  · by_cases e2 : p / 8 = c
    · rw [e2, up_at] at hu
      omega
    · rw [hT, iv_ne (fun e3 => e2 e3.symm), Nat.add_zero] at hTp
      rw [up_ne e2] at hu
      rw [up_ne e, hO p e e2]
      rcases flg_agr V u p hTp hu with q | ⟨q1, q2, q3⟩
      · exact Or.inl q
      · refine Or.inr ⟨q1, ?_, q3⟩
        unfold TL
        rw [up_ne e2]
        exact q2
theorem m_takeT (hw : h (12, 0) = E (pf M g (flg V u))) (hg : g < 4) (hi : Inv V u) (hr : 1 ≤ rm V) (hi1 : Inv (tkW V) u') : ∃ f', Cl (d + 4) MX4_take [vR (4, 0), vI (nI g)] h (some (vI (nI (tkC V)))) (mh h f' (pf M g (flg (tkW V) u'))) := by
  obtain ⟨hfi, hfT, -⟩ := flg_inv hi
  have hs := hfi.1
  have hct := hi.1.ct
  have hns := hs.ns
  have hag := flg_agr V u
  have hfree := lf_free hi (rm_pos hr)
  obtain ⟨q1, q2, q3, q4⟩ := lf_LF V
  have hrc := m_recount (d := d + 1) (M := M) hw hg hs
  rw [mh_eq hw] at hrc
  have hlf : ∀ x, x < lf V → T V x ≠ 0 := fun x hx => by
    by_cases e : x = 0
    · rw [e]; have := T_zero V; omega
    · have := q3 x (by omega) hx
      rw [hi.2.1 x (by omega)] at this
      omega
  have hl1 := m_leastFreeT (d := d + 3) (h := mh h (cf (h (14, 0)) (T (flg V u))) (pf M g (flg V u))) (w := flg V u) (c := lf V) mh_14 hns.1 (by omega) (by rw [hfT]; exact hfree) (fun x hx => by rw [hfT]; exact hlf x hx)
  have e4 : flg V u 4 = V 4 := hag.hdr (by decide)
  have ek : flg V u (8 * V 4 + lf V / 8) = V (8 * V 4 + lf V / 8) := hag.ctw hi.1 (by omega)
  have hkl := hi.1.keepLt (k := lf V / 8) (by omega)
  by_cases hk : V (8 * V 4 + lf V / 8) = 0
  · have e : tkW V = addK V (lf V) := if_pos hk
    obtain ⟨ha, hT, hO⟩ := addK_inv hi q1 (by omega) hfree hk
    have hC : tkC V = lf (addK V (lf V)) := by unfold tkC; rw [e]
    have hag2 := addK_agr hi q1 (by omega) hfree hk
    have hsR := hag2.eS ha.1
    have hTR := fun X => hag2.eT ha.1 X
    have hst := m_settle (d := d) (h := mh h (cf (h (14, 0)) (T (flg V u))) (pf M g (up (flg V u) (8 * V 4 + lf V / 8) (lf V)))) (M := M) mh_12 hg hsR
    rw [mh_mh, mh_14] at hst
    have hfin : pf M g (stl (up (flg V u) (8 * V 4 + lf V / 8) (lf V)) (up u (lf V) (16 + lf V / 8))) = pf M g (flg (tkW V) u') := by
      rw [e] at hi1
      rw [e, ← flg_u ha hi1]
      exact pf_congr (stl_agr ha hag2)
    rw [hfin] at hst
    have hrk := addK_rm hi q1 (by omega) hfree hk
    have hz2 := lf_free ha (rm_pos (by rw [hrk]; exact hr))
    obtain ⟨g1, g2, g3, g4⟩ := lf_LF (addK V (lf V))
    have hl2 := m_leastFreeT (d := d + 3) (h := mh h (cf (cf (h (14, 0)) (T (flg V u))) (T (up (flg V u) (8 * V 4 + lf V / 8) (lf V)))) (pf M g (flg (tkW V) u'))) (w := up (flg V u) (8 * V 4 + lf V / 8) (lf V)) (c := lf (addK V (lf V))) mh_14 hsR.ns.1 (by omega) (by rw [hTR]; exact hz2) (fun x hx => by
      rw [hTR]
      by_cases e : x = 0
      · rw [e]; have := T_zero (addK V (lf V)); omega
      · have := g3 x (by omega) hx
        rw [ha.2.1 x (by omega)] at this
        omega)
    refine ⟨cf (cf (h (14, 0)) (T (flg V u))) (T (up (flg V u) (8 * V 4 + lf V / 8) (lf V))), ?_⟩
    refine rnN 2 rfl ?_
    refine rnK rfl (hrc) ?_
    refine rnN 1 rfl ?_
    refine rnK rfl (hl1) ?_
    refine rnN 2 rfl ?_
    refine rnF (nI_pos (show lf V < 2147483648 by omega)) rfl ?_
    refine rnN 8 rfl ?_
    simp (disch := omega) only [nI_add, pk_mul, pk_sub, nd8, nd4, nsub8, nand63, nand7, nshr2, nI_clamp, E_at, hup_at, hup_hup, hpt_def, pf_at, pf_at2, cf_at, h12_14, h14_12, h12_15, h15_12, h14_15, h15_14]
    refine rnC (inN (show 512 * g + 4 < 2048 by omega) (by decide)) rfl ?_
    simp (disch := omega) only [nI_add, pk_mul, pk_sub, nd8, nd4, nsub8, nand63, nand7, nshr2, nI_clamp, E_at, hup_at, hup_hup, hpt_def, pf_at, pf_at2, cf_at, h12_14, h14_12, h12_15, h15_12, h14_15, h15_14, mh_12]
    rw [e4]
    refine rnK rfl (m_at) ?_
    refine rnN 8 rfl ?_
    simp (disch := omega) only [nI_add, pk_mul, pk_sub, nd8, nd4, nsub8, nand63, nand7, nshr2, nI_clamp, E_at, hup_at, hup_hup, hpt_def, pf_at, pf_at2, cf_at, h12_14, h14_12, h12_15, h15_12, h14_15, h15_14]
    refine rnC (inN (show 512 * g + 8 * V 4 + lf V / 8 < 2048 by omega) (by decide)) rfl ?_
    simp (disch := omega) only [nI_add, pk_mul, pk_sub, nd8, nd4, nsub8, nand63, nand7, nshr2, nI_clamp, E_at, hup_at, hup_hup, hpt_def, pf_at, pf_at2, cf_at, h12_14, h14_12, h12_15, h15_12, h14_15, h15_14, mh_12]
    rw [ek, hk]
    refine rnN 5 rfl ?_
    refine rnC (inN (show 512 * g + 8 * V 4 + lf V / 8 < 2048 by omega) (by decide)) rfl ?_
    simp (disch := omega) only [nI_clamp, mhpt]
    rw [show 512 * g + 8 * V 4 + lf V / 8 = 512 * g + (8 * V 4 + lf V / 8) by omega, pf_up (show 8 * V 4 + lf V / 8 < 512 by omega)]
    refine rnN 2 rfl ?_
    refine rnK rfl (hst) ?_
    refine rnN 1 rfl ?_
    refine rnK rfl (hl2) ?_
    refine rnN 2 rfl ?_
    rw [hC]
    exact rnR rfl
  · have e : tkW V = V := if_neg hk
    have hC : tkC V = lf V := by unfold tkC; rw [e]
    rw [e] at hi1
    rw [e, hC, ← flg_u hi hi1]
    refine ⟨cf (h (14, 0)) (T (flg V u)), ?_⟩
    refine rnN 2 rfl ?_
    refine rnK rfl (hrc) ?_
    refine rnN 1 rfl ?_
    refine rnK rfl (hl1) ?_
    refine rnN 2 rfl ?_
    refine rnF (nI_pos (show lf V < 2147483648 by omega)) rfl ?_
    refine rnN 8 rfl ?_
    simp (disch := omega) only [nI_add, pk_mul, pk_sub, nd8, nd4, nsub8, nand63, nand7, nshr2, nI_clamp, E_at, hup_at, hup_hup, hpt_def, pf_at, pf_at2, cf_at, h12_14, h14_12, h12_15, h15_12, h14_15, h15_14]
    refine rnC (inN (show 512 * g + 4 < 2048 by omega) (by decide)) rfl ?_
    simp (disch := omega) only [nI_add, pk_mul, pk_sub, nd8, nd4, nsub8, nand63, nand7, nshr2, nI_clamp, E_at, hup_at, hup_hup, hpt_def, pf_at, pf_at2, cf_at, h12_14, h14_12, h12_15, h15_12, h14_15, h15_14, mh_12]
    rw [e4]
    refine rnK rfl (m_at) ?_
    refine rnN 8 rfl ?_
    simp (disch := omega) only [nI_add, pk_mul, pk_sub, nd8, nd4, nsub8, nand63, nand7, nshr2, nI_clamp, E_at, hup_at, hup_hup, hpt_def, pf_at, pf_at2, cf_at, h12_14, h14_12, h12_15, h15_12, h14_15, h15_14]
    refine rnC (inN (show 512 * g + 8 * V 4 + lf V / 8 < 2048 by omega) (by decide)) rfl ?_
    simp (disch := omega) only [nI_add, pk_mul, pk_sub, nd8, nd4, nsub8, nand63, nand7, nshr2, nI_clamp, E_at, hup_at, hup_hup, hpt_def, pf_at, pf_at2, cf_at, h12_14, h14_12, h12_15, h15_12, h14_15, h15_14, mh_12]
    rw [ek]
    refine rnF (nI_ne0 (show 0 < V (8 * V 4 + lf V / 8) by omega) (by omega)) rfl ?_
    refine rnN 1 rfl ?_
    exact rnR rfl
theorem m_takeF (hw : h (12, 0) = E (pf M g (flg V u))) (hg : g < 4) (hi : Inv V u) (hr : rm V = 0) : ∃ f', Cl (d + 4) MX4_take [vR (4, 0), vI (nI g)] h (some (vI (-1))) (mh h f' (pf M g (flg V u))) := by
  obtain ⟨hfi, hfT, -⟩ := flg_inv hi
  have hs := hfi.1
  have hrc := m_recount (d := d + 1) (M := M) hw hg hs
  rw [mh_eq hw] at hrc
  have hl1 := m_leastFreeF (d := d + 3) (h := mh h (cf (h (14, 0)) (T (flg V u))) (pf M g (flg V u))) (w := flg V u) mh_14 hs.ns.1 (fun x hx => by rw [hfT]; exact rm_all hi hr x hx)
  refine ⟨cf (h (14, 0)) (T (flg V u)), ?_⟩
  refine rnN 2 rfl ?_
  refine rnK rfl (hrc) ?_
  refine rnN 1 rfl ?_
  refine rnK rfl (hl1) ?_
  refine rnN 4 rfl ?_
  exact rnR rfl
end MT
