/-! ===== revert, delete, snapshot ===== -/
section OPN
variable {d k : Nat} {h : xH} {M : Nat → Nat} {W U : Nat → Nat → Nat} {f s : Nat → Int32}
theorem stl_hdr {R u : Nat → Nat} (hs : Str R u) {p : Nat} (hp : p < 8) : stl R u p = R p := by
  unfold stl
  rw [(flg_agr _ _).hdr hp]
  exact (clo_agr hs).hdr hp
theorem Agr.clo {v R u : Nat → Nat} (h : Agr v R u) (hs : Str R u) : Agr v (clo R u) u := fun p hT hu => by
  rw [(clo_agr hs).eT hs] at hT
  rw [clo_out hs hT hu]
  exact h p hT hu
/-- a call that settles raw words R of the top image -/
theorem op_settled {m3 m4 : Nat} {as : List xV} {r : Int32} {R u' : Nat → Nat} (S : SI k W U h) (hS : Str R u') (hI : Inv (clo R u') u') (h60 : R 5 = 0 → R 6 = 0) (h2 : W k 2 ≤ R 2) (hM : ∀ j p, j ≤ k → p < 512 → M (512 * j + p) = W j p)
    (c3 : Cl 8 m3 (vR (3, 0) :: as) h (some (vI r)) (hup h (10, k) (E (stl R u')))) (c4 : ∃ f', Cl 8 m4 (vR (4, 0) :: as) (hup h (10, k) (E (stl R u'))) (some (vI r)) (mh (hup h (10, k) (E (stl R u'))) f' (pf M k (stl R u')))) : OpOK m3 m4 as h := by
  obtain ⟨f', c4⟩ := c4
  obtain ⟨hF1, hF2, hF3⟩ := flg_inv hI
  have h9 := SI_upd (s := hup h (10, k) (E (stl R u')) (15, 0)) (f := f') S (w' := stl R u') (u' := u') hF1 hF3 (fun e => by rw [stl_hdr hS (by decide)] at e ⊢; exact h60 e) (by rw [stl_hdr hS (by decide)]; exact h2) hM
  rw [hup_self rfl] at h9
  exact ⟨r, _, _, k, _, _, c3, c4, h9⟩
theorem op_revert (S : SI k W U h) (v0 : Int32) : OpOK MX3_revert MX4_revert [vI v0] h := by
  obtain ⟨M, hM, hMw, hMp⟩ := S.mem
  have hk := S.1
  have hi := S.inv (Nat.le_refl k)
  have hw := S.file (Nat.le_refl k)
  have hs := hi.1
  have h6 := hs.l6
  have hns := hs.ns
  have hg : k < 4 := by omega
  have hw12 : h (12, 0) = E (pf M k (W k)) := by rw [hM, hMp k (Nat.le_refl k)]
  have hn3 := S.2.2.2.2.1
  have hn4 := S.2.2.2.2.2.1
  have hb := hi.2.2.2.2
  obtain ⟨n, hnn, rfl⟩ : ∃ n, n < 4294967296 ∧ v0 = nI n := ⟨tn v0, tn_lt _, (nI_tn v0).symm⟩
  rcases name_cases (W k) n with hl | ⟨j, hj, he, hl⟩
  · refine ⟨(-1), h, h, k, W, U, Cl_deep (n := 4) (by decide) ?_, Cl_deep (n := 4) (by decide) ?_, S⟩
    · refine rnN 1 rfl ?_
      refine rnK rfl (c_top hn3 hk) ?_
      refine rnN 1 rfl ?_
      refine rnK rfl (c_namedF hw h6 hns.1 hb hnn hl) ?_
      refine rnN 4 rfl ?_
      exact rnR rfl
    · refine rnN 5 rfl ?_
      rw [m_top hn4]
      refine rnN 2 rfl ?_
      refine rnK rfl (m_namedF hw12 hn4 hk h6 hns.1 hb hnn hl) ?_
      refine rnN 4 rfl ?_
      exact rnR rfl
  · obtain ⟨hS, hT, hI, hO, hA⟩ := rv_spec hi hj
    have htj := hs.tab hj
    have hact := hs.act
    have hne : tab (W k) j ≠ W k 3 := fun e => by rw [e] at htj; omega
    refine op_settled (r := nI 0) S hS hI (fun e => by rw [hO 5 (by omega)] at e; omega) (by rw [hO 2 (by omega)]; exact Nat.le_refl _) hMw (Cl_deep (n := 6) (by decide) ?_) ?_
    · refine rnN 1 rfl ?_
      refine rnK rfl (c_top hn3 hk) ?_
      refine rnN 1 rfl ?_
      refine rnK rfl (c_namedT hw h6 hns.1 hj hb hnn he hl) ?_
      refine rnN 2 rfl ?_
      refine rnF (nI_pos (show j < 2147483648 by omega)) rfl ?_
      refine rnN 1 rfl ?_
      refine rnK rfl (c_top hn3 hk) ?_
      refine rnN 1 rfl ?_
      refine rnK rfl (c_returnTo hw hi hj) ?_
      refine rnN 1 rfl ?_
      exact rnR rfl
    · obtain ⟨h1, hh1⟩ : ∃ h1, h1 = hup h (10, k) (E (stl (rvR (W k) j) (U k))) := ⟨_, rfl⟩
      rw [← hh1]
      have n1 : ∀ q : xP, q ≠ (10, k) → h1 q = h q := fun q hq => by rw [hh1, hup_ne hq]
      have q12 : h1 (12, 0) = E (pf M k (W k)) := by rw [n1 _ (fun e => by injection e with e1 e2; omega)]; exact hw12
      have q4 : h1 (4, 0) 2 = nI (k + 1) := by rw [n1 _ (fun e => by injection e with e1 e2; omega)]; exact hn4
      have hst := m_settle (d := 4) (h := mh h1 (h1 (14, 0)) (pf M k (rvR (W k) j))) (M := M) mh_12 hg hS
      rw [mh_mh, mh_14] at hst
      refine ⟨cf (h1 (14, 0)) (T (rvR (W k) j)), ?_⟩
      refine rnN 5 rfl ?_
      rw [m_top q4]
      refine rnN 2 rfl ?_
      refine rnK rfl (m_namedT q12 q4 hk h6 hns.1 hj hb hnn he hl) ?_
      refine rnN 2 rfl ?_
      refine rnF (nI_pos (show j < 2147483648 by omega)) rfl ?_
      refine rnN 3 rfl ?_
      refine rnK rfl (m_table (n := j + 1) q12 hg h6 (by omega)) ?_
      rw [show tbn (W k) (j + 1) = tab (W k) j from rfl]
      refine rnN 4 rfl ?_
      refine rnK rfl (m_table (n := 0) q12 hg h6 (by decide)) ?_
      rw [show tbn (W k) 0 = W k 3 from rfl]
      refine rnN 3 rfl ?_
      have e0 : h1 = mh h1 (h1 (14, 0)) (pf M k fun p => if p / 8 = W k 3 ∧ p % 8 < 0 then W k (8 * tab (W k) j + p % 8) else W k p) := by
        rw [pf_congr (v := fun p => if p / 8 = W k 3 ∧ p % 8 < 0 then W k (8 * tab (W k) j + p % 8) else W k p) (w := W k) (fun p _ => by rw [if_neg (by omega)])]
        unfold mh
        rw [hup_self (p := (14, 0)) rfl, hup_self q12]
      refine rnH e0 ?_
      refine lpN 8 (fun i => Rn 8 MX4_revert 38 [some (vR (4, 0)), some (vI (nI n)), some (vI (nI k)), some (vI (nI j)), some (vI (nI (512 * k + 8 * tab (W k) j))), some (vI (nI (512 * k + 8 * W k 3))), some (vI (nI i))] [] (mh h1 (h1 (14, 0)) (pf M k fun p => if p / 8 = W k 3 ∧ p % 8 < i then W k (8 * tab (W k) j + p % 8) else W k p)) (some (vI (nI 0))) (mh h1 (cf (h1 (14, 0)) (T (rvR (W k) j))) (pf M k (stl (rvR (W k) j) (U k))))) (fun i hi8 K => ?_) ?_
      · refine rnN 2 rfl ?_
        refine rnT (nI_lt hi8 (by decide)) rfl ?_
        refine rnN 10 rfl ?_
        simp (disch := omega) only [nI_add, pk_mul, pk_sub, nd8, nd4, nsub8, nand63, nand7, nshr2, nI_clamp, E_at, hup_at, hup_hup, hpt_def, pf_at, pf_at2, cf_at, h12_14, h14_12, h12_15, h15_12, h14_15, h15_14]
        refine rnC (inN (show 512 * k + 8 * tab (W k) j + i < 2048 by omega) (by decide)) rfl ?_
        simp (disch := omega) only [nI_add, pk_mul, pk_sub, nd8, nd4, nsub8, nand63, nand7, nshr2, nI_clamp, E_at, hup_at, hup_hup, hpt_def, pf_at, pf_at2, cf_at, h12_14, h14_12, h12_15, h15_12, h14_15, h15_14, mh_12]
        rw [if_neg (show ¬ ((8 * tab (W k) j + i) / 8 = W k 3 ∧ (8 * tab (W k) j + i) % 8 < i) by omega)]
        refine rnC (inN (show 512 * k + 8 * W k 3 + i < 2048 by omega) (by decide)) rfl ?_
        simp (disch := omega) only [nI_clamp, mhpt]
        rw [show 512 * k + 8 * W k 3 + i = 512 * k + (8 * W k 3 + i) by omega, pf_up (show 8 * W k 3 + i < 512 by omega)]
        refine rnN 2 rfl ?_
        simp (disch := omega) only [nI_add, pk_mul, pk_sub, nd8, nd4, nsub8, nand63, nand7, nshr2, nI_clamp, E_at, hup_at, hup_hup, hpt_def, pf_at, pf_at2, cf_at, h12_14, h14_12, h12_15, h15_12, h14_15, h15_14]
        refine rnH ?_ K
        congr 2
        funext p
        simp only [up]
        by_cases e : p = 8 * W k 3 + i
        · rw [if_pos e, if_pos (by omega), e, ix_mod hi8]
        · rw [if_neg e]
          by_cases e2 : p / 8 = W k 3 ∧ p % 8 < i
          · rw [if_pos e2, if_pos (show p / 8 = W k 3 ∧ p % 8 < i + 1 by omega)]
          · rw [if_neg e2, if_neg (show ¬ (p / 8 = W k 3 ∧ p % 8 < i + 1) by omega)]
      · refine rnN 3 rfl ?_
        have e1 : (fun p => if p / 8 = W k 3 ∧ p % 8 < 8 then W k (8 * tab (W k) j + p % 8) else W k p) = rvR (W k) j := by
          funext p
          unfold rvR cpc
          by_cases e2 : p / 8 = W k 3
          · rw [if_pos e2, if_pos ⟨e2, by omega⟩]
          · rw [if_neg e2, if_neg (fun z => e2 z.1)]
        rw [e1]
        refine rnN 2 rfl ?_
        refine rnK rfl (hst) ?_
        refine rnN 1 rfl ?_
        exact rnR rfl
theorem op_delete (S : SI k W U h) (v0 : Int32) : OpOK MX3_delete MX4_delete [vI v0] h := by
  obtain ⟨M, hM, hMw, hMp⟩ := S.mem
  have hk := S.1
  have hi := S.inv (Nat.le_refl k)
  have hw := S.file (Nat.le_refl k)
  have hs := hi.1
  have h6 := hs.l6
  have hns := hs.ns
  have hg : k < 4 := by omega
  have hw12 : h (12, 0) = E (pf M k (W k)) := by rw [hM, hMp k (Nat.le_refl k)]
  have hn3 := S.2.2.2.2.1
  have hn4 := S.2.2.2.2.2.1
  have hb := hi.2.2.2.2
  obtain ⟨n, hnn, rfl⟩ : ∃ n, n < 4294967296 ∧ v0 = nI n := ⟨tn v0, tn_lt _, (nI_tn v0).symm⟩
  rcases name_cases (W k) n with hl | ⟨j, hj, he, hl⟩
  · refine ⟨(-1), h, h, k, W, U, Cl_deep (n := 4) (by decide) ?_, Cl_deep (n := 4) (by decide) ?_, S⟩
    · refine rnN 1 rfl ?_
      refine rnK rfl (c_top hn3 hk) ?_
      refine rnN 1 rfl ?_
      refine rnK rfl (c_namedF hw h6 hns.1 hb hnn hl) ?_
      refine rnN 4 rfl ?_
      exact rnR rfl
    · refine rnN 5 rfl ?_
      rw [m_top hn4]
      refine rnN 2 rfl ?_
      refine rnK rfl (m_namedF hw12 hn4 hk h6 hns.1 hb hnn hl) ?_
      refine rnN 4 rfl ?_
      exact rnR rfl
  · obtain ⟨hS, hT, hI, hO⟩ := dl_spec hi hj
    have h60 := hns.2 (show W k 5 ≠ 0 by omega)
    have e5 : dlR (W k) j 5 = W k 5 - 1 := if_pos rfl
    have e6 : dlR (W k) j 6 = if W k 5 = 1 then 0 else W k 6 := by unfold dlR; rw [if_neg (by decide), if_pos rfl]
    refine op_settled (r := nI 0) S hS hI (fun e => by rw [e5] at e; rw [e6, if_pos (by omega)]) (by rw [hO 2 (by decide) (by decide) (by omega)]; exact Nat.le_refl _) hMw (Cl_deep (n := 6) (by decide) ?_) ?_
    · refine rnN 1 rfl ?_
      refine rnK rfl (c_top hn3 hk) ?_
      refine rnN 1 rfl ?_
      refine rnK rfl (c_namedT hw h6 hns.1 hj hb hnn he hl) ?_
      refine rnN 2 rfl ?_
      refine rnF (nI_pos (show j < 2147483648 by omega)) rfl ?_
      refine rnN 1 rfl ?_
      refine rnK rfl (c_top hn3 hk) ?_
      refine rnN 1 rfl ?_
      refine rnK rfl (c_removeSnapshot hw hi hj) ?_
      refine rnN 1 rfl ?_
      exact rnR rfl
    · obtain ⟨h1, hh1⟩ : ∃ h1, h1 = hup h (10, k) (E (stl (dlR (W k) j) (dlU (U k) j))) := ⟨_, rfl⟩
      rw [← hh1]
      have n1 : ∀ q : xP, q ≠ (10, k) → h1 q = h q := fun q hq => by rw [hh1, hup_ne hq]
      have q12 : h1 (12, 0) = E (pf M k (W k)) := by rw [n1 _ (fun e => by injection e with e1 e2; omega)]; exact hw12
      have q4 : h1 (4, 0) 2 = nI (k + 1) := by rw [n1 _ (fun e => by injection e with e1 e2; omega)]; exact hn4
      have hst := m_settle (d := 4) (h := mh h1 (h1 (14, 0)) (pf M k (dlR (W k) j))) (M := M) mh_12 hg hS
      rw [mh_mh, mh_14] at hst
      refine ⟨cf (h1 (14, 0)) (T (dlR (W k) j)), ?_⟩
      refine rnN 5 rfl ?_
      rw [m_top q4]
      refine rnN 2 rfl ?_
      refine rnK rfl (m_namedT q12 q4 hk h6 hns.1 hj hb hnn he hl) ?_
      refine rnN 2 rfl ?_
      refine rnF (nI_pos (show j < 2147483648 by omega)) rfl ?_
      refine rnN 8 rfl ?_
      simp (disch := omega) only [nI_add, pk_mul, pk_sub, nd8, nd4, nsub8, nand63, nand7, nshr2, nI_clamp, E_at, hup_at, hup_hup, hpt_def, pf_at, pf_at2, cf_at, h12_14, h14_12, h12_15, h15_12, h14_15, h15_14]
      refine rnC (inN (show 512 * k + 6 < 2048 by omega) (by decide)) rfl ?_
      simp (disch := omega) only [nI_add, pk_mul, pk_sub, nd8, nd4, nsub8, nand63, nand7, nshr2, nI_clamp, E_at, hup_at, hup_hup, hpt_def, pf_at, pf_at2, cf_at, h12_14, h14_12, h12_15, h15_12, h14_15, h15_14, q12]
      refine rnK rfl (m_at) ?_
      refine rnN 3 rfl ?_
      refine rnK rfl (m_snapshots q12 hg) ?_
      refine rnN 7 rfl ?_
      simp (disch := omega) only [nI_add, pk_mul, pk_sub, nd8, nd4, nsub8, nand63, nand7, nshr2, nI_clamp, E_at, hup_at, hup_hup, hpt_def, pf_at, pf_at2, cf_at, h12_14, h14_12, h12_15, h15_12, h14_15, h15_14]
      have e0 : h1 = mh h1 (h1 (14, 0)) (pf M k fun p => if p / 8 = W k 6 ∧ 2 * j ≤ p % 8 ∧ p % 8 < 2 * j + 0 then (if p % 8 < 6 then W k (p + 2) else 0) else W k p) := by
        rw [pf_congr (v := fun p => if p / 8 = W k 6 ∧ 2 * j ≤ p % 8 ∧ p % 8 < 2 * j + 0 then (if p % 8 < 6 then W k (p + 2) else 0) else W k p) (w := W k) (fun p _ => by rw [if_neg (by omega)])]
        unfold mh
        rw [hup_self (p := (14, 0)) rfl, hup_self q12]
      refine rnH e0 ?_
      refine lpN (8 - 2 * j) (fun i => Rn 8 MX4_delete 52 [some (vR (4, 0)), some (vI (nI n)), some (vI (nI k)), some (vI (nI j)), some (vI (nI (512 * k + 8 * W k 6))), some (vI (nI (W k 5 - 1))), some (vI (nI (2 * j + i)))] [] (mh h1 (h1 (14, 0)) (pf M k fun p => if p / 8 = W k 6 ∧ 2 * j ≤ p % 8 ∧ p % 8 < 2 * j + i then (if p % 8 < 6 then W k (p + 2) else 0) else W k p)) (some (vI (nI 0))) (mh h1 (cf (h1 (14, 0)) (T (dlR (W k) j))) (pf M k (stl (dlR (W k) j) (dlU (U k) j))))) (fun i hi8 K => ?_) ?_
      · have step : ∀ z, z = (if 2 * j + i < 6 then W k (8 * W k 6 + (2 * j + i) + 2) else 0) → up (fun p => if p / 8 = W k 6 ∧ 2 * j ≤ p % 8 ∧ p % 8 < 2 * j + i then (if p % 8 < 6 then W k (p + 2) else 0) else W k p) (8 * W k 6 + (2 * j + i)) z = fun p => if p / 8 = W k 6 ∧ 2 * j ≤ p % 8 ∧ p % 8 < 2 * j + (i + 1) then (if p % 8 < 6 then W k (p + 2) else 0) else W k p := by
          intro z hz
          funext p
          simp only [up]
          by_cases e : p = 8 * W k 6 + (2 * j + i)
          · rw [if_pos e, if_pos (show p / 8 = W k 6 ∧ 2 * j ≤ p % 8 ∧ p % 8 < 2 * j + (i + 1) by omega), hz, e, ix_mod (by omega)]
          · rw [if_neg e]
            by_cases e2 : p / 8 = W k 6 ∧ 2 * j ≤ p % 8 ∧ p % 8 < 2 * j + i
            · rw [if_pos e2, if_pos (show p / 8 = W k 6 ∧ 2 * j ≤ p % 8 ∧ p % 8 < 2 * j + (i + 1) by omega)]
            · rw [if_neg e2, if_neg (show ¬ (p / 8 = W k 6 ∧ 2 * j ≤ p % 8 ∧ p % 8 < 2 * j + (i + 1)) by omega)]
        refine rnN 2 rfl ?_
        refine rnT (nI_lt (show 2 * j + i < 8 by omega) (by decide)) rfl ?_
        refine rnN 9 rfl ?_
        simp (disch := omega) only [nI_add, pk_mul, pk_sub, nd8, nd4, nsub8, nand63, nand7, nshr2, nI_clamp, E_at, hup_at, hup_hup, hpt_def, pf_at, pf_at2, cf_at, h12_14, h14_12, h12_15, h15_12, h14_15, h15_14]
        by_cases hlt : 2 * j + i + 2 < 8
        · refine rnT (nI_lt hlt (by decide)) rfl ?_
          refine rnN 7 rfl ?_
          simp (disch := omega) only [nI_add, pk_mul, pk_sub, nd8, nd4, nsub8, nand63, nand7, nshr2, nI_clamp, E_at, hup_at, hup_hup, hpt_def, pf_at, pf_at2, cf_at, h12_14, h14_12, h12_15, h15_12, h14_15, h15_14]
          rw [show 512 * k + 8 * W k 6 + (2 * j + i) + 2 = 512 * k + (8 * W k 6 + (2 * j + i + 2)) by omega]
          refine rnC (inN (show 512 * k + (8 * W k 6 + (2 * j + i + 2)) < 2048 by omega) (by decide)) rfl ?_
          simp (disch := omega) only [nI_add, pk_mul, pk_sub, nd8, nd4, nsub8, nand63, nand7, nshr2, nI_clamp, E_at, hup_at, hup_hup, hpt_def, pf_at, pf_at2, cf_at, h12_14, h14_12, h12_15, h15_12, h14_15, h15_14, mh_12]
          rw [if_neg (show ¬ ((8 * W k 6 + (2 * j + i + 2)) / 8 = W k 6 ∧ 2 * j ≤ (8 * W k 6 + (2 * j + i + 2)) % 8 ∧ (8 * W k 6 + (2 * j + i + 2)) % 8 < 2 * j + i) by omega)]
          refine rnN 1 rfl ?_
          refine rnC (inN (show 512 * k + 8 * W k 6 + (2 * j + i) < 2048 by omega) (by decide)) rfl ?_
          simp (disch := omega) only [nI_clamp, mhpt]
          rw [show 512 * k + 8 * W k 6 + (2 * j + i) = 512 * k + (8 * W k 6 + (2 * j + i)) by omega, pf_up (show 8 * W k 6 + (2 * j + i) < 512 by omega), step _ (by rw [if_pos (by omega)]; rfl)]
          refine rnN 2 rfl ?_
          simp (disch := omega) only [nI_add, pk_mul, pk_sub, nd8, nd4, nsub8, nand63, nand7, nshr2, nI_clamp, E_at, hup_at, hup_hup, hpt_def, pf_at, pf_at2, cf_at, h12_14, h14_12, h12_15, h15_12, h14_15, h15_14]
          exact K
        · refine rnF (nI_nlt (show 8 ≤ 2 * j + i + 2 by omega) (by omega)) rfl ?_
          refine rnN 1 rfl ?_
          refine rnC (inN (show 512 * k + 8 * W k 6 + (2 * j + i) < 2048 by omega) (by decide)) rfl ?_
          simp (disch := omega) only [nI_clamp, mhpt]
          rw [show 512 * k + 8 * W k 6 + (2 * j + i) = 512 * k + (8 * W k 6 + (2 * j + i)) by omega, pf_up (show 8 * W k 6 + (2 * j + i) < 512 by omega), step _ (by rw [if_neg (by omega)])]
          refine rnN 2 rfl ?_
          simp (disch := omega) only [nI_add, pk_mul, pk_sub, nd8, nd4, nsub8, nand63, nand7, nshr2, nI_clamp, E_at, hup_at, hup_hup, hpt_def, pf_at, pf_at2, cf_at, h12_14, h14_12, h12_15, h15_12, h14_15, h15_14]
          exact K
      · rw [show 2 * j + (8 - 2 * j) = 8 by omega]
        refine rnN 3 rfl ?_
        refine rnN 8 rfl ?_
        simp (disch := omega) only [nI_add, pk_mul, pk_sub, nd8, nd4, nsub8, nand63, nand7, nshr2, nI_clamp, E_at, hup_at, hup_hup, hpt_def, pf_at, pf_at2, cf_at, h12_14, h14_12, h12_15, h15_12, h14_15, h15_14]
        refine rnC (inN (show 512 * k + 5 < 2048 by omega) (by decide)) rfl ?_
        simp (disch := omega) only [nI_clamp, mhpt]
        rw [pf_up (show 5 < 512 by omega)]
        refine rnN 1 rfl ?_
        by_cases e1 : W k 5 = 1
        · have eR : pf M k (up (up (fun p => if p / 8 = W k 6 ∧ 2 * j ≤ p % 8 ∧ p % 8 < 8 then (if p % 8 < 6 then W k (p + 2) else 0) else W k p) 5 0) 6 0) = pf M k (dlR (W k) j) := pf_congr fun p _ => by
            unfold dlR
            simp only [up]
            by_cases p5 : p = 5
            · rw [if_pos p5, if_pos p5, if_neg (by omega)]
              omega
            · rw [if_neg p5, if_neg p5]
              by_cases p6 : p = 6
              · rw [if_pos p6, if_pos p6, if_pos e1]
              · rw [if_neg p6, if_neg p6]
                by_cases p7 : p / 8 = W k 6
                · rw [if_pos p7]
                  by_cases p8 : p % 8 < 2 * j
                  · rw [if_pos p8, if_neg (by omega)]
                  · rw [if_neg p8, if_pos (show p / 8 = W k 6 ∧ 2 * j ≤ p % 8 ∧ p % 8 < 8 by omega)]
                · rw [if_neg p7, if_neg (fun z => p7 z.1)]
          rw [show W k 5 - 1 = 0 by omega]
          refine rnN 9 rfl ?_
          simp (disch := omega) only [nI_add, pk_mul, pk_sub, nd8, nd4, nsub8, nand63, nand7, nshr2, nI_clamp, E_at, hup_at, hup_hup, hpt_def, pf_at, pf_at2, cf_at, h12_14, h14_12, h12_15, h15_12, h14_15, h15_14]
          refine rnC (inN (show 512 * k + 6 < 2048 by omega) (by decide)) rfl ?_
          simp (disch := omega) only [nI_clamp, mhpt]
          rw [pf_up (show 6 < 512 by omega), eR]
          refine rnN 2 rfl ?_
          refine rnK rfl (hst) ?_
          refine rnN 1 rfl ?_
          exact rnR rfl
        · have eR : pf M k (up (fun p => if p / 8 = W k 6 ∧ 2 * j ≤ p % 8 ∧ p % 8 < 8 then (if p % 8 < 6 then W k (p + 2) else 0) else W k p) 5 (W k 5 - 1)) = pf M k (dlR (W k) j) := pf_congr fun p _ => by
            unfold dlR
            simp only [up]
            by_cases p5 : p = 5
            · rw [if_pos p5, if_pos p5]
            · rw [if_neg p5, if_neg p5]
              by_cases p6 : p = 6
              · rw [if_pos p6, if_neg (by omega), if_neg e1, p6]
              · rw [if_neg p6]
                by_cases p7 : p / 8 = W k 6
                · rw [if_pos p7]
                  by_cases p8 : p % 8 < 2 * j
                  · rw [if_pos p8, if_neg (by omega)]
                  · rw [if_neg p8, if_pos (show p / 8 = W k 6 ∧ 2 * j ≤ p % 8 ∧ p % 8 < 8 by omega)]
                · rw [if_neg p7, if_neg (fun z => p7 z.1)]
          refine rnF (nI_ne0 (show 0 < W k 5 - 1 by omega) (by omega)) rfl ?_
          rw [eR]
          refine rnN 2 rfl ?_
          refine rnK rfl (hst) ?_
          refine rnN 1 rfl ?_
          exact rnR rfl
end OPN
