/-! ===== calls that change nothing; grow ===== -/
section OPS
variable {d k : Nat} {h : xH} {M : Nat → Nat} {W U : Nat → Nat → Nat} {f s : Nat → Int32}
theorem SI.file (S : SI k W U h) {j : Nat} (hj : j ≤ k) : h (10, j) = E (W j) := (S.2.1 j hj).1
theorem SI.inv (S : SI k W U h) {j : Nat} (hj : j ≤ k) : Inv (W j) (U j) := (S.2.1 j hj).2.1
theorem SI.hh (S : SI k W U h) : ∀ j, j ≤ k → h (10, j) = E (W j) ∧ Str (W j) (U j) := fun j hj => ⟨S.file hj, (S.inv hj).1⟩
theorem SI.fl (S : SI k W U h) {j : Nat} (hj : j ≤ k) : flg (W j) (U j) = W j := (S.2.1 j hj).2.2.1
theorem SI.hW (S : SI k W U h) (hM : ∀ j p, j ≤ k → p < 512 → M (512 * j + p) = W j p) : ∀ j, j < k → j ≠ k ∧ Str (W j) (U j) ∧ ∀ p, p < 512 → M (512 * j + p) = W j p := fun j hj => ⟨by omega, (S.inv (by omega)).1, fun p hp => hM j p (by omega) hp⟩
/-- an address is one or none -/
theorem addr_cases {w : Nat → Nat} (h2 : w 2 ≤ 64) (v : Int32) : (v < 0 ∨ nI (8 * w 2) ≤ v) ∨ ∃ a, a < 8 * w 2 ∧ v = nI a := by
  rcases pk_ix v (n := 8 * w 2) (by omega) with h | h | h
  · exact Or.inl (Or.inl h)
  · exact Or.inl (Or.inr h)
  · exact Or.inr h
theorem jm_top (k : Nat) : nI k - nI 1 = jm k := by
  cases k with
  | zero => rfl
  | succ n => exact pk_sub (by omega)
theorem op_read (S : SI k W U h) (v : Int32) : OpOK MX3_read MX4_read [vI v] h := by
  obtain ⟨M, hM, hMw, hMp⟩ := S.mem
  have hk := S.1
  have hi := S.inv (Nat.le_refl k)
  have hw := S.file (Nat.le_refl k)
  have hs := hi.1
  have h2 := hs.sz.2
  have hw12 : h (12, 0) = E (pf M k (W k)) := by rw [hM, hMp k (Nat.le_refl k)]
  have hn3 := S.2.2.2.2.1
  have hn4 := S.2.2.2.2.2.1
  rcases addr_cases h2 v with hv | ⟨a, ha, rfl⟩
  · refine ⟨(nI 0), h, h, k, W, U, Cl_deep (n := 4) (by decide) ?_, Cl_deep (n := 4) (by decide) ?_, S⟩
    · refine rnN 1 rfl ?_
      refine rnK rfl (c_top hn3 hk) ?_
      refine rnN 3 rfl ?_
      refine rnK rfl (c_hasAddrF hw hv) ?_
      refine rnN 2 rfl ?_
      exact rnR rfl
    · refine rnN 5 rfl ?_
      rw [m_top hn4]
      refine rnN 2 rfl ?_
      refine rnK rfl (m_isAddrF hw12 hn4 hk hv) ?_
      refine rnN 2 rfl ?_
      exact rnR rfl
  · refine ⟨(nI (sh W k (bwd (W k) (W k 3) (a / 8)) a)), h, h, k, W, U, Cl_deep (n := 4) (by decide) ?_, Cl_deep (n := 4) (by decide) ?_, S⟩
    · refine rnN 1 rfl ?_
      refine rnK rfl (c_top hn3 hk) ?_
      refine rnN 3 rfl ?_
      refine rnK rfl (c_hasAddrT hw h2 ha) ?_
      refine rnN 3 rfl ?_
      refine rnK rfl (c_activeTable hw) ?_
      refine rnN 1 rfl ?_
      refine rnK rfl (c_shown S.hh act_tb (show a < 512 by omega)) ?_
      refine rnN 1 rfl ?_
      exact rnR rfl
    · refine rnN 5 rfl ?_
      rw [m_top hn4]
      refine rnN 2 rfl ?_
      refine rnK rfl (m_isAddrT hw12 hn4 hk h2 ha) ?_
      refine rnN 6 rfl ?_
      refine rnK rfl (m_table (n := 0) hw12 (show k < 4 by omega) hs.l6 (by decide)) ?_
      rw [show tbn (W k) 0 = W k 3 from rfl]
      refine rnN 9 rfl ?_
      simp (disch := omega) only [nI_add, pk_mul, pk_sub, nd8, nd4, nsub8, nand63, nand7, nshr2, nI_clamp, E_at, hup_at, hup_hup, hpt_def, pf_at, pf_at2, cf_at, h12_14, h14_12, h12_15, h15_12, h14_15, h15_14]
      rw [jm_top]
      refine rnK rfl (m_shows hw12 (show k < 4 by omega) hs act_tb (show a / 8 < 64 by omega) (show a % 8 < 8 by omega) (show k ≤ 3 by omega) (S.hW hMw)) ?_
      rw [← sh_B]
      refine rnN 1 rfl ?_
      exact rnR rfl
theorem m_namedT {n j : Nat} {w : Nat → Nat} (hw : h (12, 0) = E (pf M k w)) (hn : h (4, 0) 2 = nI (k + 1)) (hk : k < 3) (h6 : w 6 < 64) (h5 : w 5 ≤ 4) (hj : j < w 5) (hb : ∀ p, w p < 4294967296) (hnn : n < 4294967296) (he : w (8 * w 6 + (2 * j + 1)) = n) (hl : ∀ i, i < j → w (8 * w 6 + (2 * i + 1)) ≠ n) : Cl (d + 1) MX4_named [vR (4, 0), vI (nI n)] h (some (vI (nI j))) h := by
  refine rnN 5 rfl ?_
  rw [m_top hn]
  refine rnN 8 rfl ?_
  simp (disch := omega) only [nI_add, pk_mul, pk_sub, nd8, nd4, nsub8, nand63, nand7, nshr2, nI_clamp, E_at, hup_at, hup_hup, hpt_def, pf_at, pf_at2, cf_at, h12_14, h14_12, h12_15, h15_12, h14_15, h15_14]
  refine rnC (inN (show 512 * k + 6 < 2048 by omega) (by decide)) rfl ?_
  simp (disch := omega) only [nI_add, pk_mul, pk_sub, nd8, nd4, nsub8, nand63, nand7, nshr2, nI_clamp, E_at, hup_at, hup_hup, hpt_def, pf_at, pf_at2, cf_at, h12_14, h14_12, h12_15, h15_12, h14_15, h15_14, hw]
  refine rnK rfl (m_at) ?_
  refine rnN 3 rfl ?_
  refine lpN j (fun i => Rn (d + 1) MX4_named 28 [some (vR (4, 0)), some (vI (nI n)), some (vI (nI k)), some (vI (nI (512 * k + 8 * w 6))), some (vI (nI i))] [] h (some (vI (nI j))) h) (fun i hi K => ?_) ?_
  · refine rnN 3 rfl ?_
    refine rnK rfl (m_snapshots hw (show k < 4 by omega)) ?_
    refine rnT (nI_lt (show i < w 5 by omega) (by omega)) rfl ?_
    refine rnN 9 rfl ?_
    simp (disch := omega) only [nI_add, pk_mul, pk_sub, nd8, nd4, nsub8, nand63, nand7, nshr2, nI_clamp, E_at, hup_at, hup_hup, hpt_def, pf_at, pf_at2, cf_at, h12_14, h14_12, h12_15, h15_12, h14_15, h15_14]
    rw [show 512 * k + 8 * w 6 + 2 * i + 1 = 512 * k + (8 * w 6 + (2 * i + 1)) by omega]
    refine rnC (inN (show 512 * k + (8 * w 6 + (2 * i + 1)) < 2048 by omega) (by decide)) rfl ?_
    simp (disch := omega) only [nI_add, pk_mul, pk_sub, nd8, nd4, nsub8, nand63, nand7, nshr2, nI_clamp, E_at, hup_at, hup_hup, hpt_def, pf_at, pf_at2, cf_at, h12_14, h14_12, h12_15, h15_12, h14_15, h15_14, hw]
    refine rnN 1 rfl ?_
    refine rnF ((fun e => hl i hi (by have h1 := congrArg tn e; rwa [tn_nI (hb _), tn_nI hnn] at h1))) rfl ?_
    refine rnN 2 rfl ?_
    simp (disch := omega) only [nI_add, pk_mul, pk_sub, nd8, nd4, nsub8, nand63, nand7, nshr2, nI_clamp, E_at, hup_at, hup_hup, hpt_def, pf_at, pf_at2, cf_at, h12_14, h14_12, h12_15, h15_12, h14_15, h15_14]
    exact K
  · refine rnN 3 rfl ?_
    refine rnK rfl (m_snapshots hw (show k < 4 by omega)) ?_
    refine rnT (nI_lt hj (by omega)) rfl ?_
    refine rnN 9 rfl ?_
    simp (disch := omega) only [nI_add, pk_mul, pk_sub, nd8, nd4, nsub8, nand63, nand7, nshr2, nI_clamp, E_at, hup_at, hup_hup, hpt_def, pf_at, pf_at2, cf_at, h12_14, h14_12, h12_15, h15_12, h14_15, h15_14]
    rw [show 512 * k + 8 * w 6 + 2 * j + 1 = 512 * k + (8 * w 6 + (2 * j + 1)) by omega]
    refine rnC (inN (show 512 * k + (8 * w 6 + (2 * j + 1)) < 2048 by omega) (by decide)) rfl ?_
    simp (disch := omega) only [nI_add, pk_mul, pk_sub, nd8, nd4, nsub8, nand63, nand7, nshr2, nI_clamp, E_at, hup_at, hup_hup, hpt_def, pf_at, pf_at2, cf_at, h12_14, h14_12, h12_15, h15_12, h14_15, h15_14, hw]
    refine rnN 1 rfl ?_
    rw [he]
    refine rnT ((show nI n = nI n from rfl)) rfl ?_
    refine rnN 1 rfl ?_
    exact rnR rfl
theorem m_namedF {n : Nat} {w : Nat → Nat} (hw : h (12, 0) = E (pf M k w)) (hn : h (4, 0) 2 = nI (k + 1)) (hk : k < 3) (h6 : w 6 < 64) (h5 : w 5 ≤ 4) (hb : ∀ p, w p < 4294967296) (hnn : n < 4294967296) (hl : ∀ i, i < w 5 → w (8 * w 6 + (2 * i + 1)) ≠ n) : Cl (d + 1) MX4_named [vR (4, 0), vI (nI n)] h (some (vI (-1))) h := by
  refine rnN 5 rfl ?_
  rw [m_top hn]
  refine rnN 8 rfl ?_
  simp (disch := omega) only [nI_add, pk_mul, pk_sub, nd8, nd4, nsub8, nand63, nand7, nshr2, nI_clamp, E_at, hup_at, hup_hup, hpt_def, pf_at, pf_at2, cf_at, h12_14, h14_12, h12_15, h15_12, h14_15, h15_14]
  refine rnC (inN (show 512 * k + 6 < 2048 by omega) (by decide)) rfl ?_
  simp (disch := omega) only [nI_add, pk_mul, pk_sub, nd8, nd4, nsub8, nand63, nand7, nshr2, nI_clamp, E_at, hup_at, hup_hup, hpt_def, pf_at, pf_at2, cf_at, h12_14, h14_12, h12_15, h15_12, h14_15, h15_14, hw]
  refine rnK rfl (m_at) ?_
  refine rnN 3 rfl ?_
  refine lpN (w 5) (fun i => Rn (d + 1) MX4_named 28 [some (vR (4, 0)), some (vI (nI n)), some (vI (nI k)), some (vI (nI (512 * k + 8 * w 6))), some (vI (nI i))] [] h (some (vI (-1))) h) (fun i hi K => ?_) ?_
  · refine rnN 3 rfl ?_
    refine rnK rfl (m_snapshots hw (show k < 4 by omega)) ?_
    refine rnT (nI_lt (show i < w 5 by omega) (by omega)) rfl ?_
    refine rnN 9 rfl ?_
    simp (disch := omega) only [nI_add, pk_mul, pk_sub, nd8, nd4, nsub8, nand63, nand7, nshr2, nI_clamp, E_at, hup_at, hup_hup, hpt_def, pf_at, pf_at2, cf_at, h12_14, h14_12, h12_15, h15_12, h14_15, h15_14]
    rw [show 512 * k + 8 * w 6 + 2 * i + 1 = 512 * k + (8 * w 6 + (2 * i + 1)) by omega]
    refine rnC (inN (show 512 * k + (8 * w 6 + (2 * i + 1)) < 2048 by omega) (by decide)) rfl ?_
    simp (disch := omega) only [nI_add, pk_mul, pk_sub, nd8, nd4, nsub8, nand63, nand7, nshr2, nI_clamp, E_at, hup_at, hup_hup, hpt_def, pf_at, pf_at2, cf_at, h12_14, h14_12, h12_15, h15_12, h14_15, h15_14, hw]
    refine rnN 1 rfl ?_
    refine rnF ((fun e => hl i hi (by have h1 := congrArg tn e; rwa [tn_nI (hb _), tn_nI hnn] at h1))) rfl ?_
    refine rnN 2 rfl ?_
    simp (disch := omega) only [nI_add, pk_mul, pk_sub, nd8, nd4, nsub8, nand63, nand7, nshr2, nI_clamp, E_at, hup_at, hup_hup, hpt_def, pf_at, pf_at2, cf_at, h12_14, h14_12, h12_15, h15_12, h14_15, h15_14]
    exact K
  · refine rnN 3 rfl ?_
    refine rnK rfl (m_snapshots hw (show k < 4 by omega)) ?_
    refine rnF (nI_nlt (Nat.le_refl _) (by omega)) rfl ?_
    refine rnN 1 rfl ?_
    exact rnR rfl
/-- a name's place, or that there is none -/
theorem name_cases (w : Nat → Nat) (n : Nat) : (∀ i, i < w 5 → w (8 * w 6 + (2 * i + 1)) ≠ n) ∨ ∃ j, j < w 5 ∧ w (8 * w 6 + (2 * j + 1)) = n ∧ ∀ i, i < j → w (8 * w 6 + (2 * i + 1)) ≠ n := by
  have key : ∀ m, (∀ i, i < m → w (8 * w 6 + (2 * i + 1)) ≠ n) ∨ ∃ j, j < m ∧ w (8 * w 6 + (2 * j + 1)) = n ∧ ∀ i, i < j → w (8 * w 6 + (2 * i + 1)) ≠ n := by
    intro m
    induction m with
    | zero => exact Or.inl fun i hi => by omega
    | succ m ih =>
      rcases ih with h1 | ⟨j, h1, h2, h3⟩
      · by_cases e : w (8 * w 6 + (2 * m + 1)) = n
        · exact Or.inr ⟨m, by omega, e, h1⟩
        · refine Or.inl fun i hi => ?_
          by_cases e2 : i = m
          · rw [e2]; exact e
          · exact h1 i (by omega)
      · exact Or.inr ⟨j, by omega, h2, h3⟩
  exact key _
theorem op_readOld (S : SI k W U h) (v0 v : Int32) : OpOJ MX3_readOld MX4_readOld [vI v0, vI v] h := by
  obtain ⟨M, hM, hMw, hMp⟩ := S.mem
  have hk := S.1
  have hi := S.inv (Nat.le_refl k)
  have hw := S.file (Nat.le_refl k)
  have hs := hi.1
  have h2 := hs.sz.2
  have h6 := hs.l6
  have hns := hs.ns
  have hw12 : h (12, 0) = E (pf M k (W k)) := by rw [hM, hMp k (Nat.le_refl k)]
  have hn3 := S.2.2.2.2.1
  have hn4 := S.2.2.2.2.2.1
  have hb := hi.2.2.2.2
  obtain ⟨n, hnn, rfl⟩ : ∃ n, n < 4294967296 ∧ v0 = nI n := ⟨tn v0, tn_lt _, (nI_tn v0).symm⟩
  rcases name_cases (W k) n with hl | ⟨j, hj, he, hl⟩
  · refine ⟨4294967296, h, h, k, W, U, Cl_deep (n := 4) (by decide) ?_, Cl_deep (n := 4) (by decide) ?_, S⟩
    · refine rnN 1 rfl ?_
      refine rnK rfl (c_top hn3 hk) ?_
      refine rnN 3 rfl ?_
      refine rnK rfl (c_namedF hw h6 hns.1 hb hnn hl) ?_
      refine rnN 4 rfl ?_
      exact rnR rfl
    · refine rnN 5 rfl ?_
      rw [m_top hn4]
      refine rnN 2 rfl ?_
      refine rnK rfl (m_namedF hw12 hn4 hk h6 hns.1 hb hnn hl) ?_
      refine rnN 5 rfl ?_
      exact rnR rfl
  · rcases addr_cases h2 v with hv | ⟨a, ha, rfl⟩
    · refine ⟨4294967296, h, h, k, W, U, Cl_deep (n := 4) (by decide) ?_, Cl_deep (n := 4) (by decide) ?_, S⟩
      · refine rnN 1 rfl ?_
        refine rnK rfl (c_top hn3 hk) ?_
        refine rnN 3 rfl ?_
        refine rnK rfl (c_namedT hw h6 hns.1 hj hb hnn he hl) ?_
        refine rnN 2 rfl ?_
        refine rnF (nI_pos (show j < 2147483648 by omega)) rfl ?_
        refine rnN 2 rfl ?_
        refine rnK rfl (c_hasAddrF hw hv) ?_
        refine rnN 2 rfl ?_
        exact rnR rfl
      · refine rnN 5 rfl ?_
        rw [m_top hn4]
        refine rnN 2 rfl ?_
        refine rnK rfl (m_namedT hw12 hn4 hk h6 hns.1 hj hb hnn he hl) ?_
        refine rnN 2 rfl ?_
        refine rnF (nI_pos (show j < 2147483648 by omega)) rfl ?_
        refine rnN 2 rfl ?_
        refine rnK rfl (m_isAddrF hw12 hn4 hk hv) ?_
        refine rnN 3 rfl ?_
        exact rnR rfl
    · refine ⟨(nI (sh W k (bwd (W k) (tab (W k) j) (a / 8)) a)).toInt64, h, h, k, W, U, Cl_deep (n := 4) (by decide) ?_, Cl_deep (n := 4) (by decide) ?_, S⟩
      · refine rnN 1 rfl ?_
        refine rnK rfl (c_top hn3 hk) ?_
        refine rnN 3 rfl ?_
        refine rnK rfl (c_namedT hw h6 hns.1 hj hb hnn he hl) ?_
        refine rnN 2 rfl ?_
        refine rnF (nI_pos (show j < 2147483648 by omega)) rfl ?_
        refine rnN 2 rfl ?_
        refine rnK rfl (c_hasAddrT hw h2 ha) ?_
        refine rnN 4 rfl ?_
        refine rnK rfl (c_snapshotTable hw h6 (show j < 4 by omega)) ?_
        refine rnN 1 rfl ?_
        refine rnK rfl (c_shown S.hh (tab_tb hj) (show a < 512 by omega)) ?_
        refine rnN 1 rfl ?_
        exact rnR rfl
      · refine rnN 5 rfl ?_
        rw [m_top hn4]
        refine rnN 2 rfl ?_
        refine rnK rfl (m_namedT hw12 hn4 hk h6 hns.1 hj hb hnn he hl) ?_
        refine rnN 2 rfl ?_
        refine rnF (nI_pos (show j < 2147483648 by omega)) rfl ?_
        refine rnN 2 rfl ?_
        refine rnK rfl (m_isAddrT hw12 hn4 hk h2 ha) ?_
        refine rnN 6 rfl ?_
        refine rnK rfl (m_table (n := j + 1) hw12 (show k < 4 by omega) hs.l6 (by omega)) ?_
        rw [show tbn (W k) (j + 1) = tab (W k) j from rfl]
        refine rnN 9 rfl ?_
        simp (disch := omega) only [nI_add, pk_mul, pk_sub, nd8, nd4, nsub8, nand63, nand7, nshr2, nI_clamp, E_at, hup_at, hup_hup, hpt_def, pf_at, pf_at2, cf_at, h12_14, h14_12, h12_15, h15_12, h14_15, h15_14]
        rw [jm_top]
        refine rnK rfl (m_shows hw12 (show k < 4 by omega) hs (tab_tb hj) (show a / 8 < 64 by omega) (show a % 8 < 8 by omega) (show k ≤ 3 by omega) (S.hW hMw)) ?_
        rw [← sh_B]
        refine rnN 1 rfl ?_
        exact rnR rfl
theorem op_size (S : SI k W U h) : OpOK MX3_size MX4_size [] h := by
  obtain ⟨M, hM, hMw, hMp⟩ := S.mem
  have hk := S.1
  have hw := S.file (Nat.le_refl k)
  have hw12 : h (12, 0) = E (pf M k (W k)) := by rw [hM, hMp k (Nat.le_refl k)]
  have hn3 := S.2.2.2.2.1
  have hn4 := S.2.2.2.2.2.1
  refine ⟨(nI (W k 2)), h, h, k, W, U, Cl_deep (n := 4) (by decide) ?_, Cl_deep (n := 4) (by decide) ?_, S⟩
  · refine rnN 1 rfl ?_
    refine rnK rfl (c_top hn3 hk) ?_
    refine rnK rfl (c_blocks hw) ?_
    exact rnR rfl
  · refine rnN 5 rfl ?_
    rw [m_top hn4]
    refine rnK rfl (m_sizeOf hw12 (show k < 4 by omega)) ?_
    exact rnR rfl
theorem op_images (S : SI k W U h) : OpOK MX3_images MX4_images [] h := by
  have hn3 := S.2.2.2.2.1
  have hn4 := S.2.2.2.2.2.1
  refine ⟨(nI (k + 1)), h, h, k, W, U, Cl_deep (n := 4) (by decide) ?_, Cl_deep (n := 4) (by decide) ?_, S⟩
  · refine rnN 2 rfl ?_
    rw [hn3]
    exact rnR rfl
  · refine rnN 2 rfl ?_
    rw [hn4]
    exact rnR rfl
theorem op_used (S : SI k W U h) : OpOK MX3_used MX4_used [] h := by
  obtain ⟨M, hM, hMw, hMp⟩ := S.mem
  have hk := S.1
  have hw := S.file (Nat.le_refl k)
  have hi := S.inv (Nat.le_refl k)
  have hs := hi.1
  have hw12 : h (12, 0) = E (pf M k (W k)) := by rw [hM, hMp k (Nat.le_refl k)]
  have hn3 := S.2.2.2.2.1
  have hn4 := S.2.2.2.2.2.1
  have hrc := m_recount (d := 2) (M := M) hw12 (show k < 4 by omega) hs
  rw [mh_eq hM] at hrc
  refine ⟨(nI (inUse (W k))), h, mh h (cf (h (14, 0)) (T (W k))) M, k, W, U, Cl_deep (n := 5) (by decide) ?_, Cl_deep (n := 5) (by decide) ?_, SI_cnt S hM⟩
  · refine rnN 1 rfl ?_
    refine rnK rfl (c_top hn3 hk) ?_
    refine rnN 1 rfl ?_
    refine rnK rfl (c_clustersInUse hw hi.cg) ?_
    exact rnR rfl
  · refine rnN 5 rfl ?_
    rw [m_top hn4]
    refine rnK rfl (hrc) ?_
    refine rnN 4 rfl ?_
    rw [inUse_T hi]
    refine lpN 64 (fun i => Rn 5 MX4_used 14 [some (vR (4, 0)), some (vI (nI (sm i fun c => if 0 < T (W k) c then 1 else 0))), some (vI (nI i))] [] (mh h (cf (h (14, 0)) (T (W k))) M) (some (vI (nI (sm 64 fun c => if 0 < T (W k) c then 1 else 0)))) (mh h (cf (h (14, 0)) (T (W k))) M)) (fun i hi2 K => ?_) ?_
    · have hT := T_le (w := W k) hs.ns.1 i
      rw [sm_succ (n := i)] at K
      refine rnN 2 rfl ?_
      refine rnT (nI_lt hi2 (by decide)) rfl ?_
      refine rnN 3 rfl ?_
      refine rnC (inN hi2 (by decide)) rfl ?_
      simp (disch := omega) only [nI_add, pk_mul, pk_sub, nd8, nd4, nsub8, nand63, nand7, nshr2, nI_clamp, E_at, hup_at, hup_hup, hpt_def, pf_at, pf_at2, cf_at, h12_14, h14_12, h12_15, h15_12, h14_15, h15_14, mh_14]
      by_cases h0 : 0 < T (W k) i
      · refine rnT ((n0lt (by omega)).mpr h0) rfl ?_
        refine rnN 4 rfl ?_
        refine rnN 3 rfl ?_
        simp (disch := omega) only [nI_add, pk_mul, pk_sub, nd8, nd4, nsub8, nand63, nand7, nshr2, nI_clamp, E_at, hup_at, hup_hup, hpt_def, pf_at, pf_at2, cf_at, h12_14, h14_12, h12_15, h15_12, h14_15, h15_14]
        rw [if_pos h0] at K
        exact K
      · rw [show T (W k) i = 0 by omega]
        refine rnN 2 rfl ?_
        refine rnN 3 rfl ?_
        simp (disch := omega) only [nI_add, pk_mul, pk_sub, nd8, nd4, nsub8, nand63, nand7, nshr2, nI_clamp, E_at, hup_at, hup_hup, hpt_def, pf_at, pf_at2, cf_at, h12_14, h14_12, h12_15, h15_12, h14_15, h15_14]
        rw [if_neg h0] at K
        exact K
    · refine rnN 3 rfl ?_
      refine rnN 1 rfl ?_
      exact rnR rfl
end OPS
