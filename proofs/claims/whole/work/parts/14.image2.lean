/-! ===== Image: what is shown through the chain; the snapshots' list ===== -/
section IM2
variable {d k : Nat} {h : xH} {w u : Nat → Nat} {W U : Nat → Nat → Nat}
theorem shown_go {k0 t a : Nat} : ∀ (k : Nat), (∀ j, j ≤ k → h (10, j) = E (W j) ∧ Str (W j) (U j)) → ∀ (y : Nat), (∃ i j, BOK (W k 2) (U k) i j y) → a < 512 → Rn (d + 3) MX1_shown 13 [some (vR (1, k0)), some (vI (nI t)), some (vI (nI a)), some (vI (nI y)), some (vR (1, k))] [] h (some (vI (nI (sh W k y a)))) h := by
  intro k
  induction k with
  | zero =>
    intro hh y hy ha
    obtain ⟨i, j, hy⟩ := hy
    have hW := (hh 0 (Nat.le_refl _)).1
    have hlt := hy.lt
    refine rnN 1 rfl ?_
    by_cases h0 : y = 0
    · subst h0
      refine rnN 4 rfl ?_
      refine rnN 1 rfl ?_
      refine rnK rfl (c_isLead (show 0 < 2147483648 by decide)) ?_
      refine rnN 2 rfl ?_
      exact rnR rfl
    · refine rnF (fun e => h0 ((neq0 (by omega)).mp e)) rfl ?_
      refine rnN 1 rfl ?_
      refine rnK rfl (c_isLead (show y < 2147483648 by omega)) ?_
      by_cases h2 : 2 < y
      · have h4 := hy.isLead.mp h2
        have hl := (hy.lead h4).1.pos
        rw [if_pos h2]
        refine rnN 4 rfl ?_
        refine rnK rfl (c_clusterOf (show y < 2147483648 by omega)) ?_
        refine rnN 3 rfl ?_
        simp (disch := omega) only [nI_add, pk_mul, pk_sub, nd8, nd4, nsub8, nand63, nand7, nshr2, nI_clamp, E_at, hup_at, hup_hup]
        refine rnK rfl (c_at hW hl.2 (show a % 8 < 8 by omega)) ?_
        refine rnN 1 rfl ?_
        simp only [sh, if_neg h4]
        exact rnR rfl
      · rw [if_neg h2]
        have h4 : y / 4 = 0 := by omega
        refine rnN 2 rfl ?_
        simp only [sh, if_pos h4]
        exact rnR rfl
  | succ k ih =>
    intro hh y hy ha
    obtain ⟨i, j, hy⟩ := hy
    have hW := (hh (k + 1) (Nat.le_refl _)).1
    have hW1 := hh k (Nat.le_succ k)
    have hlt := hy.lt
    refine rnN 1 rfl ?_
    by_cases h0 : y = 0
    · subst h0
      refine rnN 4 rfl ?_
      refine rnN 7 rfl ?_
      simp (disch := omega) only [nI_add, pk_mul, pk_sub, nd8, nd4, nsub8, nand63, nand7, nshr2, nI_clamp, E_at, hup_at, hup_hup]
      refine rnK rfl (c_activeWord hW1.1 hW1.2 (show a / 8 < 64 by omega)) ?_
      refine rnN 2 rfl ?_
      have h5 := ih (fun j hj => hh j (by omega)) (awd (W k) (a / 8)) ⟨_, _, hW1.2.bok act_tb (show a / 8 < 64 by omega)⟩ ha
      have e : sh W (k + 1) 0 a = sh W k (awd (W k) (a / 8)) a := by simp [sh]
      rw [e]
      exact h5
    · refine rnF (fun e => h0 ((neq0 (by omega)).mp e)) rfl ?_
      refine rnN 1 rfl ?_
      refine rnK rfl (c_isLead (show y < 2147483648 by omega)) ?_
      by_cases h2 : 2 < y
      · have h4 := hy.isLead.mp h2
        have hl := (hy.lead h4).1.pos
        rw [if_pos h2]
        refine rnN 4 rfl ?_
        refine rnK rfl (c_clusterOf (show y < 2147483648 by omega)) ?_
        refine rnN 3 rfl ?_
        simp (disch := omega) only [nI_add, pk_mul, pk_sub, nd8, nd4, nsub8, nand63, nand7, nshr2, nI_clamp, E_at, hup_at, hup_hup]
        refine rnK rfl (c_at hW hl.2 (show a % 8 < 8 by omega)) ?_
        refine rnN 1 rfl ?_
        simp only [sh, if_neg h4]
        exact rnR rfl
      · rw [if_neg h2]
        have h4 : y / 4 = 0 := by omega
        refine rnN 2 rfl ?_
        simp only [sh, if_pos h4, if_neg h0]
        exact rnR rfl
theorem c_shown {t a : Nat} (hh : ∀ j, j ≤ k → h (10, j) = E (W j) ∧ Str (W j) (U j)) (ht : TB (W k) t) (ha : a < 512) : Cl (d + 3) MX1_shown [vR (1, k), vI (nI t), vI (nI a)] h (some (vI (nI (sh W k (bwd (W k) t (a / 8)) a)))) h := by
  have hW := hh k (Nat.le_refl _)
  refine rnN 5 rfl ?_
  simp (disch := omega) only [nI_add, pk_mul, pk_sub, nd8, nd4, nsub8, nand63, nand7, nshr2, nI_clamp, E_at, hup_at, hup_hup]
  refine rnK rfl (c_blockWord hW.1 hW.2 ht (show a / 8 < 64 by omega)) ?_
  refine rnN 3 rfl ?_
  exact shown_go k hh _ ⟨_, _, hW.2.bok ht (show a / 8 < 64 by omega)⟩ ha
theorem c_snapshotCount (hw : h (10, k) = E w) : Cl (d + 1) MX1_snapshotCount [vR (1, k)] h (some (vI (nI (w 5)))) h := by
  refine rnN 4 rfl ?_
  refine rnK rfl (c_hd hw (show 5 < 8 by decide)) ?_
  exact rnR rfl
theorem c_snapshotList (hw : h (10, k) = E w) : Cl (d + 1) MX1_snapshotList [vR (1, k)] h (some (vI (nI (w 6)))) h := by
  refine rnN 4 rfl ?_
  refine rnK rfl (c_hd hw (show 6 < 8 by decide)) ?_
  exact rnR rfl
theorem c_snapshotTable {j : Nat} (hw : h (10, k) = E w) (h6 : w 6 < 64) (hj : j < 4) : Cl (d + 2) MX1_snapshotTable [vR (1, k), vI (nI j)] h (some (vI (nI (tab w j)))) h := by
  refine rnN 3 rfl ?_
  refine rnK rfl (c_snapshotList hw) ?_
  refine rnN 3 rfl ?_
  simp (disch := omega) only [nI_add, pk_mul, pk_sub, nd8, nd4, nsub8, nand63, nand7, nshr2, nI_clamp, E_at, hup_at, hup_hup]
  refine rnK rfl (c_at hw h6 (show 2 * j < 8 by omega)) ?_
  exact rnR rfl
/-- the name's place in the list; as many as there are when it is not there -/
theorem c_namedT {n j : Nat} (hw : h (10, k) = E w) (h6 : w 6 < 64) (h5 : w 5 ≤ 4) (hj : j < w 5) (hb : ∀ p, w p < 4294967296) (hn : n < 4294967296) (he : w (8 * w 6 + (2 * j + 1)) = n) (hl : ∀ i, i < j → w (8 * w 6 + (2 * i + 1)) ≠ n) : Cl (d + 2) MX1_snapshotNamed [vR (1, k), vI (nI n)] h (some (vI (nI j))) h := by
  refine rnN 1 rfl ?_
  refine rnK rfl (c_snapshotCount hw) ?_
  refine rnN 3 rfl ?_
  refine lpN j (fun i => Rn (d + 2) MX1_snapshotNamed 7 [some (vR (1, k)), some (vI (nI n)), some (vI (nI (w 5))), some (vI (nI i))] [] h (some (vI (nI j))) h) (fun i hi K => ?_) ?_
  · refine rnN 2 rfl ?_
    refine rnT (nI_lt (show i < w 5 by omega) (by omega)) rfl ?_
    refine rnN 3 rfl ?_
    refine rnK rfl (c_snapshotList hw) ?_
    refine rnN 5 rfl ?_
    simp (disch := omega) only [nI_add, pk_mul, pk_sub, nd8, nd4, nsub8, nand63, nand7, nshr2, nI_clamp, E_at, hup_at, hup_hup]
    refine rnK rfl (c_at hw h6 (show 2 * i + 1 < 8 by omega)) ?_
    refine rnN 1 rfl ?_
    refine rnF (fun e => hl i hi (by have h1 := congrArg tn e; rwa [tn_nI (hb _), tn_nI hn] at h1)) rfl ?_
    refine rnN 2 rfl ?_
    simp (disch := omega) only [nI_add, pk_mul, pk_sub, nd8, nd4, nsub8, nand63, nand7, nshr2, nI_clamp, E_at, hup_at, hup_hup]
    exact K
  · refine rnN 2 rfl ?_
    refine rnT (nI_lt hj (by omega)) rfl ?_
    refine rnN 3 rfl ?_
    refine rnK rfl (c_snapshotList hw) ?_
    refine rnN 5 rfl ?_
    simp (disch := omega) only [nI_add, pk_mul, pk_sub, nd8, nd4, nsub8, nand63, nand7, nshr2, nI_clamp, E_at, hup_at, hup_hup]
    refine rnK rfl (c_at hw h6 (show 2 * j + 1 < 8 by omega)) ?_
    refine rnN 1 rfl ?_
    rw [he]
    refine rnT (rfl) rfl ?_
    refine rnN 1 rfl ?_
    exact rnR rfl
theorem c_namedF {n : Nat} (hw : h (10, k) = E w) (h6 : w 6 < 64) (h5 : w 5 ≤ 4) (hb : ∀ p, w p < 4294967296) (hn : n < 4294967296) (hl : ∀ i, i < w 5 → w (8 * w 6 + (2 * i + 1)) ≠ n) : Cl (d + 2) MX1_snapshotNamed [vR (1, k), vI (nI n)] h (some (vI (-1))) h := by
  refine rnN 1 rfl ?_
  refine rnK rfl (c_snapshotCount hw) ?_
  refine rnN 3 rfl ?_
  refine lpN (w 5) (fun i => Rn (d + 2) MX1_snapshotNamed 7 [some (vR (1, k)), some (vI (nI n)), some (vI (nI (w 5))), some (vI (nI i))] [] h (some (vI (-1))) h) (fun i hi K => ?_) ?_
  · refine rnN 2 rfl ?_
    refine rnT (nI_lt (show i < w 5 by omega) (by omega)) rfl ?_
    refine rnN 3 rfl ?_
    refine rnK rfl (c_snapshotList hw) ?_
    refine rnN 5 rfl ?_
    simp (disch := omega) only [nI_add, pk_mul, pk_sub, nd8, nd4, nsub8, nand63, nand7, nshr2, nI_clamp, E_at, hup_at, hup_hup]
    refine rnK rfl (c_at hw h6 (show 2 * i + 1 < 8 by omega)) ?_
    refine rnN 1 rfl ?_
    refine rnF (fun e => hl i hi (by have h1 := congrArg tn e; rwa [tn_nI (hb _), tn_nI hn] at h1)) rfl ?_
    refine rnN 2 rfl ?_
    simp (disch := omega) only [nI_add, pk_mul, pk_sub, nd8, nd4, nsub8, nand63, nand7, nshr2, nI_clamp, E_at, hup_at, hup_hup]
    exact K
  · refine rnN 2 rfl ?_
    refine rnF (nI_nlt (Nat.le_refl _) (by omega)) rfl ?_
    refine rnN 1 rfl ?_
    exact rnR rfl
end IM2
