/-! ===== the class and the reference side by side ===== -/
/-- images 0 .. k: the class's words are W, the reference's too; U tells what the clusters are led to for -/
def SI (k : Nat) (W U : Nat → Nat → Nat) (h : xH) : Prop :=
  k < 3 ∧ (∀ j, j ≤ k → h (10, j) = E (W j) ∧ Inv (W j) (U j) ∧ flg (W j) (U j) = W j ∧ (W j 5 = 0 → W j 6 = 0)) ∧ (∀ j, j < k → W j 2 ≤ W (j + 1) 2) ∧ (∀ j p, W j p < 4294967296) ∧ h (3, 0) 1 = nI (k + 1) ∧ h (4, 0) 2 = nI (k + 1)
    ∧ (∃ M, h (12, 0) = E M ∧ ∀ j p, j ≤ k → p < 512 → M (512 * j + p) = W j p) ∧ ∀ p, p < 512 → h (10, 3) p = h (13, 0) p
/-- a call on both: they answer alike, and stay side by side -/
def OpOK (m3 m4 : Nat) (as : List xV) (h : xH) : Prop := ∃ (r : Int32) (h1 h2 : xH) (k : Nat) (W U : Nat → Nat → Nat), Cl 8 m3 (vR (3, 0) :: as) h (some (vI r)) h1 ∧ Cl 8 m4 (vR (4, 0) :: as) h1 (some (vI r)) h2 ∧ SI k W U h2
/-- the same, of a call that answers a long -/
def OpOJ (m3 m4 : Nat) (as : List xV) (h : xH) : Prop := ∃ (r : Int64) (h1 h2 : xH) (k : Nat) (W U : Nat → Nat → Nat), Cl 8 m3 (vR (3, 0) :: as) h (some (vJ r)) h1 ∧ Cl 8 m4 (vR (4, 0) :: as) h1 (some (vJ r)) h2 ∧ SI k W U h2
section SIS
variable {d k : Nat} {h : xH} {M : Nat → Nat} {W U : Nat → Nat → Nat} {f s : Nat → Int32}
theorem inv_512 {w v u : Nat → Nat} (hi : Inv w u) : Agr w w u := Agr.refl
/-- the top image's words change -/
theorem SI_upd {w' u' : Nat → Nat} (S : SI k W U h) (hI : Inv w' u') (hf : flg w' u' = w') (h60 : w' 5 = 0 → w' 6 = 0) (h2 : W k 2 ≤ w' 2) (hM : ∀ j p, j ≤ k → p < 512 → M (512 * j + p) = W j p) : SI k (setW W k w') (setW U k u') (mh (hup (hup h (10, k) (E w')) (15, 0) s) f (pf M k w')) := by
  obtain ⟨a1, a2, a3, a4, a5, a6, -, a8⟩ := S
  have hne : ∀ q : xP, q ≠ (12, 0) → q ≠ (14, 0) → q ≠ (15, 0) → q ≠ (10, k) → mh (hup (hup h (10, k) (E w')) (15, 0) s) f (pf M k w') q = h q := fun q q1 q2 q3 q4 => by
    rw [mh_o q1 q2, hup_ne q3, hup_ne q4]
  have ek : mh (hup (hup h (10, k) (E w')) (15, 0) s) f (pf M k w') (10, k) = E w' := by
    rw [mh_o (fun e => by injection e with e1 e2; omega) (fun e => by injection e with e1 e2; omega), hup_ne (fun e => by injection e with e1 e2; omega), hup_at]
  refine ⟨a1, fun j hj => ?_, fun j hj => ?_, fun j p => ?_, ?_, ?_, ⟨pf M k w', mh_12, fun j p hj hp => ?_⟩, fun p hp => ?_⟩
  · by_cases e : j = k
    · rw [e, setW_at, setW_at]
      exact ⟨ek, hI, hf, h60⟩
    · rw [setW_ne e, setW_ne e, hne _ (fun e2 => by injection e2 with e1 e2; omega) (fun e2 => by injection e2 with e1 e2; omega) (fun e2 => by injection e2 with e1 e2; omega) (fun e2 => by injection e2 with e1 e2; omega)]
      exact a2 j hj
  · by_cases e : j + 1 = k
    · rw [e, setW_at, setW_ne (by omega)]
      have := a3 j (by omega)
      rw [e] at this
      omega
    · rw [setW_ne (by omega), setW_ne e]
      exact a3 j hj
  · unfold setW
    split
    · exact hI.2.2.2.2 p
    · exact a4 j p
  · rw [hne _ (by decide) (by decide) (by decide) (fun e2 => by injection e2 with e1 e2; omega)]
    exact a5
  · rw [hne _ (by decide) (by decide) (by decide) (fun e2 => by injection e2 with e1 e2; omega)]
    exact a6
  · by_cases e : j = k
    · rw [e, setW_at, pf_at hp]
    · rw [setW_ne e, pf_ne hp e]
      exact hM j p hj hp
  · rw [hne (10, 3) (by decide) (by decide) (by decide) (fun e2 => by injection e2 with e1 e2; omega), hne (13, 0) (by decide) (by decide) (by decide) (fun e2 => by injection e2 with e1 e2; omega)]
    exact a8 p hp
/-- counts alone change -/
theorem SI_cnt (S : SI k W U h) (hM : h (12, 0) = E M) : SI k W U (mh h f M) := by
  obtain ⟨a1, a2, a3, a4, a5, a6, ⟨M', m1, m2⟩, a8⟩ := S
  have hne : ∀ q : xP, q ≠ (14, 0) → mh h f M q = h q := fun q q2 => by
    by_cases q1 : q = (12, 0)
    · rw [q1, mh_12, hM]
    · rw [mh_o q1 q2]
  refine ⟨a1, fun j hj => ?_, a3, a4, ?_, ?_, ⟨M', ?_, m2⟩, fun p hp => ?_⟩
  · rw [hne _ (fun e2 => by injection e2 with e1 e2; omega)]
    exact a2 j hj
  · rw [hne _ (by decide)]; exact a5
  · rw [hne _ (by decide)]; exact a6
  · rw [hne _ (by decide)]; exact m1
  · rw [hne _ (by decide), hne _ (by decide)]
    exact a8 p hp
theorem SI.mem (S : SI k W U h) : ∃ M, h (12, 0) = E M ∧ (∀ j p, j ≤ k → p < 512 → M (512 * j + p) = W j p) ∧ (∀ j, j ≤ k → pf M j (W j) = M) := by
  obtain ⟨a1, a2, a3, a4, a5, a6, ⟨M, m1, m2⟩, a8⟩ := S
  exact ⟨M, m1, m2, fun j hj => pf_self fun p hp => m2 j p hj hp⟩
theorem c_top (hn : h (3, 0) 1 = nI (k + 1)) (hk : k < 3) : Cl d MX3_top [vR (3, 0)] h (some (vR (1, k))) h := by
  refine rnN 6 rfl ?_
  rw [hn, show nI (k + 1) - nI 1 = nI k by rw [pk_sub (by omega)]; congr 1]
  refine rnC (inN hk (by decide)) rfl ?_
  simp (disch := omega) only [nI_add, pk_mul, pk_sub, nd8, nd4, nsub8, nand63, nand7, nshr2, nI_clamp, E_at, hup_at, hup_hup, hpt_def, pf_at, pf_at2, cf_at, h12_14, h14_12, h12_15, h15_12, h14_15, h15_14]
  refine rnRC ?_ rfl
  rcases (show k = 0 ∨ k = 1 ∨ k = 2 by omega) with rfl | rfl | rfl <;> decide
theorem Cl_deep {n m mi : Nat} {as : List xV} {h h' : xH} {r : Option xV} (hnm : n ≤ m) (c : Cl n mi as h r h') : Cl m mi as h r h' := by
  induction hnm with
  | refl => exact c
  | step _ ih => exact ih.deep
theorem m_top (hn : h (4, 0) 2 = nI (k + 1)) : h (4, 0) 2 - nI 1 = nI k := by
  rw [hn, pk_sub (by omega)]
  congr 1
theorem m_isAddrT {a : Nat} {w : Nat → Nat} (hw : h (12, 0) = E (pf M k w)) (hn : h (4, 0) 2 = nI (k + 1)) (hk : k < 3) (h2 : w 2 ≤ 64) (ha : a < 8 * w 2) : Cl (d + 1) MX4_isAddress [vR (4, 0), vI (nI a)] h (some (vI (nI 1))) h := by
  refine rnN 1 rfl ?_
  refine rnF (nI_pos (show a < 2147483648 by omega)) rfl ?_
  refine rnN 7 rfl ?_
  rw [m_top hn]
  refine rnK rfl (m_sizeOf hw (show k < 4 by omega)) ?_
  refine rnN 1 rfl ?_
  simp (disch := omega) only [nI_add, pk_mul, pk_sub, nd8, nd4, nsub8, nand63, nand7, nshr2, nI_clamp, E_at, hup_at, hup_hup, hpt_def, pf_at, pf_at2, cf_at, h12_14, h14_12, h12_15, h15_12, h14_15, h15_14]
  refine rnT (nI_lt ha (by omega)) rfl ?_
  refine rnN 2 rfl ?_
  exact rnR rfl
theorem m_isAddrF {v : Int32} {w : Nat → Nat} (hw : h (12, 0) = E (pf M k w)) (hn : h (4, 0) 2 = nI (k + 1)) (hk : k < 3) (hv : v < 0 ∨ nI (8 * w 2) ≤ v) : Cl (d + 1) MX4_isAddress [vR (4, 0), vI v] h (some (vI (nI 0))) h := by
  refine rnN 1 rfl ?_
  by_cases h0 : v < 0
  · refine rnT (h0) rfl ?_
    refine rnN 1 rfl ?_
    exact rnR rfl
  · refine rnF (h0) rfl ?_
    refine rnN 7 rfl ?_
    rw [m_top hn]
    refine rnK rfl (m_sizeOf hw (show k < 4 by omega)) ?_
    refine rnN 1 rfl ?_
    simp (disch := omega) only [nI_add, pk_mul, pk_sub, nd8, nd4, nsub8, nand63, nand7, nshr2, nI_clamp, E_at, hup_at, hup_hup, hpt_def, pf_at, pf_at2, cf_at, h12_14, h14_12, h12_15, h15_12, h14_15, h15_14]
    refine rnF ((Int32.not_lt.mpr (hv.resolve_left h0))) rfl ?_
    refine rnN 1 rfl ?_
    exact rnR rfl
theorem gC_congr {V : Nat → Nat} {b : Nat} {dat dat' : Nat → Nat} (e : ∀ j, j < 8 → dat j = dat' j) : gC V b dat = gC V b dat' := by
  have h1 : (fun p => if p / 8 = tkC V then dat (p % 8) else setc (tkW V) (tkC V) 1 p) = fun p => if p / 8 = tkC V then dat' (p % 8) else setc (tkW V) (tkC V) 1 p := by
    funext p
    rw [e _ (Nat.mod_lt _ (by decide))]
  unfold gC gcF
  rw [h1]
theorem flg_data {V u : Nat → Nat} (hi : Inv V u) {c j x : Nat} (h1 : 1 ≤ c) (h2 : 24 ≤ u c) (h3 : T V c ≠ 0) (hj : j < 8) (hx : x < 4294967296) : Inv (up V (8 * c + j) x) u ∧ flg (up V (8 * c + j) x) u = up (flg V u) (8 * c + j) x := by
  obtain ⟨hI, hT⟩ := data_inv (v := up V (8 * c + j) x) hi h1 h2 h3 (fun p hp => up_ne (fun e => hp (by rw [e, ix_div hj]))) (fun p => by
    unfold up
    split
    · exact hx
    · exact hi.2.2.2.2 p)
  refine ⟨hI, ?_⟩
  funext p
  by_cases e : p = 8 * c + j
  · rw [e, up_at, flg_out (fun z => by rw [ix_div hj] at z; have := z.2.2; unfold TL at this; omega), up_at]
  · rw [up_ne e]
    by_cases e2 : 1 ≤ p / 8 ∧ p / 8 < 64 ∧ TL u (p / 8)
    · rw [flg_in e2, flg_in e2, up_ne e, mk_congr hT]
    · rw [flg_out e2, flg_out e2, up_ne e]
theorem nI_of_small {v : Int32} {n : Nat} (h1 : ¬ v < 0) (h2 : ¬ nI n ≤ v) (hn : n < 2147483648) : ∃ a, a < n ∧ v = nI a := by
  rcases pk_ix v (n := n) hn with h | h | ⟨j, hj, e⟩
  · exact absurd h h1
  · exact absurd h h2
  · exact ⟨j, hj, e⟩
end SIS
