/-! ===== overlay ===== -/
section OPV
variable {d k : Nat} {h : xH} {M : Nat → Nat} {W U : Nat → Nat → Nat} {f s : Nat → Int32}
theorem m_fresh {g size : Nat} (hM : h (12, 0) = E M) (hg : g < 4) (h1 : 1 ≤ size) (h2 : size ≤ 64) : ∃ f', Cl (d + 4) MX4_fresh [vR (4, 0), vI (nI g), vI (nI size)] h none (mh h f' (pf M g (newF size))) := by
  obtain ⟨w, hw⟩ : ∃ w : Nat → Nat, w = fun p => M (512 * g + p) := ⟨_, rfl⟩
  have hMw : pf M g w = M := pf_self fun p _ => by rw [hw]
  obtain ⟨hI, hfl⟩ := fm_inv (w := fun _ => 0) h1 h2 (fun _ => by decide)
  have hag : Agr (up (up (up (up (up (up (fun _ => 0) 0 7001) 1 1) 2 size) 3 3) 4 1) 8 2) (fmW (fun _ => 0) size) fmU := by
    intro p hTp hu
    left
    have hp := hI.1.T64 hTp
    have h2 : p / 8 ≠ 2 := fun e => by rw [e] at hu; revert hu; unfold fmU; simp
    have h3 : fmW (fun _ => 0) size p = newF size p := if_pos (by omega)
    rw [h3]
    simp only [up]
    by_cases e : 20 ≤ p
    · rw [if_neg (by omega), if_neg (by omega), if_neg (by omega), if_neg (by omega), if_neg (by omega), if_neg (by omega), newF_0 e]
    · rcases (show p = 0 ∨ p = 1 ∨ p = 2 ∨ p = 3 ∨ p = 4 ∨ p = 5 ∨ p = 6 ∨ p = 7 ∨ p = 8 ∨ p = 9 ∨ p = 10 ∨ p = 11 ∨ p = 12 ∨ p = 13 ∨ p = 14 ∨ p = 15 by omega) with rfl | rfl | rfl | rfl | rfl | rfl | rfl | rfl | rfl | rfl | rfl | rfl | rfl | rfl | rfl | rfl <;> rfl
  have hsR := hag.eS hI.1
  have hst := m_settle (d := d) (h := mh h (h (14, 0)) (pf M g (up (up (up (up (up (up (fun _ => 0) 0 7001) 1 1) 2 size) 3 3) 4 1) 8 2))) (M := M) mh_12 hg hsR
  have hfin : pf M g (stl (up (up (up (up (up (up (fun _ => 0) 0 7001) 1 1) 2 size) 3 3) 4 1) 8 2) fmU) = pf M g (newF size) := pf_congr fun p hp => by
    rw [stl_agr hI hag p hp, hfl]
    exact if_pos hp
  rw [mh_mh, mh_14, hfin] at hst
  refine ⟨cf (h (14, 0)) (T (up (up (up (up (up (up (fun _ => 0) 0 7001) 1 1) 2 size) 3 3) 4 1) 8 2)), ?_⟩
  refine rnN 2 rfl ?_
  have e0 : h = mh h (h (14, 0)) (pf M g fun p => if p < 0 then 0 else w p) := by
    rw [pf_congr (v := fun p => if p < 0 then 0 else w p) (w := w) (fun p _ => by rw [if_neg (by omega)]), hMw]
    unfold mh
    rw [hup_self (p := (14, 0)) rfl, hup_self hM]
  refine rnH e0 ?_
  refine lpN 512 (fun i => Rn (d + 4) MX4_fresh 2 [some (vR (4, 0)), some (vI (nI g)), some (vI (nI size)), some (vI (nI i))] [] (mh h (h (14, 0)) (pf M g fun p => if p < i then 0 else w p)) none (mh h (cf (h (14, 0)) (T (up (up (up (up (up (up (fun _ => 0) 0 7001) 1 1) 2 size) 3 3) 4 1) 8 2))) (pf M g (newF size)))) (fun i hi K => ?_) ?_
  · refine rnN 2 rfl ?_
    refine rnT (nI_lt hi (by decide)) rfl ?_
    refine rnN 8 rfl ?_
    simp (disch := omega) only [nI_add, pk_mul, pk_sub, nd8, nd4, nsub8, nand63, nand7, nshr2, nI_clamp, E_at, hup_at, hup_hup, hpt_def, pf_at, pf_at2, cf_at, h12_14, h14_12, h12_15, h15_12, h14_15, h15_14]
    refine rnC (inN (show 512 * g + i < 2048 by omega) (by decide)) rfl ?_
    simp (disch := omega) only [nI_clamp, mhpt]
    rw [pf_up hi]
    refine rnN 2 rfl ?_
    simp (disch := omega) only [nI_add, pk_mul, pk_sub, nd8, nd4, nsub8, nand63, nand7, nshr2, nI_clamp, E_at, hup_at, hup_hup, hpt_def, pf_at, pf_at2, cf_at, h12_14, h14_12, h12_15, h15_12, h14_15, h15_14]
    refine rnH ?_ K
    congr 2
    funext p
    simp only [up]
    by_cases e : p = i
    · rw [if_pos e, if_pos (by omega)]
    · rw [if_neg e]
      by_cases e2 : p < i
      · rw [if_pos e2, if_pos (by omega)]
      · rw [if_neg e2, if_neg (by omega)]
  · have e1 : pf M g (fun p => if p < 512 then 0 else w p) = pf M g fun _ => 0 := pf_congr fun p hp => if_pos hp
    rw [e1]
    refine rnN 3 rfl ?_
    refine rnN 6 rfl ?_
    simp (disch := omega) only [nI_add, pk_mul, pk_sub, nd8, nd4, nsub8, nand63, nand7, nshr2, nI_clamp, E_at, hup_at, hup_hup, hpt_def, pf_at, pf_at2, cf_at, h12_14, h14_12, h12_15, h15_12, h14_15, h15_14]
    rw [show 512 * g = 512 * g + 0 from rfl]
    refine rnC (inN (show 512 * g + 0 < 2048 by omega) (by decide)) rfl ?_
    simp (disch := omega) only [nI_clamp, mhpt]
    rw [pf_up (show 0 < 512 by decide)]
    refine rnN 8 rfl ?_
    simp (disch := omega) only [nI_add, pk_mul, pk_sub, nd8, nd4, nsub8, nand63, nand7, nshr2, nI_clamp, E_at, hup_at, hup_hup, hpt_def, pf_at, pf_at2, cf_at, h12_14, h14_12, h12_15, h15_12, h14_15, h15_14]
    refine rnC (inN (show 512 * g + 1 < 2048 by omega) (by decide)) rfl ?_
    simp (disch := omega) only [nI_clamp, mhpt]
    rw [pf_up (show 1 < 512 by decide)]
    refine rnN 8 rfl ?_
    simp (disch := omega) only [nI_add, pk_mul, pk_sub, nd8, nd4, nsub8, nand63, nand7, nshr2, nI_clamp, E_at, hup_at, hup_hup, hpt_def, pf_at, pf_at2, cf_at, h12_14, h14_12, h12_15, h15_12, h14_15, h15_14]
    refine rnC (inN (show 512 * g + 2 < 2048 by omega) (by decide)) rfl ?_
    simp (disch := omega) only [nI_clamp, mhpt]
    rw [pf_up (show 2 < 512 by decide)]
    refine rnN 8 rfl ?_
    simp (disch := omega) only [nI_add, pk_mul, pk_sub, nd8, nd4, nsub8, nand63, nand7, nshr2, nI_clamp, E_at, hup_at, hup_hup, hpt_def, pf_at, pf_at2, cf_at, h12_14, h14_12, h12_15, h15_12, h14_15, h15_14]
    refine rnC (inN (show 512 * g + 3 < 2048 by omega) (by decide)) rfl ?_
    simp (disch := omega) only [nI_clamp, mhpt]
    rw [pf_up (show 3 < 512 by decide)]
    refine rnN 8 rfl ?_
    simp (disch := omega) only [nI_add, pk_mul, pk_sub, nd8, nd4, nsub8, nand63, nand7, nshr2, nI_clamp, E_at, hup_at, hup_hup, hpt_def, pf_at, pf_at2, cf_at, h12_14, h14_12, h12_15, h15_12, h14_15, h15_14]
    refine rnC (inN (show 512 * g + 4 < 2048 by omega) (by decide)) rfl ?_
    simp (disch := omega) only [nI_clamp, mhpt]
    rw [pf_up (show 4 < 512 by decide)]
    refine rnN 8 rfl ?_
    simp (disch := omega) only [nI_add, pk_mul, pk_sub, nd8, nd4, nsub8, nand63, nand7, nshr2, nI_clamp, E_at, hup_at, hup_hup, hpt_def, pf_at, pf_at2, cf_at, h12_14, h14_12, h12_15, h15_12, h14_15, h15_14]
    refine rnC (inN (show 512 * g + 8 < 2048 by omega) (by decide)) rfl ?_
    simp (disch := omega) only [nI_clamp, mhpt]
    rw [pf_up (show 8 < 512 by decide)]
    refine rnN 2 rfl ?_
    refine rnK rfl (hst) ?_
    exact rnR rfl
/-- the chain grows by an image -/
theorem SI_push {w u : Nat → Nat} {A C : Nat → Int32} (S : SI k W U h) (hk : k + 1 < 3) (hI : Inv w u) (hf : flg w u = w) (h60 : w 5 = 0 → w 6 = 0) (h2 : W k 2 ≤ w 2) (hM : ∀ j p, j ≤ k → p < 512 → M (512 * j + p) = W j p) (hA : A 1 = nI (k + 2)) (hC : C 2 = nI (k + 2)) {v : Nat → Nat} (hv : ∀ p, p < 512 → v p = w p) :
    SI (k + 1) (setW W (k + 1) w) (setW U (k + 1) u) (hup (mh (hup (hup h (3, 0) A) (10, k + 1) (E w)) f (pf M (k + 1) v)) (4, 0) C) := by
  obtain ⟨a1, a2, a3, a4, a5, a6, -, a8⟩ := S
  have hne : ∀ q : xP, q ≠ (12, 0) → q ≠ (14, 0) → q ≠ (4, 0) → q ≠ (10, k + 1) → q ≠ (3, 0) → hup (mh (hup (hup h (3, 0) A) (10, k + 1) (E w)) f (pf M (k + 1) v)) (4, 0) C q = h q := fun q q1 q2 q3 q4 q5 => by
    rw [hup_ne q3, mh_o q1 q2, hup_ne q4, hup_ne q5]
  refine ⟨hk, fun j hj => ?_, fun j hj => ?_, fun j p => ?_, ?_, ?_, ⟨pf M (k + 1) v, ?_, fun j p hj hp => ?_⟩, fun p hp => ?_⟩
  · by_cases e : j = k + 1
    · rw [e, setW_at, setW_at, hup_ne (fun e2 => by injection e2 with e1 e2; omega), mh_o (fun e2 => by injection e2 with e1 e2; omega) (fun e2 => by injection e2 with e1 e2; omega), hup_at]
      exact ⟨rfl, hI, hf, h60⟩
    · rw [setW_ne e, setW_ne e, hne _ (fun e2 => by injection e2 with e1 e2; omega) (fun e2 => by injection e2 with e1 e2; omega) (fun e2 => by injection e2 with e1 e2; omega) (fun e2 => by injection e2 with e1 e2; omega) (fun e2 => by injection e2 with e1 e2; omega)]
      exact a2 j (by omega)
  · by_cases e : j + 1 = k + 1
    · rw [e, setW_at, setW_ne (by omega), show j = k by omega]
      exact h2
    · rw [setW_ne (by omega), setW_ne e]
      exact a3 j (by omega)
  · unfold setW
    split
    · exact hI.2.2.2.2 p
    · exact a4 j p
  · rw [hup_ne (by decide), mh_o (by decide) (by decide), hup_ne (fun e2 => by injection e2 with e1 e2; omega), hup_at]
    exact hA
  · rw [hup_at]
    exact hC
  · rw [hup_ne (by decide), mh_12]
  · by_cases e : j = k + 1
    · rw [e, setW_at, pf_at hp]
      exact hv p hp
    · rw [setW_ne e, pf_ne hp e]
      exact hM j p (by omega) hp
  · rw [hne (10, 3) (by decide) (by decide) (by decide) (fun e2 => by injection e2 with e1 e2; omega) (by decide), hne (13, 0) (by decide) (by decide) (by decide) (fun e2 => by injection e2 with e1 e2; omega) (by decide)]
    exact a8 p hp
theorem op_overlay (S : SI k W U h) : OpOK MX3_overlay MX4_overlay [] h := by
  obtain ⟨M, hM, hMw, hMp⟩ := S.mem
  have hk := S.1
  have hi := S.inv (Nat.le_refl k)
  have hw := S.file (Nat.le_refl k)
  have hsz := hi.1.sz
  have hg : k < 4 := by omega
  have hw12 : h (12, 0) = E (pf M k (W k)) := by rw [hM, hMp k (Nat.le_refl k)]
  have hn3 := S.2.2.2.2.1
  have hn4 := S.2.2.2.2.2.1
  by_cases hk2 : k = 2
  · refine ⟨(-3), h, h, k, W, U, Cl_deep (n := 6) (by decide) ?_, Cl_deep (n := 4) (by decide) ?_, S⟩
    · refine rnN 3 rfl ?_
      rw [hn3, hk2]
      refine rnN 2 rfl ?_
      exact rnR rfl
    · refine rnN 3 rfl ?_
      rw [hn4, hk2]
      refine rnN 2 rfl ?_
      exact rnR rfl
  · obtain ⟨w, hw1⟩ : ∃ w, h (10, k + 1) = E w ∧ ∀ p, w p < 4294967296 := ⟨fun i => tn (h (10, k + 1) i), by funext i; exact (nI_tn _).symm, fun i => tn_lt _⟩
    obtain ⟨hw1, hwb⟩ := hw1
    obtain ⟨hI, hfl⟩ := fm_inv (w := w) hsz.1 hsz.2 hwb
    obtain ⟨A, hA⟩ : ∃ A, A = upd (h (3, 0)) 1 (nI (k + 2)) := ⟨_, rfl⟩
    obtain ⟨C, hC⟩ : ∃ C, C = upd (h (4, 0)) 2 (nI (k + 2)) := ⟨_, rfl⟩
    have hA1 : A 1 = nI (k + 2) := by rw [hA]; exact if_pos rfl
    have hC2 : C 2 = nI (k + 2) := by rw [hC]; exact if_pos rfl
    obtain ⟨h1, hh1⟩ : ∃ h1, h1 = hup (hup h (3, 0) A) (10, k + 1) (E (fmW w (W k 2))) := ⟨_, rfl⟩
    have n1 : ∀ q : xP, q ≠ (10, k + 1) → q ≠ (3, 0) → h1 q = h q := fun q hq hq2 => by rw [hh1, hup_ne hq, hup_ne hq2]
    have q12 : h1 (12, 0) = E M := by rw [n1 _ (fun e => by injection e with e1 e2; omega) (by decide)]; exact hM
    have q4 : h1 (4, 0) = h (4, 0) := n1 _ (fun e => by injection e with e1 e2; omega) (by decide)
    obtain ⟨f', hfr⟩ := m_fresh (d := 3) (h := h1) (g := k + 1) q12 (by omega) hsz.1 hsz.2
    have h9 := SI_push (f := f') (A := A) (C := C) (v := newF (W k 2)) S (by omega) hI hfl (fun _ => if_pos (by decide)) (by rw [show fmW w (W k 2) 2 = W k 2 from if_pos (by decide)]; exact Nat.le_refl _) hMw hA1 hC2 (fun p hp => (if_pos hp).symm)
    rw [← hh1] at h9
    refine ⟨(nI (k + 2)), h1, hup (mh h1 f' (pf M (k + 1) (newF (W k 2)))) (4, 0) C, k + 1, _, _, Cl_deep (n := 6) (by decide) ?_, ?_, h9⟩
    · have hn3' : hup h (3, 0) A (3, 0) 1 = nI (k + 1 + 1) := by rw [hup_at]; exact hA1
      have h3k : ¬ nI (k + 1) = nI 3 := fun e => hk2 (by have := (neq (by omega) (by decide)).mp e; omega)
      rw [hh1]
      refine rnN 3 rfl ?_
      rw [hn3]
      refine rnF (h3k) rfl ?_
      refine rnN 1 rfl ?_
      refine rnK rfl (c_top hn3 hk) ?_
      refine rnK rfl (c_blocks hw) ?_
      refine rnN 5 rfl ?_
      rw [hn3]
      refine rnN 1 rfl ?_
      simp (disch := omega) only [nI_add, pk_mul, pk_sub, nd8, nd4, nsub8, nand63, nand7, nshr2, nI_clamp, E_at, hup_at, hup_hup]
      refine rnN 2 rfl ?_
      rw [show hpt h (3, 0) 1 (nI (k + 1 + 1)) = hup h (3, 0) A by rw [hA]; rfl]
      refine rnK rfl (c_top hn3' (show k + 1 < 3 by omega)) ?_
      refine rnN 2 rfl ?_
      refine rnK rfl (c_format (w := w) (by rw [hup_ne (fun e => by injection e with e1 e2; omega)]; exact hw1)) ?_
      refine rnN 2 rfl ?_
      rw [hup_ne (show ((3, 0) : xP) ≠ (10, k + 1) from fun e => by injection e with e1 e2; omega), hn3']
      exact rnR rfl
    · have h3k : ¬ nI (k + 1) = nI 3 := fun e => hk2 (by have := (neq (by omega) (by decide)).mp e; omega)
      refine rnN 3 rfl ?_
      rw [q4, hn4]
      refine rnF (h3k) rfl ?_
      refine rnN 5 rfl ?_
      rw [q4, m_top hn4]
      refine rnK rfl (m_sizeOf (w := W k) (M := M) (by rw [q12, hMp k (Nat.le_refl k)]) hg) ?_
      refine rnN 4 rfl ?_
      rw [q4, hn4]
      refine rnN 1 rfl ?_
      refine rnK rfl (hfr) ?_
      refine rnN 4 rfl ?_
      rw [mh_o (by decide) (by decide), q4, hn4]
      refine rnN 1 rfl ?_
      simp (disch := omega) only [nI_add, pk_mul, pk_sub, nd8, nd4, nsub8, nand63, nand7, nshr2, nI_clamp, E_at, hup_at, hup_hup]
      have e9 : hpt (mh h1 f' (pf M (k + 1) (newF (W k 2)))) (4, 0) 2 (nI (k + 1 + 1)) = hup (mh h1 f' (pf M (k + 1) (newF (W k 2)))) (4, 0) C := by
        unfold hpt
        rw [mh_o (by decide) (by decide), q4, hC]
      refine rnN 3 rfl ?_
      rw [e9, hup_at, hC2]
      exact rnR rfl
end OPV
