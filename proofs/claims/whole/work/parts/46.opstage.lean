/-! ===== stage, overlay ===== -/
section OPG
variable {d k : Nat} {h : xH} {M : Nat → Nat} {W U : Nat → Nat → Nat} {f s : Nat → Int32}
theorem rn_eq {d mi pc : Nat} {loc : xL} {stk : List xV} {h hf hf2 : xH} {r : Option xV} (e : hf = hf2) (kk : Rn d mi pc loc stk h r hf) : Rn d mi pc loc stk h r hf2 := e ▸ kk
/-- the stage's cells are others than all that the images live in -/
theorem SI_stage {s1 s2 : Nat → Int32} (S : SI k W U h) (e : ∀ p, p < 512 → s1 p = s2 p) : SI k W U (hup (hup h (10, 3) s1) (13, 0) s2) := by
  obtain ⟨a1, a2, a3, a4, a5, a6, ⟨M, m1, m2⟩, a8⟩ := S
  have hne : ∀ q : xP, q ≠ (13, 0) → q ≠ (10, 3) → hup (hup h (10, 3) s1) (13, 0) s2 q = h q := fun q q1 q2 => by rw [hup_ne q1, hup_ne q2]
  refine ⟨a1, fun j hj => ?_, a3, a4, ?_, ?_, ⟨M, ?_, m2⟩, fun p hp => ?_⟩
  · rw [hne _ (fun e => by injection e with e1 e2; omega) (fun e => by injection e with e1 e2; omega)]
    exact a2 j hj
  · rw [hne _ (by decide) (by decide)]; exact a5
  · rw [hne _ (by decide) (by decide)]; exact a6
  · rw [hne _ (by decide) (by decide)]; exact m1
  · rw [hup_at, hup_ne (by decide), hup_at]
    exact e p hp
theorem op_stage (S : SI k W U h) (v a b c e : Int32) : OpOK MX3_stage MX4_stage [vI v, vI a, vI b, vI c, vI e] h := by
  by_cases a1 : v < 0
  · refine ⟨(nI 0), h, h, k, W, U, Cl_deep (n := 4) (by decide) ?_, Cl_deep (n := 4) (by decide) ?_, S⟩
    · refine rnN 1 rfl ?_
      refine rnT (a1) rfl ?_
      refine rnN 1 rfl ?_
      exact rnR rfl
    · refine rnN 1 rfl ?_
      refine rnT (a1) rfl ?_
      refine rnN 1 rfl ?_
      exact rnR rfl
  · by_cases a2 : v < nI 128
    · obtain ⟨p, hp, rfl⟩ := nI_of_small a1 (Int32.not_le.mpr a2) (by decide)
      have hst := S.2.2.2.2.2.2.2
      obtain ⟨w, hw⟩ : ∃ w, h (10, 3) = E w := ⟨fun i => tn (h (10, 3) i), by funext i; exact (nI_tn _).symm⟩
      obtain ⟨a, ha, rfl⟩ : ∃ x, x < 4294967296 ∧ a = nI x := ⟨tn a, tn_lt _, (nI_tn a).symm⟩
      obtain ⟨b, hb, rfl⟩ : ∃ x, x < 4294967296 ∧ b = nI x := ⟨tn b, tn_lt _, (nI_tn b).symm⟩
      obtain ⟨c, hc, rfl⟩ : ∃ x, x < 4294967296 ∧ c = nI x := ⟨tn c, tn_lt _, (nI_tn c).symm⟩
      obtain ⟨e, he, rfl⟩ : ∃ x, x < 4294967296 ∧ e = nI x := ⟨tn e, tn_lt _, (nI_tn e).symm⟩
      have hcl : p * 4 / 8 < 64 := by omega
      have hpl : p * 4 % 8 + 3 < 8 := by omega
      have hix : ∀ i, 8 * (p * 4 / 8) + (p * 4 % 8 + i) = 4 * p + i := fun i => by omega
      obtain ⟨s1, hs1⟩ : ∃ s1, s1 = E (up (up (up (up w (4 * p) a) (4 * p + 1) b) (4 * p + 2) c) (4 * p + 3) e) := ⟨_, rfl⟩
      obtain ⟨s2, hs2⟩ : ∃ s2, s2 = upd (upd (upd (upd (h (13, 0)) (4 * p) (nI a)) (4 * p + 1) (nI b)) (4 * p + 2) (nI c)) (4 * p + 3) (nI e) := ⟨_, rfl⟩
      have hq : ∀ q, q < 512 → s1 q = s2 q := fun q hq => by
        have h9 := hst q hq
        rw [hw] at h9
        rw [hs1, hs2, ← up_E, ← up_E, ← up_E, ← up_E]
        simp only [upd]
        split
        · rfl
        · split
          · rfl
          · split
            · rfl
            · split
              · rfl
              · exact h9
      refine ⟨(nI 1), hup h (10, 3) s1, hup (hup h (10, 3) s1) (13, 0) s2, k, W, U, Cl_deep (n := 4) (by decide) ?_, Cl_deep (n := 4) (by decide) ?_, SI_stage S hq⟩
      · refine rnN 1 rfl ?_
        refine rnF (a1) rfl ?_
        refine rnN 2 rfl ?_
        refine rnT (a2) rfl ?_
        refine rnN 17 rfl ?_
        simp (disch := omega) only [nI_add, pk_mul, pk_sub, nd8, nd4, nsub8, nand63, nand7, nshr2, nI_clamp, E_at, hup_at, hup_hup]
        refine rnK rfl (c_put (x := a) hw hcl (show p * 4 % 8 < 8 by omega)) ?_
        refine rnN 7 rfl ?_
        simp (disch := omega) only [nI_add, pk_mul, pk_sub, nd8, nd4, nsub8, nand63, nand7, nshr2, nI_clamp, E_at, hup_at, hup_hup]
        refine rnK rfl (c_put (x := b) hup_at hcl (show p * 4 % 8 + 1 < 8 by omega)) ?_
        rw [hup_hup]
        refine rnN 7 rfl ?_
        simp (disch := omega) only [nI_add, pk_mul, pk_sub, nd8, nd4, nsub8, nand63, nand7, nshr2, nI_clamp, E_at, hup_at, hup_hup]
        refine rnK rfl (c_put (x := c) hup_at hcl (show p * 4 % 8 + 2 < 8 by omega)) ?_
        rw [hup_hup]
        refine rnN 7 rfl ?_
        simp (disch := omega) only [nI_add, pk_mul, pk_sub, nd8, nd4, nsub8, nand63, nand7, nshr2, nI_clamp, E_at, hup_at, hup_hup]
        refine rnK rfl (c_put (x := e) hup_at hcl (show p * 4 % 8 + 3 < 8 by omega)) ?_
        rw [hup_hup]
        refine rnN 1 rfl ?_
        rw [show 8 * (p * 4 / 8) + p * 4 % 8 = 4 * p by omega, hix 1, hix 2, hix 3, ← hs1]
        exact rnR rfl
      · have h13 : hup h (10, 3) s1 (13, 0) = h (13, 0) := hup_ne (by decide)
        refine rnN 1 rfl ?_
        refine rnF (a1) rfl ?_
        refine rnN 2 rfl ?_
        refine rnF (nI_nlt (show p ≤ 127 by omega) (by decide)) rfl ?_
        refine rnN 6 rfl ?_
        simp (disch := omega) only [nI_add, pk_mul, pk_sub, nd8, nd4, nsub8, nand63, nand7, nshr2, nI_clamp, E_at, hup_at, hup_hup]
        refine rnC (inN (show 4 * p < 512 by omega) (by decide)) rfl ?_
        simp (disch := omega) only [nI_add, pk_mul, pk_sub, nd8, nd4, nsub8, nand63, nand7, nshr2, nI_clamp, E_at, hup_at, hup_hup, hpt_def]
        refine rnN 8 rfl ?_
        simp (disch := omega) only [nI_add, pk_mul, pk_sub, nd8, nd4, nsub8, nand63, nand7, nshr2, nI_clamp, E_at, hup_at, hup_hup]
        refine rnC (inN (show 4 * p + 1 < 512 by omega) (by decide)) rfl ?_
        simp (disch := omega) only [nI_add, pk_mul, pk_sub, nd8, nd4, nsub8, nand63, nand7, nshr2, nI_clamp, E_at, hup_at, hup_hup, hpt_def]
        refine rnN 8 rfl ?_
        simp (disch := omega) only [nI_add, pk_mul, pk_sub, nd8, nd4, nsub8, nand63, nand7, nshr2, nI_clamp, E_at, hup_at, hup_hup]
        refine rnC (inN (show 4 * p + 2 < 512 by omega) (by decide)) rfl ?_
        simp (disch := omega) only [nI_add, pk_mul, pk_sub, nd8, nd4, nsub8, nand63, nand7, nshr2, nI_clamp, E_at, hup_at, hup_hup, hpt_def]
        refine rnN 8 rfl ?_
        simp (disch := omega) only [nI_add, pk_mul, pk_sub, nd8, nd4, nsub8, nand63, nand7, nshr2, nI_clamp, E_at, hup_at, hup_hup]
        refine rnC (inN (show 4 * p + 3 < 512 by omega) (by decide)) rfl ?_
        simp (disch := omega) only [nI_add, pk_mul, pk_sub, nd8, nd4, nsub8, nand63, nand7, nshr2, nI_clamp, E_at, hup_at, hup_hup, hpt_def]
        refine rnN 1 rfl ?_
        rw [h13, ← hs2]
        exact rnR rfl
    · refine ⟨(nI 0), h, h, k, W, U, Cl_deep (n := 4) (by decide) ?_, Cl_deep (n := 4) (by decide) ?_, S⟩
      · refine rnN 1 rfl ?_
        refine rnF (a1) rfl ?_
        refine rnN 2 rfl ?_
        refine rnF (a2) rfl ?_
        refine rnN 1 rfl ?_
        exact rnR rfl
      · refine rnN 1 rfl ?_
        refine rnF (a1) rfl ?_
        refine rnN 2 rfl ?_
        refine rnT ((Int32.lt_of_lt_of_le (show nI 127 < nI 128 by decide) (Int32.not_lt.mp a2))) rfl ?_
        refine rnN 1 rfl ?_
        exact rnR rfl
/-- the words of a new file, the rest as it was -/
def fmW (w : Nat → Nat) (size : Nat) : Nat → Nat := fun p => if p < 512 then newF size p else w p
def fmU : Nat → Nat := fun c => if c = 1 then 2 else if c = 2 then 16 else if c = 3 then 1 else 0
theorem newF_0 {size p : Nat} (h : 20 ≤ p) : newF size p = 0 := by
  obtain ⟨q, rfl⟩ : ∃ q, p = q + 20 := ⟨p - 20, by omega⟩
  rfl
theorem newF_cases (size p : Nat) : newF size p = size ∨ newF size p ≤ 7001 := by
  by_cases e : 20 ≤ p
  · rw [newF_0 e]
    exact Or.inr (by decide)
  · rcases (show p = 0 ∨ p = 1 ∨ p = 2 ∨ p = 3 ∨ p = 4 ∨ p = 5 ∨ p = 6 ∨ p = 7 ∨ p = 8 ∨ p = 9 ∨ p = 10 ∨ p = 11 ∨ p = 12 ∨ p = 13 ∨ p = 14 ∨ p = 15 ∨ p = 16 ∨ p = 17 ∨ p = 18 ∨ p = 19 by omega) with rfl | rfl | rfl | rfl | rfl | rfl | rfl | rfl | rfl | rfl | rfl | rfl | rfl | rfl | rfl | rfl | rfl | rfl | rfl | rfl <;> first | exact Or.inl rfl | exact Or.inr (Nat.le_of_ble_eq_true rfl)
theorem fm_inv {w : Nat → Nat} {size : Nat} (h1 : 1 ≤ size) (h2 : size ≤ 64) (hw : ∀ p, w p < 4294967296) : Inv (fmW w size) fmU ∧ flg (fmW w size) fmU = fmW w size := by
  have hlow : ∀ p, p < 512 → fmW w size p = newF size p := fun p hp => if_pos hp
  have e2 : fmW w size 2 = size := hlow 2 (by decide)
  have e3 : fmW w size 3 = 3 := hlow 3 (by decide)
  have e4 : fmW w size 4 = 1 := hlow 4 (by decide)
  have e5 : fmW w size 5 = 0 := hlow 5 (by decide)
  have e6 : fmW w size 6 = 0 := hlow 6 (by decide)
  have ek : ∀ k, k < 8 → fmW w size (8 * 1 + k) = if k = 0 then 2 else 0 := fun k hk => by
    rw [hlow _ (by omega)]
    rcases (show k = 0 ∨ k = 1 ∨ k = 2 ∨ k = 3 ∨ k = 4 ∨ k = 5 ∨ k = 6 ∨ k = 7 by omega) with rfl | rfl | rfl | rfl | rfl | rfl | rfl | rfl <;> rfl
  have et : ∀ i, i < 8 → fmW w size (8 * 3 + i) = 0 := fun i hi => by rw [hlow _ (by omega)]; exact newF_0 (by omega)
  have hTB : ∀ t, TB (fmW w size) t → t = 3 := by
    rintro t (rfl | ⟨j, hj, -⟩)
    · exact e3
    · rw [e5] at hj; omega
  have hT : ∀ X, T (fmW w size) X = iv X 0 + iv 1 X + iv 2 X + iv 3 X := by
    intro X
    have ekc : kc (fmW w size) X = iv 2 X := by
      unfold kc
      rw [e4]
      have h3 : (sm 8 fun k => if fmW w size (8 * 1 + k) = 0 then 0 else iv (fmW w size (8 * 1 + k)) X) = sm 8 fun k => if k = 0 then iv 2 X else 0 := sm_congr fun k hk => by
        show (if fmW w size (8 * 1 + k) = 0 then 0 else iv (fmW w size (8 * 1 + k)) X) = if k = 0 then iv 2 X else 0
        rw [ek k hk]
        by_cases e : k = 0
        · rw [if_pos e, if_pos e, if_neg (by decide)]
        · rw [if_neg e, if_neg e, if_pos rfl]
      rw [h3]
      simp [sm]
    have etc : tc (fmW w size) X 3 = iv 3 X := by
      rw [tc_tl]
      have h3 : tl (fmW w size) X 3 = 0 := sm_zero fun i hi => by
        show lc (fmW w size) X (fmW w size (8 * 3 + i)) = 0
        rw [et i hi]
        rfl
      rw [h3]
      rfl
    unfold T
    rw [e3, e4, e5, e6, ekc, etc, if_pos rfl]
    simp only [sm]
    omega
  have hi : Inv (fmW w size) fmU := by
    refine ⟨⟨by rw [e2]; omega, by rw [e3]; decide, by rw [e4]; decide, by rw [e5]; exact ⟨by omega, fun h => absurd rfl h⟩, fun h => absurd e6 h, ?_, ?_, ?_⟩, ?_, ?_, ?_, ?_⟩
    · rw [e4]
      intro k hk h0
      rw [ek k hk] at h0 ⊢
      by_cases e : k = 0
      · rw [if_pos e, e]; decide
      · rw [if_neg e] at h0; exact absurd rfl h0
    · rw [e5]; intro j hj; omega
    · intro t ht i hi8
      rw [hTB t ht, et i hi8]
      exact Or.inl rfl
    · intro X hX
      rw [hT]
      unfold cnt
      rw [e4, ek _ (by omega)]
      by_cases e : X / 8 = 0
      · rw [if_pos e, if_neg (by decide), hlow _ (by omega)]
        rcases (show X = 0 ∨ X = 1 ∨ X = 2 ∨ X = 3 ∨ X = 4 ∨ X = 5 ∨ X = 6 ∨ X = 7 by omega) with rfl | rfl | rfl | rfl | rfl | rfl | rfl | rfl <;> rfl
      · rw [if_neg e, if_pos rfl, iv_ne (by omega), iv_ne (by omega), iv_ne (by omega), iv_ne (by omega)]
    · intro X hX h0 j hj
      rw [hT] at h0
      have hX4 : 4 ≤ X := by
        refine Classical.byContradiction fun h => ?_
        rcases (show X = 0 ∨ X = 1 ∨ X = 2 ∨ X = 3 by omega) with rfl | rfl | rfl | rfl <;> simp [iv] at h0
      rw [hlow _ (by omega)]
      exact newF_0 (by omega)
    · exact ⟨hlow 0 (by decide), hlow 1 (by decide), hlow 7 (by decide), fun h => absurd e6 h, by rw [e5]; intro i j hi; omega⟩
    · intro p
      unfold fmW
      split
      · rcases newF_cases size p with e | e <;> omega
      · exact hw p
  refine ⟨hi, ?_⟩
  funext p
  by_cases e : 1 ≤ p / 8 ∧ p / 8 < 64 ∧ TL fmU (p / 8)
  · rw [flg_in e]
    have h3 : p / 8 = 3 := by
      obtain ⟨e1, e2, e3⟩ := e
      unfold TL fmU at e3
      split at e3
      · omega
      · split at e3
        · omega
        · split at e3
          · assumption
          · omega
    have h4 := et (p % 8) (by omega)
    rw [show 8 * 3 + p % 8 = p by omega] at h4
    rw [h4]
    rfl
  · exact flg_out e
theorem c_format {j size : Nat} {w : Nat → Nat} (hw : h (10, j) = E w) : Cl (d + 1) MX0_format [vR (0, j), vI (nI size)] h none (hup h (10, j) (E (fmW w size))) := by
  refine rnN 2 rfl ?_
  refine rnH (hE0 (v := fun p => if p < 0 then 0 else w p) hw (by funext p; rw [if_neg (by omega)])) ?_
  refine lpN 512 (fun i => Rn (d + 1) MX0_format 2 [some (vR (0, j)), some (vI (nI size)), some (vI (nI i))] [] (hup h (10, j) (E fun p => if p < i then 0 else w p)) none (hup h (10, j) (E (fmW w size)))) (fun i hi K => ?_) ?_
  · refine rnN 2 rfl ?_
    refine rnT (nI_lt hi (by decide)) rfl ?_
    refine rnN 4 rfl ?_
    refine rnC (inN (show i < 512 by omega) (by decide)) rfl ?_
    simp (disch := omega) only [nI_add, pk_mul, pk_sub, nd8, nd4, nsub8, nand63, nand7, nshr2, nI_clamp, E_at, hup_at, hup_hup]
    rw [hpt_E hup_at, hup_hup]
    refine rnN 2 rfl ?_
    simp (disch := omega) only [nI_add, pk_mul, pk_sub, nd8, nd4, nsub8, nand63, nand7, nshr2, nI_clamp, E_at, hup_at, hup_hup]
    refine rnH ?_ K
    congr 2
    funext p
    simp only [up]
    by_cases e : p = i
    · rw [if_pos e, if_pos (by omega)]
    · rw [if_neg e]
      by_cases e2 : p < i
      · rw [if_pos e2, if_pos (by omega)]
      · rw [if_neg e2, if_neg (by omega)]
  · refine rnN 3 rfl ?_
    refine rnN 4 rfl ?_
    refine rnK rfl (c_hput (x := 7001) hup_at (show 0 < 8 by decide)) ?_
    rw [hup_hup]
    refine rnN 4 rfl ?_
    refine rnK rfl (c_hput (x := 1) hup_at (show 1 < 8 by decide)) ?_
    rw [hup_hup]
    refine rnN 4 rfl ?_
    refine rnK rfl (c_hput (x := size) hup_at (show 2 < 8 by decide)) ?_
    rw [hup_hup]
    refine rnN 4 rfl ?_
    refine rnK rfl (c_hput (x := 3) hup_at (show 3 < 8 by decide)) ?_
    rw [hup_hup]
    refine rnN 4 rfl ?_
    refine rnK rfl (c_hput (x := 1) hup_at (show 4 < 8 by decide)) ?_
    rw [hup_hup]
    refine rnN 4 rfl ?_
    refine rnK rfl (c_put (c := 1) (j := 0) (x := 2) hup_at (by decide) (by decide)) ?_
    rw [hup_hup]
    refine rnN 2 rfl ?_
    refine rnN 3 rfl ?_
    refine rnN 4 rfl ?_
    refine rnK rfl (c_put (c := 2) (j := 0) (x := 1) hup_at (by decide) (by decide)) ?_
    rw [hup_hup]
    refine rnN 2 rfl ?_
    refine rnN 3 rfl ?_
    refine rnN 4 rfl ?_
    refine rnK rfl (c_put (c := 2) (j := 1) (x := 1) hup_at (by decide) (by decide)) ?_
    rw [hup_hup]
    refine rnN 2 rfl ?_
    refine rnN 3 rfl ?_
    refine rnN 4 rfl ?_
    refine rnK rfl (c_put (c := 2) (j := 2) (x := 1) hup_at (by decide) (by decide)) ?_
    rw [hup_hup]
    refine rnN 2 rfl ?_
    refine rnN 3 rfl ?_
    refine rnN 4 rfl ?_
    refine rnK rfl (c_put (c := 2) (j := 3) (x := 1) hup_at (by decide) (by decide)) ?_
    rw [hup_hup]
    refine rnN 2 rfl ?_
    refine rnN 3 rfl ?_
    refine rn_eq ?_ (rnR rfl)
    congr 2
    funext p
    simp only [up, fmW]
    by_cases e : 20 ≤ p
    · rw [if_neg (by omega), if_neg (by omega), if_neg (by omega), if_neg (by omega), if_neg (by omega), if_neg (by omega), if_neg (by omega), if_neg (by omega), if_neg (by omega), if_neg (by omega)]
      split
      · exact (newF_0 e).symm
      · rfl
    · rcases (show p = 0 ∨ p = 1 ∨ p = 2 ∨ p = 3 ∨ p = 4 ∨ p = 5 ∨ p = 6 ∨ p = 7 ∨ p = 8 ∨ p = 9 ∨ p = 10 ∨ p = 11 ∨ p = 12 ∨ p = 13 ∨ p = 14 ∨ p = 15 ∨ p = 16 ∨ p = 17 ∨ p = 18 ∨ p = 19 by omega) with rfl | rfl | rfl | rfl | rfl | rfl | rfl | rfl | rfl | rfl | rfl | rfl | rfl | rfl | rfl | rfl | rfl | rfl | rfl | rfl <;> rfl
end OPG
