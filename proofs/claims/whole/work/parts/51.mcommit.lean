/-! ===== the reference: copyFile, commit ===== -/
section MC
variable {d b k n : Nat} {h H : xH} {M N wu w0 V u v w : Nat → Nat} {W U : Nat → Nat → Nat} {f s : Nat → Int32}
theorem m_copyFile {i j : Nat} {x : Nat → Nat} (hN : ∀ p, p < 512 → N (512 * i + p) = x p) (hi : i < 4) (hj : j < 4) (hne : i ≠ j) : Cl d MX4_copyFile [vR (4, 0), vI (nI i), vI (nI j)] (mh h f N) none (mh h f (pf N j x)) := by
  obtain ⟨w, hw⟩ : ∃ w : Nat → Nat, w = fun p => N (512 * j + p) := ⟨_, rfl⟩
  have hNw : pf N j w = N := pf_self fun p _ => by rw [hw]
  refine rnN 2 rfl ?_
  have e0 : mh h f N = mh h f (pf N j fun p => if p < 0 then x p else w p) := by
    rw [pf_congr (v := fun p => if p < 0 then x p else w p) (w := w) (fun p _ => by rw [if_neg (by omega)]), hNw]
  refine rnH e0 ?_
  refine lpN 512 (fun m => Rn d MX4_copyFile 2 [some (vR (4, 0)), some (vI (nI i)), some (vI (nI j)), some (vI (nI m))] [] (mh h f (pf N j fun p => if p < m then x p else w p)) none (mh h f (pf N j x))) (fun m hm K => ?_) ?_
  · refine rnN 2 rfl ?_
    refine rnT (nI_lt hm (by decide)) rfl ?_
    refine rnN 14 rfl ?_
    simp (disch := omega) only [nI_add, pk_mul, pk_sub, nd8, nd4, nsub8, nand63, nand7, nshr2, nI_clamp, E_at, hup_at, hup_hup, hpt_def, pf_at, pf_at2, cf_at, h12_14, h14_12, h12_15, h15_12, h14_15, h15_14]
    refine rnC (inN (show 512 * i + m < 2048 by omega) (by decide)) rfl ?_
    simp (disch := omega) only [nI_add, pk_mul, pk_sub, nd8, nd4, nsub8, nand63, nand7, nshr2, nI_clamp, E_at, hup_at, hup_hup, hpt_def, pf_at, pf_at2, cf_at, h12_14, h14_12, h12_15, h15_12, h14_15, h15_14, mh_12]
    rw [pf_ne hm hne, hN m hm]
    refine rnC (inN (show 512 * j + m < 2048 by omega) (by decide)) rfl ?_
    simp (disch := omega) only [nI_clamp, mhpt]
    rw [pf_up hm]
    refine rnN 2 rfl ?_
    simp (disch := omega) only [nI_add, pk_mul, pk_sub, nd8, nd4, nsub8, nand63, nand7, nshr2, nI_clamp, E_at, hup_at, hup_hup, hpt_def, pf_at, pf_at2, cf_at, h12_14, h14_12, h12_15, h15_12, h14_15, h15_14]
    refine rnH ?_ K
    congr 2
    funext p
    simp only [up]
    by_cases e : p = m
    · rw [if_pos e, if_pos (by omega), e]
    · rw [if_neg e]
      by_cases e2 : p < m
      · rw [if_pos e2, if_pos (by omega)]
      · rw [if_neg e2, if_neg (by omega)]
  · rw [pf_congr (v := fun p => if p < 512 then x p else w p) (w := x) (fun p hp => if_pos hp)]
    refine rnN 3 rfl ?_
    exact rnR rfl
theorem cmK_le : ∀ n, cmK b wu w0 n ≤ 2 * n := by
  intro n
  induction n with
  | zero => exact Nat.le_refl _
  | succ n ih =>
    rw [cmK]
    have h1 := nClus_le w0 n
    have h2 := nLeaf_le w0 n
    split <;> split <;> omega
theorem cmD_le (wu : Nat → Nat) (n : Nat) : cmD wu n ≤ n := by
  unfold cmD
  have h1 := sm_le (n := n) (f := fun m => if awd wu m = 0 then 0 else 1) (g := fun _ => 1) (fun m _ => by
    show (if awd wu m = 0 then 0 else 1) ≤ 1
    split <;> omega)
  rw [sm_const] at h1
  omega
theorem flg_cpc {V2 u2 : Nat → Nat} (hI : Inv V2 u2) {c a : Nat} (h1 : 1 ≤ c) (h2 : 24 ≤ u2 c) (h3 : T V2 c ≠ 0) (hub : ∀ p, wu p < 4294967296) : Inv (cpc V2 wu a c) u2 ∧ ∀ p, flg (cpc V2 wu a c) u2 p = if p / 8 = c then wu (8 * a + p % 8) else flg V2 u2 p := by
  have hcp : ∀ p, p / 8 ≠ c → cpc V2 wu a c p = V2 p := fun p hp => by unfold cpc; rw [if_neg hp]
  obtain ⟨hI3, hT⟩ := data_inv (v := cpc V2 wu a c) hI h1 h2 h3 hcp (fun p => by
    unfold cpc
    split
    · exact hub _
    · exact hI.2.2.2.2 p)
  refine ⟨hI3, fun p => ?_⟩
  by_cases e : p / 8 = c
  · rw [if_pos e, flg_out (fun z => by rw [e] at z; have := z.2.2; unfold TL at this; omega)]
    unfold cpc
    rw [if_pos e]
  · rw [if_neg e]
    by_cases e2 : 1 ≤ p / 8 ∧ p / 8 < 64 ∧ TL u2 (p / 8)
    · rw [flg_in e2, flg_in e2, hcp p e, mk_congr hT]
    · rw [flg_out e2, flg_out e2, hcp p e]
theorem mh_side {s' : Nat → Int32} {f' : Nat → Int32} {N' : Nat → Nat} : mh (hup (mh (hup H (15, 0) s) f N) (15, 0) s') f' N' = mh (hup H (15, 0) s') f' N' := by
  rw [mh_15, mh_mh, hup_hup]
theorem jm_two (b : Nat) : nI (b + 1) - nI 2 = jm b := by
  cases b with
  | zero => rfl
  | succ b =>
    rw [pk_sub (by omega)]
    rfl
/-- the reference's loop with more taken than there was room for -/
theorem mc_over {t fr done : Nat} {o7 o8 o9 : Option xV} {tt : Int32} {uu : Nat → Nat} {Hc : xH} {x : Nat → Nat} (hH : Hc (12, 0) = E (pf N 3 x)) (hk : k < 3) (hNk : ∀ p, p < 512 → N (512 * k + p) = wu p) (hs : Str wu uu) (hn : n ≤ 64) (ht : fr < t) (ht2 : t < 100000) :
    Rn (d + 1) MX4_commit 71 [some (vR (4, 0)), some (vI (nI k)), some (vI (nI fr)), some (vI tt), some (vI (nI t)), some (vI (nI done)), some (vI (nI n)), o7, o8, o9] [] Hc (some (vI (-2))) Hc := by
  have hHk : Hc (12, 0) = E (pf (pf N 3 x) k wu) := by
    rw [hH, pf_self (N := pf N 3 x) (j := k) (v := wu) (fun p hp => by rw [pf_ne hp (by omega)]; exact hNk p hp)]
  have K222 : Rn (d + 1) MX4_commit 222 [some (vR (4, 0)), some (vI (nI k)), some (vI (nI fr)), some (vI tt), some (vI (nI t)), some (vI (nI done)), some (vI (nI n)), o7, o8, o9] [] Hc (some (vI (-2))) Hc := by
    refine rnN 2 rfl ?_
    refine rnT (nI_lt ht (by omega)) rfl ?_
    refine rnN 1 rfl ?_
    exact rnR rfl
  have hsz := hs.sz
  refine rnN 3 rfl ?_
  refine rnK rfl (m_sizeOf hHk (show k < 4 by omega)) ?_
  by_cases hlt : n < wu 2
  · refine rnT (nI_lt hlt (by omega)) rfl ?_
    refine rnN 2 rfl ?_
    refine rnT (nI_lt ht (by omega)) rfl ?_
    exact K222
  · refine rnF (nI_nlt (Nat.le_of_not_lt hlt) (by omega)) rfl ?_
    exact K222
/-- a round's begin: the block's word in the upper image -/
theorem mc_head {t fr done : Nat} {o7 o8 o9 : Option xV} {uu : Nat → Nat} {Hc hf : xH} {r : Option xV} {x : Nat → Nat} (hH : Hc (12, 0) = E (pf N 3 x)) (hk : k < 3) (hNk : ∀ p, p < 512 → N (512 * k + p) = wu p) (hs : Str wu uu) (hn : n < wu 2) (ht : t ≤ fr) (ht2 : fr < 100000)
    (K : Rn 8 MX4_commit 95 [some (vR (4, 0)), some (vI (nI k)), some (vI (nI fr)), some (vI (nI (512 * k + 8 * wu 3))), some (vI (nI t)), some (vI (nI done)), some (vI (nI n)), o7, o8, o9] [vI (nI (awd wu n))] Hc r hf) :
    Rn 8 MX4_commit 71 [some (vR (4, 0)), some (vI (nI k)), some (vI (nI fr)), some (vI (nI (512 * k + 8 * wu 3))), some (vI (nI t)), some (vI (nI done)), some (vI (nI n)), o7, o8, o9] [] Hc r hf := by
  have hHk : Hc (12, 0) = E (pf (pf N 3 x) k wu) := by
    rw [hH, pf_self (N := pf N 3 x) (j := k) (v := wu) (fun p hp => by rw [pf_ne hp (by omega)]; exact hNk p hp)]
  have hsz := hs.sz
  refine rnN 3 rfl ?_
  refine rnK rfl (m_sizeOf hHk (show k < 4 by omega)) ?_
  refine rnT (nI_lt hn (by omega)) rfl ?_
  refine rnN 2 rfl ?_
  refine rnF (nI_nlt ht (by omega)) rfl ?_
  refine rnN 4 rfl ?_
  refine rnK rfl (m_entry hHk (show k < 4 by omega) hs act_tb (show n < 64 by omega)) ?_
  exact K
/-- own has been called: up to the copying of the block's words -/
theorem mc_lead {t fr done t1 : Nat} {o7 o8 o9 : Option xV} {uu X uX : Nat → Nat} {Hc H1 hf : xH} {r : Option xV} (hs : Str wu uu) (hk1 : k = b + 1) (hk : k < 3) (hn : n < wu 2) (h4 : awd wu n / 4 ≠ 0) (hown : Cl 7 MX4_own [vR (4, 0), vI (nI 3), vI (jm b), vI (nI n)] Hc (some (vI (nI t1))) H1) (hX : H1 (12, 0) = E (pf N 3 (flg X uX))) (hiX : Inv X uX)
    (K : Rn 8 MX4_commit 164 [some (vR (4, 0)), some (vI (nI k)), some (vI (nI fr)), some (vI (nI (512 * k + 8 * wu 3))), some (vI (nI (t + t1))), some (vI (nI done)), some (vI (nI n)), some (vI (nI (awd wu n))), some (vI (nI (awd (flg X uX) n / 4))), some (vI (nI 0))] [] H1 r hf) :
    Rn 8 MX4_commit 95 [some (vR (4, 0)), some (vI (nI k)), some (vI (nI fr)), some (vI (nI (512 * k + 8 * wu 3))), some (vI (nI t)), some (vI (nI done)), some (vI (nI n)), o7, o8, o9] [vI (nI (awd wu n))] Hc r hf := by
  have hsz := hs.sz
  have hy := hs.bok act_tb (show n < 64 by omega)
  have hyl : awd wu n < 256 := hy.lt
  have hsX := (flg_inv hiX).1.1
  have hXl : awd (flg X uX) n < 256 := (hsX.bok act_tb (show n < 64 by omega)).lt
  refine rnN 3 rfl ?_
  refine rnF ((show ¬ nI (awd wu n) = nI 2 from fun e => by have := (neq (by omega) (by decide)).mp e; omega)) rfl ?_
  refine rnN 1 rfl ?_
  refine rnF (nI_ne0 (show 0 < awd wu n by omega) (by omega)) rfl ?_
  refine rnN 6 rfl ?_
  rw [hk1, jm_two, ← hk1]
  refine rnN 1 rfl ?_
  refine rnK rfl (hown) ?_
  refine rnN 7 rfl ?_
  simp (disch := omega) only [nI_add, pk_mul, pk_sub, nd8, nd4, nsub8, nand63, nand7, nshr2, nI_clamp, E_at, hup_at, hup_hup]
  refine rnK rfl (m_table (n := 0) hX (show 3 < 4 by decide) hsX.l6 (by decide)) ?_
  rw [show tbn (flg X uX) 0 = flg X uX 3 from rfl]
  refine rnN 1 rfl ?_
  refine rnK rfl (m_entry hX (show 3 < 4 by decide) hsX act_tb (show n < 64 by omega)) ?_
  rw [show bwd (flg X uX) (flg X uX 3) n = awd (flg X uX) n from rfl]
  refine rnN 5 rfl ?_
  simp (disch := omega) only [nI_add, pk_mul, pk_sub, nd8, nd4, nsub8, nand63, nand7, nshr2, nI_clamp, E_at, hup_at, hup_hup, hpt_def, pf_at, pf_at2, cf_at, h12_14, h14_12, h12_15, h15_12, h14_15, h15_14]
  exact K
/-- too much was taken: no words are copied -/
theorem mc_leadF {t fr done : Nat} {c : Nat} {uu : Nat → Nat} {Hc : xH} {x : Nat → Nat} (hH : Hc (12, 0) = E (pf N 3 x)) (hk : k < 3) (hNk : ∀ p, p < 512 → N (512 * k + p) = wu p) (hs : Str wu uu) (hn : n < wu 2) (ht : fr < t) (ht2 : t < 100000) :
    Rn 8 MX4_commit 164 [some (vR (4, 0)), some (vI (nI k)), some (vI (nI fr)), some (vI (nI (512 * k + 8 * wu 3))), some (vI (nI t)), some (vI (nI done)), some (vI (nI n)), some (vI (nI (awd wu n))), some (vI (nI c)), some (vI (nI 0))] [] Hc (some (vI (-2))) Hc := by
  have hsz := hs.sz
  refine rnN 3 rfl ?_
  refine rnN 2 rfl ?_
  refine rnT (nI_lt ht (by omega)) rfl ?_
  refine rnN 1 rfl ?_
  refine rnN 2 rfl ?_
  simp (disch := omega) only [nI_add, pk_mul, pk_sub, nd8, nd4, nsub8, nand63, nand7, nshr2, nI_clamp, E_at, hup_at, hup_hup]
  exact mc_over hH hk hNk hs (by omega) ht ht2
end MC
