/-! ===== the reference: its file's words, its counts ===== -/
/-- file g of the words M becomes v -/
def pf (M : Nat → Nat) (g : Nat) (v : Nat → Nat) : Nat → Nat := fun q => if q / 512 = g then v (q % 512) else M q
/-- the counts a in a row of ints -/
def cf (f : Nat → Int32) (a : Nat → Nat) : Nat → Int32 := fun c => if c < 64 then nI (a c) else f c
/-- -1, 0, 1, .. -/
def jm : Nat → Int32
  | 0 => -1
  | n + 1 => nI n
/-- the active table, the snapshots' tables -/
def tbn (w : Nat → Nat) : Nat → Nat
  | 0 => w 3
  | j + 1 => tab w j
section M0
variable {d g : Nat} {h : xH} {M w v u a : Nat → Nat} {f : Nat → Int32}
theorem hpt_def {h : xH} {p : xP} {i : Nat} {x : Int32} : hpt h p i x = hup h p (upd (h p) i x) := rfl
theorem h12_14 {h : xH} {f : Nat → Int32} : hup h (14, 0) f (12, 0) = h (12, 0) := hup_ne (by decide)
theorem h14_12 {h : xH} {f : Nat → Int32} : hup h (12, 0) f (14, 0) = h (14, 0) := hup_ne (by decide)
theorem h12_15 {h : xH} {f : Nat → Int32} : hup h (15, 0) f (12, 0) = h (12, 0) := hup_ne (by decide)
theorem h15_12 {h : xH} {f : Nat → Int32} : hup h (12, 0) f (15, 0) = h (15, 0) := hup_ne (by decide)
theorem h14_15 {h : xH} {f : Nat → Int32} : hup h (15, 0) f (14, 0) = h (14, 0) := hup_ne (by decide)
theorem h15_14 {h : xH} {f : Nat → Int32} : hup h (14, 0) f (15, 0) = h (15, 0) := hup_ne (by decide)
theorem pf_at {p : Nat} (hp : p < 512) : pf M g w (512 * g + p) = w p := by
  unfold pf
  rw [if_pos (by omega)]
  congr 1
  omega
theorem pf_at2 {c j : Nat} (hp : 8 * c + j < 512) : pf M g w (512 * g + 8 * c + j) = w (8 * c + j) := by
  rw [show 512 * g + 8 * c + j = 512 * g + (8 * c + j) by omega]
  exact pf_at hp
theorem pf_ne {g2 p : Nat} (hp : p < 512) (hg : g2 ≠ g) : pf M g w (512 * g2 + p) = M (512 * g2 + p) := by
  unfold pf
  rw [if_neg (by omega)]
theorem pf_up {p x : Nat} (hp : p < 512) : up (pf M g w) (512 * g + p) x = pf M g (up w p x) := by
  funext q
  simp only [up, pf]
  by_cases e : q = 512 * g + p
  · rw [if_pos e, if_pos (by omega), if_pos (by omega)]
  · rw [if_neg e]
    by_cases e2 : q / 512 = g
    · rw [if_pos e2, if_pos e2, if_neg (by omega)]
    · rw [if_neg e2, if_neg e2]
theorem pf_congr (h : ∀ p, p < 512 → v p = w p) : pf M g v = pf M g w := by
  funext q
  unfold pf
  split
  · exact h _ (by omega)
  · rfl
theorem pf_pf : pf (pf M g v) g w = pf M g w := by
  funext q
  unfold pf
  split <;> rfl
theorem cf_at {X : Nat} (h : X < 64) : cf f a X = nI (a X) := if_pos h
theorem cf_cf {b : Nat → Nat} : cf (cf f a) b = cf f b := by
  funext c
  unfold cf
  split <;> rfl
theorem cf_congr {b : Nat → Nat} (h : ∀ X, X < 64 → a X = b X) : cf f a = cf f b := by
  funext c
  unfold cf
  split
  · next hc => rw [h c hc]
  · rfl
theorem cf_inc {X : Nat} (h : X < 64) : upd (cf f a) X (nI (a X + 1)) = cf f (fun Y => a Y + iv X Y) := by
  funext c
  simp only [upd, cf]
  by_cases e : c = X
  · rw [if_pos e, if_pos (by omega), e, iv_self]
  · rw [if_neg e]
    split
    · rw [iv_ne (fun e2 => e e2.symm)]
      rfl
    · rfl
theorem jm_succ (n : Nat) : jm n + nI 1 = jm (n + 1) := by
  cases n with
  | zero => rfl
  | succ n => exact nI_add n 1
theorem jm_lt {n s : Nat} (hn : n < s + 1) (hs : s < 1000) : jm n < nI s := by
  cases n with
  | zero => exact Int32.lt_of_lt_of_le (show (-1 : Int32) < 0 by decide) (nI_pos' (by omega))
  | succ n => exact nI_lt (by omega) (by omega)
theorem jm_nlt {s : Nat} (hs : s < 1000) : ¬ jm (s + 1) < nI s := nI_nlt (Nat.le_refl _) (by omega)
theorem tbn_tb {n : Nat} (hn : n ≤ w 5) : TB w (tbn w n) := by
  cases n with
  | zero => exact act_tb
  | succ n => exact tab_tb (by omega)
theorem Str.l6 (hs : Str w u) : w 6 < 64 := by
  by_cases e : w 6 = 0
  · omega
  · exact (hs.list e).1
/-- the due counts, the tables in a row -/
theorem T_rows (w : Nat → Nat) (X : Nat) : T w X = (iv X 0 + iv (w 4) X + kc w X + if w 6 = 0 then 0 else iv (w 6) X) + sm (w 5 + 1) fun n => tc w X (tbn w n) := by
  have h1 : ∀ n, (sm (n + 1) fun n => tc w X (tbn w n)) = tc w X (w 3) + sm n fun j => tc w X (tab w j) := by
    intro n
    induction n with
    | zero => simp only [sm, tbn]; omega
    | succ n ih =>
      rw [sm_succ (n := n + 1), ih, sm_succ (n := n)]
      show _ + tc w X (tab w n) = _
      omega
  rw [h1]
  unfold T
  omega
theorem m_at {c : Nat} : Cl d MX4_at [vI (nI g), vI (nI c)] h (some (vI (nI (512 * g + 8 * c)))) h := by
  refine rnN 7 rfl ?_
  simp (disch := omega) only [nI_add, pk_mul, pk_sub, nd8, nd4, nsub8, nand63, nand7, nshr2, nI_clamp, E_at, hup_at, hup_hup]
  exact rnR rfl
theorem m_sizeOf (hw : h (12, 0) = E (pf M g w)) (hg : g < 4) : Cl d MX4_sizeOf [vR (4, 0), vI (nI g)] h (some (vI (nI (w 2)))) h := by
  refine rnN 7 rfl ?_
  simp (disch := omega) only [nI_add, pk_mul, pk_sub, nd8, nd4, nsub8, nand63, nand7, nshr2, nI_clamp, E_at, hup_at, hup_hup, hpt_def, pf_at, pf_at2, cf_at, h12_14, h14_12, h12_15, h15_12, h14_15, h15_14]
  refine rnC (inN (show 512 * g + 2 < 2048 by omega) (by decide)) rfl ?_
  simp (disch := omega) only [nI_add, pk_mul, pk_sub, nd8, nd4, nsub8, nand63, nand7, nshr2, nI_clamp, E_at, hup_at, hup_hup, hpt_def, pf_at, pf_at2, cf_at, h12_14, h14_12, h12_15, h15_12, h14_15, h15_14, hw]
  exact rnR rfl
theorem m_snapshots (hw : h (12, 0) = E (pf M g w)) (hg : g < 4) : Cl d MX4_snapshots [vR (4, 0), vI (nI g)] h (some (vI (nI (w 5)))) h := by
  refine rnN 7 rfl ?_
  simp (disch := omega) only [nI_add, pk_mul, pk_sub, nd8, nd4, nsub8, nand63, nand7, nshr2, nI_clamp, E_at, hup_at, hup_hup, hpt_def, pf_at, pf_at2, cf_at, h12_14, h14_12, h12_15, h15_12, h14_15, h15_14]
  refine rnC (inN (show 512 * g + 5 < 2048 by omega) (by decide)) rfl ?_
  simp (disch := omega) only [nI_add, pk_mul, pk_sub, nd8, nd4, nsub8, nand63, nand7, nshr2, nI_clamp, E_at, hup_at, hup_hup, hpt_def, pf_at, pf_at2, cf_at, h12_14, h14_12, h12_15, h15_12, h14_15, h15_14, hw]
  exact rnR rfl
theorem m_table {n : Nat} (hw : h (12, 0) = E (pf M g w)) (hg : g < 4) (h6 : w 6 < 64) (hn : n ≤ 4) : Cl (d + 1) MX4_table [vR (4, 0), vI (nI g), vI (jm n)] h (some (vI (nI (512 * g + 8 * tbn w n)))) h := by
  refine rnN 8 rfl ?_
  simp (disch := omega) only [nI_add, pk_mul, pk_sub, nd8, nd4, nsub8, nand63, nand7, nshr2, nI_clamp, E_at, hup_at, hup_hup, hpt_def, pf_at, pf_at2, cf_at, h12_14, h14_12, h12_15, h15_12, h14_15, h15_14]
  refine rnC (inN (show 512 * g + 6 < 2048 by omega) (by decide)) rfl ?_
  simp (disch := omega) only [nI_add, pk_mul, pk_sub, nd8, nd4, nsub8, nand63, nand7, nshr2, nI_clamp, E_at, hup_at, hup_hup, hpt_def, pf_at, pf_at2, cf_at, h12_14, h14_12, h12_15, h15_12, h14_15, h15_14, hw]
  refine rnK rfl (m_at) ?_
  refine rnN 3 rfl ?_
  cases n with
  | zero =>
    refine rnN 8 rfl ?_
    simp (disch := omega) only [nI_add, pk_mul, pk_sub, nd8, nd4, nsub8, nand63, nand7, nshr2, nI_clamp, E_at, hup_at, hup_hup, hpt_def, pf_at, pf_at2, cf_at, h12_14, h14_12, h12_15, h15_12, h14_15, h15_14]
    refine rnC (inN (show 512 * g + 3 < 2048 by omega) (by decide)) rfl ?_
    simp (disch := omega) only [nI_add, pk_mul, pk_sub, nd8, nd4, nsub8, nand63, nand7, nshr2, nI_clamp, E_at, hup_at, hup_hup, hpt_def, pf_at, pf_at2, cf_at, h12_14, h14_12, h12_15, h15_12, h14_15, h15_14, hw]
    refine rnN 1 rfl ?_
    refine rnK rfl (m_at) ?_
    exact rnR rfl
  | succ n =>
    rw [show jm (n + 1) = nI n from rfl]
    refine rnF (nI_pos (show n < 2147483648 by omega)) rfl ?_
    refine rnN 7 rfl ?_
    simp (disch := omega) only [nI_add, pk_mul, pk_sub, nd8, nd4, nsub8, nand63, nand7, nshr2, nI_clamp, E_at, hup_at, hup_hup, hpt_def, pf_at, pf_at2, cf_at, h12_14, h14_12, h12_15, h15_12, h14_15, h15_14]
    refine rnC (inN (show 512 * g + 8 * w 6 + 2 * n < 2048 by omega) (by decide)) rfl ?_
    simp (disch := omega) only [nI_add, pk_mul, pk_sub, nd8, nd4, nsub8, nand63, nand7, nshr2, nI_clamp, E_at, hup_at, hup_hup, hpt_def, pf_at, pf_at2, cf_at, h12_14, h14_12, h12_15, h15_12, h14_15, h15_14, hw]
    refine rnK rfl (m_at) ?_
    exact rnR rfl
theorem m_countLeaf {l : Nat} (hw : h (12, 0) = E (pf M g w)) (hc : h (14, 0) = cf f a) (hg : g < 4) (hl : l < 64) (hb : ∀ j, j < 8 → w (8 * l + j) < 256) : Cl d MX4_countLeaf [vR (4, 0), vI (nI (512 * g + 8 * l))] h none (hup h (14, 0) (cf f fun X => a X + sm 8 fun j => bc X (w (8 * l + j)))) := by
  refine rnN 2 rfl ?_
  refine rnH (hup_self (f := cf f fun X => a X + sm 0 fun j => bc X (w (8 * l + j))) hc).symm ?_
  have go := lpN 8 (fun i => ∀ o3 : Option xV, Rn d MX4_countLeaf 2 [some (vR (4, 0)), some (vI (nI (512 * g + 8 * l))), some (vI (nI i)), o3] [] (hup h (14, 0) (cf f fun X => a X + sm i fun j => bc X (w (8 * l + j)))) none (hup h (14, 0) (cf f fun X => a X + sm 8 fun j => bc X (w (8 * l + j))))) (fun i hi K => ?_) ?_
  · exact go none
  · intro o3
    have hbi := hb i hi
    refine rnN 2 rfl ?_
    refine rnT (nI_lt hi (by decide)) rfl ?_
    refine rnN 5 rfl ?_
    simp (disch := omega) only [nI_add, pk_mul, pk_sub, nd8, nd4, nsub8, nand63, nand7, nshr2, nI_clamp, E_at, hup_at, hup_hup, hpt_def, pf_at, pf_at2, cf_at, h12_14, h14_12, h12_15, h15_12, h14_15, h15_14]
    refine rnC (inN (show 512 * g + 8 * l + i < 2048 by omega) (by decide)) rfl ?_
    simp (disch := omega) only [nI_add, pk_mul, pk_sub, nd8, nd4, nsub8, nand63, nand7, nshr2, nI_clamp, E_at, hup_at, hup_hup, hpt_def, pf_at, pf_at2, cf_at, h12_14, h14_12, h12_15, h15_12, h14_15, h15_14, hw]
    refine rnN 4 rfl ?_
    simp (disch := omega) only [nI_add, pk_mul, pk_sub, nd8, nd4, nsub8, nand63, nand7, nshr2, nI_clamp, E_at, hup_at, hup_hup, hpt_def, pf_at, pf_at2, cf_at, h12_14, h14_12, h12_15, h15_12, h14_15, h15_14]
    by_cases h0 : w (8 * l + i) / 4 = 0
    · rw [h0]
      refine rnN 3 rfl ?_
      simp (disch := omega) only [nI_add, pk_mul, pk_sub, nd8, nd4, nsub8, nand63, nand7, nshr2, nI_clamp, E_at, hup_at, hup_hup, hpt_def, pf_at, pf_at2, cf_at, h12_14, h14_12, h12_15, h15_12, h14_15, h15_14]
      refine rnH ?_ (K _)
      congr 2
      funext X
      rw [sm_succ]
      unfold bc
      rw [if_pos h0]
      rfl
    · refine rnT ((n0lt (show w (8 * l + i) / 4 < 2147483648 by omega)).mpr (by omega)) rfl ?_
      refine rnN 4 rfl ?_
      refine rnC (inN (show w (8 * l + i) / 4 < 64 by omega) (by decide)) rfl ?_
      simp (disch := omega) only [nI_add, pk_mul, pk_sub, nd8, nd4, nsub8, nand63, nand7, nshr2, nI_clamp, E_at, hup_at, hup_hup, hpt_def, pf_at, pf_at2, cf_at, h12_14, h14_12, h12_15, h15_12, h14_15, h15_14]
      refine rnN 2 rfl ?_
      simp (disch := omega) only [nI_add, pk_mul, pk_sub, nd8, nd4, nsub8, nand63, nand7, nshr2, nI_clamp, E_at, hup_at, hup_hup, hpt_def, pf_at, pf_at2, cf_at, h12_14, h14_12, h12_15, h15_12, h14_15, h15_14]
      refine rnC (inN (show w (8 * l + i) / 4 < 64 by omega) (by decide)) rfl ?_
      simp (disch := omega) only [nI_add, pk_mul, pk_sub, nd8, nd4, nsub8, nand63, nand7, nshr2, nI_clamp, E_at, hup_at, hup_hup, hpt_def, pf_at, pf_at2, cf_at, h12_14, h14_12, h12_15, h15_12, h14_15, h15_14]
      rw [cf_inc (show w (8 * l + i) / 4 < 64 by omega)]
      refine rnN 2 rfl ?_
      simp (disch := omega) only [nI_add, pk_mul, pk_sub, nd8, nd4, nsub8, nand63, nand7, nshr2, nI_clamp, E_at, hup_at, hup_hup, hpt_def, pf_at, pf_at2, cf_at, h12_14, h14_12, h12_15, h15_12, h14_15, h15_14]
      refine rnH ?_ (K _)
      congr 2
      funext X
      rw [sm_succ]
      unfold bc
      rw [if_neg h0]
      omega
  · intro o3
    refine rnN 3 rfl ?_
    exact rnR rfl
end M0
