/-! ===== Image: what is read ===== -/
/-- the word for a block as a table has it; 0 where there is no leaf -/
def bwd (w : Nat → Nat) (t b : Nat) : Nat := if w (8 * t + b / 8) / 4 = 0 then 0 else w (8 * (w (8 * t + b / 8) / 4) + b % 8)
def awd (w : Nat → Nat) (b : Nat) : Nat := bwd w (w 3) b
/-- whether a word leads to a cluster that is led to once -/
def ow (w : Nat → Nat) (x : Nat) : Bool := decide (x / 4 ≠ 0 ∧ T w (x / 4) = 1)
def nLeaf (w : Nat → Nat) (b : Nat) : Nat := if ow w (w (8 * w 3 + b / 8)) = true then 0 else 1
def nClus (w : Nat → Nat) (b : Nat) : Nat := if ow w (awd w b) = true then 0 else 1
/-- what a word for a block shows, with the images below -/
def sh (W : Nat → Nat → Nat) : Nat → Nat → Nat → Nat
  | 0, y, a => if y / 4 = 0 then 0 else W 0 (8 * (y / 4) + a % 8)
  | k + 1, y, a => if y / 4 = 0 then (if y = 0 then sh W k (awd (W k) (a / 8)) a else 0) else W (k + 1) (8 * (y / 4) + a % 8)
theorem Str.bok {w u : Nat → Nat} (h : Str w u) {t b : Nat} (ht : TB w t) (hb : b < 64) : BOK (w 2) u (b / 8) (b % 8) (bwd w t b) := by
  unfold bwd
  split
  · exact Or.inl rfl
  · next hx => exact h.bw ht (by omega) (by omega) hx
theorem bw_lead {w : Nat → Nat} {t b : Nat} (h : bwd w t b / 4 ≠ 0) : w (8 * t + b / 8) / 4 ≠ 0 := by
  intro e
  unfold bwd at h
  rw [if_pos e] at h
  exact h rfl
theorem T_bw {w : Nat → Nat} {t b : Nat} (ht : TB w t) (hb : b < 64) (h : bwd w t b / 4 ≠ 0) : 1 ≤ T w (bwd w t b / 4) := by
  have hx := bw_lead h
  unfold bwd at h ⊢
  rw [if_neg hx] at h ⊢
  exact T_blk ht (by omega) (by omega) hx h
theorem act_tb {w : Nat → Nat} : TB w (w 3) := Or.inl rfl
theorem tab_tb {w : Nat → Nat} {j : Nat} (h : j < w 5) : TB w (tab w j) := Or.inr ⟨j, h, rfl⟩
section IM
variable {d k : Nat} {h : xH} {w u : Nat → Nat}
theorem c_isLead {x : Nat} (hx : x < 2147483648) : Cl d MX3_isLead [vI (nI x)] h (some (vI (nI (if 2 < x then 1 else 0)))) h := by
  refine rnN 2 rfl ?_
  refine rnB rfl (fun hc => ?_) (fun hc => ?_)
  · have hc : 2 < x := (nlt (by decide) hx).mp hc
    refine rnN 2 rfl ?_
    rw [if_pos hc]
    exact rnR rfl
  · have hc : ¬ 2 < x := fun e => hc ((nlt (by decide) hx).mpr e)
    refine rnN 1 rfl ?_
    rw [if_neg hc]
    exact rnR rfl
theorem c_clusterOf {x : Nat} (hx : x < 2147483648) : Cl d MX3_clusterOf [vI (nI x)] h (some (vI (nI (x / 4)))) h := by
  refine rnN 3 rfl ?_
  simp (disch := omega) only [nI_add, pk_mul, pk_sub, nd8, nd4, nsub8, nand63, nand7, nshr2, nI_clamp, E_at, hup_at, hup_hup]
  exact rnR rfl
theorem c_leadTo {c a : Nat} (ha : a ≤ 1) : Cl d MX3_leadTo [vI (nI c), vI (nI a)] h (some (vI (nI (4 * c + a)))) h := by
  rcases (show a = 0 ∨ a = 1 by omega) with rfl | rfl
  · refine rnN 7 rfl ?_
    simp (disch := omega) only [nI_add, pk_mul, pk_sub, nd8, nd4, nsub8, nand63, nand7, nshr2, nI_clamp, E_at, hup_at, hup_hup]
    exact rnR rfl
  · refine rnN 8 rfl ?_
    simp (disch := omega) only [nI_add, pk_mul, pk_sub, nd8, nd4, nsub8, nand63, nand7, nshr2, nI_clamp, E_at, hup_at, hup_hup]
    exact rnR rfl
theorem c_blocks (hw : h (10, k) = E w) : Cl (d + 1) MX1_blocks [vR (1, k)] h (some (vI (nI (w 2)))) h := by
  refine rnN 4 rfl ?_
  refine rnK rfl (c_hd hw (show 2 < 8 by decide)) ?_
  exact rnR rfl
theorem c_hasBlockT {b : Nat} (hw : h (10, k) = E w) (h2 : w 2 ≤ 64) (hb : b < w 2) : Cl (d + 2) MX1_hasBlock [vR (1, k), vI (nI b)] h (some (vI (nI 1))) h := by
  refine rnN 1 rfl ?_
  refine rnF (nlt0 (show b < 2147483648 by omega)) rfl ?_
  refine rnN 2 rfl ?_
  refine rnK rfl (c_blocks hw) ?_
  refine rnT (nI_lt hb (by omega)) rfl ?_
  refine rnN 2 rfl ?_
  exact rnR rfl
theorem c_hasBlockF {v : Int32} (hw : h (10, k) = E w) (hb : v < 0 ∨ nI (w 2) ≤ v) : Cl (d + 2) MX1_hasBlock [vR (1, k), vI v] h (some (vI (nI 0))) h := by
  refine rnN 1 rfl ?_
  by_cases h0 : v < 0
  · refine rnT (h0) rfl ?_
    refine rnN 1 rfl ?_
    exact rnR rfl
  · refine rnF (h0) rfl ?_
    refine rnN 2 rfl ?_
    refine rnK rfl (c_blocks hw) ?_
    refine rnF (Int32.not_lt.mpr (hb.resolve_left h0)) rfl ?_
    refine rnN 1 rfl ?_
    exact rnR rfl
theorem c_hasAddrT {a : Nat} (hw : h (10, k) = E w) (h2 : w 2 ≤ 64) (hb : a < 8 * w 2) : Cl (d + 2) MX1_hasAddress [vR (1, k), vI (nI a)] h (some (vI (nI 1))) h := by
  refine rnN 1 rfl ?_
  refine rnF (nlt0 (show a < 2147483648 by omega)) rfl ?_
  refine rnN 3 rfl ?_
  refine rnK rfl (c_blocks hw) ?_
  refine rnN 1 rfl ?_
  simp (disch := omega) only [nI_add, pk_mul, pk_sub, nd8, nd4, nsub8, nand63, nand7, nshr2, nI_clamp, E_at, hup_at, hup_hup]
  refine rnT (nI_lt hb (by omega)) rfl ?_
  refine rnN 2 rfl ?_
  exact rnR rfl
theorem c_hasAddrF {v : Int32} (hw : h (10, k) = E w) (hb : v < 0 ∨ nI (8 * w 2) ≤ v) : Cl (d + 2) MX1_hasAddress [vR (1, k), vI v] h (some (vI (nI 0))) h := by
  refine rnN 1 rfl ?_
  by_cases h0 : v < 0
  · refine rnT (h0) rfl ?_
    refine rnN 1 rfl ?_
    exact rnR rfl
  · refine rnF (h0) rfl ?_
    refine rnN 3 rfl ?_
    refine rnK rfl (c_blocks hw) ?_
    refine rnN 1 rfl ?_
    simp (disch := omega) only [nI_add, pk_mul, pk_sub, nd8, nd4, nsub8, nand63, nand7, nshr2, nI_clamp, E_at, hup_at, hup_hup]
    refine rnF (Int32.not_lt.mpr (hb.resolve_left h0)) rfl ?_
    refine rnN 1 rfl ?_
    exact rnR rfl
theorem c_activeTable (hw : h (10, k) = E w) : Cl (d + 1) MX1_activeTable [vR (1, k)] h (some (vI (nI (w 3)))) h := by
  refine rnN 4 rfl ?_
  refine rnK rfl (c_hd hw (show 3 < 8 by decide)) ?_
  exact rnR rfl
theorem c_leafLead {b : Nat} (hw : h (10, k) = E w) (h3 : w 3 < 64) (hb : b < 64) : Cl (d + 2) MX1_leafLead [vR (1, k), vI (nI b)] h (some (vI (nI (w (8 * w 3 + b / 8))))) h := by
  refine rnN 3 rfl ?_
  refine rnK rfl (c_activeTable hw) ?_
  refine rnN 3 rfl ?_
  simp (disch := omega) only [nI_add, pk_mul, pk_sub, nd8, nd4, nsub8, nand63, nand7, nshr2, nI_clamp, E_at, hup_at, hup_hup]
  refine rnK rfl (c_at hw h3 (show b / 8 < 8 by omega)) ?_
  exact rnR rfl
theorem c_blockWord {t b : Nat} (hw : h (10, k) = E w) (hi : Str w u) (ht : TB w t) (hb : b < 64) : Cl (d + 1) MX1_blockWord [vR (1, k), vI (nI t), vI (nI b)] h (some (vI (nI (bwd w t b)))) h := by
  have h1 := hi.tb ht
  have h2 := hi.tw ht (show b / 8 < 8 by omega)
  have h3 := h2.lt
  refine rnN 6 rfl ?_
  simp (disch := omega) only [nI_add, pk_mul, pk_sub, nd8, nd4, nsub8, nand63, nand7, nshr2, nI_clamp, E_at, hup_at, hup_hup]
  refine rnK rfl (c_at hw h1.2.1 (show b / 8 < 8 by omega)) ?_
  refine rnN 2 rfl ?_
  refine rnK rfl (c_isLead (show w (8 * t + b / 8) < 2147483648 by omega)) ?_
  by_cases hx : 2 < w (8 * t + b / 8)
  · rw [if_pos hx]
    have hx4 := h2.isLead.mp hx
    have hl := (h2.lead hx4).1.pos
    refine rnN 4 rfl ?_
    refine rnK rfl (c_clusterOf (show w (8 * t + b / 8) < 2147483648 by omega)) ?_
    refine rnN 3 rfl ?_
    simp (disch := omega) only [nI_add, pk_mul, pk_sub, nd8, nd4, nsub8, nand63, nand7, nshr2, nI_clamp, E_at, hup_at, hup_hup]
    refine rnK rfl (c_at hw hl.2 (show b % 8 < 8 by omega)) ?_
    refine rnN 1 rfl ?_
    unfold bwd
    rw [if_neg hx4]
    exact rnR rfl
  · rw [if_neg hx]
    have hx4 : w (8 * t + b / 8) / 4 = 0 := by
      by_cases e : w (8 * t + b / 8) / 4 = 0
      · exact e
      · exact absurd (h2.isLead.mpr e) hx
    refine rnN 2 rfl ?_
    unfold bwd
    rw [if_pos hx4]
    exact rnR rfl
theorem c_activeWord {b : Nat} (hw : h (10, k) = E w) (hi : Str w u) (hb : b < 64) : Cl (d + 2) MX1_activeWord [vR (1, k), vI (nI b)] h (some (vI (nI (awd w b)))) h := by
  refine rnN 2 rfl ?_
  refine rnK rfl (c_activeTable hw) ?_
  refine rnN 1 rfl ?_
  refine rnK rfl (c_blockWord hw hi act_tb hb) ?_
  exact rnR rfl
theorem c_isOwn {x : Nat} (hw : h (10, k) = E w) (hi : Inv w u) (hx : x < 256) (hl : 2 < x ↔ x / 4 ≠ 0) : Cl (d + 2) MX1_isOwn [vR (1, k), vI (nI x)] h (some (vI (nI (if ow w x = true then 1 else 0)))) h := by
  have hg := hi.cg
  refine rnN 1 rfl ?_
  refine rnK rfl (c_isLead (show x < 2147483648 by omega)) ?_
  by_cases h2 : 2 < x
  · rw [if_pos h2]
    have h4 := hl.mp h2
    refine rnN 4 rfl ?_
    refine rnK rfl (c_clusterOf (show x < 2147483648 by omega)) ?_
    refine rnK rfl (c_count hw (show x / 4 < 64 by omega) hg.1 (hg.2.1 _ (by omega))) ?_
    have hc := hg.2.2 (x / 4) (by omega)
    rw [hi.2.1 (x / 4) (by omega)] at hc ⊢
    refine rnN 1 rfl ?_
    refine rnB rfl (fun h1 => ?_) (fun h1 => ?_)
    · have h1 : T w (x / 4) = 1 := (neq (by omega) (by decide)).mp h1
      have e : ow w x = true := decide_eq_true ⟨h4, h1⟩
      rw [if_pos e]
      refine rnN 2 rfl ?_
      exact rnR rfl
    · have h1 : ¬ T w (x / 4) = 1 := fun e => h1 ((neq (by omega) (by decide)).mpr e)
      have e : ¬ ow w x = true := fun e => h1 (of_decide_eq_true e).2
      rw [if_neg e]
      refine rnN 1 rfl ?_
      exact rnR rfl
  · rw [if_neg h2]
    have e : ¬ ow w x = true := fun e => h2 (hl.mpr (of_decide_eq_true e).1)
    rw [if_neg e]
    refine rnN 2 rfl ?_
    exact rnR rfl
theorem c_leavesFor {b : Nat} (hw : h (10, k) = E w) (hi : Inv w u) (hb : b < 64) : Cl (d + 3) MX1_leavesFor [vR (1, k), vI (nI b)] h (some (vI (nI (nLeaf w b)))) h := by
  have h2 := hi.1.tw act_tb (show b / 8 < 8 by omega)
  refine rnN 3 rfl ?_
  refine rnK rfl (c_leafLead hw hi.1.act.2.1 hb) ?_
  refine rnK rfl (c_isOwn hw hi h2.lt h2.isLead) ?_
  unfold nLeaf
  by_cases hc : ow w (w (8 * w 3 + b / 8)) = true
  · rw [if_pos hc, if_pos hc]
    refine rnN 3 rfl ?_
    exact rnR rfl
  · rw [if_neg hc, if_neg hc]
    refine rnN 2 rfl ?_
    exact rnR rfl
theorem c_clustersFor {b : Nat} (hw : h (10, k) = E w) (hi : Inv w u) (hb : b < 64) : Cl (d + 3) MX1_clustersFor [vR (1, k), vI (nI b)] h (some (vI (nI (nClus w b)))) h := by
  have h2 := hi.1.bok act_tb hb
  refine rnN 3 rfl ?_
  refine rnK rfl (c_activeWord hw hi.1 hb) ?_
  refine rnK rfl (c_isOwn hw hi h2.lt h2.isLead) ?_
  unfold nClus
  by_cases hc : ow w (awd w b) = true
  · rw [if_pos hc, if_pos hc]
    refine rnN 3 rfl ?_
    exact rnR rfl
  · rw [if_neg hc, if_neg hc]
    refine rnN 2 rfl ?_
    exact rnR rfl
/-- whether a discard changes anything -/
def dch (k y : Nat) : Bool := decide (y / 4 ≠ 0 ∨ (y = 0 ∧ k ≠ 0))
theorem c_dropChanges {b : Nat} (hw : h (10, k) = E w) (hi : Str w u) (hb : b < 64) : Cl (d + 3) MX1_dropChanges [vR (1, k), vI (nI b)] h (some (vI (nI (if dch k (awd w b) = true then 1 else 0)))) h := by
  have h2 := hi.bok act_tb hb
  have h3 := h2.lt
  refine rnN 2 rfl ?_
  refine rnK rfl (c_activeWord hw hi hb) ?_
  refine rnN 2 rfl ?_
  refine rnK rfl (c_isLead (show awd w b < 2147483648 by unfold awd; omega)) ?_
  by_cases hx : 2 < awd w b
  · rw [if_pos hx]
    have e : dch k (awd w b) = true := decide_eq_true (Or.inl (h2.isLead.mp hx))
    rw [if_pos e]
    refine rnN 3 rfl ?_
    exact rnR rfl
  · rw [if_neg hx]
    have hx4 : awd w b / 4 = 0 := by
      by_cases e : awd w b / 4 = 0
      · exact e
      · exact absurd (h2.isLead.mpr e) hx
    rcases h2.flat hx4 with hy | hy
    · have hy : awd w b = 0 := hy
      rw [hy]
      cases k with
      | zero =>
        refine rnN 5 rfl ?_
        refine rnN 2 rfl ?_
        exact rnR rfl
      | succ k =>
        refine rnN 5 rfl ?_
        refine rnN 3 rfl ?_
        exact rnR rfl
    · have hy : awd w b = 2 := hy
      rw [hy]
      have e : ¬ dch k 2 = true := fun e => by
        have := of_decide_eq_true e
        omega
      rw [if_neg e]
      refine rnN 3 rfl ?_
      refine rnN 1 rfl ?_
      exact rnR rfl
end IM
