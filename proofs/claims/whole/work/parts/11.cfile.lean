/-! ===== ClusterFile ===== -/
/-- a sum of n numbers -/
def sm : Nat → (Nat → Nat) → Nat
  | 0, _ => 0
  | n + 1, f => sm n f + f n
theorem sm_succ {n : Nat} {f : Nat → Nat} : sm (n + 1) f = sm n f + f n := rfl
/-- the count of a cluster, as the file has it -/
def cnt (w : Nat → Nat) (c : Nat) : Nat := if w (8 * w 4 + c / 8) = 0 then 0 else w (8 * w (8 * w 4 + c / 8) + c % 8)
/-- the places of counts are places of the file, and the counts are small -/
def CG (w : Nat → Nat) : Prop := w 4 < 64 ∧ (∀ k, k < 8 → w (8 * w 4 + k) < 64) ∧ ∀ c, c < 64 → cnt w c < 1000
def setc (w : Nat → Nat) (c b : Nat) : Nat → Nat := up w (8 * w (8 * w 4 + c / 8) + c % 8) b
def zc (w : Nat → Nat) (c : Nat) : Nat → Nat := fun p => if p / 8 = c then 0 else w p
/-- a count becomes b -/
def adc (w : Nat → Nat) (c b : Nat) : Nat → Nat := if b = 0 then zc (setc w c b) c else setc w c b
/-- cluster b becomes a copy of cluster a of another file -/
def cpc (w v : Nat → Nat) (a b : Nat) : Nat → Nat := fun p => if p / 8 = b then v (8 * a + p % 8) else w p
def inUse (w : Nat → Nat) : Nat := sm 64 fun c => if 0 < cnt w c then 1 else 0
def noKeep (w : Nat → Nat) : Nat := sm 8 fun k => if w (8 * w 4 + k) = 0 then 1 else 0
/-- c is the least free cluster (63 when there is none) -/
def LF (w : Nat → Nat) (c : Nat) : Prop := 1 ≤ c ∧ c ≤ 63 ∧ (∀ x, 1 ≤ x → x < c → 0 < cnt w x) ∧ (c = 63 ∨ cnt w c = 0)
theorem sm_le {n : Nat} {f g : Nat → Nat} (h : ∀ i, i < n → f i ≤ g i) : sm n f ≤ sm n g := by
  induction n with
  | zero => exact Nat.le_refl _
  | succ n ih =>
    have h1 := ih (fun i hi => h i (Nat.lt_succ_of_lt hi))
    have h2 := h n (Nat.lt_succ_self n)
    simp only [sm]
    omega
theorem sm_congr {n : Nat} {f g : Nat → Nat} (h : ∀ i, i < n → f i = g i) : sm n f = sm n g := by
  induction n with
  | zero => rfl
  | succ n ih =>
    have h1 := ih (fun i hi => h i (Nat.lt_succ_of_lt hi))
    have h2 := h n (Nat.lt_succ_self n)
    simp only [sm]
    omega
theorem sm_add {n : Nat} {f g : Nat → Nat} : sm n (fun i => f i + g i) = sm n f + sm n g := by
  induction n with
  | zero => rfl
  | succ n ih => simp only [sm]; omega
theorem sm_const {n a : Nat} : sm n (fun _ => a) = n * a := by
  induction n with
  | zero => simp [sm]
  | succ n ih => simp only [sm, ih, Nat.succ_mul]
/-- a sum over 8 * n in groups of eight -/
theorem sm_grp {n : Nat} {f : Nat → Nat} : sm (8 * n) f = sm n fun k => sm 8 fun j => f (8 * k + j) := by
  induction n with
  | zero => rfl
  | succ n ih =>
    rw [show 8 * (n + 1) = 8 * n + 1 + 1 + 1 + 1 + 1 + 1 + 1 + 1 by omega]
    have e : sm (n + 1) (fun k => sm 8 fun j => f (8 * k + j)) = sm n (fun k => sm 8 fun j => f (8 * k + j)) + sm 8 fun j => f (8 * n + j) := rfl
    rw [e, ← ih]
    simp only [sm, Nat.add_zero]
    omega
theorem noKeep_le (w : Nat → Nat) : noKeep w + inUse w ≤ 64 := by
  unfold noKeep inUse
  rw [show (64 : Nat) = 8 * 8 from rfl, sm_grp, ← sm_add]
  have h := sm_le (n := 8) (f := fun i => (if w (8 * w 4 + i) = 0 then 1 else 0) + sm 8 fun j => if 0 < cnt w (8 * i + j) then 1 else 0) (g := fun _ => 8) (fun i _ => by
    by_cases hq : w (8 * w 4 + i) = 0
    · rw [if_pos hq]
      have e : (sm 8 fun j => if 0 < cnt w (8 * i + j) then 1 else 0) = sm 8 fun _ => 0 := sm_congr fun j hj => by
        have hz : cnt w (8 * i + j) = 0 := by
          unfold cnt
          rw [ix_div hj, if_pos hq]
        rw [hz]
        rfl
      rw [e, sm_const]
      omega
    · rw [if_neg hq]
      have e := sm_le (n := 8) (f := fun j => if 0 < cnt w (8 * i + j) then 1 else 0) (g := fun _ => 1) (fun j _ => by
        show (if 0 < cnt w (8 * i + j) then 1 else 0) ≤ 1
        split <;> omega)
      rw [sm_const] at e
      omega)
  rw [sm_const] at h
  exact h
section CF
variable {d k : Nat} {h : xH} {w : Nat → Nat}
theorem c_at {c j : Nat} (hw : h (10, k) = E w) (hc : c < 64) (hj : j < 8) : Cl d MX0_at [vR (0, k), vI (nI c), vI (nI j)] h (some (vI (nI (w (8 * c + j))))) h := by
  refine rnN 11 rfl ?_
  simp (disch := omega) only [nI_add, pk_mul, pk_sub, nd8, nd4, nsub8, nand63, nand7, nshr2, nI_clamp, E_at, hup_at, hup_hup]
  have e : c * 8 + j = 8 * c + j := by omega
  rw [e]
  refine rnC (inN (show 8 * c + j < 512 by omega) (by decide)) rfl ?_
  simp (disch := omega) only [nI_add, pk_mul, pk_sub, nd8, nd4, nsub8, nand63, nand7, nshr2, nI_clamp, E_at, hup_at, hup_hup, hw]
  exact rnR rfl
theorem c_hd {j : Nat} (hw : h (10, k) = E w) (hj : j < 8) : Cl d MX0_at [vR (0, k), vI (nI 0), vI (nI j)] h (some (vI (nI (w j)))) h := by
  have h1 := c_at (d := d) (c := 0) hw (by decide) hj
  rw [show 8 * 0 + j = j by omega] at h1
  exact h1
theorem c_put {c j x : Nat} (hw : h (10, k) = E w) (hc : c < 64) (hj : j < 8) : Cl d MX0_put [vR (0, k), vI (nI c), vI (nI j), vI (nI x)] h none (hup h (10, k) (E (up w (8 * c + j) x))) := by
  refine rnN 12 rfl ?_
  simp (disch := omega) only [nI_add, pk_mul, pk_sub, nd8, nd4, nsub8, nand63, nand7, nshr2, nI_clamp, E_at, hup_at, hup_hup]
  have e : c * 8 + j = 8 * c + j := by omega
  rw [e]
  refine rnC (inN (show 8 * c + j < 512 by omega) (by decide)) rfl ?_
  simp (disch := omega) only [nI_add, pk_mul, pk_sub, nd8, nd4, nsub8, nand63, nand7, nshr2, nI_clamp, E_at, hup_at, hup_hup]
  rw [hpt_E hw]
  exact rnR rfl
theorem c_becomeLike {k2 : Nat} : Cl d MX0_becomeLike [vR (0, k), vR (0, k2)] h none (hup h (10, k) (va_cpy (h (10, k2)) (h (10, k)) 0 0 512)) := by
  refine rnN 7 rfl ?_
  refine rnC (c := (nI 512 = 512 ∧ nI 0 = 0 ∧ nI 0 = 0)) ⟨rfl, rfl, rfl⟩ rfl ?_
  exact rnR rfl
theorem c_copySame {a b : Nat} (hw : h (10, k) = E w) (ha : a < 64) (hb : b < 64) (hn : a ≠ b) : Cl (d + 1) MX0_copyCluster [vR (0, k), vR (0, k), vI (nI a), vI (nI b)] h none (hup h (10, k) (E (cpc w w a b))) := by
  refine rnN 2 rfl ?_
  refine rnH (hE0 (v := fun p => if p / 8 = b ∧ p % 8 < 0 then w (8 * a + p % 8) else w p) hw (by funext p; rw [if_neg (by omega)])) ?_
  refine lpN 8 (fun i => Rn (d + 1) MX0_copyCluster 3 [some (vR (0, k)), some (vR (0, k)), some (vI (nI a)), some (vI (nI b)), some (vI (nI i))] [] (hup h (10, k) (E fun p => if p / 8 = b ∧ p % 8 < i then w (8 * a + p % 8) else w p)) none (hup h (10, k) (E (cpc w w a b)))) (fun i hi K => ?_) ?_
  · refine rnN 2 rfl ?_
    refine rnT (nI_lt hi (by decide)) rfl ?_
    refine rnN 6 rfl ?_
    refine rnK rfl (c_at hup_at ha hi) ?_
    refine rnK rfl (c_put hup_at hb hi) ?_
    refine rnN 2 rfl ?_
    simp (disch := omega) only [nI_add, pk_mul, pk_sub, nd8, nd4, nsub8, nand63, nand7, nshr2, nI_clamp, E_at, hup_at, hup_hup]
    refine rnH ?_ K
    congr 2
    funext p
    simp only [up]
    by_cases hp : p = 8 * b + i
    · subst hp
      rw [if_pos rfl, if_neg (by omega), if_pos (by omega), ix_mod hi]
    · rw [if_neg hp]
      by_cases h2 : p / 8 = b ∧ p % 8 < i
      · rw [if_pos h2, if_pos (by omega)]
      · rw [if_neg h2, if_neg (by omega)]
  · refine rnN 3 rfl ?_
    refine rnH ?_ (rnR rfl)
    congr 2
    funext p
    simp only [cpc]
    by_cases h2 : p / 8 = b
    · rw [if_pos h2, if_pos (by omega)]
    · rw [if_neg h2, if_neg (by omega)]
theorem c_copyOther {k2 a b : Nat} {v : Nat → Nat} (hw : h (10, k) = E w) (hv : h (10, k2) = E v) (ha : a < 64) (hb : b < 64) (hn : k2 ≠ k) : Cl (d + 1) MX0_copyCluster [vR (0, k), vR (0, k2), vI (nI a), vI (nI b)] h none (hup h (10, k) (E (cpc w v a b))) := by
  refine rnN 2 rfl ?_
  have hne : ((10, k2) : xP) ≠ (10, k) := fun e => hn (by injection e)
  refine rnH (hE0 (v := fun p => if p / 8 = b ∧ p % 8 < 0 then v (8 * a + p % 8) else w p) hw (by funext p; rw [if_neg (by omega)])) ?_
  refine lpN 8 (fun i => Rn (d + 1) MX0_copyCluster 3 [some (vR (0, k)), some (vR (0, k2)), some (vI (nI a)), some (vI (nI b)), some (vI (nI i))] [] (hup h (10, k) (E fun p => if p / 8 = b ∧ p % 8 < i then v (8 * a + p % 8) else w p)) none (hup h (10, k) (E (cpc w v a b)))) (fun i hi K => ?_) ?_
  · refine rnN 2 rfl ?_
    refine rnT (nI_lt hi (by decide)) rfl ?_
    refine rnN 6 rfl ?_
    refine rnK rfl (c_at ((hup_ne hne).trans hv) ha hi) ?_
    refine rnK rfl (c_put hup_at hb hi) ?_
    refine rnN 2 rfl ?_
    simp (disch := omega) only [nI_add, pk_mul, pk_sub, nd8, nd4, nsub8, nand63, nand7, nshr2, nI_clamp, E_at, hup_at, hup_hup]
    refine rnH ?_ K
    congr 2
    funext p
    simp only [up]
    by_cases hp : p = 8 * b + i
    · subst hp
      rw [if_pos rfl, if_pos (by omega), ix_mod hi]
    · rw [if_neg hp]
      by_cases h2 : p / 8 = b ∧ p % 8 < i
      · rw [if_pos h2, if_pos (by omega)]
      · rw [if_neg h2, if_neg (by omega)]
  · refine rnN 3 rfl ?_
    refine rnH ?_ (rnR rfl)
    congr 2
    funext p
    simp only [cpc]
    by_cases h2 : p / 8 = b
    · rw [if_pos h2, if_pos (by omega)]
    · rw [if_neg h2, if_neg (by omega)]
theorem c_blankT {c f : Nat} (hw : h (10, k) = E w) (hc : c < 64) (hf : f ≤ 8) (hz : ∀ j, f ≤ j → j < 8 → w (8 * c + j) = 0) : Cl (d + 1) MX0_isBlank [vR (0, k), vI (nI c), vI (nI f)] h (some (vI (nI 1))) h := by
  refine rnN 2 rfl ?_
  refine lpN (8 - f) (fun i => Rn (d + 1) MX0_isBlank 2 [some (vR (0, k)), some (vI (nI c)), some (vI (nI f)), some (vI (nI (f + i)))] [] h (some (vI (nI 1))) h) (fun i hi K => ?_) ?_
  · refine rnN 2 rfl ?_
    refine rnT (nI_lt (show f + i < 8 by omega) (by decide)) rfl ?_
    refine rnN 3 rfl ?_
    refine rnK rfl (c_at hw hc (show f + i < 8 by omega)) ?_
    rw [hz (f + i) (by omega) (by omega)]
    refine rnN 3 rfl ?_
    simp (disch := omega) only [nI_add, pk_mul, pk_sub, nd8, nd4, nsub8, nand63, nand7, nshr2, nI_clamp, E_at, hup_at, hup_hup]
    exact K
  · rw [show f + (8 - f) = 8 by omega]
    refine rnN 4 rfl ?_
    exact rnR rfl
theorem c_blankF {c f j0 : Nat} (hw : h (10, k) = E w) (hc : c < 64) (hb : ∀ j, j < 8 → w (8 * c + j) < 2 ^ 32) (h1 : f ≤ j0) (h2 : j0 < 8) (hz : w (8 * c + j0) ≠ 0) : Cl (d + 1) MX0_isBlank [vR (0, k), vI (nI c), vI (nI f)] h (some (vI (nI 0))) h := by
  refine rnN 2 rfl ?_
  have hne : ∀ j, j < 8 → w (8 * c + j) ≠ 0 → ¬ nI (w (8 * c + j)) = 0 := fun j hj hn e => hn (by
    have h3 := congrArg tn e
    rwa [tn_nI (hb j hj)] at h3)
  refine lpN (j0 - f) (fun i => Rn (d + 1) MX0_isBlank 2 [some (vR (0, k)), some (vI (nI c)), some (vI (nI f)), some (vI (nI (f + i)))] [] h (some (vI (nI 0))) h) (fun i hi K => ?_) ?_
  · refine rnN 2 rfl ?_
    refine rnT (nI_lt (show f + i < 8 by omega) (by decide)) rfl ?_
    refine rnN 3 rfl ?_
    refine rnK rfl (c_at hw hc (show f + i < 8 by omega)) ?_
    by_cases hq : w (8 * c + (f + i)) = 0
    · rw [hq]
      refine rnN 3 rfl ?_
      simp (disch := omega) only [nI_add, pk_mul, pk_sub, nd8, nd4, nsub8, nand63, nand7, nshr2, nI_clamp, E_at, hup_at, hup_hup]
      exact K
    · refine rnF (hne (f + i) (by omega) hq) rfl ?_
      refine rnN 1 rfl ?_
      exact rnR rfl
  · rw [show f + (j0 - f) = j0 by omega]
    refine rnN 2 rfl ?_
    refine rnT (nI_lt (show j0 < 8 by omega) (by decide)) rfl ?_
    refine rnN 3 rfl ?_
    refine rnK rfl (c_at hw hc h2) ?_
    refine rnF (hne j0 h2 hz) rfl ?_
    refine rnN 1 rfl ?_
    exact rnR rfl
/-- the words of a new file -/
def newF (size : Nat) : Nat → Nat := fun p => match p with
  | 0 => 7001
  | 1 => 1
  | 2 => size
  | 3 => 3
  | 4 => 1
  | 8 => 2
  | 16 => 1
  | 17 => 1
  | 18 => 1
  | 19 => 1
  | _ => 0
theorem c_count {c : Nat} (hw : h (10, k) = E w) (hc : c < 64) (h4 : w 4 < 64) (hq : w (8 * w 4 + c / 8) < 64) : Cl (d + 1) MX0_count [vR (0, k), vI (nI c)] h (some (vI (nI (cnt w c)))) h := by
  refine rnN 4 rfl ?_
  refine rnK rfl (c_hd hw (show 4 < 8 by decide)) ?_
  refine rnN 3 rfl ?_
  simp (disch := omega) only [nI_add, pk_mul, pk_sub, nd8, nd4, nsub8, nand63, nand7, nshr2, nI_clamp, E_at, hup_at, hup_hup]
  refine rnK rfl (c_at hw h4 (show c / 8 < 8 by omega)) ?_
  refine rnN 2 rfl ?_
  refine rnB rfl (fun hz => ?_) (fun hz => ?_)
  · have hz : w (8 * w 4 + c / 8) = 0 := (neq0 (by omega)).mp hz
    refine rnN 2 rfl ?_
    unfold cnt
    rw [if_pos hz]
    exact rnR rfl
  · have hz : ¬ w (8 * w 4 + c / 8) = 0 := fun e => hz ((neq0 (by omega)).mpr e)
    refine rnN 5 rfl ?_
    simp (disch := omega) only [nI_add, pk_mul, pk_sub, nd8, nd4, nsub8, nand63, nand7, nshr2, nI_clamp, E_at, hup_at, hup_hup]
    refine rnK rfl (c_at hw hq (show c % 8 < 8 by omega)) ?_
    unfold cnt
    rw [if_neg hz]
    exact rnR rfl
theorem c_addToCount {c b : Nat} {dl : Int32} (hw : h (10, k) = E w) (hc : c < 64) (h4 : w 4 < 64) (hq : w (8 * w 4 + c / 8) < 64) (hd : nI (w (8 * w (8 * w 4 + c / 8) + c % 8)) + dl = nI b) (hb : b < 1000) : Cl (d + 1) MX0_addToCount [vR (0, k), vI (nI c), vI dl] h none (hup h (10, k) (E (adc w c b))) := by
  refine rnN 4 rfl ?_
  refine rnK rfl (c_hd hw (show 4 < 8 by decide)) ?_
  refine rnN 3 rfl ?_
  simp (disch := omega) only [nI_add, pk_mul, pk_sub, nd8, nd4, nsub8, nand63, nand7, nshr2, nI_clamp, E_at, hup_at, hup_hup]
  refine rnK rfl (c_at hw h4 (show c / 8 < 8 by omega)) ?_
  refine rnN 6 rfl ?_
  simp (disch := omega) only [nI_add, pk_mul, pk_sub, nd8, nd4, nsub8, nand63, nand7, nshr2, nI_clamp, E_at, hup_at, hup_hup]
  refine rnK rfl (c_at hw hq (show c % 8 < 8 by omega)) ?_
  refine rnN 9 rfl ?_
  rw [hd]
  simp (disch := omega) only [nI_add, pk_mul, pk_sub, nd8, nd4, nsub8, nand63, nand7, nshr2, nI_clamp, E_at, hup_at, hup_hup]
  refine rnK rfl (c_put hw hq (show c % 8 < 8 by omega)) ?_
  refine rnN 1 rfl ?_
  refine rnB rfl (fun hz => ?_) (fun hz => ?_)
  · have hz : b = 0 := (neq0 (by omega)).mp hz
    have ea : adc w c b = zc (setc w c b) c := by unfold adc; rw [if_pos hz]
    rw [ea]
    refine rnN 2 rfl ?_
    refine rnH (congrArg (fun f => hup h (10, k) (E f)) (show setc w c b = fun p => if p / 8 = c ∧ p % 8 < 0 then 0 else setc w c b p by funext p; rw [if_neg (by omega)])) ?_
    refine lpN 8 (fun i => Rn (d + 1) MX0_addToCount 47 [some (vR (0, k)), some (vI (nI c)), some (vI dl), some (vI (nI (w (8 * w 4 + c / 8)))), some (vI (nI b)), some (vI (nI i))] [] (hup h (10, k) (E fun p => if p / 8 = c ∧ p % 8 < i then 0 else setc w c b p)) none (hup h (10, k) (E (zc (setc w c b) c)))) (fun i hi K => ?_) ?_
    · refine rnN 2 rfl ?_
      refine rnT (nI_lt hi (by decide)) rfl ?_
      refine rnN 4 rfl ?_
      refine rnK rfl (c_put (x := 0) hup_at hc hi) ?_
      refine rnN 2 rfl ?_
      simp (disch := omega) only [nI_add, pk_mul, pk_sub, nd8, nd4, nsub8, nand63, nand7, nshr2, nI_clamp, E_at, hup_at, hup_hup]
      refine rnH ?_ K
      congr 2
      funext p
      simp only [up]
      by_cases hp : p = 8 * c + i
      · subst hp
        rw [if_pos rfl, if_pos (by omega)]
      · rw [if_neg hp]
        by_cases h2 : p / 8 = c ∧ p % 8 < i
        · rw [if_pos h2, if_pos (by omega)]
        · rw [if_neg h2, if_neg (by omega)]
    · refine rnN 3 rfl ?_
      refine rnH ?_ (rnR rfl)
      congr 2
      funext p
      simp only [zc]
      by_cases h2 : p / 8 = c
      · rw [if_pos h2, if_pos (by omega)]
      · rw [if_neg h2, if_neg (by omega)]
  · have hz : ¬ b = 0 := fun e => hz ((neq0 (by omega)).mpr e)
    have ea : adc w c b = setc w c b := by unfold adc; rw [if_neg hz]
    rw [ea]
    exact rnR rfl
theorem c_clustersInUse (hw : h (10, k) = E w) (hg : CG w) : Cl (d + 2) MX0_clustersInUse [vR (0, k)] h (some (vI (nI (inUse w)))) h := by
  refine rnN 4 rfl ?_
  refine lpN 64 (fun i => Rn (d + 2) MX0_clustersInUse 4 [some (vR (0, k)), some (vI (nI (sm i fun c => if 0 < cnt w c then 1 else 0))), some (vI (nI i))] [] h (some (vI (nI (inUse w)))) h) (fun i hi K => ?_) ?_
  · refine rnN 2 rfl ?_
    refine rnT (nI_lt hi (by decide)) rfl ?_
    refine rnN 3 rfl ?_
    refine rnK rfl (c_count hw hi hg.1 (hg.2.1 (i / 8) (by omega))) ?_
    have hcb := hg.2.2 i hi
    refine rnB rfl (fun hz => ?_) (fun hz => ?_)
    · have hz : 0 < cnt w i := (n0lt (by omega)).mp hz
      refine rnN 2 rfl ?_
      refine rnN 4 rfl ?_
      simp (disch := omega) only [nI_add, pk_mul, pk_sub, nd8, nd4, nsub8, nand63, nand7, nshr2, nI_clamp, E_at, hup_at, hup_hup]
      rw [sm_succ, if_pos hz] at K
      exact K
    · have hz : ¬ 0 < cnt w i := fun e => hz ((n0lt (by omega)).mpr e)
      refine rnN 1 rfl ?_
      refine rnN 4 rfl ?_
      simp (disch := omega) only [nI_add, pk_mul, pk_sub, nd8, nd4, nsub8, nand63, nand7, nshr2, nI_clamp, E_at, hup_at, hup_hup]
      rw [sm_succ, if_neg hz] at K
      exact K
  · refine rnN 4 rfl ?_
    exact rnR rfl
theorem c_room (hw : h (10, k) = E w) (hg : CG w) : Cl (d + 3) MX0_room [vR (0, k)] h (some (vI (nI (64 - inUse w - noKeep w)))) h := by
  have hle := noKeep_le w
  refine rnN 2 rfl ?_
  refine rnK rfl (c_clustersInUse hw hg) ?_
  refine rnN 4 rfl ?_
  simp (disch := omega) only [nI_add, pk_mul, pk_sub, nd8, nd4, nsub8, nand63, nand7, nshr2, nI_clamp, E_at, hup_at, hup_hup]
  refine lpN 8 (fun i => Rn (d + 3) MX0_room 10 [some (vR (0, k)), some (vI (nI (64 - inUse w - sm i fun k => if w (8 * w 4 + k) = 0 then 1 else 0))), some (vI (nI i))] [] h (some (vI (nI (64 - inUse w - noKeep w)))) h) (fun i hi K => ?_) ?_
  · have hs : (sm i fun k => if w (8 * w 4 + k) = 0 then 1 else 0) + (if w (8 * w 4 + i) = 0 then 1 else 0) ≤ 64 - inUse w := by
      have h1 : ∀ n m : Nat, n ≤ m → (sm n fun k => if w (8 * w 4 + k) = 0 then 1 else 0) ≤ sm m fun k => if w (8 * w 4 + k) = 0 then 1 else 0 := by
        intro n m hnm
        induction hnm with
        | refl => exact Nat.le_refl _
        | step _ ih => exact Nat.le_trans ih (Nat.le_add_right _ _)
      have h2 := h1 (i + 1) 8 (by omega)
      rw [sm_succ] at h2
      unfold noKeep at hle
      omega
    refine rnN 2 rfl ?_
    refine rnT (nI_lt hi (by decide)) rfl ?_
    refine rnN 5 rfl ?_
    refine rnK rfl (c_hd hw (show 4 < 8 by decide)) ?_
    refine rnN 1 rfl ?_
    refine rnK rfl (c_at hw hg.1 hi) ?_
    have hqb := hg.2.1 i hi
    refine rnB rfl (fun hz => ?_) (fun hz => ?_)
    · have hz : w (8 * w 4 + i) = 0 := (neq0 (by omega)).mp hz
      rw [if_pos hz] at hs
      refine rnN 2 rfl ?_
      refine rnN 4 rfl ?_
      simp (disch := omega) only [nI_add, pk_mul, pk_sub, nd8, nd4, nsub8, nand63, nand7, nshr2, nI_clamp, E_at, hup_at, hup_hup]
      rw [sm_succ, if_pos hz, ← Nat.sub_sub] at K
      exact K
    · have hz : ¬ w (8 * w 4 + i) = 0 := fun e => hz ((neq0 (by omega)).mpr e)
      refine rnN 1 rfl ?_
      refine rnN 4 rfl ?_
      simp (disch := omega) only [nI_add, pk_mul, pk_sub, nd8, nd4, nsub8, nand63, nand7, nshr2, nI_clamp, E_at, hup_at, hup_hup]
      rw [sm_succ, if_neg hz, ← Nat.sub_sub] at K
      exact K
  · refine rnN 4 rfl ?_
    exact rnR rfl
theorem c_leastFree {c : Nat} (hw : h (10, k) = E w) (hg : CG w) (hl : LF w c) : Cl (d + 2) MX0_leastFree [vR (0, k)] h (some (vI (nI c))) h := by
  obtain ⟨h1, h2, h3, h5⟩ := hl
  refine rnN 2 rfl ?_
  refine lpN (c - 1) (fun i => Rn (d + 2) MX0_leastFree 2 [some (vR (0, k)), some (vI (nI (1 + i)))] [] h (some (vI (nI c))) h) (fun i hi K => ?_) ?_
  · refine rnN 2 rfl ?_
    refine rnT (nI_lt (show 1 + i < 63 by omega) (by decide)) rfl ?_
    refine rnN 2 rfl ?_
    refine rnK rfl (c_count hw (show 1 + i < 64 by omega) hg.1 (hg.2.1 ((1 + i) / 8) (by omega))) ?_
    have hcb := hg.2.2 (1 + i) (by omega)
    refine rnT ((n0lt (by omega)).mpr (h3 (1 + i) (by omega) (by omega))) rfl ?_
    refine rnN 2 rfl ?_
    simp (disch := omega) only [nI_add, pk_mul, pk_sub, nd8, nd4, nsub8, nand63, nand7, nshr2, nI_clamp, E_at, hup_at, hup_hup]
    exact K
  · rw [show 1 + (c - 1) = c by omega]
    refine rnN 2 rfl ?_
    by_cases hc : c = 63
    · subst hc
      refine rnN 2 rfl ?_
      exact rnR rfl
    · have hz : cnt w c = 0 := by
        rcases h5 with e | e
        · exact absurd e hc
        · exact e
      refine rnT (nI_lt (show c < 63 by omega) (by decide)) rfl ?_
      refine rnN 2 rfl ?_
      refine rnK rfl (c_count hw (show c < 64 by omega) hg.1 (hg.2.1 (c / 8) (by omega))) ?_
      rw [hz]
      refine rnN 2 rfl ?_
      exact rnR rfl
end CF
