/-! ===== files: what leads where, the counts that are due, what is right ===== -/
def iv (a b : Nat) : Nat := if a = b then 1 else 0
/-- what a leaf's word counts for cluster X -/
def bc (X y : Nat) : Nat := if y / 4 = 0 then 0 else iv (y / 4) X
/-- what a table's word counts for cluster X: its leaf, and the leaf's blocks -/
def lc (w : Nat → Nat) (X x : Nat) : Nat := if x / 4 = 0 then 0 else iv (x / 4) X + sm 8 fun j => bc X (w (8 * (x / 4) + j))
def tc (w : Nat → Nat) (X t : Nat) : Nat := iv t X + sm 8 fun i => lc w X (w (8 * t + i))
def kc (w : Nat → Nat) (X : Nat) : Nat := sm 8 fun k => if w (8 * w 4 + k) = 0 then 0 else iv (w (8 * w 4 + k)) X
def tab (w : Nat → Nat) (j : Nat) : Nat := w (8 * w 6 + 2 * j)
/-- the count that is due to cluster X -/
def T (w : Nat → Nat) (X : Nat) : Nat := iv X 0 + iv (w 4) X + kc w X + (if w 6 = 0 then 0 else iv (w 6) X) + tc w X (w 3) + sm (w 5) fun j => tc w X (tab w j)
def TB (w : Nat → Nat) (t : Nat) : Prop := t = w 3 ∨ ∃ j, j < w 5 ∧ t = tab w j
def LD (x : Nat) : Prop := 4 ≤ x ∧ x < 256 ∧ x % 4 ≤ 1
def BOK (sz : Nat) (u : Nat → Nat) (i j y : Nat) : Prop := y = 0 ∨ (8 * i + j < sz ∧ (y = 2 ∨ (LD y ∧ u (y / 4) = 24 + (8 * i + j))))
def LOK (w u : Nat → Nat) (i x : Nat) : Prop := x = 0 ∨ (LD x ∧ 8 * i < w 2 ∧ u (x / 4) = 8 + i ∧ ∀ j, j < 8 → BOK (w 2) u i j (w (8 * (x / 4) + j)))
/-- the leads of a file are in order, u tells what each cluster is led to for: 1 the active table, 2 the count table, 3 the list, 4 + j a snapshot's table, 8 + i leaves, 16 + k a count cluster, 24 + b a block's -/
def Str (w u : Nat → Nat) : Prop := (1 ≤ w 2 ∧ w 2 ≤ 64) ∧ (1 ≤ w 3 ∧ w 3 < 64 ∧ u (w 3) = 1) ∧ (1 ≤ w 4 ∧ w 4 < 64 ∧ u (w 4) = 2) ∧ (w 5 ≤ 4 ∧ (w 5 ≠ 0 → w 6 ≠ 0)) ∧ (w 6 ≠ 0 → w 6 < 64 ∧ u (w 6) = 3)
  ∧ (∀ k, k < 8 → w (8 * w 4 + k) ≠ 0 → w (8 * w 4 + k) < 64 ∧ u (w (8 * w 4 + k)) = 16 + k) ∧ (∀ j, j < w 5 → 1 ≤ tab w j ∧ tab w j < 64 ∧ u (tab w j) = 4 + j) ∧ ∀ t, TB w t → ∀ i, i < 8 → LOK w u i (w (8 * t + i))
/-- the header's other words, the list's names and its other words -/
def Hd (w : Nat → Nat) : Prop := w 0 = 7001 ∧ w 1 = 1 ∧ w 7 = 0 ∧ (w 6 ≠ 0 → ∀ j, 2 * w 5 ≤ j → j < 8 → w (8 * w 6 + j) = 0) ∧ ∀ i j, i < w 5 → j < i → w (8 * w 6 + 2 * i + 1) ≠ w (8 * w 6 + 2 * j + 1)
def Inv (w u : Nat → Nat) : Prop := Str w u ∧ (∀ c, c < 64 → cnt w c = T w c) ∧ (∀ c, c < 64 → T w c = 0 → ∀ j, j < 8 → w (8 * c + j) = 0) ∧ Hd w ∧ ∀ p, w p < 4294967296
/-- a table's or leaf's word as it is to be -/
def mk (w : Nat → Nat) (x : Nat) : Nat := if x / 4 = 0 then x else 4 * (x / 4) + (if T w (x / 4) = 1 then 1 else 0)
/-- a cluster of tables and leaves -/
def TL (u : Nat → Nat) (c : Nat) : Prop := u c = 1 ∨ (4 ≤ u c ∧ u c < 16)
def Flg (w u : Nat → Nat) : Prop := ∀ c j, c < 64 → j < 8 → TL u c → mk w (w (8 * c + j)) = w (8 * c + j)
theorem iv_le (a b : Nat) : iv a b ≤ 1 := by unfold iv; split <;> omega
theorem iv_self (a : Nat) : iv a a = 1 := if_pos rfl
theorem iv_ne {a b : Nat} (h : a ≠ b) : iv a b = 0 := if_neg h
theorem iv_pos {a b : Nat} (h : iv a b ≠ 0) : a = b := by
  unfold iv at h
  split at h
  · assumption
  · exact absurd rfl h
theorem bc_le (X y : Nat) : bc X y ≤ 1 := by
  unfold bc
  split
  · omega
  · exact iv_le _ _
theorem lc_le (w : Nat → Nat) (X x : Nat) : lc w X x ≤ 9 := by
  unfold lc
  split
  · omega
  · have h1 := iv_le (x / 4) X
    have h2 := sm_le (n := 8) (f := fun j => bc X (w (8 * (x / 4) + j))) (g := fun _ => 1) (fun _ _ => bc_le _ _)
    rw [sm_const] at h2
    omega
theorem tc_le (w : Nat → Nat) (X t : Nat) : tc w X t ≤ 73 := by
  unfold tc
  have h1 := iv_le t X
  have h2 := sm_le (n := 8) (f := fun i => lc w X (w (8 * t + i))) (g := fun _ => 9) (fun _ _ => lc_le _ _ _)
  rw [sm_const] at h2
  omega
theorem T_le {w : Nat → Nat} (h : w 5 ≤ 4) (X : Nat) : T w X ≤ 376 := by
  unfold T
  have h1 := iv_le X 0
  have h2 := iv_le (w 4) X
  have h3 : kc w X ≤ 8 := by
    have := sm_le (n := 8) (f := fun k => if w (8 * w 4 + k) = 0 then 0 else iv (w (8 * w 4 + k)) X) (g := fun _ => 1) (fun k _ => by
      show (if w (8 * w 4 + k) = 0 then 0 else iv (w (8 * w 4 + k)) X) ≤ 1
      split
      · omega
      · exact iv_le _ _)
    rw [sm_const] at this
    exact this
  have h4 : (if w 6 = 0 then 0 else iv (w 6) X) ≤ 1 := by
    split
    · omega
    · exact iv_le _ _
  have h5 := tc_le w X (w 3)
  have h6 := sm_le (n := w 5) (f := fun j => tc w X (tab w j)) (g := fun _ => 73) (fun _ _ => tc_le _ _ _)
  rw [sm_const] at h6
  have h7 : w 5 * 73 ≤ 4 * 73 := Nat.mul_le_mul_right 73 h
  omega
theorem sm_ge {n i : Nat} {f : Nat → Nat} (h : i < n) : f i ≤ sm n f := by
  induction n with
  | zero => omega
  | succ n ih =>
    rw [sm_succ]
    by_cases hi : i = n
    · subst hi; omega
    · have := ih (by omega); omega
/-- two sums that differ in one place -/
theorem sm_one {n i : Nat} {f g : Nat → Nat} (hi : i < n) (h : ∀ k, k < n → k ≠ i → f k = g k) : sm n f + g i = sm n g + f i := by
  induction n with
  | zero => omega
  | succ n ih =>
    rw [sm_succ, sm_succ]
    by_cases hn : i = n
    · subst hn
      have e := sm_congr (n := i) (f := f) (g := g) (fun k hk => h k (by omega) (by omega))
      omega
    · have e1 := ih (by omega) (fun k hk hki => h k (by omega) hki)
      have e2 := h n (by omega) (fun e => hn e.symm)
      omega
theorem sm_zero {n : Nat} {f : Nat → Nat} (h : ∀ i, i < n → f i = 0) : sm n f = 0 := by
  rw [sm_congr h, sm_const, Nat.mul_zero]
/-! what is led to has a count -/
section LED
variable {w u : Nat → Nat}
theorem T_ct : 1 ≤ T w (w 4) := by
  unfold T
  have := iv_self (w 4)
  omega
theorem T_act : 1 ≤ T w (w 3) := by
  unfold T tc
  have := iv_self (w 3)
  omega
theorem T_list (h : w 6 ≠ 0) : 1 ≤ T w (w 6) := by
  unfold T
  rw [if_neg h]
  have := iv_self (w 6)
  omega
theorem T_keep {k : Nat} (hk : k < 8) (h : w (8 * w 4 + k) ≠ 0) : 1 ≤ T w (w (8 * w 4 + k)) := by
  have h1 := sm_ge (n := 8) (f := fun k2 => if w (8 * w 4 + k2) = 0 then 0 else iv (w (8 * w 4 + k2)) (w (8 * w 4 + k))) hk
  simp only [if_neg h, iv_self] at h1
  unfold T kc
  omega
theorem T_tc {t X : Nat} (ht : TB w t) : tc w X t ≤ T w X := by
  unfold T
  rcases ht with rfl | ⟨j, hj, rfl⟩
  · omega
  · have := sm_ge (f := fun j => tc w X (tab w j)) hj
    omega
theorem T_tab {t : Nat} (ht : TB w t) : 1 ≤ T w t := by
  have h1 := T_tc (X := t) ht
  unfold tc at h1
  have := iv_self t
  omega
theorem tc_lc {t i X : Nat} (hi : i < 8) : lc w X (w (8 * t + i)) ≤ tc w X t := by
  unfold tc
  have := sm_ge (f := fun i => lc w X (w (8 * t + i))) hi
  omega
theorem T_leaf {t i : Nat} (ht : TB w t) (hi : i < 8) (h : w (8 * t + i) / 4 ≠ 0) : 1 ≤ T w (w (8 * t + i) / 4) := by
  have h1 := T_tc (X := w (8 * t + i) / 4) ht
  have h2 := tc_lc (w := w) (t := t) (X := w (8 * t + i) / 4) hi
  have h3 : 1 ≤ lc w (w (8 * t + i) / 4) (w (8 * t + i)) := by
    unfold lc
    rw [if_neg h, iv_self]
    omega
  omega
theorem T_blk {t i j : Nat} (ht : TB w t) (hi : i < 8) (hj : j < 8) (h : w (8 * t + i) / 4 ≠ 0) (h2 : w (8 * (w (8 * t + i) / 4) + j) / 4 ≠ 0) : 1 ≤ T w (w (8 * (w (8 * t + i) / 4) + j) / 4) := by
  have h1 := T_tc (X := w (8 * (w (8 * t + i) / 4) + j) / 4) ht
  have h3 := tc_lc (w := w) (t := t) (X := w (8 * (w (8 * t + i) / 4) + j) / 4) hi
  have h4 : 1 ≤ lc w (w (8 * (w (8 * t + i) / 4) + j) / 4) (w (8 * t + i)) := by
    unfold lc
    rw [if_neg h]
    have h5 := sm_ge (n := 8) (f := fun j2 => bc (w (8 * (w (8 * t + i) / 4) + j) / 4) (w (8 * (w (8 * t + i) / 4) + j2))) hj
    have h6 : bc (w (8 * (w (8 * t + i) / 4) + j) / 4) (w (8 * (w (8 * t + i) / 4) + j)) = 1 := by
      unfold bc
      rw [if_neg h2, iv_self]
    simp only [h6] at h5
    omega
  omega
end LED
/-! counts that stay -/
theorem lc_congr {w v : Nat → Nat} {X x : Nat} (h : x / 4 ≠ 0 → ∀ j, j < 8 → v (8 * (x / 4) + j) / 4 = w (8 * (x / 4) + j) / 4) : lc v X x = lc w X x := by
  unfold lc
  split
  · rfl
  · next hx =>
    congr 1
    refine sm_congr fun j hj => ?_
    unfold bc
    rw [h hx j hj]
theorem lc_div {w : Nat → Nat} {X x y : Nat} (h : x / 4 = y / 4) : lc w X x = lc w X y := by
  unfold lc
  rw [h]
theorem tc_congr {w v : Nat → Nat} {X t : Nat} (h1 : ∀ i, i < 8 → v (8 * t + i) / 4 = w (8 * t + i) / 4) (h2 : ∀ i, i < 8 → w (8 * t + i) / 4 ≠ 0 → ∀ j, j < 8 → v (8 * (w (8 * t + i) / 4) + j) / 4 = w (8 * (w (8 * t + i) / 4) + j) / 4) : tc v X t = tc w X t := by
  unfold tc
  congr 1
  refine sm_congr fun i hi => ?_
  rw [lc_div (h1 i hi)]
  exact lc_congr (h2 i hi)
/-! leads -/
theorem LD.pos {x : Nat} (h : LD x) : 1 ≤ x / 4 ∧ x / 4 < 64 := by
  obtain ⟨h1, h2, h3⟩ := h
  omega
theorem LOK.lead {w u : Nat → Nat} {i x : Nat} (h : LOK w u i x) (hx : x / 4 ≠ 0) : LD x ∧ 8 * i < w 2 ∧ u (x / 4) = 8 + i ∧ ∀ j, j < 8 → BOK (w 2) u i j (w (8 * (x / 4) + j)) := by
  rcases h with rfl | h
  · exact absurd rfl hx
  · exact h
theorem LOK.zero {w u : Nat → Nat} {i x : Nat} (h : LOK w u i x) (hx : x / 4 = 0) : x = 0 := by
  rcases h with rfl | ⟨⟨h1, h2, h3⟩, -⟩
  · rfl
  · omega
theorem BOK.lead {sz : Nat} {u : Nat → Nat} {i j y : Nat} (h : BOK sz u i j y) (hy : y / 4 ≠ 0) : LD y ∧ 8 * i + j < sz ∧ u (y / 4) = 24 + (8 * i + j) := by
  rcases h with rfl | ⟨h1, rfl | h2⟩
  · exact absurd rfl hy
  · exact absurd rfl hy
  · exact ⟨h2.1, h1, h2.2⟩
theorem BOK.flat {sz : Nat} {u : Nat → Nat} {i j y : Nat} (h : BOK sz u i j y) (hy : y / 4 = 0) : y = 0 ∨ y = 2 := by
  rcases h with rfl | ⟨h1, rfl | ⟨⟨h2, h3, h4⟩, -⟩⟩
  · exact Or.inl rfl
  · exact Or.inr rfl
  · omega
/-- a word that is a lead, as the program asks it -/
theorem LOK.isLead {w u : Nat → Nat} {i x : Nat} (h : LOK w u i x) : 2 < x ↔ x / 4 ≠ 0 := by
  rcases h with rfl | ⟨⟨h1, h2, h3⟩, -⟩
  · simp
  · omega
theorem BOK.isLead {sz : Nat} {u : Nat → Nat} {i j y : Nat} (h : BOK sz u i j y) : 2 < y ↔ y / 4 ≠ 0 := by
  rcases h with rfl | ⟨h1, rfl | ⟨⟨h2, h3, h4⟩, -⟩⟩
  · simp
  · simp
  · omega
theorem BOK.lt {sz : Nat} {u : Nat → Nat} {i j y : Nat} (h : BOK sz u i j y) : y < 256 := by
  rcases h with rfl | ⟨h1, rfl | ⟨⟨h2, h3, h4⟩, -⟩⟩ <;> omega
theorem LOK.lt {w u : Nat → Nat} {i x : Nat} (h : LOK w u i x) : x < 256 := by
  rcases h with rfl | ⟨⟨h1, h2, h3⟩, -⟩ <;> omega
section STR
variable {w u : Nat → Nat}
theorem Str.sz (h : Str w u) : 1 ≤ w 2 ∧ w 2 ≤ 64 := h.1
theorem Str.act (h : Str w u) : 1 ≤ w 3 ∧ w 3 < 64 ∧ u (w 3) = 1 := h.2.1
theorem Str.ct (h : Str w u) : 1 ≤ w 4 ∧ w 4 < 64 ∧ u (w 4) = 2 := h.2.2.1
theorem Str.ns (h : Str w u) : w 5 ≤ 4 ∧ (w 5 ≠ 0 → w 6 ≠ 0) := h.2.2.2.1
theorem Str.list (h : Str w u) (h6 : w 6 ≠ 0) : w 6 < 64 ∧ u (w 6) = 3 := h.2.2.2.2.1 h6
theorem Str.keep (h : Str w u) {k : Nat} (hk : k < 8) (h0 : w (8 * w 4 + k) ≠ 0) : w (8 * w 4 + k) < 64 ∧ u (w (8 * w 4 + k)) = 16 + k := h.2.2.2.2.2.1 k hk h0
theorem Str.tab (h : Str w u) {j : Nat} (hj : j < w 5) : 1 ≤ tab w j ∧ tab w j < 64 ∧ u (tab w j) = 4 + j := h.2.2.2.2.2.2.1 j hj
theorem Str.tw (h : Str w u) {t i : Nat} (ht : TB w t) (hi : i < 8) : LOK w u i (w (8 * t + i)) := h.2.2.2.2.2.2.2 t ht i hi
theorem Str.keepLt (h : Str w u) {k : Nat} (hk : k < 8) : w (8 * w 4 + k) < 64 := by
  by_cases h0 : w (8 * w 4 + k) = 0
  · omega
  · exact (h.keep hk h0).1
theorem Str.tb (h : Str w u) {t : Nat} (ht : TB w t) : 1 ≤ t ∧ t < 64 ∧ (u t = 1 ∨ (4 ≤ u t ∧ u t < 8)) := by
  rcases ht with rfl | ⟨j, hj, rfl⟩
  · have := h.act; exact ⟨this.1, this.2.1, Or.inl this.2.2⟩
  · have h1 := h.tab hj
    have h2 := h.ns
    exact ⟨h1.1, h1.2.1, Or.inr (by omega)⟩
theorem Str.bw (h : Str w u) {t i j : Nat} (ht : TB w t) (hi : i < 8) (hj : j < 8) (hx : w (8 * t + i) / 4 ≠ 0) : BOK (w 2) u i j (w (8 * (w (8 * t + i) / 4) + j)) := ((h.tw ht hi).lead hx).2.2.2 j hj
end STR
theorem Inv.cg {w u : Nat → Nat} (h : Inv w u) : CG w := ⟨h.1.ct.2.1, fun k hk => h.1.keepLt hk, fun c hc => by rw [h.2.1 c hc]; have := T_le h.1.ns.1 c; omega⟩
