/-! ===== steps of a file: what stays ===== -/
/-- a place in a count cluster -/
def kp (w : Nat → Nat) (p : Nat) : Prop := ∃ k, k < 8 ∧ w (8 * w 4 + k) ≠ 0 ∧ p / 8 = w (8 * w 4 + k)
/-- the place of a count -/
def cpl (w : Nat → Nat) (X : Nat) : Nat := 8 * w (8 * w 4 + X / 8) + X % 8
section TR
variable {w v u u' : Nat → Nat}
theorem Str.nk (hs : Str w u) {p : Nat} (h : u (p / 8) < 16 ∨ 24 ≤ u (p / 8)) : ¬ kp w p := by
  rintro ⟨k, hk, h0, e⟩
  have h1 := (hs.keep hk h0).2
  rw [← e] at h1
  omega
theorem nk0 {p : Nat} (h : p < 8) : ¬ kp w p := by
  rintro ⟨k, hk, h0, e⟩
  exact h0 (by omega)
theorem BOK.move {sz i j y : Nat} (h : BOK sz u i j y) (hu : y / 4 ≠ 0 → u' (y / 4) = u (y / 4)) : BOK sz u' i j y := by
  rcases h with rfl | ⟨h1, rfl | h2⟩
  · exact Or.inl rfl
  · exact Or.inr ⟨h1, Or.inl rfl⟩
  · refine Or.inr ⟨h1, Or.inr ⟨h2.1, ?_⟩⟩
    have := h2.1.pos
    rw [hu (by omega)]
    exact h2.2
/-- the structure stays when leads stay or become leads in order -/
theorem StrF (hs : Str w u) (hu : ∀ X, T w X ≠ 0 → u' X = u X) (hH : ∀ p, 2 ≤ p → p < 7 → v p = w p)
    (hct : ∀ k, k < 8 → v (8 * w 4 + k) = w (8 * w 4 + k) ∨ (v (8 * w 4 + k) < 64 ∧ u' (v (8 * w 4 + k)) = 16 + k))
    (hls : w 6 ≠ 0 → ∀ j, j < w 5 → v (8 * w 6 + 2 * j) = w (8 * w 6 + 2 * j))
    (htb : ∀ t i, TB w t → i < 8 → v (8 * t + i) = w (8 * t + i) ∨ LOK v u' i (v (8 * t + i)))
    (hlf : ∀ t i j, TB w t → i < 8 → j < 8 → v (8 * t + i) = w (8 * t + i) → w (8 * t + i) / 4 ≠ 0 → v (8 * (w (8 * t + i) / 4) + j) = w (8 * (w (8 * t + i) / 4) + j) ∨ BOK (w 2) u' i j (v (8 * (w (8 * t + i) / 4) + j))) : Str v u' := by
  have e2 := hH 2 (by decide) (by decide)
  have e3 := hH 3 (by decide) (by decide)
  have e4 := hH 4 (by decide) (by decide)
  have e5 := hH 5 (by decide) (by decide)
  have e6 := hH 6 (by decide) (by decide)
  have etab : ∀ j, j < w 5 → tab v j = tab w j := fun j hj => by
    unfold tab
    rw [e6]
    exact hls (hs.ns.2 (by omega)) j hj
  have eTB : ∀ t, TB v t → TB w t := by
    intro t ht
    rcases ht with rfl | ⟨j, hj, rfl⟩
    · exact Or.inl e3
    · rw [e5] at hj
      rw [etab j hj]
      exact tab_tb hj
  refine ⟨by rw [e2]; exact hs.sz, ?_, ?_, by rw [e5, e6]; exact hs.ns, ?_, ?_, ?_, ?_⟩
  · rw [e3, hu _ (by have := T_act (w := w); omega)]; exact hs.act
  · rw [e4, hu _ (by have := T_ct (w := w); omega)]; exact hs.ct
  · intro h6
    rw [e6] at h6 ⊢
    rw [hu _ (by have := T_list h6; omega)]
    exact hs.list h6
  · intro k hk h0
    rw [e4] at h0 ⊢
    rcases hct k hk with e | e
    · rw [e] at h0 ⊢
      rw [hu _ (by have := T_keep hk h0; omega)]
      exact hs.keep hk h0
    · exact e
  · intro j hj
    rw [e5] at hj
    rw [etab j hj, hu _ (by have := T_tab (tab_tb hj); omega)]
    exact hs.tab hj
  · intro t ht i hi
    have ht' := eTB t ht
    rcases htb t i ht' hi with e | e
    · have hx := hs.tw ht' hi
      by_cases h0 : w (8 * t + i) / 4 = 0
      · rw [e, hx.zero h0]; exact Or.inl rfl
      · have hl := hx.lead h0
        rw [e]
        refine Or.inr ⟨hl.1, by rw [e2]; exact hl.2.1, by rw [hu _ (by have := T_leaf ht' hi h0; omega)]; exact hl.2.2.1, fun j hj => ?_⟩
        rw [e2]
        rcases hlf t i j ht' hi hj e h0 with e7 | e7
        · rw [e7]
          exact (hl.2.2.2 j hj).move fun hy => hu _ (by have := T_blk ht' hi hj h0 hy; omega)
        · exact e7
    · exact e
/-- only the active table's part of a due count changes -/
theorem TF (X : Nat) (hH : ∀ p, 2 ≤ p → p < 7 → v p = w p) (hct : ∀ k, k < 8 → v (8 * w 4 + k) = w (8 * w 4 + k)) (htab : ∀ j, j < w 5 → tab v j = tab w j) (htc : ∀ j, j < w 5 → tc v X (tab w j) = tc w X (tab w j)) : T v X + tc w X (w 3) = T w X + tc v X (w 3) := by
  have e3 := hH 3 (by decide) (by decide)
  have e4 := hH 4 (by decide) (by decide)
  have e5 := hH 5 (by decide) (by decide)
  have e6 := hH 6 (by decide) (by decide)
  have ek : kc v X = kc w X := by
    unfold kc
    rw [e4]
    exact sm_congr fun k hk => by rw [hct k hk]
  have es : sm (w 5) (fun j => tc v X (tab v j)) = sm (w 5) fun j => tc w X (tab w j) := sm_congr fun j hj => by rw [htab j hj, htc j hj]
  unfold T
  rw [e3, e4, e5, e6, ek, es]
  omega
/-- one word of a table, and its leaf -/
theorem tc_one {X t i : Nat} (hi : i < 8) (h : ∀ k, k < 8 → k ≠ i → lc v X (v (8 * t + k)) = lc w X (w (8 * t + k))) : tc v X t + lc w X (w (8 * t + i)) = tc w X t + lc v X (v (8 * t + i)) := by
  have h1 := sm_one (n := 8) (f := fun k => lc v X (v (8 * t + k))) (g := fun k => lc w X (w (8 * t + k))) hi h
  unfold tc
  omega
/-- the counts of a file whose count clusters stay -/
theorem cnt_of (hH4 : v 4 = w 4) (hct : ∀ k, k < 8 → v (8 * w 4 + k) = w (8 * w 4 + k)) {X : Nat} (hX : X < 64) : cnt v X = if w (8 * w 4 + X / 8) = 0 then 0 else v (cpl w X) := by
  unfold cnt cpl
  rw [hH4, hct (X / 8) (by omega)]
theorem Inv.noK (hi : Inv w u) {X : Nat} (hX : X < 64) (h : w (8 * w 4 + X / 8) = 0) : T w X = 0 := by
  rw [← hi.2.1 X hX]
  unfold cnt
  rw [if_pos h]
theorem Inv.cntAt (hi : Inv w u) {X : Nat} (hX : X < 64) (h : w (8 * w 4 + X / 8) ≠ 0) : w (cpl w X) = T w X := by
  rw [← hi.2.1 X hX]
  unfold cnt cpl
  rw [if_neg h]
/-- places of counts are apart -/
theorem cpl_inj (hs : Str w u) {X Y : Nat} (hX : X < 64) (hY : Y < 64) (h1 : w (8 * w 4 + X / 8) ≠ 0) (h2 : w (8 * w 4 + Y / 8) ≠ 0) (e : cpl w X = cpl w Y) : X = Y := by
  unfold cpl at e
  have h3 := hs.keep (show X / 8 < 8 by omega) h1
  have h4 := hs.keep (show Y / 8 < 8 by omega) h2
  have h5 : w (8 * w 4 + X / 8) = w (8 * w 4 + Y / 8) := by omega
  rw [h5] at h3
  omega
theorem cpl_kp {X : Nat} (hX : X < 64) (h : w (8 * w 4 + X / 8) ≠ 0) : kp w (cpl w X) := ⟨X / 8, by omega, h, by unfold cpl; omega⟩
/-- a leaf that is led to once is led to by the active table's word alone -/
theorem own_leaf (hs : Str w u) {i : Nat} (hi : i < 8) (h0 : w (8 * w 3 + i) / 4 ≠ 0) (h1 : T w (w (8 * w 3 + i) / 4) = 1) {j i2 : Nat} (hj : j < w 5) (hi2 : i2 < 8) (h2 : w (8 * tab w j + i2) / 4 ≠ 0) : w (8 * tab w j + i2) / 4 ≠ w (8 * w 3 + i) / 4 := by
  intro e
  have h3 : 1 ≤ tc w (w (8 * w 3 + i) / 4) (w 3) := by
    have h4 := tc_lc (w := w) (t := w 3) (X := w (8 * w 3 + i) / 4) hi
    have h5 : 1 ≤ lc w (w (8 * w 3 + i) / 4) (w (8 * w 3 + i)) := by
      unfold lc
      rw [if_neg h0, iv_self]
      omega
    omega
  have h4 : 1 ≤ tc w (w (8 * w 3 + i) / 4) (tab w j) := by
    have h5 := tc_lc (w := w) (t := tab w j) (X := w (8 * w 3 + i) / 4) hi2
    have h6 : 1 ≤ lc w (w (8 * w 3 + i) / 4) (w (8 * tab w j + i2)) := by
      unfold lc
      rw [if_neg h2, e, iv_self]
      omega
    omega
  have h5 := sm_ge (f := fun j => tc w (w (8 * w 3 + i) / 4) (tab w j)) hj
  unfold T at h1
  omega
theorem ne_fresh {X c : Nat} (hz : T w c = 0) (h : 1 ≤ T w X) : X ≠ c := by
  intro e
  rw [e] at h
  omega
theorem u_fresh {X c r : Nat} (hz : T w c = 0) (h : T w X ≠ 0) : up u c r X = u X := up_ne (ne_fresh hz (by omega))
end TR
