/-! ===== removeSnapshot ===== -/
/-- a list's words without its j-th snapshot, of n -/
def gapF (x : Nat → Nat) (l n j : Nat) : Nat → Nat := fun p => if p / 8 = l then (if p % 8 < 2 * j then x p else if p % 8 < 2 * n - 2 then x (p + 2) else if p % 8 < 2 * n then 0 else x p) else x p
/-- the words behind removeSnapshot, but for counts and marks -/
def dlR (w : Nat → Nat) (j : Nat) : Nat → Nat := fun p => if p = 5 then w 5 - 1 else if p = 6 then (if w 5 = 1 then 0 else w 6) else if p / 8 = w 6 then (if p % 8 < 2 * j then w p else if p % 8 < 6 then w (p + 2) else 0) else w p
def dlU (u : Nat → Nat) (j : Nat) : Nat → Nat := fun X => if 4 + j < u X ∧ u X < 8 then u X - 1 else u X
section DL
variable {d k : Nat} {h : xH} {w x u u' R V g c : Nat → Nat}
theorem tc_none (hs : Str w u) {t X : Nat} (ht : TB w t) (hX : X ≠ t) (hu : u X < 8 ∨ (16 ≤ u X ∧ u X < 24)) : tc w X t = 0 := by
  have h1 : tl w X t = 0 := Classical.byContradiction fun e => by
    have := (CO.tls fun i hi8 => hs.tw ht hi8) X e
    omega
  rw [tc_tl, h1, iv_ne hX.symm]
theorem T_list1 (hs : Str w u) (h6 : w 6 ≠ 0) : T w (w 6) = 1 := by
  have hl := hs.list h6
  have hc := hs.ct
  have h1 : kc w (w 6) = 0 := sm_zero fun k hk => by
    show (if w (8 * w 4 + k) = 0 then 0 else iv (w (8 * w 4 + k)) (w 6)) = 0
    split
    · rfl
    · next h0 => exact iv_ne fun e => by have := hs.keep hk h0; rw [e] at this; omega
  have h2 : ∀ t, TB w t → tc w (w 6) t = 0 := fun t ht => tc_none hs ht (fun e => by have := (hs.tb ht).2.2; rw [← e] at this; omega) (by omega)
  have h3 : (sm (w 5) fun j => tc w (w 6) (tab w j)) = 0 := sm_zero fun j hj => h2 _ (tab_tb hj)
  unfold T
  rw [h1, h2 _ act_tb, h3, if_neg h6, iv_self, iv_ne h6, iv_ne (fun e => by rw [e] at hc; omega)]
theorem sm_del {f : Nat → Nat} {j : Nat} : ∀ n, j ≤ n → (sm n fun i => f (if i < j then i else i + 1)) + f j = sm (n + 1) f := by
  intro n
  induction n with
  | zero => intro hj; rw [show j = 0 by omega]; rfl
  | succ n ih =>
    intro hj
    by_cases e : j = n + 1
    · rw [sm_succ (n := n + 1), ← e]
      congr 1
      exact sm_congr fun i hi => by rw [if_pos hi]
    · rw [sm_succ, sm_succ (n := n + 1), if_neg (by omega), ← ih (by omega)]
      omega
theorem c_closeListGap {l n j : Nat} (hw : h (10, k) = E x) (h6 : x 6 = l) (hl1 : 1 ≤ l) (hl : l < 64) (h5 : x 5 = n) (hn : n ≤ 4) (hj : j < n) : Cl (d + 2) MX1_closeListGap [vR (1, k), vI (nI j)] h none (hup h (10, k) (E (gapF x l n j))) := by
  refine rnN 1 rfl ?_
  refine rnK rfl (c_snapshotList hw) ?_
  rw [h6]
  refine rnN 3 rfl ?_
  refine rnK rfl (c_snapshotCount hw) ?_
  rw [h5]
  refine rnN 8 rfl ?_
  simp (disch := omega) only [nI_add, pk_mul, pk_sub, nd8, nd4, nsub8, nand63, nand7, nshr2, nI_clamp, E_at, hup_at, hup_hup]
  refine rnH (hE0 (v := fun p => if p / 8 = l ∧ 2 * j ≤ p % 8 ∧ p % 8 < 2 * j + 0 then x (p + 2) else x p) hw (by funext p; rw [if_neg (by omega)])) ?_
  have fin : up (up (fun p => if p / 8 = l ∧ 2 * j ≤ p % 8 ∧ p % 8 < 2 * j + (2 * n - 2 - 2 * j) then x (p + 2) else x p) (8 * l + (2 * n - 2)) 0) (8 * l + (2 * n - 2 + 1)) 0 = gapF x l n j := by
    funext p
    simp only [gapF, up]
    by_cases e : p / 8 = l
    · rw [if_pos e]
      by_cases e1 : p = 8 * l + (2 * n - 2 + 1)
      · rw [if_pos e1, if_neg (by omega), if_neg (by omega), if_pos (by omega)]
      · rw [if_neg e1]
        by_cases e2 : p = 8 * l + (2 * n - 2)
        · rw [if_pos e2, if_neg (by omega), if_neg (by omega), if_pos (by omega)]
        · rw [if_neg e2]
          by_cases e3 : p % 8 < 2 * j
          · rw [if_pos e3, if_neg (by omega)]
          · rw [if_neg e3]
            by_cases e4 : p % 8 < 2 * n - 2
            · rw [if_pos e4, if_pos (by omega)]
            · rw [if_neg e4, if_neg (by omega), if_neg (by omega)]
    · rw [if_neg e, if_neg (by omega), if_neg (by omega), if_neg (by omega)]
  refine lpN (2 * n - 2 - 2 * j) (fun i => Rn (d + 2) MX1_closeListGap 19 [some (vR (1, k)), some (vI (nI j)), some (vI (nI l)), some (vI (nI (2 * n - 2))), some (vI (nI (2 * j + i)))] [] (hup h (10, k) (E fun p => if p / 8 = l ∧ 2 * j ≤ p % 8 ∧ p % 8 < 2 * j + i then x (p + 2) else x p)) none (hup h (10, k) (E (gapF x l n j)))) (fun i hi K => ?_) ?_
  · refine rnN 2 rfl ?_
    refine rnT (nI_lt (show 2 * j + i < 2 * n - 2 by omega) (by omega)) rfl ?_
    refine rnN 10 rfl ?_
    simp (disch := omega) only [nI_add, pk_mul, pk_sub, nd8, nd4, nsub8, nand63, nand7, nshr2, nI_clamp, E_at, hup_at, hup_hup]
    refine rnK rfl (c_at hup_at hl (show 2 * j + i + 2 < 8 by omega)) ?_
    refine rnK rfl (c_put hup_at hl (show 2 * j + i < 8 by omega)) ?_
    refine rnN 2 rfl ?_
    simp (disch := omega) only [nI_add, pk_mul, pk_sub, nd8, nd4, nsub8, nand63, nand7, nshr2, nI_clamp, E_at, hup_at, hup_hup]
    refine rnH ?_ K
    congr 2
    funext p
    simp only [up]
    by_cases hp : p = 8 * l + (2 * j + i)
    · subst hp
      rw [if_pos rfl, if_neg (by omega), if_pos (by omega)]
      congr 1
    · rw [if_neg hp]
      by_cases h2 : p / 8 = l ∧ 2 * j ≤ p % 8 ∧ p % 8 < 2 * j + i
      · rw [if_pos h2, if_pos (by omega)]
      · rw [if_neg h2, if_neg (by omega)]
  · rw [show 2 * j + (2 * n - 2 - 2 * j) = 2 * n - 2 by omega]
    refine rnN 2 rfl ?_
    refine rnF (nI_nlt (Nat.le_refl _) (by omega)) rfl ?_
    refine rnN 5 rfl ?_
    refine rnK rfl (c_put (x := 0) hup_at hl (show 2 * n - 2 < 8 by omega)) ?_
    refine rnN 7 rfl ?_
    simp (disch := omega) only [nI_add, pk_mul, pk_sub, nd8, nd4, nsub8, nand63, nand7, nshr2, nI_clamp, E_at, hup_at, hup_hup]
    refine rnK rfl (c_put (x := 0) hup_at hl (show 2 * n - 2 + 1 < 8 by omega)) ?_
    simp (disch := omega) only [nI_add, pk_mul, pk_sub, nd8, nd4, nsub8, nand63, nand7, nshr2, nI_clamp, E_at, hup_at, hup_hup]
    rw [show (2 * j + (2 * n - 2 - 2 * j)) = 2 * n - 2 by omega] at fin
    rw [fin]
    exact rnR rfl
theorem dlR_list (h6 : w 6 ≠ 0) {i j : Nat} (hi8 : i < 8) : dlR w j (8 * w 6 + i) = if i < 2 * j then w (8 * w 6 + i) else if i < 6 then w (8 * w 6 + (i + 2)) else 0 := by
  unfold dlR
  rw [if_neg (by omega), if_neg (by omega), if_pos (by omega), ix_mod hi8]
  rfl
theorem dl_spec (hi : Inv w u) {j : Nat} (hj : j < w 5) : Str (dlR w j) (dlU u j) ∧ (∀ X, T (dlR w j) X + tc w X (tab w j) + (if w 5 = 1 then iv (w 6) X else 0) = T w X) ∧ Inv (clo (dlR w j) (dlU u j)) (dlU u j)
    ∧ (∀ p, p ≠ 5 → p ≠ 6 → p / 8 ≠ w 6 → dlR w j p = w p) := by
  have hs := hi.1
  have hact := hs.act
  have htj := hs.tab hj
  have hns := hs.ns
  have h6 := hns.2 (by omega)
  have hls := hs.list h6
  obtain ⟨g0, g1, g7, gl, gn⟩ := hi.2.2.2.1
  have hO : ∀ p, p ≠ 5 → p ≠ 6 → p / 8 ≠ w 6 → dlR w j p = w p := fun p h1 h2 h3 => by unfold dlR; rw [if_neg h1, if_neg h2, if_neg h3]
  have hcl : ∀ X i, i < 8 → 1 ≤ X → u X ≠ 3 → dlR w j (8 * X + i) = w (8 * X + i) := fun X i hi8 h1 hu => hO _ (by omega) (by omega) (by rw [ix_div hi8]; intro e; rw [e] at hu; omega)
  have hH : ∀ p, p < 8 → p ≠ 5 → p ≠ 6 → dlR w j p = w p := fun p hp h1 h2 => hO p h1 h2 (by omega)
  have e5 : dlR w j 5 = w 5 - 1 := if_pos rfl
  have e6 : dlR w j 6 = if w 5 = 1 then 0 else w 6 := by unfold dlR; rw [if_neg (by decide), if_pos rfl]
  have e4 := hH 4 (by decide) (by decide) (by decide)
  have e3 := hH 3 (by decide) (by decide) (by decide)
  have hct : ∀ k, k < 8 → dlR w j (8 * w 4 + k) = w (8 * w 4 + k) := fun k hk => hcl _ k hk (by have := hs.ct; omega) (by have := hs.ct; omega)
  have hlist : ∀ i, i < 8 → dlR w j (8 * w 6 + i) = if i < 2 * j then w (8 * w 6 + i) else if i < 6 then w (8 * w 6 + (i + 2)) else 0 := fun i hi8 => by
    unfold dlR
    rw [if_neg (by omega), if_neg (by omega), if_pos (by omega), ix_mod hi8]
    rfl
  have hLF : ∀ t i l, TB w t → i < 8 → l < 8 → w (8 * t + i) / 4 ≠ 0 → dlR w j (8 * (w (8 * t + i) / 4) + l) = w (8 * (w (8 * t + i) / 4) + l) := fun t i l ht hi8 hl h0 => by
    have h1 := (hs.tw ht hi8).lead h0
    have h2 := h1.1.pos
    exact hcl _ l hl (by omega) (by omega)
  have htw : ∀ t i, TB w t → i < 8 → dlR w j (8 * t + i) = w (8 * t + i) := fun t i ht hi8 => by
    have h1 := hs.tb ht
    exact hcl _ i hi8 (by omega) (by omega)
  have etab : ∀ m, m < w 5 - 1 → tab (dlR w j) m = tab w (if m < j then m else m + 1) := fun m hm => by
    have e : dlR w j 6 = w 6 := by rw [e6, if_neg (by omega)]
    unfold tab
    rw [e, hlist _ (by omega)]
    by_cases hmj : m < j
    · rw [if_pos (by omega), if_pos hmj]
    · rw [if_neg (by omega), if_pos (by omega), if_neg hmj]
      rfl
  have eTB : ∀ t, TB (dlR w j) t → TB w t := by
    rintro t (rfl | ⟨m, hm, rfl⟩)
    · exact Or.inl e3
    · rw [e5] at hm
      rw [etab m hm]
      exact tab_tb (by split <;> omega)
  have hdU : ∀ X, u X < 4 ∨ 8 ≤ u X → dlU u j X = u X := fun X hX => by unfold dlU; rw [if_neg (by omega)]
  have hS : Str (dlR w j) (dlU u j) := by
    refine ⟨by rw [hH 2 (by decide) (by decide) (by decide)]; exact hs.sz, ?_, ?_, ?_, ?_, ?_, ?_, ?_⟩
    · rw [e3, hdU _ (by omega)]; exact hact
    · rw [e4, hdU _ (by have := hs.ct; omega)]; exact hs.ct
    · rw [e5, e6]
      exact ⟨by omega, fun h1 => by rw [if_neg (by omega)]; exact h6⟩
    · rw [e6]
      intro h1
      split at h1
      · exact absurd rfl h1
      · next h2 => rw [if_neg h2, hdU _ (by omega)]; exact hls
    · rw [e4]
      intro k hk h0
      rw [hct k hk] at h0 ⊢
      have h1 := hs.keep hk h0
      rw [hdU _ (by omega)]
      exact h1
    · intro m hm
      rw [e5] at hm
      rw [etab m hm]
      by_cases hmj : m < j
      · rw [if_pos hmj]
        have h1 := hs.tab (j := m) (by omega)
        refine ⟨h1.1, h1.2.1, ?_⟩
        unfold dlU
        rw [if_neg (by omega)]
        exact h1.2.2
      · rw [if_neg hmj]
        have h1 := hs.tab (j := m + 1) (by omega)
        refine ⟨h1.1, h1.2.1, ?_⟩
        unfold dlU
        rw [if_pos (by omega)]
        omega
    · intro t ht i hi8
      have ht := eTB t ht
      rw [htw t i ht hi8]
      rcases hs.tw ht hi8 with e | ⟨a1, a2, a3, a4⟩
      · exact Or.inl e
      · refine Or.inr ⟨a1, by rw [hH 2 (by decide) (by decide) (by decide)]; exact a2, by rw [hdU _ (by omega)]; exact a3, fun l hl => ?_⟩
        rw [hH 2 (by decide) (by decide) (by decide), hLF t i l ht hi8 hl (by have := a1.pos; omega)]
        exact (a4 l hl).move fun hy => hdU _ (by have := (a4 l hl).lead hy; omega)
  have hT : ∀ X, T (dlR w j) X + tc w X (tab w j) + (if w 5 = 1 then iv (w 6) X else 0) = T w X := by
    intro X
    have htc : ∀ t, TB w t → tc (dlR w j) X t = tc w X t := fun t ht => tc_congr (fun i hi8 => by rw [htw t i ht hi8]) (fun i hi8 h0 l hl => by rw [hLF t i l ht hi8 hl h0])
    have ek : kc (dlR w j) X = kc w X := by
      unfold kc
      rw [e4]
      exact sm_congr fun k hk => by rw [hct k hk]
    have es : sm (w 5 - 1) (fun m => tc (dlR w j) X (tab (dlR w j) m)) + tc w X (tab w j) = sm (w 5) fun m => tc w X (tab w m) := by
      have h1 := sm_del (f := fun m => tc w X (tab w m)) (j := j) (w 5 - 1) (by omega)
      rw [show w 5 - 1 + 1 = w 5 by omega] at h1
      rw [← h1]
      congr 1
      exact sm_congr fun m hm => by
        show tc (dlR w j) X (tab (dlR w j) m) = tc w X (tab w (if m < j then m else m + 1))
        rw [etab m hm]
        exact htc _ (tab_tb (by split <;> omega))
    have e7 : (if (if w 5 = 1 then 0 else w 6) = 0 then 0 else iv (if w 5 = 1 then 0 else w 6) X) + (if w 5 = 1 then iv (w 6) X else 0) = if w 6 = 0 then 0 else iv (w 6) X := by
      rw [if_neg h6]
      by_cases e : w 5 = 1
      · simp only [if_pos e, if_true]
        omega
      · simp only [if_neg e, if_neg h6]
        omega
    unfold T
    rw [e3, e4, e5, e6, ek, htc _ act_tb]
    omega
  refine ⟨hS, hT, (clo_inv hS ?_ (fun p => ?_) (fun X hX h0 => ?_)).1, hO⟩
  · refine ⟨by rw [hH 0 (by decide) (by decide) (by decide)]; exact g0, by rw [hH 1 (by decide) (by decide) (by decide)]; exact g1, by rw [hH 7 (by decide) (by decide) (by decide)]; exact g7, ?_, ?_⟩
    · rw [e5, e6]
      intro h1 m hm hm8
      split at h1
      · exact absurd rfl h1
      · next h2 =>
        rw [if_neg h2, hlist m hm8, if_neg (by omega)]
        split
        · exact gl h6 _ (by omega) (by omega)
        · rfl
    · rw [e5, e6]
      intro i m hi2 hm
      have e : (if w 5 = 1 then 0 else w 6) = w 6 := if_neg (by omega)
      rw [e, show 8 * w 6 + 2 * i + 1 = 8 * w 6 + (2 * i + 1) by omega, show 8 * w 6 + 2 * m + 1 = 8 * w 6 + (2 * m + 1) by omega, hlist _ (by omega), hlist _ (by omega)]
      have key : ∀ q, q < w 5 - 1 → (if 2 * q + 1 < 2 * j then w (8 * w 6 + (2 * q + 1)) else if 2 * q + 1 < 6 then w (8 * w 6 + (2 * q + 1 + 2)) else 0) = w (8 * w 6 + 2 * (if q < j then q else q + 1) + 1) := fun q hq => by
        by_cases hqj : q < j
        · rw [if_pos (by omega), if_pos hqj]
          congr 1
        · rw [if_neg (by omega), if_pos (by omega), if_neg hqj]
          congr 1
      rw [key i hi2, key m (by omega)]
      exact gn _ _ (by split <;> omega) (by split <;> split <;> omega)
  · unfold dlR
    have hb := hi.2.2.2.2
    split
    · have := hb 5; omega
    · split
      · split
        · omega
        · exact hb 6
      · split
        · split
          · exact hb _
          · split
            · exact hb _
            · omega
        · exact hb _
  · rw [e4, hct _ (by omega)]
    intro e
    have h1 := hi.noK hX e
    have h2 := hT X
    omega
theorem c_hput {j x : Nat} {w : Nat → Nat} (hw : h (10, k) = E w) (hj : j < 8) : Cl d MX0_put [vR (0, k), vI (nI 0), vI (nI j), vI (nI x)] h none (hup h (10, k) (E (up w j x))) := by
  have h1 := c_put (d := d) (c := 0) (x := x) hw (by decide) hj
  rw [show 8 * 0 + j = j by omega] at h1
  exact h1
/-- removeSnapshot's words are the closed ones -/
theorem dl_words (hi : Inv w u) {j : Nat} (hj : j < w 5) (hx : x = cS false w u (T w) (fun Y => tl w Y (tab w j) + iv (tab w j) Y))
    (h1 : ∀ p, p / 8 ≠ 0 → p / 8 ≠ w 6 → (w 5 = 1 → p ≠ cpl w (w 6)) → V p = x p) (h2 : w 5 = 1 → V (cpl w (w 6)) = 0) (h3 : w 5 = 1 → ∀ p, p / 8 = w 6 → V p = 0) (h4 : w 5 ≠ 1 → ∀ p, p / 8 = w 6 → V p = gapF x (w 6) (w 5) j p)
    (h5 : V 5 = w 5 - 1) (h6' : V 6 = if w 5 = 1 then 0 else w 6) (h7 : ∀ p, p < 8 → p ≠ 5 → p ≠ 6 → V p = x p) : V = clo (dlR w j) (dlU u j) := by
  have hs := hi.1
  have hact := hs.act
  have htj := hs.tab hj
  have hns := hs.ns
  have h6 := hns.2 (by omega)
  have hls := hs.list h6
  have hL1 := T_list1 hs h6
  obtain ⟨g0, g1, g7, gl, gn⟩ := hi.2.2.2.1
  obtain ⟨hS, hT, hI, hO⟩ := dl_spec hi hj
  have hco : CO u (fun X => tl w X (tab w j)) := CO.tls fun i hi8 => hs.tw (tab_tb hj) hi8
  have hx0 : ∀ X i, (u X < 4 ∨ X = 0) → i < 8 → x (8 * X + i) = w (8 * X + i) := fun X i hX hi8 => by
    rw [hx]
    refine cW_out (zS_false fun _ e => ?_) (by rw [ix_div hi8]; omega)
    rw [ix_div hi8] at e
    exfalso
    by_cases e2 : tl w X (tab w j) = 0
    · have h9 : iv (tab w j) X ≠ 0 := by omega
      have := iv_pos h9
      rw [← this] at hX
      omega
    · have := hco X e2
      omega
  have e4 : dlR w j 4 = w 4 := hO 4 (by decide) (by decide) (by omega)
  have ek : ∀ k, k < 8 → dlR w j (8 * w 4 + k) = w (8 * w 4 + k) := fun k hk => hO _ (by have := hs.ct; omega) (by have := hs.ct; omega) (by rw [ix_div hk]; intro e; have := hs.ct; rw [e] at this; omega)
  have ecpl : ∀ X, X < 64 → cpl (dlR w j) X = cpl w X := fun X hX => by unfold cpl; rw [e4, ek _ (by omega)]
  have ekp : ∀ p, kp (dlR w j) p ↔ kp w p := fun p => by
    constructor
    · rintro ⟨k, hk, h0, e⟩
      rw [e4, ek k hk] at h0 e
      exact ⟨k, hk, h0, e⟩
    · rintro ⟨k, hk, h0, e⟩
      exact ⟨k, hk, by rw [e4, ek k hk]; exact h0, by rw [e4, ek k hk]; exact e⟩
  have htl : tc w (w 6) (tab w j) = 0 := tc_none hs (tab_tb hj) (fun e => by rw [← e] at htj; omega) (by omega)
  refine eq_clo hS (fun X hX h0 => ?_) (fun p hp h0 => ?_) (fun p hp hk => ?_)
  · rw [e4, ek _ (by omega)] at h0
    have hin := cpl_in hs hX h0
    rw [ecpl X hX]
    have hTX := hT X
    by_cases e : w 5 = 1 ∧ X = w 6
    · rw [e.2, h2 e.1]
      rw [e.2, if_pos e.1, iv_self] at hTX
      omega
    · rw [h1 _ (by omega) (fun e => by rw [e] at hin; omega) (fun e1 e2 => e ⟨e1, cpl_inj hs hX hls.1 h0 (by intro e3; have := hi.noK hls.1 e3; omega) e2⟩), hx]
      have hq := cW_cpl (g := fun X => val false (T w X) (tl w X (tab w j) + iv (tab w j) X)) (Z := zS false (T w) (fun Y => tl w Y (tab w j) + iv (tab w j) Y)) hs hX h0 (zS_false (fun _ e => by
        exfalso
        have hk2 := hs.keep (show X / 8 < 8 by omega) h0
        by_cases e2 : tl w (w (8 * w 4 + X / 8)) (tab w j) = 0
        · have h9 : iv (tab w j) (w (8 * w 4 + X / 8)) ≠ 0 := by omega
          have := iv_pos h9
          rw [← this] at hk2
          omega
        · have := hco _ e2
          omega))
      have h9 : val false (T w X) (tl w X (tab w j) + iv (tab w j) X) = T (dlR w j) X := by
        have h10 : val false (T w X) (tl w X (tab w j) + iv (tab w j) X) = T w X - (tl w X (tab w j) + iv (tab w j) X) := rfl
        rw [h10]
        rw [tc_tl] at hTX
        have h11 : (if w 5 = 1 then iv (w 6) X else 0) = 0 := by
          split
          · next e1 => exact iv_ne fun e2 => e ⟨e1, e2.symm⟩
          · rfl
        omega
      rw [← h9]
      exact hq
  · have hTX := hT (p / 8)
    have hp0 : p / 8 ≠ 0 := fun e => by have := T_zero (dlR w j); rw [e] at h0; omega
    by_cases e : p / 8 = w 6
    · by_cases e1 : w 5 = 1
      · exact h3 e1 p e
      · rw [e, if_neg e1] at hTX
        rw [e] at h0
        omega
    · have h11 : (if w 5 = 1 then iv (w 6) (p / 8) else 0) = 0 := by
        split
        · exact iv_ne fun e2 => e e2.symm
        · rfl
      by_cases e2 : w 5 = 1 ∧ p = cpl w (w 6)
      · rw [e2.2]
        exact h2 e2.1
      · rw [h1 p hp0 e (fun e3 e4 => e2 ⟨e3, e4⟩), hx]
        by_cases h12 : tc w (p / 8) (tab w j) = 0
        · have h13 := hi.2.2.1 (p / 8) (by omega) (by omega) (p % 8) (by omega)
          rw [show 8 * (p / 8) + p % 8 = p by omega] at h13
          unfold cS cW
          split
          · rfl
          · split
            · next h14 =>
              have h15 := T_keep (w := w) (k := u (p / 8) - 16) (by omega) (by rw [h14.2.2.2]; exact h14.1)
              rw [h14.2.2.2] at h15
              omega
            · exact h13
        · unfold cS cW
          rw [if_pos]
          unfold zS
          rw [tc_tl] at h12 hTX
          simp only [Bool.not_false, Bool.true_and, decide_eq_true_eq]
          omega
  · rw [ekp] at hk
    by_cases hp0 : p / 8 = 0
    · by_cases q5 : p = 5
      · rw [q5, h5]
        exact (if_pos rfl).symm
      · by_cases q6 : p = 6
        · rw [q6, h6']
          have e6 : dlR w j 6 = if w 5 = 1 then 0 else w 6 := by
            unfold dlR
            rw [if_neg (by decide), if_pos rfl]
          exact e6.symm
        · rw [h7 p (by omega) q5 q6, hO p q5 q6 (by omega)]
          have := hx0 0 p (Or.inr rfl) (by omega)
          rwa [show 8 * 0 + p = p by omega] at this
    · by_cases e : p / 8 = w 6
      · by_cases e1 : w 5 = 1
        · exfalso
          have hTX := hT (p / 8)
          rw [e, if_pos e1, iv_self] at hTX
          rw [e] at hp
          omega
        · rw [h4 e1 p e]
          have hq : ∀ i, i < 8 → x (8 * w 6 + i) = w (8 * w 6 + i) := fun i hi8 => hx0 _ i (Or.inl (by omega)) hi8
          have hz : ∀ i, 2 * w 5 ≤ i → i < 8 → w (8 * w 6 + i) = 0 := gl h6
          obtain ⟨i, hi8, rfl⟩ : ∃ i, i < 8 ∧ p = 8 * w 6 + i := ⟨p % 8, by omega, by omega⟩
          have eg : gapF x (w 6) (w 5) j (8 * w 6 + i) = if i < 2 * j then x (8 * w 6 + i) else if i < 2 * w 5 - 2 then x (8 * w 6 + i + 2) else if i < 2 * w 5 then 0 else x (8 * w 6 + i) := by
            unfold gapF
            rw [if_pos e, ix_mod hi8]
          rw [eg, dlR_list h6 hi8]
          by_cases q1 : i < 2 * j
          · rw [if_pos q1, if_pos q1, hq i hi8]
          · rw [if_neg q1, if_neg q1]
            by_cases q2 : i < 2 * w 5 - 2
            · rw [if_pos q2, if_pos (by omega)]
              exact hq (i + 2) (by omega)
            · rw [if_neg q2]
              have e3 : (if i < 6 then w (8 * w 6 + (i + 2)) else 0) = 0 := by
                split
                · exact hz (i + 2) (by omega) (by omega)
                · rfl
              rw [e3]
              split
              · rfl
              · rw [hq i hi8]
                exact hz i (by omega) hi8
      · have hTX := hT (p / 8)
        have h11 : (if w 5 = 1 then iv (w 6) (p / 8) else 0) = 0 := by
          split
          · exact iv_ne fun e2 => e e2.symm
          · rfl
        rw [h1 p hp0 e (fun e1 e2 => hk (by rw [e2]; exact cpl_kp hls.1 (by intro e3; have := hi.noK hls.1 e3; omega))), hO p (by omega) (by omega) e, hx]
        unfold cS cW
        rw [if_neg, if_neg]
        · rintro ⟨a1, a2, a3, a4⟩
          exact hk ⟨u (p / 8) - 16, by omega, by rw [a4]; exact a1, a4.symm⟩
        · unfold zS
          rw [tc_tl] at hTX
          simp only [Bool.not_false, Bool.true_and, decide_eq_true_eq]
          rintro ⟨a1, a2⟩
          rcases hp with hp | hp
          · have h2 : T w (p / 8) ≠ 0 := by omega
            have := hs.T64 h2
            omega
          · omega
theorem c_removeSnapshot {j : Nat} (hw : h (10, k) = E w) (hi : Inv w u) (hj : j < w 5) : Cl (d + 5) MX1_removeSnapshot [vR (1, k), vI (nI j)] h none (hup h (10, k) (E (stl (dlR w j) (dlU u j)))) := by
  have hs := hi.1
  have hns := hs.ns
  have h6 := hns.2 (by omega)
  have hls := hs.list h6
  have htj := hs.tab hj
  have hact := hs.act
  have hL1 := T_list1 hs h6
  obtain ⟨hS, hT, hI, hO⟩ := dl_spec hi hj
  have hTle := fun X => T_le (w := w) hns.1 X
  have htt : ∀ X, tl w X (tab w j) + iv (tab w j) X ≤ T w X := fun X => by have := T_tc (w := w) (X := X) (tab_tb hj); rw [tc_tl] at this; omega
  have hco : CO u (fun X => tl w X (tab w j)) := CO.tls fun i hi8 => hs.tw (tab_tb hj) hi8
  have c1 := c_countTable (d := d + 1) (h := h) (k := k) (sg := false) (w := w) (u := u) (g := T w) (t := tab w j) (by rw [cS_0 hi]; exact hw) hs htj.2.1 (by omega) (fun i hi8 => hs.tw (tab_tb hj) hi8) (hi.kp (tab_tb hj)) (fun _ X => by have := htt X; omega) (fun X => by have := hTle X; omega)
  rw [show dlt false = -1 from rfl] at c1
  obtain ⟨q1, q2, q3⟩ := hco.kk hs
  have htl0 : tl w (tab w j) (tab w j) = 0 := Classical.byContradiction fun e => by have := hco _ e; omega
  have c2 := c_addS (d := d + 3) (h := hup h (10, k) (E (cS false w u (T w) fun X => tl w X (tab w j)))) (k := k) hup_at hs htj.1 htj.2.1 (by intro e; have := hi.noK htj.2.1 e; have := T_tab (tab_tb hj); omega) q1 q2 q3 (Or.inl (by omega)) (fun e => by have := hs.ct; rw [e] at htj; omega) (fun _ => by have := htt (tab w j); rw [iv_self] at this; omega) (by have := hTle (tab w j); omega)
  rw [show dlt false = -1 from rfl, hup_hup] at c2
  obtain ⟨x, hx⟩ : ∃ x, x = cS false w u (T w) (fun Y => tl w Y (tab w j) + iv (tab w j) Y) := ⟨_, rfl⟩
  rw [← hx] at c2
  have hx0 : ∀ X i, (u X < 4 ∨ X = 0) → i < 8 → x (8 * X + i) = w (8 * X + i) := fun X i hX hi8 => by
    rw [hx]
    refine cW_out (zS_false fun _ e => ?_) (by rw [ix_div hi8]; omega)
    rw [ix_div hi8] at e
    exfalso
    by_cases e2 : tl w X (tab w j) = 0
    · have h9 : iv (tab w j) X ≠ 0 := by omega
      have := iv_pos h9
      rw [← this] at hX
      omega
    · have := hco X e2
      omega
  have hxh : ∀ p, p < 8 → x p = w p := fun p hp => by have := hx0 0 p (Or.inr rfl) hp; rwa [show 8 * 0 + p = p by omega] at this
  have c3 := c_closeListGap (d := d + 2) (h := hup h (10, k) (E x)) (k := k) (x := x) (l := w 6) (n := w 5) (j := j) hup_at (hxh 6 (by decide)) (by omega) hls.1 (hxh 5 (by decide)) hns.1 hj
  rw [hup_hup] at c3
  have hgh : ∀ p, p < 8 → gapF x (w 6) (w 5) j p = w p := fun p hp => by unfold gapF; rw [if_neg (by omega)]; exact hxh p hp
  have c4 := c_tellFlags (d := d) (h := hup h (10, k) (E (clo (dlR w j) (dlU u j)))) (k := k) hup_at hI
  rw [hup_hup] at c4
  refine rnN 2 rfl ?_
  refine rnK rfl (c_snapshotTable hw hls.1 (show j < 4 by omega)) ?_
  refine rnN 4 rfl ?_
  refine rnK rfl (c1) ?_
  refine rnN 4 rfl ?_
  refine rnK rfl (c2) ?_
  refine rnN 2 rfl ?_
  refine rnK rfl (c3) ?_
  refine rnN 1 rfl ?_
  refine rnK rfl (c_snapshotCount hup_at) ?_
  rw [hgh 5 (by decide)]
  refine rnN 8 rfl ?_
  simp (disch := omega) only [nI_add, pk_mul, pk_sub, nd8, nd4, nsub8, nand63, nand7, nshr2, nI_clamp, E_at, hup_at, hup_hup]
  refine rnK rfl (c_hput (x := w 5 - 1) hup_at (show 5 < 8 by decide)) ?_
  rw [hup_hup]
  refine rnN 1 rfl ?_
  by_cases e1 : w 5 = 1
  · have hgh1 : ∀ p, p < 8 → gapF x (w 6) 1 j p = w p := fun p hp => by have := hgh p hp; rwa [e1] at this
    rw [e1]
    refine rnN 4 rfl ?_
    refine rnK rfl (c_snapshotList hup_at) ?_
    rw [up_ne (show (6 : Nat) ≠ 5 by decide), hgh1 6 (by decide)]
    refine rnN 1 rfl ?_
    have hk0 : w (8 * w 4 + w 6 / 8) ≠ 0 := fun e => by have := hi.noK hls.1 e; omega
    have hkc := hs.keep (show w 6 / 8 < 8 by omega) hk0
    obtain ⟨y, hy⟩ : ∃ y, y = up (gapF x (w 6) (w 5) j) 5 (w 5 - 1) := ⟨_, rfl⟩
    rw [e1] at hy
    rw [show (1 : Nat) - 1 = 0 from rfl] at hy ⊢
    rw [← hy]
    have hy4 : y 4 = w 4 := by rw [hy, up_ne (by decide), hgh1 4 (by decide)]
    have hyo : ∀ p, p ≠ 5 → p / 8 ≠ w 6 → y p = x p := fun p h1 h2 => by rw [hy, up_ne h1]; unfold gapF; rw [if_neg h2]
    have hyk : y (8 * w 4 + w 6 / 8) = w (8 * w 4 + w 6 / 8) := by
      have := hs.ct
      rw [hyo _ (by omega) (by rw [ix_div (by omega)]; intro e; rw [← e] at hls; omega)]
      exact hx0 _ _ (Or.inl (by omega)) (by omega)
    have ecy : cpl y (w 6) = cpl w (w 6) := by unfold cpl; rw [hy4, hyk]
    have hin := cpl_in hs hls.1 hk0
    have hyc : y (cpl w (w 6)) = 1 := by
      rw [hyo _ (by omega) (fun e => by rw [e] at hin; omega), hx]
      have hq := cW_cpl (g := fun X => val false (T w X) (tl w X (tab w j) + iv (tab w j) X)) (Z := zS false (T w) (fun Y => tl w Y (tab w j) + iv (tab w j) Y)) hs hls.1 hk0 (zS_false (fun _ e => by
        exfalso
        by_cases e2 : tl w (w (8 * w 4 + w 6 / 8)) (tab w j) = 0
        · have h9 : iv (tab w j) (w (8 * w 4 + w 6 / 8)) ≠ 0 := by omega
          have := iv_pos h9
          rw [← this] at hkc
          omega
        · have := hco _ e2
          omega))
      have h9 : val false (T w (w 6)) (tl w (w 6) (tab w j) + iv (tab w j) (w 6)) = 1 := by
        have h10 : val false (T w (w 6)) (tl w (w 6) (tab w j) + iv (tab w j) (w 6)) = T w (w 6) - (tl w (w 6) (tab w j) + iv (tab w j) (w 6)) := rfl
        have htl : tc w (w 6) (tab w j) = 0 := tc_none hs (tab_tb hj) (fun e => by rw [← e] at htj; omega) (by omega)
        rw [tc_tl] at htl
        rw [h10, hL1]
        omega
      rw [← h9]
      exact hq
    have c5 := c_addToCount (d := d + 3) (h := hup h (10, k) (E y)) (k := k) (w := y) (c := w 6) (dl := -1) (b := 0) hup_at hls.1 (by rw [hy4]; exact hs.ct.2.1) (by rw [hy4, hyk]; exact hkc.1) (by rw [cpl_eq, ecy, hyc]; exact pk_m1 0) (by decide)
    rw [hup_hup] at c5
    refine rnK rfl (c5) ?_
    refine rnN 5 rfl ?_
    refine rnK rfl (c_hput (x := 0) hup_at (show 6 < 8 by decide)) ?_
    rw [hup_hup]
    refine rnN 1 rfl ?_
    have ea : adc y (w 6) 0 = zc (setc y (w 6) 0) (w 6) := if_pos rfl
    have hz : ∀ p, zc (setc y (w 6) 0) (w 6) p = if p / 8 = w 6 then 0 else if p = cpl w (w 6) then 0 else y p := fun p => by
      unfold zc
      rw [setc_up, ecy]
      rfl
    have hV : up (adc y (w 6) 0) 6 0 = clo (dlR w j) (dlU u j) := by
      rw [ea]
      refine dl_words hi hj hx (fun p a1 a2 a3 => ?_) (fun _ => ?_) (fun _ p a1 => ?_) (fun a1 => absurd e1 a1) ?_ ?_ (fun p a1 a2 a3 => ?_)
      · rw [up_ne (by omega), hz, if_neg a2, if_neg (a3 e1), hyo p (by omega) a2]
      · rw [up_ne (by omega), hz]
        split
        · rfl
        · rw [if_pos rfl]
      · rw [up_ne (by omega), hz, if_pos a1]
      · rw [up_ne (by decide), hz, if_neg (by omega), if_neg (by omega), hy, up_at, e1]
      · rw [up_at, if_pos e1]
      · rw [up_ne a3, hz, if_neg (by omega), if_neg (by omega), hyo p a2 (by omega)]
    rw [hV]
    refine rnK rfl (c4) ?_
    exact rnR rfl
  · refine rnF (nI_ne0 (show 0 < w 5 - 1 by omega) (by omega)) rfl ?_
    refine rnN 1 rfl ?_
    have hV : up (gapF x (w 6) (w 5) j) 5 (w 5 - 1) = clo (dlR w j) (dlU u j) := by
      refine dl_words hi hj hx (fun p a1 a2 a3 => ?_) (fun a1 => absurd a1 e1) (fun a1 => absurd a1 e1) (fun _ p a1 => ?_) up_at ?_ (fun p a1 a2 a3 => ?_)
      · rw [up_ne (by omega)]
        unfold gapF
        rw [if_neg a2]
      · rw [up_ne (by omega)]
      · rw [up_ne (by decide), hgh 6 (by decide), if_neg e1]
      · rw [up_ne a2, hgh p a1, hxh p a1]
    rw [hV]
    refine rnK rfl (c4) ?_
    exact rnR rfl
end DL
