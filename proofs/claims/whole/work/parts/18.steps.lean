/-! ===== steps of a file: a count cluster, a leaf, a block's cluster, a block that is zero ===== -/
section ST
variable {w v u : Nat → Nat}
theorem hdr_c {p c : Nat} (h : p < 8) (hc : 1 ≤ c) : p / 8 ≠ c := by omega
/-- a free cluster becomes a count cluster, that counts itself -/
def addK (w : Nat → Nat) (c : Nat) : Nat → Nat := up (up w (8 * w 4 + c / 8) c) (8 * c + c % 8) 1
theorem addK_inv (hi : Inv w u) {c : Nat} (h1 : 1 ≤ c) (h2 : c < 64) (hz : T w c = 0) (hk : w (8 * w 4 + c / 8) = 0) :
    Inv (addK w c) (up u c (16 + c / 8)) ∧ (∀ X, T (addK w c) X = T w X + iv c X) ∧ ∀ p, p ≠ 8 * w 4 + c / 8 → p / 8 ≠ c → addK w c p = w p := by
  have hs := hi.1
  have hct := hs.ct
  have hne : w 4 ≠ c := ne_fresh hz T_ct
  have out : ∀ p, p ≠ 8 * w 4 + c / 8 → p / 8 ≠ c → addK w c p = w p := by
    intro p hp hpc
    unfold addK
    rw [up_ne (by omega), up_ne hp]
  have hH : ∀ p, p < 8 → addK w c p = w p := fun p hp => out p (by omega) (by omega)
  have hCT : ∀ k, k < 8 → addK w c (8 * w 4 + k) = if k = c / 8 then c else w (8 * w 4 + k) := by
    intro k hk2
    unfold addK
    rw [up_ne (by omega)]
    by_cases e : k = c / 8
    · rw [if_pos e, e, up_at]
    · rw [if_neg e, up_ne (by omega)]
  have hC : ∀ j, j < 8 → addK w c (8 * c + j) = if j = c % 8 then 1 else 0 := by
    intro j hj
    unfold addK
    by_cases e : j = c % 8
    · rw [if_pos e, e, up_at]
    · rw [if_neg e, up_ne (by omega), up_ne (by omega)]
      exact hi.2.2.1 c h2 hz j hj
  -- clusters of other uses stay
  have hcl : ∀ X j, j < 8 → T w X ≠ 0 → X ≠ w 4 → addK w c (8 * X + j) = w (8 * X + j) := by
    intro X j hj hX hX4
    have := ne_fresh (X := X) hz (by omega)
    exact out _ (by omega) (by omega)
  have htX : ∀ {t : Nat}, TB w t → t ≠ w 4 := fun ht e => by
    have h3 := (hs.tb ht).2.2
    rw [e] at h3
    omega
  have hlX : ∀ {t i : Nat}, TB w t → i < 8 → w (8 * t + i) / 4 ≠ 0 → w (8 * t + i) / 4 ≠ w 4 := fun ht hi2 h0 e => by
    have h3 := ((hs.tw ht hi2).lead h0).2.2.1
    rw [e] at h3
    omega
  have hTB : ∀ t i, TB w t → i < 8 → addK w c (8 * t + i) = w (8 * t + i) := fun t i ht hi2 => hcl t i hi2 (by have := T_tab ht; omega) (htX ht)
  have hLF : ∀ t i j, TB w t → i < 8 → j < 8 → w (8 * t + i) / 4 ≠ 0 → addK w c (8 * (w (8 * t + i) / 4) + j) = w (8 * (w (8 * t + i) / 4) + j) := fun t i j ht hi2 hj h0 => hcl _ j hj (by have := T_leaf ht hi2 h0; omega) (hlX ht hi2 h0)
  have htc : ∀ t X, TB w t → tc (addK w c) X t = tc w X t := fun t X ht => tc_congr (fun i hi2 => by rw [hTB t i ht hi2]) (fun i hi2 h0 j hj => by rw [hLF t i j ht hi2 hj h0])
  have hls : w 6 ≠ 0 → ∀ j, j < 8 → addK w c (8 * w 6 + j) = w (8 * w 6 + j) := fun h6 j hj => hcl _ j hj (by have := T_list h6; omega) (fun e => by have h3 := hs.list h6; rw [e] at h3; omega)
  have etab : ∀ j, j < w 5 → tab (addK w c) j = tab w j := fun j hj => by
    unfold tab
    rw [hH 6 (by decide)]
    have := hs.ns
    exact hls (this.2 (by omega)) _ (by omega)
  have hT : ∀ X, T (addK w c) X = T w X + iv c X := by
    intro X
    have ekc : kc (addK w c) X = kc w X + iv c X := by
      unfold kc
      rw [hH 4 (by decide)]
      have h3 := sm_one (n := 8) (i := c / 8) (f := fun k => if addK w c (8 * w 4 + k) = 0 then 0 else iv (addK w c (8 * w 4 + k)) X) (g := fun k => if w (8 * w 4 + k) = 0 then 0 else iv (w (8 * w 4 + k)) X) (by omega) (fun k hk2 hne2 => by
        show (if addK w c (8 * w 4 + k) = 0 then 0 else iv (addK w c (8 * w 4 + k)) X) = if w (8 * w 4 + k) = 0 then 0 else iv (w (8 * w 4 + k)) X
        rw [hCT k hk2, if_neg hne2])
      have e1 : (if addK w c (8 * w 4 + c / 8) = 0 then 0 else iv (addK w c (8 * w 4 + c / 8)) X) = iv c X := by
        rw [hCT _ (by omega), if_pos rfl, if_neg (by omega)]
      have e2 : (if w (8 * w 4 + c / 8) = 0 then 0 else iv (w (8 * w 4 + c / 8)) X) = 0 := if_pos hk
      simp only [e1, e2] at h3
      omega
    have es : sm (w 5) (fun j => tc (addK w c) X (tab (addK w c) j)) = sm (w 5) fun j => tc w X (tab w j) := sm_congr fun j hj => by rw [etab j hj, htc _ X (tab_tb hj)]
    unfold T
    rw [hH 3 (by decide), hH 4 (by decide), hH 5 (by decide), hH 6 (by decide), ekc, es, htc _ X act_tb]
    omega
  refine ⟨⟨?_, ?_, ?_, ?_, ?_⟩, hT, out⟩
  · refine StrF hs (fun X hX => u_fresh hz hX) (fun p _ hp => hH p (by omega)) (fun k hk2 => ?_) (fun h6 j hj => by have := hs.ns; exact hls h6 _ (by omega)) (fun t i ht hi2 => Or.inl (hTB t i ht hi2)) (fun t i j ht hi2 hj _ h0 => Or.inl (hLF t i j ht hi2 hj h0))
    rw [hCT k hk2]
    by_cases e : k = c / 8
    · rw [if_pos e]
      exact Or.inr ⟨h2, by rw [e, up_at]⟩
    · rw [if_neg e]
      exact Or.inl rfl
  · intro X hX
    rw [hT X]
    unfold cnt
    rw [hH 4 (by decide), hCT (X / 8) (by omega)]
    by_cases e : X / 8 = c / 8
    · rw [if_pos e, if_neg (by omega), hC _ (by omega)]
      have h3 := hi.noK hX (by rw [e]; exact hk)
      rw [h3]
      by_cases e2 : X % 8 = c % 8
      · rw [if_pos e2, show c = X by omega, iv_self]
      · rw [if_neg e2, iv_ne (by omega)]
    · rw [if_neg e, iv_ne (by omega)]
      have h3 := hi.2.1 X hX
      unfold cnt at h3
      split
      · next h0 => rw [if_pos h0] at h3; omega
      · next h0 =>
        rw [if_neg h0] at h3
        have h4 := hs.keep (show X / 8 < 8 by omega) h0
        have h5 := hcl (w (8 * w 4 + X / 8)) (X % 8) (by omega) (by have := T_keep (show X / 8 < 8 by omega) h0; omega) (fun e3 => by rw [e3] at h4; omega)
        rw [h5, h3]
        rfl
  · intro X hX h0 j hj
    rw [hT X] at h0
    have h3 : c ≠ X := fun e => by rw [e, iv_self] at h0; omega
    have h4 : X ≠ w 4 := fun e => by have := T_ct (w := w); rw [e] at h0; omega
    rw [out _ (by omega) (by omega)]
    exact hi.2.2.1 X hX (by omega) j hj
  · obtain ⟨g0, g1, g7, gl, gn⟩ := hi.2.2.2.1
    refine ⟨by rw [hH 0 (by decide)]; exact g0, by rw [hH 1 (by decide)]; exact g1, by rw [hH 7 (by decide)]; exact g7, ?_, ?_⟩
    · rw [hH 5 (by decide), hH 6 (by decide)]
      intro h6 j hj hj8
      rw [hls h6 j hj8]
      exact gl h6 j hj hj8
    · rw [hH 5 (by decide), hH 6 (by decide)]
      intro i j hi2 hj
      have h5 := hs.ns
      have h6 := h5.2 (by omega)
      rw [show 8 * w 6 + 2 * i + 1 = 8 * w 6 + (2 * i + 1) by omega, show 8 * w 6 + 2 * j + 1 = 8 * w 6 + (2 * j + 1) by omega, hls h6 _ (by omega), hls h6 _ (by omega)]
      exact gn i j hi2 hj
  · intro p
    unfold addK up
    split
    · omega
    · split
      · omega
      · exact hi.2.2.2.2 p
end ST
