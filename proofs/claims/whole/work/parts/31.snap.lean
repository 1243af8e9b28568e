/-! ===== addSnapshot ===== -/
/-- with a list, taken where there is none -/
def lgR (w : Nat → Nat) : Nat → Nat := up (tkW w) 6 (tkC w)
def lgW (w : Nat → Nat) : Nat → Nat := if w 5 = 0 then up (setc (tkW w) (tkC w) 1) 6 (tkC w) else w
/-- with a table more, that is like the active one -/
def snR (v : Nat → Nat) (c n name : Nat) : Nat → Nat := fun p => if p = 5 then n + 1 else if p = 8 * v 6 + 2 * n then c else if p = 8 * v 6 + 2 * n + 1 then name else if p / 8 = c then v (8 * v 3 + p % 8) else v p
section SN
variable {d k : Nat} {h : xH} {w v x u u' R V g : Nat → Nat}
theorem eq_cW0 (hs : Str R u) (h1 : ∀ X, X < 64 → R (8 * R 4 + X / 8) ≠ 0 → V (cpl R X) = g X) (h3 : ∀ p, ¬ kp R p → V p = R p) : V = cW R u g (fun _ => false) := by
  funext p
  unfold cW
  rw [if_neg (show ¬ (false = true) by decide)]
  by_cases e2 : p / 8 ≠ 0 ∧ 16 ≤ u (p / 8) ∧ u (p / 8) < 24 ∧ R (8 * R 4 + (u (p / 8) - 16)) = p / 8
  · rw [if_pos e2]
    obtain ⟨a1, a2, a3, a4⟩ := e2
    have h5 := h1 (8 * (u (p / 8) - 16) + p % 8) (by omega) (by rw [ix_div (by omega), a4]; exact a1)
    have e3 : cpl R (8 * (u (p / 8) - 16) + p % 8) = p := by
      unfold cpl
      rw [ix_div (by omega), ix_mod (by omega), a4]
      omega
    rw [e3] at h5
    exact h5
  · rw [if_neg e2]
    refine h3 p ?_
    rintro ⟨k, hk, h0, e3⟩
    have h5 := hs.keep hk h0
    rw [← e3] at h5
    exact e2 ⟨by omega, by omega, by omega, by rw [show u (p / 8) - 16 = k by omega]; exact e3.symm⟩
theorem cW_clo (hs : Str R u) (h1 : ∀ p, p < 512 → T R (p / 8) = 0 → R p = 0) (h2 : ∀ X, X < 64 → R (8 * R 4 + X / 8) ≠ 0 → g X = T R X) : cW R u g (fun _ => false) = clo R u := by
  refine eq_clo hs (fun X hX h0 => ?_) (fun p hp h0 => ?_) (fun p hp hk => ?_)
  · rw [cW_cpl hs hX h0 rfl]
    exact h2 X hX h0
  · unfold cW
    rw [if_neg (show ¬ (false = true) by decide), if_neg]
    · exact h1 p hp h0
    · rintro ⟨a1, a2, a3, a4⟩
      have h6 := T_keep (w := R) (k := u (p / 8) - 16) (by omega) (by rw [a4]; exact a1)
      rw [a4] at h6
      omega
  · unfold cW
    rw [if_neg (show ¬ (false = true) by decide), if_neg]
    rintro ⟨a1, a2, a3, a4⟩
    exact hk ⟨u (p / 8) - 16, by omega, by rw [a4]; exact a1, a4.symm⟩
theorem lg_spec (hi : Inv w u) (h60 : w 5 = 0 → w 6 = 0) (h5 : w 5 = 0) (hr : 1 ≤ rm w) : ∃ u1 u2, Inv (tkW w) u1 ∧ Str (lgR w) u2 ∧ lgW w = clo (lgR w) u2 ∧ Inv (lgW w) u2 ∧ (∀ p, p < 8 → p ≠ 6 → lgW w p = w p) ∧ lgW w 6 = tkC w ∧ 1 ≤ tkC w ∧ tkC w < 64 ∧ rm w - 1 ≤ rm (lgW w) ∧ (∀ p, p ≠ 6 → lgR w p = tkW w p) ∧ (∀ X, T (lgR w) X = T (tkW w) X + iv (tkC w) X) ∧ (∀ X, T (tkW w) X ≠ 0 → u2 X = u1 X) ∧ T (tkW w) (tkC w) = 0 := by
  obtain ⟨u1, ha, hu, hC1, hC2, hC3, hC4, hrm, hTT, hO, hH, hC5⟩ := tk_spec hi hr
  have hs := ha.1
  obtain ⟨v, hv⟩ : ∃ v, v = tkW w := ⟨_, rfl⟩
  obtain ⟨c, hc⟩ : ∃ c, c = tkC w := ⟨_, rfl⟩
  have elg : lgW w = up (setc v c 1) 6 c := by unfold lgW; rw [if_pos h5, hv, hc]
  have elr : lgR w = up v 6 c := by unfold lgR; rw [hv, hc]
  rw [elg, elr]
  rw [← hv] at ha hs hC3 hC4 hrm hTT hO hH
  rw [← hc] at hC1 hC2 hC3 hC4 hC5
  rw [← hv, ← hc]
  have hact := hs.act
  have hct := hs.ct
  have e5 : v 5 = 0 := by rw [hH 5 (by decide)]; exact h5
  have e6 : v 6 = 0 := by rw [hH 6 (by decide)]; exact h60 h5
  have hR : ∀ p, p ≠ 6 → up v 6 c p = v p := fun p hp => up_ne hp
  have hfr : ∀ X, T v X ≠ 0 → up u1 c 3 X = u1 X := fun X hX => u_fresh hC3 hX
  have hTB : ∀ t, TB (up v 6 c) t → t = v 3 := by
    rintro t (rfl | ⟨j, hj, -⟩)
    · exact hR 3 (by decide)
    · rw [hR 5 (by decide), e5] at hj
      omega
  have hTBv : ∀ t, TB v t → t = v 3 := by
    rintro t (rfl | ⟨j, hj, -⟩)
    · rfl
    · omega
  have hS : Str (up v 6 c) (up u1 c 3) := by
    refine ⟨by rw [hR 2 (by decide)]; exact hs.sz, ?_, ?_, ?_, ?_, ?_, ?_, ?_⟩
    · rw [hR 3 (by decide), hfr _ (by have := T_act (w := v); omega)]; exact hact
    · rw [hR 4 (by decide), hfr _ (by have := T_ct (w := v); omega)]; exact hct
    · rw [hR 5 (by decide), e5]; exact ⟨by omega, fun e => absurd rfl e⟩
    · intro _; rw [up_at, up_at]; exact ⟨hC2, rfl⟩
    · rw [hR 4 (by decide)]
      intro k hk h0
      rw [hR _ (by omega)] at h0 ⊢
      rw [hfr _ (by have := T_keep hk h0; omega)]
      exact hs.keep hk h0
    · intro j hj
      rw [hR 5 (by decide), e5] at hj
      omega
    · intro t ht i hi8
      have ht := hTB t ht
      subst ht
      rw [hR _ (by omega)]
      rcases hs.tw act_tb hi8 with e | ⟨a1, a2, a3, a4⟩
      · exact Or.inl e
      · have hp := a1.pos
        refine Or.inr ⟨a1, by rw [hR 2 (by decide)]; exact a2, by rw [hfr _ (by have := T_leaf act_tb hi8 (show v (8 * v 3 + i) / 4 ≠ 0 by omega); omega)]; exact a3, fun l hl => ?_⟩
        rw [hR 2 (by decide), hR _ (by omega)]
        exact (a4 l hl).move fun hy => hfr _ (by have := T_blk act_tb hi8 hl (show v (8 * v 3 + i) / 4 ≠ 0 by omega) hy; omega)
  have hT : ∀ X, T (up v 6 c) X = T v X + iv c X := by
    intro X
    have ek : kc (up v 6 c) X = kc v X := by
      unfold kc
      rw [hR 4 (by decide)]
      exact sm_congr fun k hk => by rw [hR _ (by omega)]
    have et : tc (up v 6 c) X (v 3) = tc v X (v 3) := tc_congr (fun i hi8 => by rw [hR _ (by omega)]) (fun i hi8 h0 j hj => by rw [hR _ (by omega)])
    unfold T
    rw [hR 3 (by decide), hR 4 (by decide), hR 5 (by decide), ek, et, e5, e6, up_at, if_pos rfl, if_neg (by omega)]
    simp only [sm]
    omega
  have hin := cpl_in hs hC2 (by rw [hH 4 (by decide)]; exact hC4)
  have hV : up (setc v c 1) 6 c = clo (up v 6 c) (up u1 c 3) := by
    have e4 : up v 6 c 4 = v 4 := hR 4 (by decide)
    have ek : ∀ k, k < 8 → up v 6 c (8 * v 4 + k) = v (8 * v 4 + k) := fun k hk => hR _ (by omega)
    have ecpl : ∀ X, X < 64 → cpl (up v 6 c) X = cpl v X := fun X hX => by unfold cpl; rw [e4, ek _ (by omega)]
    refine eq_clo hS (fun X hX h0 => ?_) (fun p hp h0 => ?_) (fun p hp hk => ?_)
    · rw [e4, ek _ (by omega)] at h0
      have h1 := cpl_in hs hX h0
      rw [ecpl X hX, up_ne (by omega), setc_up, hT]
      by_cases e : X = c
      · subst e
        rw [up_at, hC3, iv_self]
      · rw [up_ne (fun e2 => e (cpl_inj hs hX hC2 h0 (by rw [hH 4 (by decide)]; exact hC4) e2)), ha.cntAt hX h0, iv_ne (fun e2 => e e2.symm)]
        rfl
    · rw [hT] at h0
      have hp0 : p / 8 ≠ 0 := fun e => by have := T_zero v; rw [e] at h0; omega
      rw [up_ne (by omega), setc_at (fun e => by rw [e] at h0; omega)]
      have h1 := ha.2.2.1 (p / 8) (by omega) (by omega) (p % 8) (by omega)
      rwa [show 8 * (p / 8) + p % 8 = p by omega] at h1
    · by_cases e : p = 6
      · rw [e, up_at, up_at]
      · rw [up_ne e, up_ne e, setc_at]
        intro e2
        apply hk
        rw [e2]
        have h9 := cpl_kp hC2 (show v (8 * v 4 + c / 8) ≠ 0 by rw [hH 4 (by decide)]; exact hC4)
        obtain ⟨k, a1, a2, a3⟩ := h9
        exact ⟨k, a1, by rw [e4, ek k a1]; exact a2, by rw [e4, ek k a1]; exact a3⟩
  have hI : Inv (clo (up v 6 c) (up u1 c 3)) (up u1 c 3) := by
    refine (clo_inv hS ?_ (fun p => ?_) (fun X hX h0 => ?_)).1
    · obtain ⟨g0, g1, g7, gl, gn⟩ := ha.2.2.2.1
      refine ⟨by rw [hR 0 (by decide)]; exact g0, by rw [hR 1 (by decide)]; exact g1, by rw [hR 7 (by decide)]; exact g7, ?_, ?_⟩
      · rw [up_at]
        intro _ j hj hj8
        rw [hR _ (by omega)]
        exact ha.2.2.1 c hC2 hC3 j hj8
      · rw [hR 5 (by decide), e5]
        intro i j hi2
        omega
    · unfold up
      split
      · omega
      · exact ha.2.2.2.2 p
    · rw [hR 4 (by decide), hR _ (by omega)]
      rw [hT] at h0
      intro e
      have h1 := ha.noK hX e
      have h2 : c = X := iv_pos (show iv c X ≠ 0 by omega)
      subst h2
      rw [hH 4 (by decide)] at e
      exact hC4 e
  rw [← hV] at hI
  refine ⟨u1, up u1 c 3, ha, hS, hV, hI, fun p hp hp6 => ?_, up_at, hC1, hC2, ?_, hR, hT, hfr, hC3⟩
  · rw [up_ne hp6, setc_at (by omega), hH p hp]
  · have h1 := rm_less (v := up (setc v c 1) 6 c) ha hI hC2 hC3 (by rw [hV, (clo_agr hS).eT hS, hT, iv_self]; omega) (fun X hX => by rw [hV, (clo_agr hS).eT hS, hT, iv_ne (fun e => hX e.symm)]; rfl) (by rw [up_ne (by decide), setc_at (by omega)]) (fun k hk => by
      rw [up_ne (by omega), setc_at]
      intro e
      rw [← e, ix_div hk] at hin
      omega)
    rw [h1, hrm]
    exact Nat.le_refl _
end SN
