/-! ===== addSnapshot ===== -/
/-- with a list, taken where there is none -/
def lgR (w : Nat → Nat) : Nat → Nat := up (tkW w) 6 (tkC w)
def lgW (w : Nat → Nat) : Nat → Nat := if w 5 = 0 then up (setc (tkW w) (tkC w) 1) 6 (tkC w) else w
/-- with a table more, that is like the active one -/
def snR (v : Nat → Nat) (c n name : Nat) : Nat → Nat := fun p => if p = 5 then n + 1 else if p = 8 * v 6 + 2 * n then c else if p = 8 * v 6 + 2 * n + 1 then name else if p / 8 = c then v (8 * v 3 + p % 8) else v p
section SN
variable {d k : Nat} {h : xH} {w v x u u' R V g : Nat → Nat}
theorem eq_cW0 (hs : Str R u) (h1 : ∀ X, X < 64 → R (8 * R 4 + X / 8) ≠ 0 → V (cpl R X) = g X) (h3 : ∀ p, ¬ kp R p → V p = R p) : V = cW R u g (fun _ => false) := by
  funext p
  unfold cW
  rw [if_neg (show ¬ (false = true) by decide)]
  by_cases e2 : p / 8 ≠ 0 ∧ 16 ≤ u (p / 8) ∧ u (p / 8) < 24 ∧ R (8 * R 4 + (u (p / 8) - 16)) = p / 8
  · rw [if_pos e2]
    obtain ⟨a1, a2, a3, a4⟩ := e2
    have h5 := h1 (8 * (u (p / 8) - 16) + p % 8) (by omega) (by rw [ix_div (by omega), a4]; exact a1)
    have e3 : cpl R (8 * (u (p / 8) - 16) + p % 8) = p := by
      unfold cpl
      rw [ix_div (by omega), ix_mod (by omega), a4]
      omega
    rw [e3] at h5
    exact h5
  · rw [if_neg e2]
    refine h3 p ?_
    rintro ⟨k, hk, h0, e3⟩
    have h5 := hs.keep hk h0
    rw [← e3] at h5
    exact e2 ⟨by omega, by omega, by omega, by rw [show u (p / 8) - 16 = k by omega]; exact e3.symm⟩
theorem cW_clo (hs : Str R u) (h1 : ∀ p, p < 512 → T R (p / 8) = 0 → R p = 0) (h2 : ∀ X, X < 64 → R (8 * R 4 + X / 8) ≠ 0 → g X = T R X) : cW R u g (fun _ => false) = clo R u := by
  refine eq_clo hs (fun X hX h0 => ?_) (fun p hp h0 => ?_) (fun p hp hk => ?_)
  · rw [cW_cpl hs hX h0 rfl]
    exact h2 X hX h0
  · unfold cW
    rw [if_neg (show ¬ (false = true) by decide), if_neg]
    · exact h1 p hp h0
    · rintro ⟨a1, a2, a3, a4⟩
      have h6 := T_keep (w := R) (k := u (p / 8) - 16) (by omega) (by rw [a4]; exact a1)
      rw [a4] at h6
      omega
  · unfold cW
    rw [if_neg (show ¬ (false = true) by decide), if_neg]
    rintro ⟨a1, a2, a3, a4⟩
    exact hk ⟨u (p / 8) - 16, by omega, by rw [a4]; exact a1, a4.symm⟩
theorem lg_spec (hi : Inv w u) (h60 : w 5 = 0 → w 6 = 0) (h5 : w 5 = 0) (hr : 1 ≤ rm w) : ∃ u1 u2, Inv (tkW w) u1 ∧ Str (lgR w) u2 ∧ lgW w = clo (lgR w) u2 ∧ Inv (lgW w) u2 ∧ (∀ p, p < 8 → p ≠ 6 → lgW w p = w p) ∧ lgW w 6 = tkC w ∧ 1 ≤ tkC w ∧ tkC w < 64 ∧ rm w - 1 ≤ rm (lgW w) ∧ (∀ p, p ≠ 6 → lgR w p = tkW w p) ∧ (∀ X, T (lgR w) X = T (tkW w) X + iv (tkC w) X) ∧ (∀ X, T (tkW w) X ≠ 0 → u2 X = u1 X) ∧ T (tkW w) (tkC w) = 0 := by
  obtain ⟨u1, ha, hu, hC1, hC2, hC3, hC4, hrm, hTT, hO, hH, hC5⟩ := tk_spec hi hr
  have hs := ha.1
  obtain ⟨v, hv⟩ : ∃ v, v = tkW w := ⟨_, rfl⟩
  obtain ⟨c, hc⟩ : ∃ c, c = tkC w := ⟨_, rfl⟩
  have elg : lgW w = up (setc v c 1) 6 c := by unfold lgW; rw [if_pos h5, hv, hc]
  have elr : lgR w = up v 6 c := by unfold lgR; rw [hv, hc]
  rw [elg, elr]
  rw [← hv] at ha hs hC3 hC4 hrm hTT hO hH
  rw [← hc] at hC1 hC2 hC3 hC4 hC5
  rw [← hv, ← hc]
  have hact := hs.act
  have hct := hs.ct
  have e5 : v 5 = 0 := by rw [hH 5 (by decide)]; exact h5
  have e6 : v 6 = 0 := by rw [hH 6 (by decide)]; exact h60 h5
  have hR : ∀ p, p ≠ 6 → up v 6 c p = v p := fun p hp => up_ne hp
  have hfr : ∀ X, T v X ≠ 0 → up u1 c 3 X = u1 X := fun X hX => u_fresh hC3 hX
  have hTB : ∀ t, TB (up v 6 c) t → t = v 3 := by
    rintro t (rfl | ⟨j, hj, -⟩)
    · exact hR 3 (by decide)
    · rw [hR 5 (by decide), e5] at hj
      omega
  have hTBv : ∀ t, TB v t → t = v 3 := by
    rintro t (rfl | ⟨j, hj, -⟩)
    · rfl
    · omega
  have hS : Str (up v 6 c) (up u1 c 3) := by
    refine ⟨by rw [hR 2 (by decide)]; exact hs.sz, ?_, ?_, ?_, ?_, ?_, ?_, ?_⟩
    · rw [hR 3 (by decide), hfr _ (by have := T_act (w := v); omega)]; exact hact
    · rw [hR 4 (by decide), hfr _ (by have := T_ct (w := v); omega)]; exact hct
    · rw [hR 5 (by decide), e5]; exact ⟨by omega, fun e => absurd rfl e⟩
    · intro _; rw [up_at, up_at]; exact ⟨hC2, rfl⟩
    · rw [hR 4 (by decide)]
      intro k hk h0
      rw [hR _ (by omega)] at h0 ⊢
      rw [hfr _ (by have := T_keep hk h0; omega)]
      exact hs.keep hk h0
    · intro j hj
      rw [hR 5 (by decide), e5] at hj
      omega
    · intro t ht i hi8
      have ht := hTB t ht
      subst ht
      rw [hR _ (by omega)]
      rcases hs.tw act_tb hi8 with e | ⟨a1, a2, a3, a4⟩
      · exact Or.inl e
      · have hp := a1.pos
        refine Or.inr ⟨a1, by rw [hR 2 (by decide)]; exact a2, by rw [hfr _ (by have := T_leaf act_tb hi8 (show v (8 * v 3 + i) / 4 ≠ 0 by omega); omega)]; exact a3, fun l hl => ?_⟩
        rw [hR 2 (by decide), hR _ (by omega)]
        exact (a4 l hl).move fun hy => hfr _ (by have := T_blk act_tb hi8 hl (show v (8 * v 3 + i) / 4 ≠ 0 by omega) hy; omega)
  have hT : ∀ X, T (up v 6 c) X = T v X + iv c X := by
    intro X
    have ek : kc (up v 6 c) X = kc v X := by
      unfold kc
      rw [hR 4 (by decide)]
      exact sm_congr fun k hk => by rw [hR _ (by omega)]
    have et : tc (up v 6 c) X (v 3) = tc v X (v 3) := tc_congr (fun i hi8 => by rw [hR _ (by omega)]) (fun i hi8 h0 j hj => by rw [hR _ (by omega)])
    unfold T
    rw [hR 3 (by decide), hR 4 (by decide), hR 5 (by decide), ek, et, e5, e6, up_at, if_pos rfl, if_neg (by omega)]
    simp only [sm]
    omega
  have hin := cpl_in hs hC2 (by rw [hH 4 (by decide)]; exact hC4)
  have hV : up (setc v c 1) 6 c = clo (up v 6 c) (up u1 c 3) := by
    have e4 : up v 6 c 4 = v 4 := hR 4 (by decide)
    have ek : ∀ k, k < 8 → up v 6 c (8 * v 4 + k) = v (8 * v 4 + k) := fun k hk => hR _ (by omega)
    have ecpl : ∀ X, X < 64 → cpl (up v 6 c) X = cpl v X := fun X hX => by unfold cpl; rw [e4, ek _ (by omega)]
    refine eq_clo hS (fun X hX h0 => ?_) (fun p hp h0 => ?_) (fun p hp hk => ?_)
    · rw [e4, ek _ (by omega)] at h0
      have h1 := cpl_in hs hX h0
      rw [ecpl X hX, up_ne (by omega), setc_up, hT]
      by_cases e : X = c
      · subst e
        rw [up_at, hC3, iv_self]
      · rw [up_ne (fun e2 => e (cpl_inj hs hX hC2 h0 (by rw [hH 4 (by decide)]; exact hC4) e2)), ha.cntAt hX h0, iv_ne (fun e2 => e e2.symm)]
        rfl
    · rw [hT] at h0
      have hp0 : p / 8 ≠ 0 := fun e => by have := T_zero v; rw [e] at h0; omega
      rw [up_ne (by omega), setc_at (fun e => by rw [e] at h0; omega)]
      have h1 := ha.2.2.1 (p / 8) (by omega) (by omega) (p % 8) (by omega)
      rwa [show 8 * (p / 8) + p % 8 = p by omega] at h1
    · by_cases e : p = 6
      · rw [e, up_at, up_at]
      · rw [up_ne e, up_ne e, setc_at]
        intro e2
        apply hk
        rw [e2]
        have h9 := cpl_kp hC2 (show v (8 * v 4 + c / 8) ≠ 0 by rw [hH 4 (by decide)]; exact hC4)
        obtain ⟨k, a1, a2, a3⟩ := h9
        exact ⟨k, a1, by rw [e4, ek k a1]; exact a2, by rw [e4, ek k a1]; exact a3⟩
  have hI : Inv (clo (up v 6 c) (up u1 c 3)) (up u1 c 3) := by
    refine (clo_inv hS ?_ (fun p => ?_) (fun X hX h0 => ?_)).1
    · obtain ⟨g0, g1, g7, gl, gn⟩ := ha.2.2.2.1
      refine ⟨by rw [hR 0 (by decide)]; exact g0, by rw [hR 1 (by decide)]; exact g1, by rw [hR 7 (by decide)]; exact g7, ?_, ?_⟩
      · rw [up_at]
        intro _ j hj hj8
        rw [hR _ (by omega)]
        exact ha.2.2.1 c hC2 hC3 j hj8
      · rw [hR 5 (by decide), e5]
        intro i j hi2
        omega
    · unfold up
      split
      · omega
      · exact ha.2.2.2.2 p
    · rw [hR 4 (by decide), hR _ (by omega)]
      rw [hT] at h0
      intro e
      have h1 := ha.noK hX e
      have h2 : c = X := iv_pos (show iv c X ≠ 0 by omega)
      subst h2
      rw [hH 4 (by decide)] at e
      exact hC4 e
  rw [← hV] at hI
  refine ⟨u1, up u1 c 3, ha, hS, hV, hI, fun p hp hp6 => ?_, up_at, hC1, hC2, ?_, hR, hT, hfr, hC3⟩
  · rw [up_ne hp6, setc_at (by omega), hH p hp]
  · have h1 := rm_less (v := up (setc v c 1) 6 c) ha hI hC2 hC3 (by rw [hV, (clo_agr hS).eT hS, hT, iv_self]; omega) (fun X hX => by rw [hV, (clo_agr hS).eT hS, hT, iv_ne (fun e => hX e.symm)]; rfl) (by rw [up_ne (by decide), setc_at (by omega)]) (fun k hk => by
      rw [up_ne (by omega), setc_at]
      intro e
      rw [← e, ix_div hk] at hin
      omega)
    rw [h1, hrm]
    exact Nat.le_refl _
end SN
section SN2
variable {d k : Nat} {h : xH} {w y v x u uy u' R V g : Nat → Nat}
theorem snR_5 {c n name : Nat} : snR v c n name 5 = n + 1 := if_pos rfl
theorem snR_l {c n name : Nat} (h6 : 1 ≤ v 6) : snR v c n name (8 * v 6 + 2 * n) = c ∧ snR v c n name (8 * v 6 + (2 * n + 1)) = name := by
  unfold snR
  exact ⟨by rw [if_neg (by omega), if_pos rfl], by rw [if_neg (by omega), if_neg (by omega), if_pos (by omega)]⟩
theorem snR_c {c n name i : Nat} (h6 : v 6 ≠ c) (hc : 1 ≤ c) (hn : n < 4) (hi : i < 8) : snR v c n name (8 * c + i) = v (8 * v 3 + i) := by
  unfold snR
  rw [if_neg (by omega), if_neg (by omega), if_neg (by omega), if_pos (by omega), ix_mod hi]
theorem snR_o {c n name p : Nat} (h5 : p ≠ 5) (h1 : p ≠ 8 * v 6 + 2 * n) (h2 : p ≠ 8 * v 6 + (2 * n + 1)) (hc : p / 8 ≠ c) : snR v c n name p = v p := by
  unfold snR
  rw [if_neg h5, if_neg h1, if_neg (by omega), if_neg hc]
theorem sn_spec (hi : Inv y uy) (h6 : y 6 ≠ 0) {name : Nat} (hn : y 5 < 4) (hr : 1 ≤ rm y) (hb : name < 4294967296) (hnm : ∀ i, i < y 5 → y (8 * y 6 + (2 * i + 1)) ≠ name) : ∃ u1 u3, Inv (tkW y) u1 ∧ Str (snR (tkW y) (tkC y) (y 5) name) u3 ∧ Inv (clo (snR (tkW y) (tkC y) (y 5) name) u3) u3 ∧ (∀ X, T (snR (tkW y) (tkC y) (y 5) name) X = T (tkW y) X + iv (tkC y) X + tl (tkW y) X (tkW y 3))
    ∧ (∀ X, T (tkW y) X ≠ 0 → u3 X = u1 X) ∧ u3 (tkC y) = 4 + y 5 ∧ 1 ≤ tkC y ∧ tkC y < 64 ∧ T (tkW y) (tkC y) = 0 ∧ tkW y (8 * tkW y 4 + tkC y / 8) ≠ 0 ∧ (∀ p, p < 8 → tkW y p = y p) := by
  obtain ⟨u1, ha, hu, hC1, hC2, hC3, hC4, hrm, hTT, hO, hH, hC5⟩ := tk_spec hi hr
  have hs := ha.1
  have hlw : ∀ i, i < 8 → tkW y (8 * y 6 + i) = y (8 * y 6 + i) := fun i hi8 => hO _ (by rw [ix_div hi8]; have := T_list h6; omega) (by rw [ix_div hi8]; intro e; have h1 := hi.1.list h6; have h2 := hi.1.ct; rw [e] at h1; omega)
  obtain ⟨v, hv⟩ : ∃ v, v = tkW y := ⟨_, rfl⟩
  obtain ⟨c, hc⟩ : ∃ c, c = tkC y := ⟨_, rfl⟩
  obtain ⟨n, hnd⟩ : ∃ n, n = y 5 := ⟨_, rfl⟩
  rw [← hv] at ha hs hC3 hC4 hrm hTT hO hH hlw
  rw [← hc] at hC1 hC2 hC3 hC4 hC5
  rw [← hnd] at hn hnm
  rw [← hv, ← hc, ← hnd]
  have hact := hs.act
  have hct := hs.ct
  have hns := hs.ns
  have e5 : v 5 = n := by rw [hH 5 (by decide), hnd]
  have e6 : v 6 = y 6 := hH 6 (by decide)
  have h6v : v 6 ≠ 0 := by rw [e6]; exact h6
  have hls := hs.list h6v
  have hne6 : v 6 ≠ c := ne_fresh hC3 (T_list h6v)
  have hne3 : v 3 ≠ c := ne_fresh hC3 T_act
  have hne4 : v 4 ≠ c := ne_fresh hC3 T_ct
  obtain ⟨g0, g1, g7, gl, gn⟩ := ha.2.2.2.1
  have hR : ∀ p, p ≠ 5 → p / 8 ≠ v 6 → p / 8 ≠ c → snR v c n name p = v p := fun p h1 h2 h3 => snR_o h1 (by omega) (by omega) h3
  have hH' : ∀ p, p < 8 → p ≠ 5 → snR v c n name p = v p := fun p h1 h2 => hR p h2 (by omega) (by omega)
  have hRl := snR_l (v := v) (c := c) (n := n) (name := name) (by omega)
  have hRc : ∀ i, i < 8 → snR v c n name (8 * c + i) = v (8 * v 3 + i) := fun i hi8 => snR_c hne6 hC1 hn hi8
  have hRli : ∀ i, i < 8 → i ≠ 2 * n → i ≠ 2 * n + 1 → snR v c n name (8 * v 6 + i) = v (8 * v 6 + i) := fun i h1 h2 h3 => snR_o (by omega) (by omega) (by omega) (by omega)
  have hcl : ∀ X i, i < 8 → T v X ≠ 0 → X ≠ v 6 → 1 ≤ X → snR v c n name (8 * X + i) = v (8 * X + i) := fun X i hi8 hX h1 h2 => hR _ (by omega) (by omega) (by rw [ix_div hi8]; exact ne_fresh hC3 (by omega))
  have hfr : ∀ X, T v X ≠ 0 → up u1 c (4 + n) X = u1 X := fun X hX => u_fresh hC3 hX
  have ek : ∀ k, k < 8 → snR v c n name (8 * v 4 + k) = v (8 * v 4 + k) := fun k hk => hcl _ k hk (by have := T_ct (w := v); omega) (fun e => by rw [e] at hct; omega) (by omega)
  have etw : ∀ t i, TB v t → i < 8 → snR v c n name (8 * t + i) = v (8 * t + i) := fun t i ht hi8 => by
    have h1 := hs.tb ht
    exact hcl _ i hi8 (by have := T_tab ht; omega) (fun e => by rw [e] at h1; omega) h1.1
  have elf : ∀ t i l, TB v t → i < 8 → l < 8 → v (8 * t + i) / 4 ≠ 0 → snR v c n name (8 * (v (8 * t + i) / 4) + l) = v (8 * (v (8 * t + i) / 4) + l) := fun t i l ht hi8 hl h0 => by
    have h1 := (hs.tw ht hi8).lead h0
    have h2 := h1.1.pos
    exact hcl _ l hl (by have := T_leaf ht hi8 h0; omega) (fun e => by rw [e] at h1; omega) h2.1
  have e6R : snR v c n name 6 = v 6 := hH' 6 (by decide) (by decide)
  have etab : ∀ j, j < n → tab (snR v c n name) j = tab v j := fun j hj => by
    unfold tab
    rw [e6R]
    exact hRli _ (by omega) (by omega) (by omega)
  have etn : tab (snR v c n name) n = c := by
    unfold tab
    rw [e6R]
    exact hRl.1
  have hTB : ∀ t, TB (snR v c n name) t → TB v t ∨ t = c := by
    rintro t (rfl | ⟨j, hj, rfl⟩)
    · exact Or.inl (Or.inl (hH' 3 (by decide) (by decide)))
    · rw [snR_5] at hj
      by_cases e : j = n
      · rw [e, etn]; exact Or.inr rfl
      · rw [etab j (by omega)]; exact Or.inl (tab_tb (by omega))
  have e2R : snR v c n name 2 = v 2 := hH' 2 (by decide) (by decide)
  have hLt : ∀ t i, TB v t → i < 8 → LOK (snR v c n name) (up u1 c (4 + n)) i (v (8 * t + i)) := fun t i ht hi8 => by
    rcases hs.tw ht hi8 with e | ⟨a1, a2, a3, a4⟩
    · exact Or.inl e
    · have hp := a1.pos
      refine Or.inr ⟨a1, by rw [e2R]; exact a2, by rw [hfr _ (by have := T_leaf ht hi8 (show v (8 * t + i) / 4 ≠ 0 by omega); omega)]; exact a3, fun l hl => ?_⟩
      rw [e2R, elf t i l ht hi8 hl (by omega)]
      exact (a4 l hl).move fun hy => hfr _ (by have := T_blk ht hi8 hl (show v (8 * t + i) / 4 ≠ 0 by omega) hy; omega)
  have hS : Str (snR v c n name) (up u1 c (4 + n)) := by
    refine ⟨by rw [e2R]; exact hs.sz, ?_, ?_, ?_, ?_, ?_, ?_, ?_⟩
    · rw [hH' 3 (by decide) (by decide), hfr _ (by have := T_act (w := v); omega)]; exact hact
    · rw [hH' 4 (by decide) (by decide), hfr _ (by have := T_ct (w := v); omega)]; exact hct
    · rw [snR_5, e6R]; exact ⟨by omega, fun _ => h6v⟩
    · intro _; rw [e6R, hfr _ (by have := T_list h6v; omega)]; exact hls
    · rw [hH' 4 (by decide) (by decide)]
      intro k hk h0
      rw [ek k hk] at h0 ⊢
      rw [hfr _ (by have := T_keep hk h0; omega)]
      exact hs.keep hk h0
    · intro j hj
      rw [snR_5] at hj
      by_cases e : j = n
      · rw [e, etn]; exact ⟨hC1, hC2, up_at⟩
      · rw [etab j (by omega), hfr _ (by have := T_tab (tab_tb (w := v) (j := j) (by omega)); omega)]
        exact hs.tab (by omega)
    · intro t ht i hi8
      rcases hTB t ht with ht | rfl
      · rw [etw t i ht hi8]; exact hLt t i ht hi8
      · rw [hRc i hi8]; exact hLt _ i act_tb hi8
  have hT : ∀ X, T (snR v c n name) X = T v X + iv c X + tl v X (v 3) := by
    intro X
    have ekc : kc (snR v c n name) X = kc v X := by
      unfold kc
      rw [hH' 4 (by decide) (by decide)]
      exact sm_congr fun k hk => by rw [ek k hk]
    have etc : ∀ t, TB v t → tc (snR v c n name) X t = tc v X t := fun t ht => tc_congr (fun i hi8 => by rw [etw t i ht hi8]) (fun i hi8 h0 l hl => by rw [elf t i l ht hi8 hl h0])
    have ecc : tc (snR v c n name) X c = iv c X + tl v X (v 3) := by
      rw [tc_tl]
      congr 1
      exact sm_congr fun i hi8 => by
        rw [hRc i hi8]
        exact lc_congr fun h0 l hl => by rw [elf _ i l act_tb hi8 hl h0]
    have es : sm n (fun j => tc (snR v c n name) X (tab (snR v c n name) j)) = sm n fun j => tc v X (tab v j) := sm_congr fun j hj => by rw [etab j hj, etc _ (tab_tb (by omega))]
    unfold T
    rw [hH' 3 (by decide) (by decide), hH' 4 (by decide) (by decide), snR_5, e6R, ekc, etc _ act_tb, sm_succ, es, etn, ecc, e5]
    omega
  have hI : Inv (clo (snR v c n name) (up u1 c (4 + n))) (up u1 c (4 + n)) := by
    refine (clo_inv hS ?_ (fun p => ?_) (fun X hX h0 => ?_)).1
    · refine ⟨by rw [hH' 0 (by decide) (by decide)]; exact g0, by rw [hH' 1 (by decide) (by decide)]; exact g1, by rw [hH' 7 (by decide) (by decide)]; exact g7, ?_, ?_⟩
      · rw [snR_5, e6R]
        intro _ j hj hj8
        rw [hRli _ hj8 (by omega) (by omega)]
        exact gl h6v j (by omega) hj8
      · rw [snR_5, e6R]
        intro i j hi2 hj
        rw [show 8 * v 6 + 2 * i + 1 = 8 * v 6 + (2 * i + 1) by omega, show 8 * v 6 + 2 * j + 1 = 8 * v 6 + (2 * j + 1) by omega, hRli _ (show 2 * j + 1 < 8 by omega) (by omega) (by omega)]
        by_cases e : i = n
        · rw [e, hRl.2, e6, hlw _ (by omega)]
          exact fun e2 => hnm j (by omega) e2.symm
        · rw [hRli _ (by omega) (by omega) (by omega)]
          exact gn i j (by omega) hj
    · unfold snR
      have hbv := ha.2.2.2.2
      split
      · omega
      · split
        · omega
        · split
          · exact hb
          · split
            · exact hbv _
            · exact hbv _
    · rw [hH' 4 (by decide) (by decide), ek _ (by omega)]
      rw [hT] at h0
      intro e
      have h1 := ha.noK hX e
      have h2 := T_tc (w := v) (X := X) act_tb
      rw [tc_tl] at h2
      have h3 : c = X := iv_pos (show iv c X ≠ 0 by omega)
      subst h3
      rw [hH 4 (by decide)] at e
      exact hC4 e
  exact ⟨u1, up u1 c (4 + n), ha, hS, hI, hT, hfr, up_at, hC1, hC2, hC3, by rw [hH 4 (by decide)]; exact hC4, hH⟩
theorem c_addSnapT {name j : Nat} (hw : h (10, k) = E w) (hi : Inv w u) (hn : name < 4294967296) (hj : j < w 5) (he : w (8 * w 6 + (2 * j + 1)) = name) (hl : ∀ i, i < j → w (8 * w 6 + (2 * i + 1)) ≠ name) : Cl (d + 5) MX1_addSnapshot [vR (1, k), vI (nI name)] h (some (vI (-4))) h := by
  have hns := hi.1.ns
  have hls := hi.1.list (hns.2 (by omega))
  refine rnN 1 rfl ?_
  refine rnK rfl (c_snapshotCount hw) ?_
  refine rnN 3 rfl ?_
  refine rnK rfl (c_namedT hw hls.1 hns.1 hj hi.2.2.2.2 hn he hl) ?_
  refine rnF (nI_pos (show j < 2147483648 by omega)) rfl ?_
  refine rnN 1 rfl ?_
  exact rnR rfl
theorem c_addSnapM {name : Nat} (hw : h (10, k) = E w) (hi : Inv w u) (hn : name < 4294967296) (h4 : w 5 = 4) (hl : ∀ i, i < w 5 → w (8 * w 6 + (2 * i + 1)) ≠ name) : Cl (d + 5) MX1_addSnapshot [vR (1, k), vI (nI name)] h (some (vI (-3))) h := by
  have hns := hi.1.ns
  have hls := hi.1.list (hns.2 (by omega))
  refine rnN 1 rfl ?_
  refine rnK rfl (c_snapshotCount hw) ?_
  refine rnN 3 rfl ?_
  refine rnK rfl (c_namedF hw hls.1 hns.1 hi.2.2.2.2 hn hl) ?_
  rw [h4]
  refine rnN 5 rfl ?_
  exact rnR rfl
/-- how many clusters a snapshot wants -/
def snN (w : Nat → Nat) : Nat := if w 5 = 0 then 2 else 1
theorem c_addSnapF {name : Nat} (hw : h (10, k) = E w) (hi : Inv w u) (hn : name < 4294967296) (h6 : w 6 < 64) (h4 : w 5 ≠ 4) (hl : ∀ i, i < w 5 → w (8 * w 6 + (2 * i + 1)) ≠ name) (hr : ¬ snN w ≤ rm w) : Cl (d + 5) MX1_addSnapshot [vR (1, k), vI (nI name)] h (some (vI (-2))) h := by
  have hns := hi.1.ns
  have hrm : rm w ≤ 64 := by unfold rm; omega
  refine rnN 1 rfl ?_
  refine rnK rfl (c_snapshotCount hw) ?_
  refine rnN 3 rfl ?_
  refine rnK rfl (c_namedF hw h6 hns.1 hi.2.2.2.2 hn hl) ?_
  refine rnN 3 rfl ?_
  refine rnF ((show ¬ nI (w 5) = nI 4 from fun e => h4 ((neq (by omega) (by decide)).mp e))) rfl ?_
  refine rnN 2 rfl ?_
  refine rnK rfl (c_room hw hi.cg) ?_
  refine rnN 1 rfl ?_
  unfold snN at hr
  by_cases e0 : w 5 = 0
  · rw [if_pos e0] at hr
    rw [e0]
    refine rnN 3 rfl ?_
    refine rnT (nI_lt (show 64 - inUse w - noKeep w < 2 from Nat.lt_of_not_le hr) (by decide)) rfl ?_
    refine rnN 1 rfl ?_
    exact rnR rfl
  · rw [if_neg e0] at hr
    refine rnF (nI_ne0 (show 0 < w 5 by omega) (by omega)) rfl ?_
    refine rnN 1 rfl ?_
    refine rnT (nI_lt (show 64 - inUse w - noKeep w < 1 from Nat.lt_of_not_le hr) (by decide)) rfl ?_
    refine rnN 1 rfl ?_
    exact rnR rfl
/-- the words behind addSnapshot, but for counts and marks -/
def snF (w : Nat → Nat) (name : Nat) : Nat → Nat := snR (tkW (lgW w)) (tkC (lgW w)) (lgW w 5) name
/-- from the taking of the table on -/
theorem sn_tail {y : Nat → Nat} {n name : Nat} (hw : h (10, k) = E y) (hi : Inv y uy) (h6 : y 6 ≠ 0) (h5 : y 5 = n) (hn : n < 4) (hr : 1 ≤ rm y) (hb : name < 4294967296) (hnm : ∀ i, i < y 5 → y (8 * y 6 + (2 * i + 1)) ≠ name) {u3 : Nat → Nat} (hS : Str (snR (tkW y) (tkC y) (y 5) name) u3) (hI : Inv (clo (snR (tkW y) (tkC y) (y 5) name) u3) u3) {o3 : Option xV} :
    Rn (d + 5) MX1_addSnapshot 67 [some (vR (1, k)), some (vI (nI name)), some (vI (nI n)), o3] [] h (some (vI (nI 0))) (hup h (10, k) (E (stl (snR (tkW y) (tkC y) (y 5) name) u3))) := by
  obtain ⟨u1, ha, hu, hC1, hC2, hC3, hC4, hrm, hTT, hO, hH, hC5⟩ := tk_spec hi hr
  obtain ⟨-, -, -, -, -, hT, -⟩ := sn_spec hi h6 (by omega) hr hb hnm
  have hs := ha.1
  have ht := c_take (d := d + 1) hw hi hr
  obtain ⟨v, hv⟩ : ∃ v, v = tkW y := ⟨_, rfl⟩
  obtain ⟨c, hc⟩ : ∃ c, c = tkC y := ⟨_, rfl⟩
  rw [← hv] at ha hs hC3 hC4 hrm hTT hO hH
  rw [← hc] at hC1 hC2 hC3 hC4 hC5
  rw [← hv, ← hc, h5] at hS hI hT
  rw [← hv, ← hc] at ht
  rw [← hv, ← hc, h5]
  have hact := hs.act
  have hct := hs.ct
  have e5 : v 5 = n := by rw [hH 5 (by decide), h5]
  have e6 : v 6 = y 6 := hH 6 (by decide)
  have h6v : v 6 ≠ 0 := by rw [e6]; exact h6
  have hls := hs.list h6v
  have hne6 : v 6 ≠ c := ne_fresh hC3 (T_list h6v)
  have hne3 : v 3 ≠ c := ne_fresh hC3 T_act
  have hne4 : v 4 ≠ c := ne_fresh hC3 T_ct
  have hne46 : v 4 ≠ v 6 := fun e => by rw [e] at hct; omega
  have hRl := snR_l (v := v) (c := c) (n := n) (name := name) (by omega)
  have hC4v : v (8 * v 4 + c / 8) ≠ 0 := by rw [hH 4 (by decide)]; exact hC4
  have hin := cpl_in hs hC2 hC4v
  have hcx : cpl v c / 8 ≠ c := fun e => by rw [e] at hin; exact hin.2.2.1 hC3
  -- the words ahead of countTable
  obtain ⟨xa, hxa⟩ : ∃ xa, xa = setc v c 1 := ⟨_, rfl⟩
  have xaO : ∀ p, p ≠ cpl v c → xa p = v p := fun p hp => by rw [hxa]; exact setc_at hp
  have xaA : xa (cpl v c) = 1 := by rw [hxa]; exact up_at
  obtain ⟨xb, hxb⟩ : ∃ xb, xb = cpc xa xa (v 3) c := ⟨_, rfl⟩
  have xbO : ∀ p, p / 8 ≠ c → xb p = xa p := fun p hp => by rw [hxb]; unfold cpc; rw [if_neg hp]
  have xbC : ∀ i, i < 8 → xb (8 * c + i) = xa (8 * v 3 + i) := fun i hi8 => by rw [hxb]; unfold cpc; rw [if_pos (by omega), ix_mod hi8]
  have hd3 : ∀ i, i < 8 → 8 * v 3 + i ≠ cpl v c := fun i hi8 e => by rw [← e, ix_div hi8] at hin; omega
  have hd6 : ∀ i, i < 8 → 8 * v 6 + i ≠ cpl v c := fun i hi8 e => by rw [← e, ix_div hi8] at hin; omega
  obtain ⟨xe, hxe⟩ : ∃ xe, xe = up (up (up xb (8 * v 6 + 2 * n) c) (8 * v 6 + (2 * n + 1)) name) 5 (n + 1) := ⟨_, rfl⟩
  have xb6 : xb 6 = v 6 := by rw [xbO _ (by omega), xaO _ (by omega)]
  have xb3 : xa 3 = v 3 := xaO _ (by omega)
  have hxeW : xe = cW (snR v c n name) u3 (fun X => T v X + iv c X) (fun _ => false) := by
    have e4 : snR v c n name 4 = v 4 := snR_o (by omega) (by omega) (by omega) (by omega)
    have ek : ∀ k, k < 8 → snR v c n name (8 * v 4 + k) = v (8 * v 4 + k) := fun k hk => snR_o (by omega) (by omega) (by omega) (by omega)
    have ecpl : ∀ X, X < 64 → cpl (snR v c n name) X = cpl v X := fun X hX => by unfold cpl; rw [e4, ek _ (by omega)]
    have hq : ∀ p, p ≠ cpl v c → xe p = snR v c n name p := fun p hp => by
      rw [hxe]
      by_cases q5 : p = 5
      · rw [q5, up_at, snR_5]
      · rw [up_ne q5]
        by_cases q1 : p = 8 * v 6 + (2 * n + 1)
        · rw [q1, up_at, hRl.2]
        · rw [up_ne q1]
          by_cases q2 : p = 8 * v 6 + 2 * n
          · rw [q2, up_at, hRl.1]
          · rw [up_ne q2]
            by_cases q3 : p / 8 = c
            · obtain ⟨i, hi8, rfl⟩ : ∃ i, i < 8 ∧ p = 8 * c + i := ⟨p % 8, by omega, by omega⟩
              rw [xbC i hi8, xaO _ (hd3 i hi8), snR_c hne6 hC1 hn hi8]
            · rw [xbO p q3, xaO p hp, snR_o q5 q2 q1 q3]
    refine eq_cW0 hS (fun X hX h0 => ?_) (fun p hk => hq p fun e => hk ?_)
    · rw [e4, ek _ (by omega)] at h0
      have h1 := cpl_in hs hX h0
      rw [ecpl X hX]
      by_cases e : X = c
      · rw [e, hC3, iv_self, hxe, up_ne (by omega), up_ne (fun e => hd6 (2 * n + 1) (by omega) e.symm), up_ne (fun e => hd6 (2 * n) (by omega) e.symm), xbO _ hcx, xaA]
      · have hne : cpl v X ≠ cpl v c := fun e2 => e (cpl_inj hs hX hC2 h0 hC4v e2)
        have hX8 : ∀ i, i < 8 → cpl v X ≠ 8 * v 6 + i := fun i hi8 e => by rw [e, ix_div hi8] at h1; omega
        rw [hq _ hne, snR_o (by omega) (hX8 _ (by omega)) (hX8 _ (by omega)) (fun e => by rw [e] at h1; omega), ha.cntAt hX h0, iv_ne (fun e2 => e e2.symm)]
        rfl
    · rw [e]
      obtain ⟨k, a1, a2, a3⟩ := cpl_kp hC2 hC4v
      exact ⟨k, a1, by rw [e4, ek k a1]; exact a2, by rw [e4, ek k a1]; exact a3⟩
  have htn : tab (snR v c n name) n = c := by
    unfold tab
    rw [snR_o (p := 6) (by omega) (by omega) (by omega) (by omega)]
    exact hRl.1
  have hTBc : TB (snR v c n name) c := Or.inr ⟨n, by rw [snR_5]; omega, htn.symm⟩
  have hu3 := hS.tab (j := n) (by rw [snR_5]; omega)
  rw [htn] at hu3
  have hRle := fun X => T_le (w := snR v c n name) hS.ns.1 X
  have htl : ∀ X, tl (snR v c n name) X c = tl v X (v 3) := fun X => by
    have e1 := hT X
    have e2 : tl (snR v c n name) X c + (T v X + iv c X) = tl v X (v 3) + (T v X + iv c X) := by
      have h1 : tl (snR v c n name) X c = tl v X (v 3) := sm_congr fun i hi8 => by
        rw [snR_c hne6 hC1 hn hi8]
        refine lc_congr fun h0 j hj => ?_
        have h2 := (hs.tw act_tb hi8).lead h0
        have h3 := h2.1.pos
        have h4 := T_leaf act_tb hi8 h0
        have h5 : v (8 * v 3 + i) / 4 ≠ v 6 := fun e => by rw [e] at h2; omega
        rw [snR_o (by omega) (by omega) (by omega) (by rw [ix_div hj]; exact ne_fresh hC3 h4)]
      omega
    omega
  have hkp : KP (snR v c n name) c := by
    have e4 : snR v c n name 4 = v 4 := snR_o (by omega) (by omega) (by omega) (by omega)
    have hk : ∀ X, X < 64 → 1 ≤ T v X → snR v c n name (8 * v 4 + X / 8) ≠ 0 := fun X hX h1 e => by
      rw [snR_o (by omega) (by omega) (by omega) (by omega)] at e
      have := ha.noK hX e
      omega
    have hTl : ∀ X, tl v X (v 3) ≤ T v X := fun X => by have := T_tc (w := v) (X := X) act_tb; rw [tc_tl] at this; omega
    have hled : ∀ X, X < 64 → tl (snR v c n name) X c ≠ 0 → snR v c n name (8 * snR v c n name 4 + X / 8) ≠ 0 := fun X hX h1 => by
      rw [e4]
      exact hk X hX (by rw [htl X] at h1; have := hTl X; omega)
    intro i hi8 h0
    have h1 := (hS.tw hTBc hi8).lead h0
    have hlc : ∀ X, lc (snR v c n name) X (snR v c n name (8 * c + i)) ≤ tl (snR v c n name) X c := fun X => sm_ge (n := 8) (f := fun i => lc (snR v c n name) X (snR v c n name (8 * c + i))) hi8
    refine ⟨hled _ h1.1.pos.2 ?_, fun j hj h2 => hled _ ((h1.2.2.2 j hj).lead h2).1.pos.2 ?_⟩
    · have h3 := hlc (snR v c n name (8 * c + i) / 4)
      rw [lc_ld] at h3
      unfold ld at h3
      rw [if_neg h0, iv_self] at h3
      omega
    · have h3 := hlc (snR v c n name (8 * (snR v c n name (8 * c + i) / 4) + j) / 4)
      rw [lc_ld, if_neg h0] at h3
      have h4 := sm_ge (n := 8) (f := fun j2 => ld (snR v c n name (8 * (snR v c n name (8 * c + i) / 4) + j2)) (snR v c n name (8 * (snR v c n name (8 * c + i) / 4) + j) / 4)) hj
      have h5 : ld (snR v c n name (8 * (snR v c n name (8 * c + i) / 4) + j)) (snR v c n name (8 * (snR v c n name (8 * c + i) / 4) + j) / 4) = 1 := by
        unfold ld
        rw [if_neg h2, iv_self]
      simp only [h5] at h4
      omega
  have c1 := c_countTable (d := d + 1) (h := hup h (10, k) (E xe)) (k := k) (sg := true) (w := snR v c n name) (u := u3) (g := fun X => T v X + iv c X) (t := c) (by
    rw [hup_at, hxeW]
    congr 1) hS hC2 (by omega) (fun i hi8 => hS.tw hTBc hi8) hkp (fun e => by cases e) (fun X => by have := hRle X; have := hT X; show T v X + iv c X + 100 < 1000; omega)
  have hfin : cS true (snR v c n name) u3 (fun X => T v X + iv c X) (fun X => tl (snR v c n name) X c) = clo (snR v c n name) u3 := by
    rw [cS_true]
    refine cW_clo hS (fun p hp h0 => ?_) (fun X hX h0 => ?_)
    · rw [hT] at h0
      have hp0 : p / 8 ≠ 0 := fun e => by have := T_zero v; rw [e] at h0; omega
      have hp6 : p / 8 ≠ v 6 := fun e => by have := T_list h6v; rw [e] at h0; omega
      have hpc : p / 8 ≠ c := fun e => by rw [e, iv_self] at h0; omega
      rw [snR_o (by omega) (by omega) (by omega) hpc]
      have h1 := ha.2.2.1 (p / 8) (by omega) (by omega) (p % 8) (by omega)
      rwa [show 8 * (p / 8) + p % 8 = p by omega] at h1
    · show T v X + iv c X + tl (snR v c n name) X c = _
      rw [hT, htl]
  rw [show dlt true = nI 1 from rfl, hup_hup, hfin] at c1
  have c2 := c_tellFlags (d := d) (h := hup h (10, k) (E (clo (snR v c n name) u3))) (k := k) hup_at hI
  rw [hup_hup] at c2
  have c3 := c_copySame (d := d + 3) (h := hup h (10, k) (E xa)) (k := k) hup_at hact.2.1 hC2 hne3
  rw [hup_hup, ← hxb] at c3
  rw [← hxa] at ht
  refine rnN 2 rfl ?_
  refine rnK rfl (ht) ?_
  refine rnN 6 rfl ?_
  refine rnK rfl (c_activeTable hup_at) ?_
  rw [xb3]
  refine rnN 1 rfl ?_
  refine rnK rfl (c3) ?_
  refine rnN 3 rfl ?_
  refine rnK rfl (c_snapshotList hup_at) ?_
  rw [xb6]
  refine rnN 4 rfl ?_
  simp (disch := omega) only [nI_add, pk_mul, pk_sub, nd8, nd4, nsub8, nand63, nand7, nshr2, nI_clamp, E_at, hup_at, hup_hup]
  refine rnK rfl (c_put hup_at hls.1 (show 2 * n < 8 by omega)) ?_
  rw [hup_hup]
  refine rnN 3 rfl ?_
  refine rnK rfl (c_snapshotList hup_at) ?_
  rw [up_ne (show 6 ≠ 8 * v 6 + 2 * n by omega), xb6]
  refine rnN 6 rfl ?_
  simp (disch := omega) only [nI_add, pk_mul, pk_sub, nd8, nd4, nsub8, nand63, nand7, nshr2, nI_clamp, E_at, hup_at, hup_hup]
  refine rnK rfl (c_put hup_at hls.1 (show 2 * n + 1 < 8 by omega)) ?_
  refine rnN 7 rfl ?_
  simp (disch := omega) only [nI_add, pk_mul, pk_sub, nd8, nd4, nsub8, nand63, nand7, nshr2, nI_clamp, E_at, hup_at, hup_hup]
  refine rnK rfl (c_hput hup_at (show 5 < 8 by decide)) ?_
  rw [hup_hup, ← hxe]
  refine rnN 3 rfl ?_
  refine rnK rfl (c1) ?_
  refine rnN 1 rfl ?_
  refine rnK rfl (c2) ?_
  refine rnN 1 rfl ?_
  exact rnR rfl
theorem c_addSnap {name : Nat} (hw : h (10, k) = E w) (hi : Inv w u) (h60 : w 5 = 0 → w 6 = 0) (hb : name < 4294967296) (h4 : w 5 ≠ 4) (hl : ∀ i, i < w 5 → w (8 * w 6 + (2 * i + 1)) ≠ name) (hr : snN w ≤ rm w) {u3 : Nat → Nat} (hS : Str (snF w name) u3) (hI : Inv (clo (snF w name) u3) u3) :
    Cl (d + 5) MX1_addSnapshot [vR (1, k), vI (nI name)] h (some (vI (nI 0))) (hup h (10, k) (E (stl (snF w name) u3))) := by
  have hns := hi.1.ns
  have hrm : rm w ≤ 64 := by unfold rm; omega
  have h6 : w 6 < 64 := by
    by_cases e : w 6 = 0
    · omega
    · exact (hi.1.list e).1
  refine rnN 1 rfl ?_
  refine rnK rfl (c_snapshotCount hw) ?_
  refine rnN 3 rfl ?_
  refine rnK rfl (c_namedF hw h6 hns.1 hi.2.2.2.2 hb hl) ?_
  refine rnN 3 rfl ?_
  refine rnF ((show ¬ nI (w 5) = nI 4 from fun e => h4 ((neq (by omega) (by decide)).mp e))) rfl ?_
  refine rnN 2 rfl ?_
  refine rnK rfl (c_room hw hi.cg) ?_
  refine rnN 1 rfl ?_
  unfold snN at hr
  by_cases e0 : w 5 = 0
  · rw [if_pos e0] at hr
    obtain ⟨u1, u2, ha, hS2, hV, hI2, hH, hC, hC1, hC2, hrm2, hO, hT, hfr, hz⟩ := lg_spec hi h60 e0 (by omega)
    have e5 : lgW w 5 = 0 := by rw [hH 5 (by decide) (by decide), e0]
    rw [e0]
    refine rnN 3 rfl ?_
    refine rnF ((nI_nlt (show 2 ≤ 64 - inUse w - noKeep w from hr) (by omega))) rfl ?_
    refine rnN 8 rfl ?_
    refine rnK rfl (c_take hw hi (by omega)) ?_
    refine rnK rfl (c_hput hup_at (show 6 < 8 by decide)) ?_
    have elg : up (setc (tkW w) (tkC w) 1) 6 (tkC w) = lgW w := by unfold lgW; rw [if_pos e0]
    rw [hup_hup, elg]
    have ht := sn_tail (d := d) (h := hup h (10, k) (E (lgW w))) (k := k) (n := 0) (name := name) (o3 := none) hup_at hI2 (by rw [hC]; omega) e5 (by decide) (by omega) hb (fun i hi2 => by rw [e5] at hi2; omega) hS hI
    rw [hup_hup] at ht
    exact ht
  · rw [if_neg e0] at hr
    have elg : lgW w = w := by unfold lgW; rw [if_neg e0]
    unfold snF at hS hI ⊢
    rw [elg] at hS hI ⊢
    refine rnF (nI_ne0 (show 0 < w 5 by omega) (by omega)) rfl ?_
    refine rnN 1 rfl ?_
    refine rnF ((nI_nlt (show 1 ≤ 64 - inUse w - noKeep w from hr) (by omega))) rfl ?_
    refine rnN 1 rfl ?_
    refine rnF (nI_ne0 (show 0 < w 5 by omega) (by omega)) rfl ?_
    exact sn_tail hw hi (hns.2 e0) rfl (by omega) hr hb hl hS hI
end SN2
