/-! ===== returnTo ===== -/
section RV
variable {d k : Nat} {h : xH} {w v u u' R V g c : Nat → Nat}
/-- a file's words are the settled ones but for marks, by their parts -/
theorem eq_clo (hs : Str R u) (h1 : ∀ X, X < 64 → R (8 * R 4 + X / 8) ≠ 0 → V (cpl R X) = T R X) (h2 : ∀ p, p < 512 → T R (p / 8) = 0 → V p = 0)
    (h3 : ∀ p, (512 ≤ p ∨ T R (p / 8) ≠ 0) → ¬ kp R p → V p = R p) : V = clo R u := by
  funext p
  unfold clo cW
  by_cases e : p / 8 < 64 ∧ T R (p / 8) = 0
  · rw [if_pos (decide_eq_true e)]
    exact h2 p (by omega) e.2
  · rw [if_neg (fun z => e (of_decide_eq_true z))]
    by_cases e2 : p / 8 ≠ 0 ∧ 16 ≤ u (p / 8) ∧ u (p / 8) < 24 ∧ R (8 * R 4 + (u (p / 8) - 16)) = p / 8
    · rw [if_pos e2]
      obtain ⟨a1, a2, a3, a4⟩ := e2
      have h5 := h1 (8 * (u (p / 8) - 16) + p % 8) (by omega) (by rw [ix_div (by omega), a4]; exact a1)
      have e3 : cpl R (8 * (u (p / 8) - 16) + p % 8) = p := by
        unfold cpl
        rw [ix_div (by omega), ix_mod (by omega), a4]
        omega
      rw [e3] at h5
      exact h5
    · rw [if_neg e2]
      refine h3 p (by omega) ?_
      rintro ⟨k, hk, h0, e3⟩
      have h5 := hs.keep hk h0
      rw [← e3] at h5
      exact e2 ⟨by omega, by omega, by omega, by rw [show u (p / 8) - 16 = k by omega]; exact e3.symm⟩
theorem cS_true : cS true w u g c = cW w u (fun X => g X + c X) (fun _ => false) := by
  unfold cS
  congr 1
theorem cS_false0 : cS false w u g (fun _ => 0) = cW w u g (fun _ => false) := by
  unfold cS
  congr 1
theorem Inv.kp (hi : Inv w u) {t : Nat} (ht : TB w t) : KP w t := by
  have hs := hi.1
  have hk : ∀ X, X < 64 → 1 ≤ T w X → w (8 * w 4 + X / 8) ≠ 0 := fun X hX h1 e => by have := hi.noK hX e; omega
  refine fun i hi8 h0 => ⟨hk _ ((hs.tw ht hi8).lead h0).1.pos.2 (T_leaf ht hi8 h0), fun j hj h1 => hk _ ((hs.bw ht hi8 hj h0).lead h1).1.pos.2 (T_blk ht hi8 hj h0 h1)⟩
/-- the words behind returnTo, but for counts and marks -/
def rvR (w : Nat → Nat) (j : Nat) : Nat → Nat := cpc w w (tab w j) (w 3)
theorem rv_spec (hi : Inv w u) {j : Nat} (hj : j < w 5) : Str (rvR w j) u ∧ (∀ X, T (rvR w j) X + tl w X (w 3) = T w X + tl w X (tab w j)) ∧ Inv (clo (rvR w j) u) u
    ∧ (∀ p, p / 8 ≠ w 3 → rvR w j p = w p) ∧ ∀ i, i < 8 → rvR w j (8 * w 3 + i) = w (8 * tab w j + i) := by
  have hs := hi.1
  have hact := hs.act
  have htj := hs.tab hj
  have hns := hs.ns
  have hO : ∀ p, p / 8 ≠ w 3 → rvR w j p = w p := fun p hp => by unfold rvR cpc; rw [if_neg hp]
  have hA : ∀ i, i < 8 → rvR w j (8 * w 3 + i) = w (8 * tab w j + i) := fun i hi8 => by unfold rvR cpc; rw [if_pos (by omega)]; congr 1; omega
  have hcl : ∀ X i, i < 8 → u X ≠ 1 → rvR w j (8 * X + i) = w (8 * X + i) := fun X i hi8 hu => hO _ (by rw [ix_div hi8]; intro e; rw [e] at hu; omega)
  have hH : ∀ p, p < 8 → rvR w j p = w p := fun p hp => hO p (by omega)
  have hct : ∀ k, k < 8 → rvR w j (8 * w 4 + k) = w (8 * w 4 + k) := fun k hk => hcl _ k hk (by have := hs.ct; omega)
  have hls : w 6 ≠ 0 → ∀ k, k < 8 → rvR w j (8 * w 6 + k) = w (8 * w 6 + k) := fun h6 k hk => hcl _ k hk (by have := hs.list h6; omega)
  have hLF : ∀ t i l, TB w t → i < 8 → l < 8 → w (8 * t + i) / 4 ≠ 0 → rvR w j (8 * (w (8 * t + i) / 4) + l) = w (8 * (w (8 * t + i) / 4) + l) := fun t i l ht hi8 hl h0 => hcl _ l hl (by have := ((hs.tw ht hi8).lead h0).2.2.1; omega)
  have htw : ∀ m i, m < w 5 → i < 8 → rvR w j (8 * tab w m + i) = w (8 * tab w m + i) := fun m i hm hi8 => hcl _ i hi8 (by have := hs.tab hm; omega)
  have etab : ∀ m, m < w 5 → tab (rvR w j) m = tab w m := fun m hm => by
    unfold tab
    rw [hH 6 (by decide)]
    exact hls (hns.2 (by omega)) (2 * m) (by omega)
  have hS : Str (rvR w j) u := by
    refine StrF hs (fun X _ => rfl) (fun p _ hp => hH p (by omega)) (fun k hk => Or.inl (hct k hk)) (fun h6 m hm => hls h6 (2 * m) (by omega)) (fun t i ht hi8 => ?_) (fun t i l ht hi8 hl _ h0 => Or.inl (hLF t i l ht hi8 hl h0))
    rcases ht with rfl | ⟨m, hm, rfl⟩
    · right
      rw [hA i hi8]
      rcases hs.tw (tab_tb hj) hi8 with e | ⟨a1, a2, a3, a4⟩
      · exact Or.inl e
      · refine Or.inr ⟨a1, by rw [hH 2 (by decide)]; exact a2, a3, fun l hl => ?_⟩
        rw [hH 2 (by decide), hLF _ i l (tab_tb hj) hi8 hl (by have := a1.pos; omega)]
        exact a4 l hl
    · exact Or.inl (htw m i hm hi8)
  have hT : ∀ X, T (rvR w j) X + tl w X (w 3) = T w X + tl w X (tab w j) := by
    intro X
    have e1 := TF (v := rvR w j) X (fun p _ hp => hH p (by omega)) hct etab (fun m hm => tc_congr (fun i hi8 => by rw [htw m i hm hi8]) (fun i hi8 h0 l hl => by rw [hLF _ i l (tab_tb hm) hi8 hl h0]))
    have e2 : tl (rvR w j) X (w 3) = tl w X (tab w j) := sm_congr fun i hi8 => by
      rw [hA i hi8]
      exact lc_congr fun h0 l hl => by rw [hLF _ i l (tab_tb hj) hi8 hl h0]
    rw [tc_tl, tc_tl, e2] at e1
    omega
  have hge : ∀ X, tl w X (w 3) ≤ T w X := fun X => by have := T_tc (w := w) (X := X) act_tb; rw [tc_tl] at this; omega
  refine ⟨hS, hT, (clo_inv hS ?_ (fun p => ?_) (fun X hX h0 => ?_)).1, hO, hA⟩
  · obtain ⟨g0, g1, g7, gl, gn⟩ := hi.2.2.2.1
    refine ⟨by rw [hH 0 (by decide)]; exact g0, by rw [hH 1 (by decide)]; exact g1, by rw [hH 7 (by decide)]; exact g7, ?_, ?_⟩
    · rw [hH 5 (by decide), hH 6 (by decide)]
      intro h6 m hm hm8
      rw [hls h6 m hm8]
      exact gl h6 m hm hm8
    · rw [hH 5 (by decide), hH 6 (by decide)]
      intro i m hi2 hm
      have h6 := hns.2 (by omega)
      rw [show 8 * w 6 + 2 * i + 1 = 8 * w 6 + (2 * i + 1) by omega, show 8 * w 6 + 2 * m + 1 = 8 * w 6 + (2 * m + 1) by omega, hls h6 _ (by omega), hls h6 _ (by omega)]
      exact gn i m hi2 hm
  · unfold rvR cpc
    split
    · exact hi.2.2.2.2 _
    · exact hi.2.2.2.2 _
  · rw [hH 4 (by decide), hct _ (by omega)]
    intro e
    have h1 := hi.noK hX e
    have h2 := hT X
    have h3 := hge X
    have h4 : tl w X (tab w j) ≤ T w X := by have := T_tc (w := w) (X := X) (tab_tb hj); rw [tc_tl] at this; omega
    omega
theorem c_returnTo {j : Nat} (hw : h (10, k) = E w) (hi : Inv w u) (hj : j < w 5) : Cl (d + 5) MX1_returnTo [vR (1, k), vI (nI j)] h none (hup h (10, k) (E (stl (rvR w j) u))) := by
  have hs := hi.1
  have hns := hs.ns
  have h6 := hns.2 (by omega)
  have hls := hs.list h6
  have htj := hs.tab hj
  have hact := hs.act
  obtain ⟨hS, hT, hI, hO, hA⟩ := rv_spec hi hj
  have hTle := fun X => T_le (w := w) hns.1 X
  have hta : ∀ X, tl w X (w 3) ≤ T w X := fun X => by have := T_tc (w := w) (X := X) act_tb; rw [tc_tl] at this; omega
  have htt : ∀ X, tl w X (tab w j) ≤ T w X := fun X => by have := T_tc (w := w) (X := X) (tab_tb hj); rw [tc_tl] at this; omega
  have c1 := c_countTable (d := d + 1) (h := h) (k := k) (sg := true) (w := w) (u := u) (g := T w) (t := tab w j) (by rw [cS_0 hi]; exact hw) hs htj.2.1 (by omega) (fun i hi8 => hs.tw (tab_tb hj) hi8) (hi.kp (tab_tb hj)) (fun e => by cases e) (fun X => by have := hTle X; omega)
  rw [show dlt true = nI 1 from rfl, cS_true] at c1
  have c2 := c_countTable (d := d + 1) (h := hup h (10, k) (E (cW w u (fun X => T w X + tl w X (tab w j)) fun _ => false))) (k := k) (sg := false) (w := w) (u := u) (g := fun X => T w X + tl w X (tab w j)) (t := w 3) (by rw [hup_at, cS_false0]) hs hact.2.1 (by omega) (fun i hi8 => hs.tw act_tb hi8) (hi.kp act_tb) (fun _ X => by have := hta X; show tl w X (w 3) ≤ T w X + tl w X (tab w j); omega) (fun X => by have := hTle X; have := tl_le w X (tab w j); show T w X + tl w X (tab w j) + 100 < 1000; omega)
  rw [show dlt false = -1 from rfl, hup_hup] at c2
  obtain ⟨x, hx⟩ : ∃ x, x = cS false w u (fun X => T w X + tl w X (tab w j)) (fun X => tl w X (w 3)) := ⟨_, rfl⟩
  rw [← hx] at c2
  have hco : CO u (fun X => tl w X (w 3)) := CO.tls fun i hi8 => hs.tw act_tb hi8
  have hx0 : ∀ X i, (u X < 8 ∨ X = 0) → i < 8 → x (8 * X + i) = w (8 * X + i) := fun X i hX hi8 => by
    rw [hx]
    exact cS_at hco (by omega) hi8 (fun _ => Or.inl (Classical.byContradiction fun e => by have := hco X e; omega))
  have hx3 : x 3 = w 3 := by have := hx0 0 3 (Or.inr rfl) (by decide); rwa [show 8 * 0 + 3 = 3 by omega] at this
  have hne : tab w j ≠ w 3 := fun e => by rw [e] at htj; omega
  have hV : cpc x x (tab w j) (w 3) = clo (rvR w j) u := by
    have eR4 : rvR w j 4 = w 4 := hO 4 (by omega)
    have eRk : ∀ k, k < 8 → rvR w j (8 * w 4 + k) = w (8 * w 4 + k) := fun k hk => hO _ (by rw [ix_div hk]; intro e; have := hs.ct; rw [e] at this; omega)
    have ecpl : ∀ X, X < 64 → cpl (rvR w j) X = cpl w X := fun X hX => by unfold cpl; rw [eR4, eRk _ (by omega)]
    have ekp : ∀ p, kp (rvR w j) p ↔ kp w p := fun p => by
      constructor
      · rintro ⟨k, hk, h0, e⟩
        rw [eR4, eRk k hk] at h0 e
        exact ⟨k, hk, h0, e⟩
      · rintro ⟨k, hk, h0, e⟩
        exact ⟨k, hk, by rw [eR4, eRk k hk]; exact h0, by rw [eR4, eRk k hk]; exact e⟩
    refine eq_clo hS (fun X hX h0 => ?_) (fun p hp h0 => ?_) (fun p hp hk => ?_)
    · rw [eR4, eRk _ (by omega)] at h0
      have h1 := cpl_in hs hX h0
      rw [ecpl X hX]
      unfold cpc
      rw [if_neg (fun e => by rw [e] at h1; omega), hx]
      have h2 := cW_cpl (g := fun X => val false (T w X + tl w X (tab w j)) (tl w X (w 3))) (Z := zS false (fun X => T w X + tl w X (tab w j)) (fun X => tl w X (w 3))) hs hX h0 (zS_false (fun _ e => by have := hco _ e; have := hs.keep (show X / 8 < 8 by omega) h0; omega))
      have h3 : val false (T w X + tl w X (tab w j)) (tl w X (w 3)) = T (rvR w j) X := by
        have h4 : val false (T w X + tl w X (tab w j)) (tl w X (w 3)) = T w X + tl w X (tab w j) - tl w X (w 3) := rfl
        rw [h4]
        have := hT X
        omega
      rw [← h3]
      exact h2
    · have h1 := hT (p / 8)
      have h2 := hta (p / 8)
      unfold cpc
      rw [if_neg (fun e => by have h3 := T_act (w := rvR w j); rw [hO 3 (by omega), ← e] at h3; omega), hx]
      by_cases h3 : tl w (p / 8) (w 3) = 0
      · have h4 := hi.2.2.1 (p / 8) (by omega) (by omega) (p % 8) (by omega)
        rw [show 8 * (p / 8) + p % 8 = p by omega] at h4
        unfold cS cW
        split
        · rfl
        · split
          · next h5 =>
            have h6 := T_keep (w := w) (k := u (p / 8) - 16) (by omega) (by rw [h5.2.2.2]; exact h5.1)
            rw [h5.2.2.2] at h6
            omega
          · exact h4
      · unfold cS cW
        rw [if_pos]
        unfold zS
        simp only [Bool.not_false, Bool.true_and, decide_eq_true_eq]
        omega
    · rw [ekp] at hk
      unfold cpc
      by_cases e : p / 8 = w 3
      · rw [if_pos e, hx0 _ _ (by omega) (by omega)]
        have := hA (p % 8) (by omega)
        rw [← e, show 8 * (p / 8) + p % 8 = p by omega] at this
        exact this.symm
      · rw [if_neg e, hO p e, hx]
        unfold cS cW
        rw [if_neg, if_neg]
        · rintro ⟨a1, a2, a3, a4⟩
          exact hk ⟨u (p / 8) - 16, by omega, by rw [a4]; exact a1, a4.symm⟩
        · unfold zS
          simp only [Bool.not_false, Bool.true_and, decide_eq_true_eq]
          rintro ⟨a1, a2⟩
          have h1 := hT (p / 8)
          rcases hp with hp | hp
          · have h2 : T w (p / 8) ≠ 0 := by have := hta (p / 8); omega
            have := hs.T64 h2
            omega
          · omega
  have c3 := c_copySame (d := d + 3) (h := hup h (10, k) (E x)) (k := k) hup_at htj.2.1 hact.2.1 hne
  rw [hup_hup, hV] at c3
  have c4 := c_tellFlags (d := d) (h := hup h (10, k) (E (clo (rvR w j) u))) (k := k) hup_at hI
  rw [hup_hup] at c4
  refine rnN 2 rfl ?_
  refine rnK rfl (c_snapshotTable hw hls.1 (show j < 4 by omega)) ?_
  refine rnN 4 rfl ?_
  refine rnK rfl (c1) ?_
  refine rnN 2 rfl ?_
  refine rnK rfl (c_activeTable hup_at) ?_
  rw [cW_out (p := 3) rfl (by omega)]
  refine rnN 1 rfl ?_
  refine rnK rfl (c2) ?_
  refine rnN 6 rfl ?_
  refine rnK rfl (c_activeTable hup_at) ?_
  rw [hx3]
  refine rnK rfl (c3) ?_
  refine rnN 1 rfl ?_
  refine rnK rfl (c4) ?_
  exact rnR rfl
end RV
