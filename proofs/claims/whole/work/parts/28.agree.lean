/-! ===== words that agree with a file but for marks, counts and free clusters; what settling makes of them ===== -/
def Agr (v w u : Nat → Nat) : Prop := ∀ p, T w (p / 8) ≠ 0 → (p / 8 = 0 ∨ u (p / 8) < 16 ∨ 24 ≤ u (p / 8)) → v p = w p ∨ (1 ≤ p / 8 ∧ TL u (p / 8) ∧ w p / 4 ≠ 0 ∧ v p / 4 = w p / 4 ∧ v p % 4 ≤ 1)
/-- the words R with counts and free clusters as they are to be -/
def clo (R u : Nat → Nat) : Nat → Nat := cW R u (T R) (fun X => decide (X < 64 ∧ T R X = 0))
/-- settled words -/
def stl (R u : Nat → Nat) : Nat → Nat := flg (clo R u) u
section AG
variable {v w u u' R : Nat → Nat}
theorem Str.T64 (hs : Str w u) {X : Nat} (h : T w X ≠ 0) : X < 64 := by
  rcases T_role h with rfl | rfl | ⟨k, hk, h0, rfl⟩ | ⟨h0, rfl⟩ | h | ⟨t, i, ht, hi, h0, rfl⟩ | ⟨t, i, j, ht, hi, hj, h0, h2, rfl⟩
  · decide
  · exact hs.ct.2.1
  · exact (hs.keep hk h0).1
  · exact (hs.list h0).1
  · exact (hs.tb h).2.1
  · exact ((hs.tw ht hi).lead h0).1.pos.2
  · exact ((hs.bw ht hi hj h0).lead h2).1.pos.2
theorem Agr.refl : Agr w w u := fun p _ _ => Or.inl rfl
theorem Agr.of_eq (hs : Str w u) (h : ∀ p, p < 512 → v p = w p) : Agr v w u := fun p hT _ => Or.inl (h p (by have := hs.T64 hT; omega))
/-- the parts of an agreement -/
theorem Agr.hdr (ha : Agr v w u) {p : Nat} (hp : p < 8) : v p = w p := by
  rcases ha p (by rw [show p / 8 = 0 by omega]; have := T_zero w; omega) (Or.inl (by omega)) with h | h
  · exact h
  · omega
theorem Agr.ctw (ha : Agr v w u) (hs : Str w u) {k : Nat} (hk : k < 8) : v (8 * w 4 + k) = w (8 * w 4 + k) := by
  have h1 := hs.ct
  rcases ha (8 * w 4 + k) (by rw [ix_div hk]; have := T_ct (w := w); omega) (by rw [ix_div hk]; omega) with h | h
  · exact h
  · rw [ix_div hk] at h
    have h2 := h.2.1
    unfold TL at h2
    omega
theorem Agr.lsw (ha : Agr v w u) (hs : Str w u) (h6 : w 6 ≠ 0) {k : Nat} (hk : k < 8) : v (8 * w 6 + k) = w (8 * w 6 + k) := by
  have h1 := hs.list h6
  rcases ha (8 * w 6 + k) (by rw [ix_div hk]; have := T_list h6; omega) (by rw [ix_div hk]; omega) with h | h
  · exact h
  · rw [ix_div hk] at h
    have h2 := h.2.1
    unfold TL at h2
    omega
theorem Agr.tbw (ha : Agr v w u) (hs : Str w u) {t : Nat} (ht : TB w t) {i : Nat} (hi : i < 8) : v (8 * t + i) = w (8 * t + i) ∨ (w (8 * t + i) / 4 ≠ 0 ∧ v (8 * t + i) / 4 = w (8 * t + i) / 4 ∧ v (8 * t + i) % 4 ≤ 1) := by
  have h1 := hs.tb ht
  rcases ha (8 * t + i) (by rw [ix_div hi]; have := T_tab ht; omega) (by rw [ix_div hi]; omega) with h | h
  · exact Or.inl h
  · exact Or.inr h.2.2
theorem Agr.lfw (ha : Agr v w u) (hs : Str w u) {t : Nat} (ht : TB w t) {i j : Nat} (hi : i < 8) (hj : j < 8) (h0 : w (8 * t + i) / 4 ≠ 0) : v (8 * (w (8 * t + i) / 4) + j) = w (8 * (w (8 * t + i) / 4) + j) ∨ (w (8 * (w (8 * t + i) / 4) + j) / 4 ≠ 0 ∧ v (8 * (w (8 * t + i) / 4) + j) / 4 = w (8 * (w (8 * t + i) / 4) + j) / 4 ∧ v (8 * (w (8 * t + i) / 4) + j) % 4 ≤ 1) := by
  have h1 := ((hs.tw ht hi).lead h0).2.2.1
  rcases ha (8 * (w (8 * t + i) / 4) + j) (by rw [ix_div hj]; have := T_leaf ht hi h0; omega) (by rw [ix_div hj]; omega) with h | h
  · exact Or.inl h
  · exact Or.inr h.2.2
theorem Agr.tb4 (ha : Agr v w u) (hs : Str w u) {t : Nat} (ht : TB w t) {i : Nat} (hi : i < 8) : v (8 * t + i) / 4 = w (8 * t + i) / 4 := by
  rcases ha.tbw hs ht hi with h | h
  · rw [h]
  · exact h.2.1
theorem Agr.lf4 (ha : Agr v w u) (hs : Str w u) {t : Nat} (ht : TB w t) {i j : Nat} (hi : i < 8) (hj : j < 8) (h0 : w (8 * t + i) / 4 ≠ 0) : v (8 * (w (8 * t + i) / 4) + j) / 4 = w (8 * (w (8 * t + i) / 4) + j) / 4 := by
  rcases ha.lfw hs ht hi hj h0 with h | h
  · rw [h]
  · exact h.2.1
theorem Agr.etab (ha : Agr v w u) (hs : Str w u) {j : Nat} (hj : j < w 5) : tab v j = tab w j := by
  unfold tab
  rw [ha.hdr (p := 6) (by decide)]
  have h5 := hs.ns
  exact ha.lsw hs (h5.2 (by omega)) (k := 2 * j) (by omega)
theorem Agr.eTB (ha : Agr v w u) (hs : Str w u) {t : Nat} : TB v t ↔ TB w t := by
  have e3 := ha.hdr (p := 3) (by decide)
  have e5 := ha.hdr (p := 5) (by decide)
  constructor
  · rintro (rfl | ⟨j, hj, rfl⟩)
    · exact Or.inl e3
    · rw [e5] at hj
      rw [ha.etab hs hj]
      exact tab_tb hj
  · rintro (rfl | ⟨j, hj, rfl⟩)
    · exact Or.inl e3.symm
    · exact Or.inr ⟨j, by rw [e5]; exact hj, (ha.etab hs hj).symm⟩
theorem Agr.eT (ha : Agr v w u) (hs : Str w u) (X : Nat) : T v X = T w X := by
  have htc : ∀ t, TB w t → tc v X t = tc w X t := fun t ht => tc_congr (fun i hi => ha.tb4 hs ht hi) (fun i hi h0 j hj => ha.lf4 hs ht hi hj h0)
  have e1 := TF (v := v) X (fun p _ hp => ha.hdr (by omega)) (fun k hk => ha.ctw hs hk) (fun j hj => ha.etab hs hj) (fun j hj => htc _ (tab_tb hj))
  rw [htc _ act_tb] at e1
  omega
theorem LD.near {x y : Nat} (h : LD x) (e : y / 4 = x / 4) (h1 : y % 4 ≤ 1) : LD y := by
  obtain ⟨a, b, c⟩ := h
  unfold LD
  omega
theorem Agr.eS (ha : Agr v w u) (hs : Str w u) : Str v u := by
  have hBB : ∀ t i j, TB w t → i < 8 → j < 8 → w (8 * t + i) / 4 ≠ 0 → BOK (w 2) u i j (v (8 * (w (8 * t + i) / 4) + j)) := fun t i j ht hi hj h0 => by
    have hb := hs.bw ht hi hj h0
    rcases ha.lfw hs ht hi hj h0 with e | ⟨e1, e2, e3⟩
    · rw [e]; exact hb
    · have hl := hb.lead e1
      exact Or.inr ⟨hl.2.1, Or.inr ⟨hl.1.near e2 e3, by rw [e2]; exact hl.2.2⟩⟩
  refine StrF hs (fun X _ => rfl) (fun p _ hp => ha.hdr (by omega)) (fun k hk => Or.inl (ha.ctw hs hk)) (fun h6 j hj => ha.lsw hs h6 (by have := hs.ns; omega)) (fun t i ht hi => ?_) (fun t i j ht hi hj _ h0 => Or.inr (hBB t i j ht hi hj h0))
  rcases ha.tbw hs ht hi with e | ⟨e1, e2, e3⟩
  · exact Or.inl e
  · have hl := (hs.tw ht hi).lead e1
    refine Or.inr (Or.inr ⟨hl.1.near e2 e3, by rw [ha.hdr (by decide)]; exact hl.2.1, by rw [e2]; exact hl.2.2.1, fun j hj => ?_⟩)
    rw [e2, ha.hdr (by decide)]
    exact hBB t i j ht hi hj e1
/-- what an agreement passes on -/
theorem Agr.trans {x : Nat → Nat} (h1 : Agr x v u) (ha : Agr v w u) (hs : Str w u) : Agr x w u := fun p hT hu => by
  rcases ha p hT hu with e | ⟨a1, a2, a3, a4, a5⟩
  · rcases h1 p (by rw [ha.eT hs]; exact hT) hu with e2 | ⟨b1, b2, b3, b4, b5⟩
    · exact Or.inl (e2.trans e)
    · rw [e] at b3 b4
      exact Or.inr ⟨b1, b2, b3, b4, b5⟩
  · rcases h1 p (by rw [ha.eT hs]; exact hT) hu with e2 | ⟨b1, b2, b3, b4, b5⟩
    · rw [← e2] at a4 a5
      exact Or.inr ⟨a1, a2, a3, a4, a5⟩
    · exact Or.inr ⟨a1, a2, a3, b4.trans a4, b5⟩
/-! closing -/
theorem clo_out (hs : Str R u) {p : Nat} (hT : T R (p / 8) ≠ 0) (hu : p / 8 = 0 ∨ u (p / 8) < 16 ∨ 24 ≤ u (p / 8)) : clo R u p = R p :=
  cW_out (decide_eq_false (fun e => hT e.2)) (by omega)
theorem clo_agr (hs : Str R u) : Agr (clo R u) R u := fun p hT hu => Or.inl (clo_out hs hT hu)
theorem clo_free {p : Nat} (h : p < 512) (hT : T R (p / 8) = 0) : clo R u p = 0 := by
  unfold clo cW
  rw [if_pos (decide_eq_true ⟨by omega, hT⟩)]
theorem clo_cpl (hs : Str R u) {X : Nat} (hX : X < 64) (h0 : R (8 * R 4 + X / 8) ≠ 0) : clo R u (cpl R X) = T R X :=
  cW_cpl hs hX h0 (decide_eq_false (fun e => by have := T_keep (show X / 8 < 8 by omega) h0; omega))
/-- a count's place: whose it is -/
theorem Str.kpl (hs : Str R u) {p : Nat} (hT : T R (p / 8) ≠ 0) (h1 : p / 8 ≠ 0) (h2 : 16 ≤ u (p / 8)) (h3 : u (p / 8) < 24) : R (8 * R 4 + (u (p / 8) - 16)) = p / 8 := by
  rcases T_role hT with e | e | ⟨k, hk, h0, e⟩ | ⟨h0, e⟩ | h | ⟨t, i, ht, hi, h0, e⟩ | ⟨t, i, j, ht, hi, hj, h0, h4, e⟩
  · exact absurd e h1
  · have := hs.ct; rw [← e] at this; omega
  · have h5 := (hs.keep hk h0).2
    rw [← e] at h5
    rw [show u (p / 8) - 16 = k by omega]
    exact e.symm
  · have := hs.list h0; rw [← e] at this; omega
  · have := (hs.tb h).2.2; omega
  · have := ((hs.tw ht hi).lead h0).2.2.1; rw [← e] at this; omega
  · have := ((hs.bw ht hi hj h0).lead h4).2.2; rw [← e] at this; omega
theorem clo_inv (hs : Str R u) (hH : Hd R) (hb : ∀ p, R p < 4294967296) (hk : ∀ X, X < 64 → T R X ≠ 0 → R (8 * R 4 + X / 8) ≠ 0) : Inv (clo R u) u ∧ ∀ X, T (clo R u) X = T R X := by
  have ha := clo_agr hs
  have hT := fun X => ha.eT hs X
  refine ⟨⟨ha.eS hs, fun X hX => ?_, fun X hX h0 j hj => ?_, ?_, fun p => ?_⟩, hT⟩
  · rw [hT, cnt_of (ha.hdr (by decide)) (fun k hk2 => ha.ctw hs hk2) hX]
    split
    · next h0 => exact (Classical.byContradiction fun e => hk X hX (fun e2 => e e2.symm) h0)
    · next h0 => exact clo_cpl hs hX h0
  · rw [hT] at h0
    exact clo_free (by omega) (by rw [ix_div hj]; exact h0)
  · obtain ⟨g0, g1, g7, gl, gn⟩ := hH
    have e5 := ha.hdr (p := 5) (by decide)
    have e6 := ha.hdr (p := 6) (by decide)
    refine ⟨by rw [ha.hdr (by decide)]; exact g0, by rw [ha.hdr (by decide)]; exact g1, by rw [ha.hdr (by decide)]; exact g7, ?_, ?_⟩
    · rw [e5, e6]
      intro h6 j hj hj8
      rw [ha.lsw hs h6 hj8]
      exact gl h6 j hj hj8
    · rw [e5, e6]
      intro i j hi hj
      have h5 := hs.ns
      have h6 := h5.2 (by omega)
      rw [show 8 * R 6 + 2 * i + 1 = 8 * R 6 + (2 * i + 1) by omega, show 8 * R 6 + 2 * j + 1 = 8 * R 6 + (2 * j + 1) by omega, ha.lsw hs h6 (by omega), ha.lsw hs h6 (by omega)]
      exact gn i j hi hj
  · unfold clo cW
    split
    · omega
    · split
      · have := T_le hs.ns.1 (8 * (u (p / 8) - 16) + p % 8); omega
      · exact hb p
/-! marking -/
theorem mk_congr {x : Nat} (hT : ∀ X, T v X = T w X) : mk v x = mk w x := by
  unfold mk
  rw [hT]
theorem mk_mod {x : Nat} (h : x / 4 ≠ 0) : mk w x % 4 ≤ 1 := by
  rw [mk_lead h]
  split <;> omega
theorem flg_agr (w u : Nat → Nat) : Agr (flg w u) w u := fun p hT hu => by
  unfold flg fS
  by_cases e : tlB u (p / 8) = true
  · have h1 := of_decide_eq_true e
    rw [if_pos e]
    by_cases h0 : w p / 4 = 0
    · exact Or.inl (mk_flat h0)
    · exact Or.inr ⟨h1.1, h1.2.2, h0, mk_div _ _, mk_mod h0⟩
  · rw [if_neg e]
    exact Or.inl rfl
theorem tlB_iff {c : Nat} : tlB u c = true ↔ 1 ≤ c ∧ c < 64 ∧ TL u c := by
  unfold tlB TL
  exact decide_eq_true_iff
theorem flg_out {p : Nat} (h : ¬ (1 ≤ p / 8 ∧ p / 8 < 64 ∧ TL u (p / 8))) : flg w u p = w p := by
  unfold flg fS
  exact if_neg (fun e => h (tlB_iff.mp e))
theorem flg_in {p : Nat} (h : 1 ≤ p / 8 ∧ p / 8 < 64 ∧ TL u (p / 8)) : flg w u p = mk w (w p) := by
  unfold flg fS
  exact if_pos (tlB_iff.mpr h)
theorem flg_inv (hi : Inv w u) : Inv (flg w u) u ∧ (∀ X, T (flg w u) X = T w X) ∧ flg (flg w u) u = flg w u := by
  have hs := hi.1
  have ha := flg_agr w u
  have hT := fun X => ha.eT hs X
  refine ⟨Inv_mk hi (ha.eS hs) (fun p hp => ha.hdr hp) (fun k hk => ha.ctw hs hk) (fun h6 j hj => ha.lsw hs h6 hj) (fun X hX => ?_) (fun X hX h0 j hj => ?_) (fun p => ?_), hT, ?_⟩
  · rw [hT]
    split
    · next h0 => exact (hi.noK hX h0).symm
    · next h0 =>
      have h1 := cpl_in hs hX h0
      rw [flg_out (fun e => by have h2 := e.2.2; unfold TL at h2; omega)]
      exact hi.cntAt hX h0
  · rw [hT] at h0
    have h1 := hi.2.2.1 X hX h0 j hj
    by_cases e : 1 ≤ (8 * X + j) / 8 ∧ (8 * X + j) / 8 < 64 ∧ TL u ((8 * X + j) / 8)
    · rw [flg_in e, h1]
      rfl
    · rw [flg_out e, h1]
  · have h1 := hi.2.2.2.2 p
    by_cases e : 1 ≤ p / 8 ∧ p / 8 < 64 ∧ TL u (p / 8)
    · rw [flg_in e]
      unfold mk
      split
      · exact h1
      · split <;> omega
    · rw [flg_out e]
      exact h1
  · funext p
    by_cases e : 1 ≤ p / 8 ∧ p / 8 < 64 ∧ TL u (p / 8)
    · rw [flg_in e, flg_in e, mk_congr hT, mk_mk]
    · rw [flg_out e]
/-- roles don't matter to the marks -/
theorem flg_u (hi : Inv w u) (hi' : Inv w u') : flg w u = flg w u' := by
  have key : ∀ {a b : Nat → Nat} {p : Nat}, Inv w a → Inv w b → (1 ≤ p / 8 ∧ p / 8 < 64 ∧ TL a (p / 8)) → flg w a p = flg w b p := by
    intro a b p ha hb e
    rw [flg_in e]
    by_cases e2 : 1 ≤ p / 8 ∧ p / 8 < 64 ∧ TL b (p / 8)
    · rw [flg_in e2]
    · rw [flg_out e2]
      by_cases hT : T w (p / 8) = 0
      · have h1 := ha.2.2.1 (p / 8) e.2.1 hT (p % 8) (by omega)
        rw [show 8 * (p / 8) + p % 8 = p by omega] at h1
        rw [h1]
        rfl
      · exfalso
        rcases TL_role ha.1 e.1 e.2.2 hT with h4 | ⟨t, i, ht, h5, h6, h7⟩
        · exact e2 ⟨e.1, e.2.1, by have := (hb.1.tb h4).2.2; unfold TL; omega⟩
        · exact e2 ⟨e.1, e.2.1, by have := ((hb.1.tw ht h5).lead h6).2.2.1; rw [← h7] at this; unfold TL; omega⟩
  funext p
  by_cases e : 1 ≤ p / 8 ∧ p / 8 < 64 ∧ TL u (p / 8)
  · exact key hi hi' e
  · by_cases e2 : 1 ≤ p / 8 ∧ p / 8 < 64 ∧ TL u' (p / 8)
    · exact (key hi' hi e2).symm
    · rw [flg_out e, flg_out e2]
/-- what settling makes of words that agree with a file -/
theorem stl_agr (hi : Inv w u) (ha : Agr v w u) : ∀ p, p < 512 → stl v u p = flg w u p := by
  intro p hp
  have hs := hi.1
  have hsv := ha.eS hs
  have hT := fun X => ha.eT hs X
  have hTc : ∀ X, T (clo v u) X = T w X := fun X => ((clo_agr hsv).eT hsv X).trans (hT X)
  unfold stl
  by_cases hz : T w (p / 8) = 0
  · have h1 := hi.2.2.1 (p / 8) (by omega) hz (p % 8) (by omega)
    rw [show 8 * (p / 8) + p % 8 = p by omega] at h1
    have h2 : clo v u p = 0 := clo_free hp (by rw [hT]; exact hz)
    by_cases e : 1 ≤ p / 8 ∧ p / 8 < 64 ∧ TL u (p / 8)
    · rw [flg_in e, flg_in e, h1, h2]
      rfl
    · rw [flg_out e, flg_out e, h1, h2]
  · by_cases hu : p / 8 = 0 ∨ u (p / 8) < 16 ∨ 24 ≤ u (p / 8)
    · have h2 : clo v u p = v p := clo_out hsv (by rw [hT]; exact hz) hu
      by_cases e : 1 ≤ p / 8 ∧ p / 8 < 64 ∧ TL u (p / 8)
      · rw [flg_in e, flg_in e, h2, mk_congr hTc]
        rcases ha p hz hu with e2 | ⟨a1, a2, a3, a4, a5⟩
        · rw [e2]
        · rw [mk_lead (by rw [a4]; exact a3), mk_lead a3, a4]
      · rw [flg_out e, flg_out e, h2]
        rcases ha p hz hu with e2 | ⟨a1, a2, a3, a4, a5⟩
        · exact e2
        · exact absurd ⟨a1, by omega, a2⟩ e
    · have e : ¬ (1 ≤ p / 8 ∧ p / 8 < 64 ∧ TL u (p / 8)) := fun e => by
        have := e.2.2
        unfold TL at this
        omega
      rw [flg_out e, flg_out e]
      have h4 := hs.kpl hz (by omega) (by omega) (by omega)
      have h4v := hsv.kpl (p := p) (by rw [hT]; exact hz) (by omega) (by omega) (by omega)
      have hX : 8 * (u (p / 8) - 16) + p % 8 < 64 := by omega
      have e1 : cpl w (8 * (u (p / 8) - 16) + p % 8) = p := by
        unfold cpl
        rw [ix_div (by omega), ix_mod (by omega), h4]
        omega
      have e2 : cpl v (8 * (u (p / 8) - 16) + p % 8) = p := by
        unfold cpl
        rw [ix_div (by omega), ix_mod (by omega), h4v]
        omega
      have h5 := hi.cntAt hX (by rw [ix_div (by omega), h4]; omega)
      have h6 := clo_cpl hsv hX (by rw [ix_div (by omega), h4v]; omega)
      rw [e1] at h5
      rw [e2] at h6
      rw [h5, h6, hT]
end AG
