/-! ===== load ===== -/
section OLd
variable {d k : Nat} {h H : xH} {w M us u : Nat → Nat} {W U : Nat → Nat → Nat} {f : Nat → Int32}
/-- side rows don't count -/
theorem SI_mono (S : SI k W U h) (e1 : ∀ j, j ≤ 3 → H (10, j) = h (10, j)) (e2 : H (3, 0) 1 = h (3, 0) 1) (e3 : H (4, 0) 2 = h (4, 0) 2) (e4 : H (13, 0) = h (13, 0)) (e5 : H (12, 0) = E M) (e6 : ∀ j p, j ≤ k → p < 512 → M (512 * j + p) = W j p) : SI k W U H := by
  obtain ⟨a1, a2, a3, a4, a5, a6, -, a8⟩ := S
  exact ⟨a1, fun j hj => by rw [e1 j (by omega)]; exact a2 j hj, a3, a4, by rw [e2]; exact a5, by rw [e3]; exact a6, ⟨M, e5, e6⟩, fun p hp => by rw [e1 3 (by omega), e4]; exact a8 p hp⟩
/-- words that the reader takes are a file -/
theorem read_inv {v : Nat → Nat} (h1 : HR w) (hs : Str w u) (h3 : LsR w) (h4 : CR w) (h5 : FR w u) (h6 : BR w) (hv : ∀ p, p < 512 → v p = w p) (hb : ∀ p, v p < 4294967296) : Inv v u ∧ flg v u = v ∧ (v 5 = 0 → v 6 = 0) := by
  have ha := Agr.of_eq hs hv
  have hT : ∀ X, T v X = T w X := fun X => ha.eT hs X
  have l6 := hs.l6
  have l4 := hs.ct.2.1
  obtain ⟨g0, g1, g2, g5, g7, g6⟩ := h1
  refine ⟨⟨ha.eS hs, fun c hc => ?_, fun c hc hT0 j hj => ?_, ⟨by rw [hv 0 (by decide)]; exact g0, by rw [hv 1 (by decide)]; exact g1, by rw [hv 7 (by decide)]; exact g7, fun z j j1 j2 => ?_, fun i j hi hj => ?_⟩, hb⟩, ?_, fun z => ?_⟩
  · rw [hT, ← h4 c hc]
    have hk := hs.keepLt (k := c / 8) (by omega)
    unfold cnt
    rw [hv 4 (by decide), hv (8 * w 4 + c / 8) (by omega), hv (8 * w (8 * w 4 + c / 8) + c % 8) (by omega)]
  · rw [hv _ (by omega)]
    rw [hT] at hT0
    by_cases e : c = 0
    · have := T_zero w
      rw [e] at hT0
      omega
    · exact h6 c (by omega) hc hT0 j hj
  · rw [hv 6 (by decide)] at z ⊢
    rw [hv 5 (by decide)] at j1
    rw [hv _ (by omega)]
    exact h3.2 (fun q => z (g6.mpr q)) j j1 j2
  · rw [hv 5 (by decide)] at hi
    rw [hv 6 (by decide), hv _ (by omega), hv _ (by omega)]
    exact h3.1 i hi j hj
  · funext p
    by_cases e : 1 ≤ p / 8 ∧ p / 8 < 64 ∧ TL u (p / 8)
    · rw [flg_in e, mk_congr hT]
      have := h5 (p / 8) e.2.1 e.2.2 (p % 8) (by omega)
      rw [show 8 * (p / 8) + p % 8 = p by omega] at this
      rw [hv p (by omega)]
      exact this
    · exact flg_out e
  · rw [hv 5 (by decide)] at z
    rw [hv 6 (by decide)]
    exact g6.mpr z
theorem op_load (S : SI k W U h) : OpOK MX3_load MX4_load [] h := by
  obtain ⟨M, m1, m2, m3⟩ := S.mem
  have S' := S
  obtain ⟨a1, a2, a3, a4, a5, a6, -, a8⟩ := S
  obtain ⟨w, hw⟩ : ∃ w : Nat → Nat, w = fun p => tn (h (10, 3) p) := ⟨_, rfl⟩
  have hwE : h (10, 3) = E w := by rw [hw]; funext p; exact (nI_tn _).symm
  have hb : ∀ p, w p < 4294967296 := fun p => by rw [hw]; exact tn_lt _
  obtain ⟨n, A, B, n1, n2, n3⟩ := c_firstWrong (d := 1) hwE hb
  obtain ⟨R, hR⟩ : ∃ R, R = rg h A B := ⟨_, rfl⟩
  rw [← hR] at n3
  have oR : ∀ q, q ≠ (11, 0) → q ≠ (11, 1) → R q = h q := fun q q1 q2 => by rw [hR]; unfold rg; rw [hup_ne q2, hup_ne q1]
  by_cases hn : n = 0
  · rw [hn] at n2 n3
    -- the class takes the words
    obtain ⟨v, hv⟩ : ∃ v : Nat → Nat, v = fun p => if p < 512 then w p else W 0 p := ⟨_, rfl⟩
    have hv5 : ∀ p, p < 512 → v p = w p := fun p hp => by rw [hv]; exact if_pos hp
    obtain ⟨R2, hR2⟩ : ∃ R2, R2 = hpt R (3, 0) 1 (nI 1) := ⟨_, rfl⟩
    have o2 : ∀ q, q ≠ (3, 0) → R2 q = R q := fun q q1 => by rw [hR2, hpt_def, hup_ne q1]
    have t2 : R2 (3, 0) 1 = nI (0 + 1) := by rw [hR2, hpt_def, hup_at]; rfl
    have ecp : hup R2 (10, 0) (va_cpy (R2 (10, 3)) (R2 (10, 0)) 0 0 512) = hup R2 (10, 0) (E v) := by
      congr 1
      rw [o2 _ (by decide), oR _ (by decide) (by decide), o2 _ (by decide), oR _ (by decide) (by decide), hwE, (a2 0 (by omega)).1]
      funext p
      show (if 0 ≤ p ∧ p < 0 + 512 then E w (0 + (p - 0)) else E (W 0) p) = E v p
      rw [E_at, E_at, E_at, hv]
      show _ = nI (if p < 512 then w p else W 0 p)
      by_cases e : p < 512
      · rw [if_pos (by omega), if_pos e, show 0 + (p - 0) = p by omega]
      · rw [if_neg (by omega), if_neg e]
    obtain ⟨R3, hR3⟩ : ∃ R3, R3 = hup R2 (10, 0) (E v) := ⟨_, rfl⟩
    have cl : Cl 8 MX3_load [vR (3, 0)] h (some (vI (nI 0))) R3 := by
      refine rnN 4 rfl ?_
      refine rnK rfl (n3) ?_
      refine rnN 2 rfl ?_
      refine rnN 1 rfl ?_
      refine rnN 4 rfl ?_
      rw [← hR2]
      refine rnK rfl (c_top t2 (by decide)) ?_
      refine rnN 3 rfl ?_
      refine rnK rfl (c_becomeLike) ?_
      rw [ecp, ← hR3]
      refine rnN 1 rfl ?_
      exact rnR rfl
    have o3 : ∀ q, q ≠ (3, 0) → q ≠ (10, 0) → q ≠ (11, 0) → q ≠ (11, 1) → R3 q = h q := fun q q1 q2 q3 q4 => by rw [hR3, hup_ne q2, o2 q q1, oR q q3 q4]
    have t3 : R3 (3, 0) 1 = nI (0 + 1) := by rw [hR3, hup_ne (by decide)]; exact t2
    have t10 : R3 (10, 0) = E v := by rw [hR3, hup_at]
    obtain ⟨n', H, b1, b2, b3, b4, b5, b6⟩ := m_load (d := 4) (h := R3) (M := M) (w := w) (by rw [o3 _ (by decide) (by decide) (by decide) (by decide)]; exact m1) (fun p hp => by rw [o3 _ (by decide) (by decide) (by decide) (by decide), ← a8 p hp, hwE, E_at]) hb
    have hn' := wrongN_det b2 n2
    rw [hn'] at b3 b5 b6
    rw [if_pos rfl] at b5 b6
    obtain ⟨u, c1, c2, c3, c4, c5, c6⟩ : ∃ u, HR w ∧ Str w u ∧ LsR w ∧ CR w ∧ FR w u ∧ BR w := by
      rcases n2 with ⟨e, -⟩ | ⟨e, -⟩ | ⟨-, -, e1, u, e2, e3, -⟩
      · exact absurd e (by decide)
      · exact absurd e (by decide)
      · rcases e3 with ⟨e, -⟩ | ⟨e, -⟩ | ⟨e, -⟩ | ⟨e, -⟩ | ⟨-, e3, e4, e5, e6⟩
        · exact absurd e (by decide)
        · exact absurd e (by decide)
        · exact absurd e (by decide)
        · exact absurd e (by decide)
        · exact ⟨u, e1, e2, e3, e4, e5, e6⟩
    obtain ⟨d1, d2, d3⟩ := read_inv (v := v) c1 c2 c3 c4 c5 c6 hv5 (fun p => by
      rw [hv]
      show (if p < 512 then w p else W 0 p) < _
      split
      · exact hb p
      · exact a4 0 p)
    refine ⟨(nI 0), R3, H, 0, setW W 0 v, setW U 0 u, cl, b3, by decide, fun j hj => ?_, fun j hj => by omega, fun j p => ?_, ?_, b5, ⟨_, b6, fun j p hj hp => ?_⟩, fun p hp => ?_⟩
    · rw [show j = 0 by omega, setW_at, setW_at, b4 _ (by decide) (by decide) (by decide) (by decide)]
      exact ⟨t10, d1, d2, d3⟩
    · unfold setW
      split
      · exact d1.2.2.2.2 p
      · exact a4 j p
    · rw [b4 _ (by decide) (by decide) (by decide) (by decide)]
      exact t3
    · rw [show j = 0 by omega, setW_at, pf_at hp, hv5 p hp]
    · rw [b4 _ (by decide) (by decide) (by decide) (by decide), b4 _ (by decide) (by decide) (by decide) (by decide), o3 _ (by decide) (by decide) (by decide) (by decide), o3 _ (by decide) (by decide) (by decide) (by decide)]
      exact a8 p hp
  · obtain ⟨n', H, b1, b2, b3, b4, b5, b6⟩ := m_load (d := 4) (h := R) (M := M) (w := w) (by rw [oR _ (by decide) (by decide)]; exact m1) (fun p hp => by rw [oR _ (by decide) (by decide), ← a8 p hp, hwE, E_at]) hb
    have hn' := wrongN_det b2 n2
    rw [hn'] at b3 b5 b6
    rw [if_neg hn] at b5 b6
    have cl : Cl 8 MX3_load [vR (3, 0)] h (some (vI (nI n))) R := by
      refine rnN 4 rfl ?_
      refine rnK rfl (n3) ?_
      refine rnN 2 rfl ?_
      refine rnF (nI_ne0 (Nat.pos_of_ne_zero hn) (by omega)) rfl ?_
      refine rnN 1 rfl ?_
      exact rnR rfl
    have hin : ∀ j, (10, j) ≠ ((12, 0) : xP) ∧ (10, j) ≠ ((14, 0) : xP) ∧ (10, j) ≠ ((14, 1) : xP) ∧ (10, j) ≠ ((4, 0) : xP) ∧ (10, j) ≠ ((11, 0) : xP) ∧ (10, j) ≠ ((11, 1) : xP) := fun j => ⟨fun e => by injection e with e1 e2; omega, fun e => by injection e with e1 e2; omega, fun e => by injection e with e1 e2; omega, fun e => by injection e with e1 e2; omega, fun e => by injection e with e1 e2; omega, fun e => by injection e with e1 e2; omega⟩
    refine ⟨(nI n), R, H, k, W, U, cl, b3, SI_mono S' (fun j hj => ?_) ?_ ?_ ?_ b6 (fun j p hj hp => ?_)⟩
    · obtain ⟨i1, i2, i3, i4, i5, i6⟩ := hin j
      rw [b4 _ i1 i2 i3 i4, oR _ i5 i6]
    · rw [b4 _ (by decide) (by decide) (by decide) (by decide), oR _ (by decide) (by decide)]
    · rw [b5, oR _ (by decide) (by decide)]
    · rw [b4 _ (by decide) (by decide) (by decide) (by decide), oR _ (by decide) (by decide)]
    · rw [pf_ne hp (by omega)]
      exact m2 j p hj hp
end OLd
