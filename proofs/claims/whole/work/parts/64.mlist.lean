/-! ===== the reference's reader: list ===== -/
section MLs
variable {d : Nat} {h : xH} {w M : Nat → Nat}
/-- the name of snapshot i -/
def nmw (w : Nat → Nat) (i : Nat) : Nat := w (8 * w 6 + (2 * i + 1))
def SL (d pc : Nat) (ls : List (Option xV)) (h : xH) (C : Prop) : Prop := ∃ r, r ≤ 1 ∧ Rn d MX4_listRight pc ls [] h (some (vI (nI r))) h ∧ (r = 1 ↔ C)
theorem m_listRight (hw : h (12, 0) = E (pf M 3 w)) (hb : ∀ p, w p < 4294967296) (h5 : w 5 ≤ 4) (h6 : w 5 ≠ 0 → w 6 < 64) : ∃ r, r ≤ 1 ∧ Cl (d + 1) MX4_listRight [vR (4, 0)] h (some (vI (nI r))) h ∧ (r = 1 ↔ LsR w) := by
  by_cases e0 : w 5 = 0
  · refine ⟨1, by decide, ?_, ⟨fun _ => ⟨fun i hi => by omega, fun e => absurd e0 e⟩, fun _ => rfl⟩⟩
    refine rnN 2 rfl ?_
    refine rnK rfl (m_snapshots hw (by decide)) ?_
    refine rnN 2 rfl ?_
    refine rnT ((show nI (w 5) = 0 by rw [e0]; rfl)) rfl ?_
    refine rnN 1 rfl ?_
    exact rnR rfl
  have h6l := h6 e0
  -- the names
  have outer : ∀ g o5, g ≤ 1 → SL (d + 1) 70 [some (vR (4, 0)), some (vI (nI (w 5))), some (vI (nI (512 * 3 + 8 * w 6))), some (vI (nI g)), some (vI (nI 0)), o5] h (g = 1 ∧ ∀ i, i < w 5 → ∀ j, j < i → nmw w i ≠ nmw w j) := fun g o5 hg => by
    have go := lpN (w 5) (fun n => ∀ x o5, x ≤ 1 → (x = 1 ↔ (g = 1 ∧ ∀ i, i < n → ∀ j, j < i → nmw w i ≠ nmw w j)) → SL (d + 1) 70 [some (vR (4, 0)), some (vI (nI (w 5))), some (vI (nI (512 * 3 + 8 * w 6))), some (vI (nI x)), some (vI (nI n)), o5] h (g = 1 ∧ ∀ i, i < w 5 → ∀ j, j < i → nmw w i ≠ nmw w j)) (fun n hn K => ?_) ?_
    · exact go g o5 hg ⟨fun e => ⟨e, fun i hi => by omega⟩, fun e => e.1⟩
    · intro x o5 hx hxi
      have inner := lpN n (fun m => ∀ y, y ≤ 1 → (y = 1 ↔ (x = 1 ∧ ∀ j, j < m → nmw w n ≠ nmw w j)) → SL (d + 1) 79 [some (vR (4, 0)), some (vI (nI (w 5))), some (vI (nI (512 * 3 + 8 * w 6))), some (vI (nI y)), some (vI (nI n)), some (vI (nI m))] h (g = 1 ∧ ∀ i, i < w 5 → ∀ j, j < i → nmw w i ≠ nmw w j)) (fun m hm K2 => ?_) ?_
      · obtain ⟨r, q1, q2, q3⟩ := inner x hx ⟨fun e => ⟨e, fun j hj => by omega⟩, fun e => e.1⟩
        refine ⟨r, q1, ?_, q3⟩
        refine rnN 2 rfl ?_
        refine rnT (nI_lt hn (by omega)) rfl ?_
        refine rnN 2 rfl ?_
        exact q2
      · intro y hy hyi
        by_cases y1 : y = 1
        · have rd1 : ∀ k, k < 4 → h (12, 0) (512 * 3 + 8 * w 6 + 2 * k + 1) = nI (nmw w k) := fun k hk => by
            show _ = nI (w (8 * w 6 + (2 * k + 1)))
            exact h_rd hw (by omega) (by omega)
          have pre : ∀ z r, (z = 1 ↔ nmw w n ≠ nmw w m) → z ≤ 1 → Rn (d + 1) MX4_listRight 124 [some (vR (4, 0)), some (vI (nI (w 5))), some (vI (nI (512 * 3 + 8 * w 6))), some (vI (nI 1)), some (vI (nI n)), some (vI (nI m))] [vI (nI z)] h (some (vI (nI r))) h → Rn (d + 1) MX4_listRight 79 [some (vR (4, 0)), some (vI (nI (w 5))), some (vI (nI (512 * 3 + 8 * w 6))), some (vI (nI 1)), some (vI (nI n)), some (vI (nI m))] [] h (some (vI (nI r))) h := fun z r hz hz1 kk => by
            refine rnN 2 rfl ?_
            refine rnT (nI_lt hm (by omega)) rfl ?_
            refine rnN 2 rfl ?_
            refine rnN 9 rfl ?_
            simp (disch := omega) only [nI_add, pk_mul, pk_sub, nd8, nd4, nsub8, nand63, nand7, nshr2, nI_clamp, E_at, hup_at, hup_hup]
            refine rnC (inN (show 512 * 3 + 8 * w 6 + 2 * m + 1 < 2048 by omega) (by decide)) rfl ?_
            simp (disch := omega) only [nI_add, pk_mul, pk_sub, nd8, nd4, nsub8, nand63, nand7, nshr2, nI_clamp, E_at, hup_at, hup_hup]
            rw [rd1 m (by omega)]
            refine rnN 9 rfl ?_
            simp (disch := omega) only [nI_add, pk_mul, pk_sub, nd8, nd4, nsub8, nand63, nand7, nshr2, nI_clamp, E_at, hup_at, hup_hup]
            refine rnC (inN (show 512 * 3 + 8 * w 6 + 2 * n + 1 < 2048 by omega) (by decide)) rfl ?_
            simp (disch := omega) only [nI_add, pk_mul, pk_sub, nd8, nd4, nsub8, nand63, nand7, nshr2, nI_clamp, E_at, hup_at, hup_hup]
            rw [rd1 n (by omega)]
            by_cases e : nmw w n = nmw w m
            · rw [show z = 0 by have : z ≠ 1 := fun q => hz.mp q e; omega] at kk
              refine rnT ((show nI (nmw w m) = nI (nmw w n) by rw [e])) rfl ?_
              refine rnN 1 rfl ?_
              exact kk
            · rw [hz.mpr e] at kk
              refine rnF ((fun q => e ((neqS (hb _) (hb _)).mp q).symm)) rfl ?_
              refine rnN 2 rfl ?_
              exact kk
          by_cases e : nmw w n = nmw w m
          · obtain ⟨r, q1, q2, q3⟩ := K2 0 (by decide) ⟨fun q => absurd q (by decide), fun q => absurd e (q.2 m (by omega))⟩
            refine ⟨r, q1, ?_, q3⟩
            rw [y1]
            refine pre 0 r ⟨fun q => absurd q (by decide), fun q => absurd e q⟩ (by decide) ?_
            refine rnN 3 rfl ?_
            simp (disch := omega) only [nI_add, pk_mul, pk_sub, nd8, nd4, nsub8, nand63, nand7, nshr2, nI_clamp, E_at, hup_at, hup_hup]
            exact q2
          · obtain ⟨r, q1, q2, q3⟩ := K2 1 (by decide) ⟨fun _ => ⟨(hyi.mp y1).1, fun j hj => by
              by_cases e2 : j = m
              · rw [e2]; exact e
              · exact (hyi.mp y1).2 j (by omega)⟩, fun _ => rfl⟩
            refine ⟨r, q1, ?_, q3⟩
            rw [y1]
            refine pre 1 r ⟨fun q => e, fun q => rfl⟩ (by decide) ?_
            refine rnN 3 rfl ?_
            simp (disch := omega) only [nI_add, pk_mul, pk_sub, nd8, nd4, nsub8, nand63, nand7, nshr2, nI_clamp, E_at, hup_at, hup_hup]
            exact q2
        · obtain ⟨r, q1, q2, q3⟩ := K2 0 (by decide) ⟨fun q => absurd q (by decide), fun q => absurd (hyi.mpr ⟨q.1, fun j hj => q.2 j (by omega)⟩) y1⟩
          refine ⟨r, q1, ?_, q3⟩
          rw [show y = 0 by omega]
          refine rnN 2 rfl ?_
          refine rnT (nI_lt hm (by omega)) rfl ?_
          refine rnN 2 rfl ?_
          refine rnN 1 rfl ?_
          refine rnN 3 rfl ?_
          simp (disch := omega) only [nI_add, pk_mul, pk_sub, nd8, nd4, nsub8, nand63, nand7, nshr2, nI_clamp, E_at, hup_at, hup_hup]
          exact q2
      · intro y hy hyi
        obtain ⟨r, q1, q2, q3⟩ := K y (some (vI (nI n))) hy (hyi.trans ⟨fun q => ⟨(hxi.mp q.1).1, fun i hi j hj => by
          by_cases e : i = n
          · rw [e] at hj ⊢
            exact q.2 j hj
          · exact (hxi.mp q.1).2 i (by omega) j hj⟩, fun q => ⟨hxi.mpr ⟨q.1, fun i hi => q.2 i (by omega)⟩, q.2 n (by omega)⟩⟩)
        refine ⟨r, q1, ?_, q3⟩
        refine rnN 2 rfl ?_
        refine rnF (nI_nlt (Nat.le_refl n) (by omega)) rfl ?_
        refine rnN 2 rfl ?_
        simp (disch := omega) only [nI_add, pk_mul, pk_sub, nd8, nd4, nsub8, nand63, nand7, nshr2, nI_clamp, E_at, hup_at, hup_hup]
        exact q2
    · intro x o5 hx hxi
      refine ⟨x, hx, ?_, hxi⟩
      refine rnN 2 rfl ?_
      refine rnF (nI_nlt (Nat.le_refl (w 5)) (by omega)) rfl ?_
      rcases (show x = 0 ∨ x = 1 by omega) with e | e
      · rw [e]
        refine rnN 1 rfl ?_
        exact rnR rfl
      · rw [e]
        refine rnN 1 rfl ?_
        exact rnR rfl
  -- the other words
  have first := lpN (8 - 2 * w 5) (fun m => ∀ x, x ≤ 1 → (x = 1 ↔ ∀ j, 2 * w 5 ≤ j → j < 2 * w 5 + m → w (8 * w 6 + j) = 0) → SL (d + 1) 32 [some (vR (4, 0)), some (vI (nI (w 5))), some (vI (nI (512 * 3 + 8 * w 6))), some (vI (nI x)), some (vI (nI (2 * w 5 + m))), none] h ((∀ j, 2 * w 5 ≤ j → j < 8 → w (8 * w 6 + j) = 0) ∧ ∀ i, i < w 5 → ∀ j, j < i → nmw w i ≠ nmw w j)) (fun m hm K => ?_) ?_
  · obtain ⟨r, q1, q2, q3⟩ := first 1 (by decide) ⟨fun _ j h1 h2 => by omega, fun _ => rfl⟩
    refine ⟨r, q1, ?_, q3.trans ⟨fun q => ⟨q.2, fun _ => q.1⟩, fun q => ⟨q.2 e0, q.1⟩⟩⟩
    refine rnN 2 rfl ?_
    refine rnK rfl (m_snapshots hw (by decide)) ?_
    refine rnN 2 rfl ?_
    refine rnF ((fun q => e0 ((neq0S (hb _)).mp q))) rfl ?_
    refine rnN 4 rfl ?_
    refine rnC (inN (show 1542 < 2048 by decide) (by decide)) rfl ?_
    simp (disch := omega) only [nI_add, pk_mul, pk_sub, nd8, nd4, nsub8, nand63, nand7, nshr2, nI_clamp, E_at, hup_at, hup_hup]
    rw [h_rd hw (show 6 < 512 by decide) rfl]
    refine rnK rfl (m_at) ?_
    refine rnN 7 rfl ?_
    simp (disch := omega) only [nI_add, pk_mul, pk_sub, nd8, nd4, nsub8, nand63, nand7, nshr2, nI_clamp, E_at, hup_at, hup_hup]
    exact q2
  · intro x hx hxi
    by_cases x1 : x = 1
    · have pre : ∀ z r, (z = 1 ↔ w (8 * w 6 + (2 * w 5 + m)) = 0) → z ≤ 1 → Rn (d + 1) MX4_listRight 60 [some (vR (4, 0)), some (vI (nI (w 5))), some (vI (nI (512 * 3 + 8 * w 6))), some (vI (nI 1)), some (vI (nI (2 * w 5 + m))), none] [vI (nI z)] h (some (vI (nI r))) h → Rn (d + 1) MX4_listRight 32 [some (vR (4, 0)), some (vI (nI (w 5))), some (vI (nI (512 * 3 + 8 * w 6))), some (vI (nI 1)), some (vI (nI (2 * w 5 + m))), none] [] h (some (vI (nI r))) h := fun z r hz hz1 kk => by
        refine rnN 2 rfl ?_
        refine rnT (nI_lt (show 2 * w 5 + m < 8 by omega) (by decide)) rfl ?_
        refine rnN 2 rfl ?_
        refine rnN 5 rfl ?_
        simp (disch := omega) only [nI_add, pk_mul, pk_sub, nd8, nd4, nsub8, nand63, nand7, nshr2, nI_clamp, E_at, hup_at, hup_hup]
        refine rnC (inN (show 512 * 3 + 8 * w 6 + (2 * w 5 + m) < 2048 by omega) (by decide)) rfl ?_
        simp (disch := omega) only [nI_add, pk_mul, pk_sub, nd8, nd4, nsub8, nand63, nand7, nshr2, nI_clamp, E_at, hup_at, hup_hup]
        rw [h_rd hw (show 8 * w 6 + (2 * w 5 + m) < 512 by omega) (by omega)]
        by_cases e : w (8 * w 6 + (2 * w 5 + m)) = 0
        · rw [hz.mpr e] at kk
          refine rnT ((show nI (w (8 * w 6 + (2 * w 5 + m))) = 0 by rw [e]; rfl)) rfl ?_
          refine rnN 2 rfl ?_
          exact kk
        · rw [show z = 0 by have : z ≠ 1 := fun q => e (hz.mp q); omega] at kk
          refine rnF ((fun q => e ((neq0S (hb _)).mp q))) rfl ?_
          refine rnN 1 rfl ?_
          exact kk
      by_cases e : w (8 * w 6 + (2 * w 5 + m)) = 0
      · obtain ⟨r, q1, q2, q3⟩ := K 1 (by decide) ⟨fun _ j h1 h2 => by
          by_cases e2 : j = 2 * w 5 + m
          · rw [e2]; exact e
          · exact hxi.mp x1 j h1 (by omega), fun _ => rfl⟩
        refine ⟨r, q1, ?_, q3⟩
        rw [x1]
        refine pre 1 r ⟨fun _ => e, fun _ => rfl⟩ (by decide) ?_
        refine rnN 3 rfl ?_
        simp (disch := omega) only [nI_add, pk_mul, pk_sub, nd8, nd4, nsub8, nand63, nand7, nshr2, nI_clamp, E_at, hup_at, hup_hup]
        exact q2
      · obtain ⟨r, q1, q2, q3⟩ := K 0 (by decide) ⟨fun q => absurd q (by decide), fun q => absurd (q _ (by omega) (by omega)) e⟩
        refine ⟨r, q1, ?_, q3⟩
        rw [x1]
        refine pre 0 r ⟨fun q => absurd q (by decide), fun q => absurd q e⟩ (by decide) ?_
        refine rnN 3 rfl ?_
        simp (disch := omega) only [nI_add, pk_mul, pk_sub, nd8, nd4, nsub8, nand63, nand7, nshr2, nI_clamp, E_at, hup_at, hup_hup]
        exact q2
    · obtain ⟨r, q1, q2, q3⟩ := K 0 (by decide) ⟨fun q => absurd q (by decide), fun q => absurd (hxi.mpr fun j h1 h2 => q j h1 (by omega)) x1⟩
      refine ⟨r, q1, ?_, q3⟩
      rw [show x = 0 by omega]
      refine rnN 2 rfl ?_
      refine rnT (nI_lt (show 2 * w 5 + m < 8 by omega) (by decide)) rfl ?_
      refine rnN 2 rfl ?_
      refine rnN 1 rfl ?_
      refine rnN 3 rfl ?_
      simp (disch := omega) only [nI_add, pk_mul, pk_sub, nd8, nd4, nsub8, nand63, nand7, nshr2, nI_clamp, E_at, hup_at, hup_hup]
      exact q2
  · intro x hx hxi
    obtain ⟨r, q1, q2, q3⟩ := outer x none hx
    refine ⟨r, q1, ?_, q3.trans ⟨fun q => ⟨fun j h1 h2 => hxi.mp q.1 j h1 (by omega), q.2⟩, fun q => ⟨hxi.mpr fun j h1 h2 => q.1 j h1 (by omega), q.2⟩⟩⟩
    refine rnN 2 rfl ?_
    refine rnF (nI_nlt (show 8 ≤ 2 * w 5 + (8 - 2 * w 5) by omega) (by omega)) rfl ?_
    refine rnN 2 rfl ?_
    exact q2
end MLs
