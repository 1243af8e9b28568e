/-! ===== the class's reader: list, counts, marks, the rest; which is wrong first ===== -/
def LsR (w : Nat → Nat) : Prop := (∀ i, i < w 5 → ∀ j, j < i → w (8 * w 6 + (2 * i + 1)) ≠ w (8 * w 6 + (2 * j + 1))) ∧ (w 5 ≠ 0 → ∀ j, 2 * w 5 ≤ j → j < 8 → w (8 * w 6 + j) = 0)
def CR (w : Nat → Nat) : Prop := ∀ c, c < 64 → cnt w c = T w c
def FR (w us : Nat → Nat) : Prop := ∀ c, c < 64 → TL us c → ∀ j, j < 8 → mk w (w (8 * c + j)) = w (8 * c + j)
def BR (w : Nat → Nat) : Prop := ∀ c, 1 ≤ c → c < 64 → T w c = 0 → ∀ j, j < 8 → w (8 * c + j) = 0
section RG
variable {d l t : Nat} {h : xH} {f0 f1 : Nat → Int32} {us ct u v w : Nat → Nat} {r : Nat}
theorem c_listRight (hw : h (10, 3) = E w) (hb : ∀ p, w p < 4294967296) (h5 : w 5 ≤ 4) (h6 : w 6 < 64) : ∃ r, r ≤ 1 ∧ Cl (d + 2) MX2_isListRight [vR (0, 3)] h (some (vI (nI r))) h ∧ (r = 1 ↔ LsR w) := by
  -- the outer loop
  have go := lpN (w 5) (fun a => ∀ o4 : Option xV, ∃ r, r ≤ 1 ∧ Rn (d + 2) MX2_isListRight 19 [some (vR (0, 3)), some (vI (nI (w 6))), some (vI (nI (2 * w 5))), some (vI (nI (2 * a + 1))), o4] [] h (some (vI (nI r))) h ∧ (r = 1 ↔ ((∀ i, a ≤ i → i < w 5 → ∀ j, j < i → w (8 * w 6 + (2 * i + 1)) ≠ w (8 * w 6 + (2 * j + 1))) ∧ (w 5 ≠ 0 → ∀ j, 2 * w 5 ≤ j → j < 8 → w (8 * w 6 + j) = 0)))) (fun a ha K => ?_) ?_
  · obtain ⟨r, h1, h2, h3⟩ := go none
    refine ⟨r, h1, ?_, ?_⟩
    · refine rnN 3 rfl ?_
      refine rnK rfl (c_hd hw (show 6 < 8 by decide)) ?_
      refine rnN 5 rfl ?_
      refine rnK rfl (c_hd hw (show 5 < 8 by decide)) ?_
      refine rnN 4 rfl ?_
      simp (disch := omega) only [nI_add, pk_mul, pk_sub, nd8, nd4, nsub8, nand63, nand7, nshr2, nI_clamp, E_at, hup_at, hup_hup]
      exact h2
    · rw [h3]
      unfold LsR
      constructor
      · rintro ⟨q1, q2⟩
        exact ⟨fun i hi => q1 i (Nat.zero_le _) hi, q2⟩
      · rintro ⟨q1, q2⟩
        exact ⟨fun i _ hi => q1 i hi, q2⟩
  · intro o4
    have inner := lpN a (fun b => ∃ r, r ≤ 1 ∧ Rn (d + 2) MX2_isListRight 27 [some (vR (0, 3)), some (vI (nI (w 6))), some (vI (nI (2 * w 5))), some (vI (nI (2 * a + 1))), some (vI (nI (2 * b + 1)))] [] h (some (vI (nI r))) h ∧ (r = 1 ↔ ((∀ j, b ≤ j → j < a → w (8 * w 6 + (2 * a + 1)) ≠ w (8 * w 6 + (2 * j + 1))) ∧ ((∀ i, a + 1 ≤ i → i < w 5 → ∀ j, j < i → w (8 * w 6 + (2 * i + 1)) ≠ w (8 * w 6 + (2 * j + 1))) ∧ (w 5 ≠ 0 → ∀ j, 2 * w 5 ≤ j → j < 8 → w (8 * w 6 + j) = 0))))) (fun b hb2 K2 => ?_) ?_
    · obtain ⟨r, h1, h2, h3⟩ := inner
      refine ⟨r, h1, ?_, ?_⟩
      · refine rnN 2 rfl ?_
        refine rnT (nI_lt (show 2 * a + 1 < 2 * w 5 by omega) (by omega)) rfl ?_
        refine rnN 2 rfl ?_
        exact h2
      · rw [h3]
        constructor
        · rintro ⟨q1, q2, q3⟩
          refine ⟨fun i hi1 hi2 j hj => ?_, q3⟩
          by_cases e : i = a
          · rw [e] at hj ⊢
            exact q1 j (Nat.zero_le _) hj
          · exact q2 i (by omega) hi2 j hj
        · rintro ⟨q1, q3⟩
          exact ⟨fun j _ hj => q1 a (Nat.le_refl _) ha j hj, fun i hi1 hi2 => q1 i (by omega) hi2, q3⟩
    · by_cases e : w (8 * w 6 + (2 * a + 1)) = w (8 * w 6 + (2 * b + 1))
      · refine ⟨0, by decide, ?_, ⟨fun z => absurd z (by decide), fun z => absurd e (z.1 b (Nat.le_refl _) hb2)⟩⟩
        refine rnN 2 rfl ?_
        refine rnT (nI_lt (show 2 * b + 1 < 2 * a + 1 by omega) (by omega)) rfl ?_
        refine rnN 3 rfl ?_
        refine rnK rfl (c_at hw h6 (show 2 * a + 1 < 8 by omega)) ?_
        refine rnN 3 rfl ?_
        refine rnK rfl (c_at hw h6 (show 2 * b + 1 < 8 by omega)) ?_
        refine rnT ((show nI (w (8 * w 6 + (2 * a + 1))) = nI (w (8 * w 6 + (2 * b + 1))) by rw [e])) rfl ?_
        refine rnN 1 rfl ?_
        exact rnR rfl
      · obtain ⟨r, h1, h2, h3⟩ := K2
        refine ⟨r, h1, ?_, ?_⟩
        · refine rnN 2 rfl ?_
          refine rnT (nI_lt (show 2 * b + 1 < 2 * a + 1 by omega) (by omega)) rfl ?_
          refine rnN 3 rfl ?_
          refine rnK rfl (c_at hw h6 (show 2 * a + 1 < 8 by omega)) ?_
          refine rnN 3 rfl ?_
          refine rnK rfl (c_at hw h6 (show 2 * b + 1 < 8 by omega)) ?_
          refine rnF ((fun z => e ((neqS (hb _) (hb _)).mp z))) rfl ?_
          refine rnN 2 rfl ?_
          simp (disch := omega) only [nI_add, pk_mul, pk_sub, nd8, nd4, nsub8, nand63, nand7, nshr2, nI_clamp, E_at, hup_at, hup_hup]
          rw [show 2 * b + 1 + 2 = 2 * (b + 1) + 1 by omega]
          exact h2
        · rw [h3]
          constructor
          · rintro ⟨q1, q2⟩
            refine ⟨fun j hj1 hj2 => ?_, q2⟩
            by_cases e2 : j = b
            · rw [e2]; exact e
            · exact q1 j (by omega) hj2
          · rintro ⟨q1, q2⟩
            exact ⟨fun j hj1 hj2 => q1 j (by omega) hj2, q2⟩
    · obtain ⟨r, h1, h2, h3⟩ := K (some (vI (nI (2 * a + 1))))
      refine ⟨r, h1, ?_, ?_⟩
      · refine rnN 2 rfl ?_
        refine rnF (nI_nlt (Nat.le_refl _) (by omega)) rfl ?_
        refine rnN 2 rfl ?_
        simp (disch := omega) only [nI_add, pk_mul, pk_sub, nd8, nd4, nsub8, nand63, nand7, nshr2, nI_clamp, E_at, hup_at, hup_hup]
        rw [show 2 * a + 1 + 2 = 2 * (a + 1) + 1 by omega]
        exact h2
      · rw [h3]
        constructor
        · intro q
          exact ⟨fun j hj1 hj2 => by omega, q⟩
        · intro q
          exact q.2
  · intro o4
    by_cases e5 : w 5 = 0
    · refine ⟨1, by decide, ?_, ⟨fun _ => ⟨fun i hi1 hi2 => by omega, fun z => absurd e5 z⟩, fun _ => rfl⟩⟩
      rw [e5]
      refine rnN 7 rfl ?_
      exact rnR rfl
    · by_cases hz : ∀ j, 2 * w 5 ≤ j → j < 8 → w (8 * w 6 + j) = 0
      · refine ⟨1, by decide, ?_, ⟨fun _ => ⟨fun i hi1 hi2 => by omega, fun _ => hz⟩, fun _ => rfl⟩⟩
        refine rnN 2 rfl ?_
        refine rnF (nI_nlt (show 2 * w 5 ≤ 2 * w 5 + 1 by omega) (by omega)) rfl ?_
        refine rnN 1 rfl ?_
        refine rnF (nI_ne0 (show 0 < 2 * w 5 by omega) (by omega)) rfl ?_
        refine rnN 3 rfl ?_
        refine rnK rfl (c_blankT hw h6 (show 2 * w 5 ≤ 8 by omega) hz) ?_
        refine rnN 3 rfl ?_
        exact rnR rfl
      · obtain ⟨j, hj1, hj2, hj3⟩ : ∃ j, 2 * w 5 ≤ j ∧ j < 8 ∧ w (8 * w 6 + j) ≠ 0 := Classical.byContradiction fun e => hz fun j h1 h2 => Classical.byContradiction fun h3 => e ⟨j, h1, h2, h3⟩
        refine ⟨0, by decide, ?_, ⟨fun z => absurd z (by decide), fun z => absurd (z.2 e5) hz⟩⟩
        refine rnN 2 rfl ?_
        refine rnF (nI_nlt (show 2 * w 5 ≤ 2 * w 5 + 1 by omega) (by omega)) rfl ?_
        refine rnN 1 rfl ?_
        refine rnF (nI_ne0 (show 0 < 2 * w 5 by omega) (by omega)) rfl ?_
        refine rnN 3 rfl ?_
        refine rnK rfl (c_blankF hw h6 (fun j _ => hb _) hj1 hj2 hj3) ?_
        refine rnN 2 rfl ?_
        exact rnR rfl
theorem c_countsRight (hw : h (10, 3) = E w) (hc : h (11, 1) = cf f1 ct) (hb : ∀ p, w p < 4294967296) (hs : Str w us) (hct : ∀ X, ct X = T w X) : ∃ r, r ≤ 1 ∧ Cl (d + 2) MX2_areCountsRight [vR (2, 0), vR (0, 3)] h (some (vI (nI r))) h ∧ (r = 1 ↔ CR w) := by
  have hlc := hs.ct
  have go := lpN 64 (fun a => ∃ r, r ≤ 1 ∧ Rn (d + 2) MX2_areCountsRight 2 [some (vR (2, 0)), some (vR (0, 3)), some (vI (nI a))] [] h (some (vI (nI r))) h ∧ (r = 1 ↔ ∀ c, a ≤ c → c < 64 → cnt w c = T w c)) (fun a ha K => ?_) ?_
  · obtain ⟨r, h1, h2, h3⟩ := go
    refine ⟨r, h1, ?_, ?_⟩
    · refine rnN 2 rfl ?_
      exact h2
    · rw [h3]
      exact ⟨fun q c hc => q c (Nat.zero_le _) hc, fun q c _ hc => q c hc⟩
  · have hcl : cnt w a < 4294967296 := by
      unfold cnt
      split
      · omega
      · exact hb _
    have hTl := T_le (w := w) hs.ns.1 a
    by_cases e : cnt w a = T w a
    · obtain ⟨r, h1, h2, h3⟩ := K
      refine ⟨r, h1, ?_, ?_⟩
      · refine rnN 2 rfl ?_
        refine rnT (nI_lt ha (by decide)) rfl ?_
        refine rnN 2 rfl ?_
        refine rnK rfl (c_count hw ha hlc.2.1 (hs.keepLt (by omega))) ?_
        refine rnN 3 rfl ?_
        refine rnC (inN ha (by decide)) rfl ?_
        simp (disch := omega) only [nI_clamp, hc, cf_at, hct]
        refine rnT ((show nI (cnt w a) = nI (T w a) by rw [e])) rfl ?_
        refine rnN 2 rfl ?_
        simp (disch := omega) only [nI_add, pk_mul, pk_sub, nd8, nd4, nsub8, nand63, nand7, nshr2, nI_clamp, E_at, hup_at, hup_hup]
        exact h2
      · rw [h3]
        constructor
        · intro q c hc1 hc2
          by_cases e2 : c = a
          · rw [e2]; exact e
          · exact q c (by omega) hc2
        · intro q c hc1 hc2
          exact q c (by omega) hc2
    · refine ⟨0, by decide, ?_, ⟨fun z => absurd z (by decide), fun z => absurd (z a (Nat.le_refl _) ha) e⟩⟩
      refine rnN 2 rfl ?_
      refine rnT (nI_lt ha (by decide)) rfl ?_
      refine rnN 2 rfl ?_
      refine rnK rfl (c_count hw ha hlc.2.1 (hs.keepLt (by omega))) ?_
      refine rnN 3 rfl ?_
      refine rnC (inN ha (by decide)) rfl ?_
      simp (disch := omega) only [nI_clamp, hc, cf_at, hct]
      refine rnF ((fun z => e ((neqS hcl (by omega)).mp z))) rfl ?_
      refine rnN 1 rfl ?_
      exact rnR rfl
  · refine ⟨1, by decide, ?_, ⟨fun _ c h1 h2 => by omega, fun _ => rfl⟩⟩
    refine rnN 4 rfl ?_
    exact rnR rfl
theorem c_flagsIn {c : Nat} (hw : h (10, 3) = E w) (hcc : h (11, 1) = cf f1 ct) (h5 : w 5 ≤ 4) (hct : ∀ X, ct X = T w X) (hc : c < 64) (hok : ∀ j, j < 8 → w (8 * c + j) < 256 ∧ (2 < w (8 * c + j) ↔ w (8 * c + j) / 4 ≠ 0)) : ∃ r, r ≤ 1 ∧ Cl (d + 1) MX2_areFlagsRightIn [vR (2, 0), vR (0, 3), vI (nI c)] h (some (vI (nI r))) h ∧ (r = 1 ↔ ∀ j, j < 8 → mk w (w (8 * c + j)) = w (8 * c + j)) := by
  have go := lpN 8 (fun a => ∀ o4 o5 : Option xV, ∃ r, r ≤ 1 ∧ Rn (d + 1) MX2_areFlagsRightIn 2 [some (vR (2, 0)), some (vR (0, 3)), some (vI (nI c)), some (vI (nI a)), o4, o5] [] h (some (vI (nI r))) h ∧ (r = 1 ↔ ∀ j, a ≤ j → j < 8 → mk w (w (8 * c + j)) = w (8 * c + j))) (fun a ha K => ?_) ?_
  · obtain ⟨r, h1, h2, h3⟩ := go none none
    refine ⟨r, h1, ?_, ?_⟩
    · refine rnN 2 rfl ?_
      exact h2
    · rw [h3]
      exact ⟨fun q c hc => q c (Nat.zero_le _) hc, fun q c _ hc => q c hc⟩
  · intro o4 o5
    obtain ⟨hy1, hy2⟩ := hok a ha
    obtain ⟨y, hy⟩ : ∃ y, y = w (8 * c + a) := ⟨_, rfl⟩
    rw [← hy] at hy1 hy2
    have nxt : mk w y = y → ∀ r, (r = 1 ↔ ∀ j, a + 1 ≤ j → j < 8 → mk w (w (8 * c + j)) = w (8 * c + j)) → (r = 1 ↔ ∀ j, a ≤ j → j < 8 → mk w (w (8 * c + j)) = w (8 * c + j)) := fun e r h3 => by
      rw [h3]
      constructor
      · intro q j hj1 hj2
        by_cases e2 : j = a
        · rw [e2, ← hy]; exact e
        · exact q j (by omega) hj2
      · intro q j hj1 hj2
        exact q j (by omega) hj2
    by_cases h2 : 2 < y
    · have h4 := hy2.mp h2
      have hTl := T_le (w := w) h5 (y / 4)
      -- the mark that is due
      obtain ⟨m, hm, hmk, hrun⟩ : ∃ m, m ≤ 1 ∧ mk w y = 4 * (y / 4) + m ∧ ∀ x hf, Rn (d + 1) MX2_areFlagsRightIn 60 [some (vR (2, 0)), some (vR (0, 3)), some (vI (nI c)), some (vI (nI a)), some (vI (nI y)), some (vI (nI m))] [vI (nI (4 * (y / 4) + m)), vI (nI y)] h x hf → Rn (d + 1) MX2_areFlagsRightIn 2 [some (vR (2, 0)), some (vR (0, 3)), some (vI (nI c)), some (vI (nI a)), o4, o5] [] h x hf := by
        have h37 : ∀ x hf, Rn (d + 1) MX2_areFlagsRightIn 37 [some (vR (2, 0)), some (vR (0, 3)), some (vI (nI c)), some (vI (nI a)), some (vI (nI y)), o5] [vI (nI (T w (y / 4)))] h x hf → Rn (d + 1) MX2_areFlagsRightIn 2 [some (vR (2, 0)), some (vR (0, 3)), some (vI (nI c)), some (vI (nI a)), o4, o5] [] h x hf := fun x hf kk => by
          refine rnN 2 rfl ?_
          refine rnT (nI_lt ha (by decide)) rfl ?_
          refine rnN 3 rfl ?_
          refine rnK rfl (c_at hw hc ha) ?_
          rw [← hy]
          refine rnN 2 rfl ?_
          refine rnK rfl (c_isLead (show y < 2147483648 by omega)) ?_
          rw [if_pos h2]
          refine rnN 4 rfl ?_
          refine rnK rfl (c_clusterOf (show y < 2147483648 by omega)) ?_
          refine rnN 2 rfl ?_
          simp (disch := omega) only [nI_add, pk_mul, pk_sub, nd8, nd4, nsub8, nand63, nand7, nshr2, nI_clamp, E_at, hup_at, hup_hup]
          refine rnC (inN (show y / 4 < 64 by omega) (by decide)) rfl ?_
          simp (disch := omega) only [nI_clamp, hcc, cf_at, hct]
          exact kk
        by_cases e : T w (y / 4) = 1
        · refine ⟨1, by decide, by rw [mk_lead h4, if_pos e], fun x hf kk => h37 x hf ?_⟩
          rw [e]
          refine rnN 4 rfl ?_
          refine rnN 3 rfl ?_
          refine rnK rfl (c_clusterOf (show y < 2147483648 by omega)) ?_
          refine rnN 1 rfl ?_
          refine rnK rfl (c_leadTo (Nat.le_refl 1)) ?_
          exact kk
        · refine ⟨0, by decide, by rw [mk_lead h4, if_neg e], fun x hf kk => h37 x hf ?_⟩
          refine rnN 1 rfl ?_
          refine rnF ((fun z => e ((neqS (by omega) (by decide)).mp z))) rfl ?_
          refine rnN 1 rfl ?_
          refine rnN 3 rfl ?_
          refine rnK rfl (c_clusterOf (show y < 2147483648 by omega)) ?_
          refine rnN 1 rfl ?_
          refine rnK rfl (c_leadTo (Nat.zero_le 1)) ?_
          exact kk
      by_cases e : mk w y = y
      · obtain ⟨r, h1, h3, h9⟩ := K (some (vI (nI y))) (some (vI (nI m)))
        refine ⟨r, h1, hrun _ _ ?_, nxt e r h9⟩
        rw [← hmk, e]
        refine rnT ((show nI y = nI y from rfl)) rfl ?_
        refine rnN 2 rfl ?_
        simp (disch := omega) only [nI_add, pk_mul, pk_sub, nd8, nd4, nsub8, nand63, nand7, nshr2, nI_clamp, E_at, hup_at, hup_hup]
        exact h3
      · refine ⟨0, by decide, hrun _ _ ?_, ⟨fun z => absurd z (by decide), fun z => absurd (by have := z a (Nat.le_refl _) ha; rw [← hy] at this; exact this) e⟩⟩
        refine rnF ((fun z => e (by rw [hmk]; exact ((neqS (by omega) (by omega)).mp z).symm))) rfl ?_
        refine rnN 1 rfl ?_
        exact rnR rfl
    · have h4 : y / 4 = 0 := Classical.byContradiction fun e => h2 (hy2.mpr e)
      obtain ⟨r, h1, h3, h9⟩ := K (some (vI (nI y))) o5
      refine ⟨r, h1, ?_, nxt (mk_flat h4) r h9⟩
      refine rnN 2 rfl ?_
      refine rnT (nI_lt ha (by decide)) rfl ?_
      refine rnN 3 rfl ?_
      refine rnK rfl (c_at hw hc ha) ?_
      rw [← hy]
      refine rnN 2 rfl ?_
      refine rnK rfl (c_isLead (show y < 2147483648 by omega)) ?_
      rw [if_neg h2]
      refine rnN 1 rfl ?_
      refine rnN 2 rfl ?_
      simp (disch := omega) only [nI_add, pk_mul, pk_sub, nd8, nd4, nsub8, nand63, nand7, nshr2, nI_clamp, E_at, hup_at, hup_hup]
      exact h3
  · intro o4 o5
    refine ⟨1, by decide, ?_, ⟨fun _ c h1 h2 => by omega, fun _ => rfl⟩⟩
    refine rnN 4 rfl ?_
    exact rnR rfl
theorem c_hasFlags {a : Nat} (ha : a < 88) : Cl d MX2_hasFlags [vI (nI a)] h (some (vI (nI (if a = 1 ∨ (4 ≤ a ∧ a < 16) then 1 else 0)))) h := by
  by_cases e1 : a = 1
  · rw [if_pos (Or.inl e1), e1]
    refine rnN 5 rfl ?_
    exact rnR rfl
  · refine rnN 2 rfl ?_
    refine rnF ((fun z => e1 ((neqS (by omega) (by decide)).mp z))) rfl ?_
    by_cases e2 : a < 4
    · rw [if_neg (by omega)]
      refine rnN 2 rfl ?_
      refine rnT (nI_lt e2 (by decide)) rfl ?_
      refine rnN 1 rfl ?_
      exact rnR rfl
    · refine rnN 2 rfl ?_
      refine rnF (nI_nlt (Nat.le_of_not_lt e2) (by omega)) rfl ?_
      by_cases e3 : a < 16
      · rw [if_pos (Or.inr ⟨by omega, e3⟩)]
        refine rnN 2 rfl ?_
        refine rnT (nI_lt e3 (by decide)) rfl ?_
        refine rnN 2 rfl ?_
        exact rnR rfl
      · rw [if_neg (by omega)]
        refine rnN 2 rfl ?_
        refine rnF (nI_nlt (Nat.le_of_not_lt e3) (by omega)) rfl ?_
        refine rnN 1 rfl ?_
        exact rnR rfl
end RG
