/-! ===== countLeaf, countTable ===== -/
/-- counts are of leaves and blocks alone -/
def CO (u c : Nat → Nat) : Prop := ∀ X, c X ≠ 0 → 1 ≤ X ∧ ((8 ≤ u X ∧ u X < 16) ∨ 24 ≤ u X)
/-- what a table leads to, counted for X -/
def tl (w : Nat → Nat) (X t : Nat) : Nat := sm 8 fun i => lc w X (w (8 * t + i))
/-- clusters that are led to lie where there is a count cluster -/
def KP (w : Nat → Nat) (t : Nat) : Prop := ∀ i, i < 8 → w (8 * t + i) / 4 ≠ 0 → w (8 * w 4 + w (8 * t + i) / 4 / 8) ≠ 0 ∧ ∀ j, j < 8 → w (8 * (w (8 * t + i) / 4) + j) / 4 ≠ 0 → w (8 * w 4 + w (8 * (w (8 * t + i) / 4) + j) / 4 / 8) ≠ 0
section CT
variable {d k : Nat} {h : xH} {w u g c c2 : Nat → Nat} {sg : Bool}
theorem tc_tl (w : Nat → Nat) (X t : Nat) : tc w X t = iv t X + tl w X t := rfl
theorem CO.zero : CO u (fun _ => 0) := fun X h => absurd rfl h
theorem CO.add (h1 : CO u c) (h2 : CO u c2) : CO u (fun X => c X + c2 X) := fun X h => by
  by_cases e : c X = 0
  · exact h2 X (by have h : c X + c2 X ≠ 0 := h; omega)
  · exact h1 X e
theorem CO.ivs {Y : Nat} (h1 : 1 ≤ Y) (h2 : (8 ≤ u Y ∧ u Y < 16) ∨ 24 ≤ u Y) : CO u (fun X => iv Y X) := fun X h => by
  have e := iv_pos h
  subst e
  exact ⟨h1, h2⟩
theorem CO.bcs {sz i j y : Nat} (hB : BOK sz u i j y) : CO u (fun X => bc X y) := fun X h => by
  have h : bc X y ≠ 0 := h
  unfold bc at h
  split at h
  · exact absurd rfl h
  · next h0 =>
    have e := iv_pos h
    have h1 := hB.lead h0
    have h2 := h1.1.pos
    rw [← e]
    exact ⟨by omega, Or.inr (by omega)⟩
theorem CO.sms {n : Nat} {f : Nat → Nat → Nat} (h1 : ∀ i, i < n → CO u (fun X => f X i)) : CO u (fun X => sm n (f X)) := by
  induction n with
  | zero => exact CO.zero
  | succ n ih => exact CO.add (ih fun i hi => h1 i (by omega)) (h1 n (by omega))
theorem CO.kk (h1 : CO u c) (hs : Str w u) : (∀ k, k < 8 → w (8 * w 4 + k) ≠ 0 → c (w (8 * w 4 + k)) = 0) ∧ c (w 4) = 0 ∧ c 0 = 0 := by
  refine ⟨fun k hk h0 => ?_, ?_, ?_⟩
  · refine Classical.byContradiction fun e => ?_
    have h2 := h1 _ e
    have h3 := hs.keep hk h0
    omega
  · refine Classical.byContradiction fun e => ?_
    have h2 := h1 _ e
    have h3 := hs.ct
    omega
  · refine Classical.byContradiction fun e => ?_
    have h2 := h1 _ e
    omega
theorem CO.lcs {i x : Nat} (hL : LOK w u i x) (hi : i < 8) : CO u (fun X => lc w X x) := fun X h => by
  have h : lc w X x ≠ 0 := h
  unfold lc at h
  split at h
  · exact absurd rfl h
  · next h0 =>
    have h1 := hL.lead h0
    have h2 := h1.1.pos
    exact CO.add (CO.ivs (Y := x / 4) (by omega) (Or.inl (by omega))) (CO.sms (f := fun X j => bc X (w (8 * (x / 4) + j))) fun j hj => CO.bcs (h1.2.2.2 j hj)) X h
theorem cS_at (hco : CO u c) {X j : Nat} (hX : u X < 16 ∨ 24 ≤ u X ∨ X = 0) (hj : j < 8) (hge : sg = false → c X = 0 ∨ c X + 1 ≤ g X) : cS sg w u g c (8 * X + j) = w (8 * X + j) := by
  refine cW_out (zS_false fun hsg e => ?_) (by rw [ix_div hj]; exact hX)
  rw [ix_div hj] at e ⊢
  have := hge hsg
  omega
theorem c_countLeaf {l i : Nat} (hw : h (10, k) = E (cS sg w u g c)) (hs : Str w u) (hl1 : 1 ≤ l) (hl : l < 64) (hul : u l = 8 + i) (hi8 : i < 8) (hkl : w (8 * w 4 + l / 8) ≠ 0) (hB : ∀ j, j < 8 → BOK (w 2) u i j (w (8 * l + j)))
    (hkB : ∀ j, j < 8 → w (8 * l + j) / 4 ≠ 0 → w (8 * w 4 + w (8 * l + j) / 4 / 8) ≠ 0) (hco : CO u c) (hge : sg = false → ∀ X, c X + (iv l X + sm 8 fun j => bc X (w (8 * l + j))) ≤ g X) (hb : ∀ X, g X + c X + 10 < 1000) :
    Cl (d + 2) MX1_countLeaf [vR (1, k), vI (nI l), vI (dlt sg)] h none (hup h (10, k) (E (cS sg w u g fun X => c X + (iv l X + sm 8 fun j => bc X (w (8 * l + j)))))) := by
  have hl0 : ∀ j, j < 8 → bc l (w (8 * l + j)) = 0 := fun j hj => by
    refine Classical.byContradiction fun e => ?_
    unfold bc at e
    split at e
    · exact e rfl
    · next h0 =>
      have h1 := iv_pos e
      have h2 := (hB j hj).lead h0
      rw [h1] at h2
      omega
  have hcoi : ∀ n, n ≤ 8 → CO u (fun X => c X + sm n fun j => bc X (w (8 * l + j))) := fun n hn => hco.add (CO.sms (f := fun X j => bc X (w (8 * l + j))) fun j hj => CO.bcs (hB j (by omega)))
  have hsm8 : ∀ n X, n ≤ 8 → (sm n fun j => bc X (w (8 * l + j))) ≤ 8 := fun n X hn => by
    have h1 := sm_le (n := n) (f := fun j => bc X (w (8 * l + j))) (g := fun _ => 1) (fun _ _ => bc_le _ _)
    rw [sm_const] at h1
    omega
  have hmon : ∀ n X, n < 8 → (sm (n + 1) fun j => bc X (w (8 * l + j))) ≤ sm 8 fun j => bc X (w (8 * l + j)) := by
    intro n X hn
    have h1 : ∀ m, n + 1 ≤ m → (sm (n + 1) fun j => bc X (w (8 * l + j))) ≤ sm m fun j => bc X (w (8 * l + j)) := by
      intro m hm
      induction hm with
      | refl => exact Nat.le_refl _
      | step _ ih => exact Nat.le_trans ih (Nat.le_add_right _ _)
    exact h1 8 (by omega)
  have hgel : sg = false → c l + 1 ≤ g l := fun hsg => by
    have h1 := hge hsg l
    rw [iv_self] at h1
    omega
  refine rnN 2 rfl ?_
  refine rnH (hE0 (v := cS sg w u g fun X => c X + sm 0 fun j => bc X (w (8 * l + j))) hw rfl) ?_
  have go := lpN 8 (fun n => ∀ o4 : Option xV, Rn (d + 2) MX1_countLeaf 2 [some (vR (1, k)), some (vI (nI l)), some (vI (dlt sg)), some (vI (nI n)), o4] [] (hup h (10, k) (E (cS sg w u g fun X => c X + sm n fun j => bc X (w (8 * l + j))))) none (hup h (10, k) (E (cS sg w u g fun X => c X + (iv l X + sm 8 fun j => bc X (w (8 * l + j))))))) (fun n hn K => ?_) ?_
  · exact go none
  · intro o4
    have hBn := hB n hn
    have hlt := hBn.lt
    have hrd : cS sg w u g (fun X => c X + sm n fun j => bc X (w (8 * l + j))) (8 * l + n) = w (8 * l + n) := cS_at (hcoi n (by omega)) (by omega) hn (fun hsg => Or.inr (by
      have h1 : (sm n fun j => bc l (w (8 * l + j))) = 0 := sm_zero fun j hj => hl0 j (by omega)
      show (c l + sm n fun j => bc l (w (8 * l + j))) + 1 ≤ g l
      rw [h1]
      exact hgel hsg))
    refine rnN 2 rfl ?_
    refine rnT (nI_lt hn (by decide)) rfl ?_
    refine rnN 4 rfl ?_
    refine rnK rfl (c_at hup_at hl hn) ?_
    rw [hrd]
    refine rnN 2 rfl ?_
    refine rnK rfl (c_isLead (show w (8 * l + n) < 2147483648 by omega)) ?_
    by_cases h2 : 2 < w (8 * l + n)
    · have h4 := hBn.isLead.mp h2
      have hL := hBn.lead h4
      have hp := hL.1.pos
      have ebc : ∀ X, bc X (w (8 * l + n)) = iv (w (8 * l + n) / 4) X := fun X => by unfold bc; rw [if_neg h4]
      rw [if_pos h2]
      refine rnN 4 rfl ?_
      refine rnK rfl (c_clusterOf (show w (8 * l + n) < 2147483648 by omega)) ?_
      refine rnN 1 rfl ?_
      obtain ⟨q1, q2, q3⟩ := (hcoi n (by omega)).kk hs
      have hca := c_addS (d := d) (h := hup h (10, k) (E (cS sg w u g fun X => c X + sm n fun j => bc X (w (8 * l + j))))) (k := k) hup_at hs hp.1 hp.2 (hkB n hn h4) q1 q2 q3 (Or.inr (by omega)) (fun e => by have := hs.ct; rw [e] at hL; omega) (fun hsg => by
        have h5 := hge hsg (w (8 * l + n) / 4)
        have h6 := hmon n (w (8 * l + n) / 4) hn
        rw [sm_succ, ebc, iv_self] at h6
        omega) (by have h5 := hb (w (8 * l + n) / 4); have h6 := hsm8 n (w (8 * l + n) / 4) (by omega); show g _ + (c _ + sm n fun j => bc _ (w (8 * l + j))) + 1 < 1000; omega)
      rw [hup_hup] at hca
      refine rnK rfl (hca) ?_
      refine rnN 2 rfl ?_
      simp (disch := omega) only [nI_add, pk_mul, pk_sub, nd8, nd4, nsub8, nand63, nand7, nshr2, nI_clamp, E_at, hup_at, hup_hup]
      have e : (fun Y => (c Y + sm n fun j => bc Y (w (8 * l + j))) + iv (w (8 * l + n) / 4) Y) = fun X => c X + sm (n + 1) fun j => bc X (w (8 * l + j)) := by
        funext Y
        rw [sm_succ, ebc Y]
        omega
      rw [e]
      exact K _
    · have h4 : w (8 * l + n) / 4 = 0 := Classical.byContradiction fun e => h2 (hBn.isLead.mpr e)
      rw [if_neg h2]
      refine rnN 3 rfl ?_
      simp (disch := omega) only [nI_add, pk_mul, pk_sub, nd8, nd4, nsub8, nand63, nand7, nshr2, nI_clamp, E_at, hup_at, hup_hup]
      have e : (fun X => c X + sm n fun j => bc X (w (8 * l + j))) = fun X => c X + sm (n + 1) fun j => bc X (w (8 * l + j)) := by
        funext Y
        rw [sm_succ]
        unfold bc
        rw [if_pos h4]
        rfl
      rw [e]
      exact K _
  · intro o4
    refine rnN 7 rfl ?_
    obtain ⟨q1, q2, q3⟩ := (hcoi 8 (by omega)).kk hs
    have h80 : (sm 8 fun j => bc l (w (8 * l + j))) = 0 := sm_zero fun j hj => hl0 j hj
    have hca := c_addS (d := d) (h := hup h (10, k) (E (cS sg w u g fun X => c X + sm 8 fun j => bc X (w (8 * l + j))))) (k := k) hup_at hs hl1 hl hkl q1 q2 q3 (Or.inl (by omega)) (fun e => by have := hs.ct; rw [e] at hul; omega) (fun hsg => by
      show (c l + sm 8 fun j => bc l (w (8 * l + j))) + 1 ≤ g l
      rw [h80]
      exact hgel hsg) (by have h5 := hb l; show g l + (c l + sm 8 fun j => bc l (w (8 * l + j))) + 1 < 1000; rw [h80]; omega)
    rw [hup_hup] at hca
    refine rnK rfl (hca) ?_
    have e : (fun Y => (c Y + sm 8 fun j => bc Y (w (8 * l + j))) + iv l Y) = fun X => c X + (iv l X + sm 8 fun j => bc X (w (8 * l + j))) := by
      funext Y
      omega
    rw [e]
    exact rnR rfl
theorem tl_le (w : Nat → Nat) (X t : Nat) : tl w X t ≤ 72 := by
  have h2 := sm_le (n := 8) (f := fun i => lc w X (w (8 * t + i))) (g := fun _ => 9) (fun _ _ => lc_le _ _ _)
  rw [sm_const] at h2
  exact h2
theorem CO.tls {t : Nat} (hL : ∀ i, i < 8 → LOK w u i (w (8 * t + i))) : CO u (fun X => tl w X t) := CO.sms (f := fun X i => lc w X (w (8 * t + i))) fun i hi => CO.lcs (hL i hi) hi
theorem c_countTable {t : Nat} (hw : h (10, k) = E (cS sg w u g fun _ => 0)) (hs : Str w u) (ht : t < 64) (hut : u t < 8) (hL : ∀ i, i < 8 → LOK w u i (w (8 * t + i))) (hkp : KP w t) (hge : sg = false → ∀ X, tl w X t ≤ g X) (hb : ∀ X, g X + 100 < 1000) :
    Cl (d + 3) MX1_countTable [vR (1, k), vI (nI t), vI (dlt sg)] h none (hup h (10, k) (E (cS sg w u g fun X => tl w X t))) := by
  have hcoi : ∀ n, n ≤ 8 → CO u (fun X => sm n fun i => lc w X (w (8 * t + i))) := fun n hn => CO.sms (f := fun X i => lc w X (w (8 * t + i))) fun i hi => CO.lcs (hL i (by omega)) (by omega)
  have hsm8 : ∀ n X, n ≤ 8 → (sm n fun i => lc w X (w (8 * t + i))) ≤ 72 := fun n X hn => by
    have h1 := sm_le (n := n) (f := fun i => lc w X (w (8 * t + i))) (g := fun _ => 9) (fun _ _ => lc_le _ _ _)
    rw [sm_const] at h1
    omega
  have hmon : ∀ n X, n < 8 → (sm (n + 1) fun i => lc w X (w (8 * t + i))) ≤ tl w X t := by
    intro n X hn
    have h1 : ∀ m, n + 1 ≤ m → (sm (n + 1) fun i => lc w X (w (8 * t + i))) ≤ sm m fun i => lc w X (w (8 * t + i)) := by
      intro m hm
      induction hm with
      | refl => exact Nat.le_refl _
      | step _ ih => exact Nat.le_trans ih (Nat.le_add_right _ _)
    exact h1 8 (by omega)
  refine rnN 2 rfl ?_
  refine rnH (hE0 (v := cS sg w u g fun X => sm 0 fun i => lc w X (w (8 * t + i))) hw rfl) ?_
  have go := lpN 8 (fun n => ∀ o4 : Option xV, Rn (d + 3) MX1_countTable 2 [some (vR (1, k)), some (vI (nI t)), some (vI (dlt sg)), some (vI (nI n)), o4] [] (hup h (10, k) (E (cS sg w u g fun X => sm n fun i => lc w X (w (8 * t + i))))) none (hup h (10, k) (E (cS sg w u g fun X => tl w X t)))) (fun n hn K => ?_) ?_
  · exact go none
  · intro o4
    have hLn := hL n hn
    have hlt := hLn.lt
    have ht0 : (sm n fun i => lc w t (w (8 * t + i))) = 0 := Classical.byContradiction fun e => by
      have := hcoi n (by omega) t e
      omega
    have hrd : cS sg w u g (fun X => sm n fun i => lc w X (w (8 * t + i))) (8 * t + n) = w (8 * t + n) := cS_at (hcoi n (by omega)) (by omega) hn (fun hsg => Or.inl ht0)
    refine rnN 2 rfl ?_
    refine rnT (nI_lt hn (by decide)) rfl ?_
    refine rnN 4 rfl ?_
    refine rnK rfl (c_at hup_at ht hn) ?_
    rw [hrd]
    refine rnN 2 rfl ?_
    refine rnK rfl (c_isLead (show w (8 * t + n) < 2147483648 by omega)) ?_
    by_cases h2 : 2 < w (8 * t + n)
    · have h4 := hLn.isLead.mp h2
      have hLl := hLn.lead h4
      have hp := hLl.1.pos
      have elc : ∀ X, lc w X (w (8 * t + n)) = iv (w (8 * t + n) / 4) X + sm 8 fun j => bc X (w (8 * (w (8 * t + n) / 4) + j)) := fun X => by unfold lc; rw [if_neg h4]
      rw [if_pos h2]
      refine rnN 3 rfl ?_
      refine rnK rfl (c_clusterOf (show w (8 * t + n) < 2147483648 by omega)) ?_
      refine rnN 1 rfl ?_
      obtain ⟨q1, q2⟩ := hkp n hn h4
      have hcl := c_countLeaf (d := d) (h := hup h (10, k) (E (cS sg w u g fun X => sm n fun i => lc w X (w (8 * t + i))))) (k := k) hup_at hs hp.1 hp.2 hLl.2.2.1 hn q1 hLl.2.2.2 q2 (hcoi n (by omega)) (fun hsg X => by
        have h5 := hge hsg X
        have h6 := hmon n X hn
        rw [sm_succ, elc] at h6
        omega) (fun X => by have h5 := hb X; have h6 := hsm8 n X (by omega); show g X + (sm n fun i => lc w X (w (8 * t + i))) + 10 < 1000; omega)
      rw [hup_hup] at hcl
      refine rnK rfl (hcl) ?_
      refine rnN 2 rfl ?_
      simp (disch := omega) only [nI_add, pk_mul, pk_sub, nd8, nd4, nsub8, nand63, nand7, nshr2, nI_clamp, E_at, hup_at, hup_hup]
      have e : (fun X => (sm n fun i => lc w X (w (8 * t + i))) + (iv (w (8 * t + n) / 4) X + sm 8 fun j => bc X (w (8 * (w (8 * t + n) / 4) + j)))) = fun X => sm (n + 1) fun i => lc w X (w (8 * t + i)) := by
        funext Y
        rw [← elc Y]
        rfl
      rw [e]
      exact K _
    · have h4 : w (8 * t + n) / 4 = 0 := Classical.byContradiction fun e => h2 (hLn.isLead.mpr e)
      rw [if_neg h2]
      refine rnN 3 rfl ?_
      simp (disch := omega) only [nI_add, pk_mul, pk_sub, nd8, nd4, nsub8, nand63, nand7, nshr2, nI_clamp, E_at, hup_at, hup_hup]
      have e : (fun X => sm n fun i => lc w X (w (8 * t + i))) = fun X => sm (n + 1) fun i => lc w X (w (8 * t + i)) := by
        funext Y
        rw [sm_succ]
        have e1 : lc w Y (w (8 * t + n)) = 0 := by
          unfold lc
          rw [if_pos h4]
        rw [e1]
        rfl
      rw [e]
      exact K _
  · intro o4
    refine rnN 3 rfl ?_
    exact rnR rfl
end CT
