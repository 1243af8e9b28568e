/-! ===== the marks told anew ===== -/
def fS (S : Nat → Bool) (w : Nat → Nat) : Nat → Nat := fun p => if S (p / 8) = true then mk w (w p) else w p
def tlB (u : Nat → Nat) : Nat → Bool := fun c => decide (1 ≤ c ∧ c < 64 ∧ (u c = 1 ∨ (4 ≤ u c ∧ u c < 16)))
/-- all marks as they are to be -/
def flg (w u : Nat → Nat) : Nat → Nat := fS (tlB u) w
def SOK (u : Nat → Nat) (S : Nat → Bool) : Prop := ∀ c, S c = true → 1 ≤ c ∧ c < 64 ∧ (u c = 1 ∨ (4 ≤ u c ∧ u c < 16))
def Sin (S : Nat → Bool) (c : Nat) : Nat → Bool := fun x => S x || Nat.beq x c
def Sbel (w : Nat → Nat) (S : Nat → Bool) (t : Nat) : Nat → Nat → Bool
  | 0 => Sin S t
  | i + 1 => if w (8 * t + i) / 4 = 0 then Sbel w S t i else Sin (Sbel w S t i) (w (8 * t + i) / 4)
def Sall (w : Nat → Nat) : Nat → Nat → Bool
  | 0 => Sbel w (fun _ => false) (w 3) 8
  | j + 1 => Sbel w (Sall w j) (tab w j) 8
theorem Sin_iff {S : Nat → Bool} {c x : Nat} : Sin S c x = true ↔ S x = true ∨ x = c := by
  simp [Sin, Nat.beq_eq]
theorem mk_div (w : Nat → Nat) (x : Nat) : mk w x / 4 = x / 4 := by
  unfold mk
  split
  · rfl
  · split <;> omega
theorem mk_mk (w : Nat → Nat) (x : Nat) : mk w (mk w x) = mk w x := by
  have h := mk_div w x
  by_cases hx : x / 4 = 0
  · have e : mk w x = x := if_pos hx
    rw [e, e]
  · have e1 : mk w x = 4 * (x / 4) + (if T w (x / 4) = 1 then 1 else 0) := if_neg hx
    have e2 : mk w (mk w x) = 4 * (mk w x / 4) + (if T w (mk w x / 4) = 1 then 1 else 0) := if_neg (by rw [h]; exact hx)
    rw [e2, h, e1]
theorem mk_flat {w : Nat → Nat} {x : Nat} (h : x / 4 = 0) : mk w x = x := if_pos h
theorem mk_lead {w : Nat → Nat} {x : Nat} (h : x / 4 ≠ 0) : mk w x = 4 * (x / 4) + (if T w (x / 4) = 1 then 1 else 0) := if_neg h
theorem cnt_congr {w v : Nat → Nat} {X : Nat} (hX : X < 64) (h4 : v 4 = w 4) (hk : ∀ k, k < 8 → v (8 * w 4 + k) = w (8 * w 4 + k)) (hq : ∀ k, k < 8 → w (8 * w 4 + k) ≠ 0 → ∀ j, j < 8 → v (8 * w (8 * w 4 + k) + j) = w (8 * w (8 * w 4 + k) + j)) : cnt v X = cnt w X := by
  unfold cnt
  rw [h4, hk (X / 8) (by omega)]
  split
  · rfl
  · next h0 => exact hq (X / 8) (by omega) h0 (X % 8) (by omega)
/-- what has a count is led to -/
theorem T_role {w : Nat → Nat} {X : Nat} (h : T w X ≠ 0) : X = 0 ∨ X = w 4 ∨ (∃ k, k < 8 ∧ w (8 * w 4 + k) ≠ 0 ∧ X = w (8 * w 4 + k)) ∨ (w 6 ≠ 0 ∧ X = w 6) ∨ TB w X ∨ (∃ t i, TB w t ∧ i < 8 ∧ w (8 * t + i) / 4 ≠ 0 ∧ X = w (8 * t + i) / 4)
    ∨ ∃ t i j, TB w t ∧ i < 8 ∧ j < 8 ∧ w (8 * t + i) / 4 ≠ 0 ∧ w (8 * (w (8 * t + i) / 4) + j) / 4 ≠ 0 ∧ X = w (8 * (w (8 * t + i) / 4) + j) / 4 := by
  have hsm : ∀ {n : Nat} {f : Nat → Nat}, sm n f ≠ 0 → ∃ i, i < n ∧ f i ≠ 0 := by
    intro n f hf
    refine Classical.byContradiction fun hn => hf (sm_zero fun i hi => ?_)
    exact Classical.byContradiction fun h0 => hn ⟨i, hi, h0⟩
  have htc : ∀ {t : Nat}, TB w t → tc w X t ≠ 0 → TB w X ∨ (∃ t i, TB w t ∧ i < 8 ∧ w (8 * t + i) / 4 ≠ 0 ∧ X = w (8 * t + i) / 4) ∨ ∃ t i j, TB w t ∧ i < 8 ∧ j < 8 ∧ w (8 * t + i) / 4 ≠ 0 ∧ w (8 * (w (8 * t + i) / 4) + j) / 4 ≠ 0 ∧ X = w (8 * (w (8 * t + i) / 4) + j) / 4 := by
    intro t ht h1
    unfold tc at h1
    by_cases h2 : iv t X = 0
    · obtain ⟨i, hi, h3⟩ := hsm (n := 8) (f := fun i => lc w X (w (8 * t + i))) (by omega)
      simp only [lc] at h3
      split at h3
      · exact absurd rfl h3
      · next h4 =>
        by_cases h5 : iv (w (8 * t + i) / 4) X = 0
        · obtain ⟨j, hj, h6⟩ := hsm (n := 8) (f := fun j => bc X (w (8 * (w (8 * t + i) / 4) + j))) (by omega)
          simp only [bc] at h6
          split at h6
          · exact absurd rfl h6
          · next h7 => exact Or.inr (Or.inr ⟨t, i, j, ht, hi, hj, h4, h7, (iv_pos h6).symm⟩)
        · exact Or.inr (Or.inl ⟨t, i, ht, hi, h4, (iv_pos h5).symm⟩)
    · have e := iv_pos h2
      subst e
      exact Or.inl ht
  unfold T at h
  by_cases h1 : iv X 0 = 0
  · by_cases h2 : iv (w 4) X = 0
    · by_cases h3 : kc w X = 0
      · by_cases h4 : (if w 6 = 0 then 0 else iv (w 6) X) = 0
        · by_cases h5 : tc w X (w 3) = 0
          · obtain ⟨j, hj, h6⟩ := hsm (n := w 5) (f := fun j => tc w X (tab w j)) (by omega)
            exact Or.inr (Or.inr (Or.inr (Or.inr (htc (tab_tb hj) h6))))
          · exact Or.inr (Or.inr (Or.inr (Or.inr (htc act_tb h5))))
        · split at h4
          · exact absurd rfl h4
          · next h6 => exact Or.inr (Or.inr (Or.inr (Or.inl ⟨h6, (iv_pos h4).symm⟩)))
      · obtain ⟨k, hk, h4⟩ := hsm h3
        split at h4
        · exact absurd rfl h4
        · next h5 => exact Or.inr (Or.inr (Or.inl ⟨k, hk, h5, (iv_pos h4).symm⟩))
    · exact Or.inr (Or.inl (iv_pos h2).symm)
  · exact Or.inl (iv_pos h1)
/-- a cluster of tables or leaves that has a count is a table or a leaf -/
theorem TL_role {w u : Nat → Nat} (hs : Str w u) {X : Nat} (h1 : 1 ≤ X) (hu : u X = 1 ∨ (4 ≤ u X ∧ u X < 16)) (h : T w X ≠ 0) : TB w X ∨ ∃ t i, TB w t ∧ i < 8 ∧ w (8 * t + i) / 4 ≠ 0 ∧ X = w (8 * t + i) / 4 := by
  rcases T_role h with rfl | rfl | ⟨k, hk, h0, rfl⟩ | ⟨h0, rfl⟩ | h | ⟨t, i, ht, hi, h0, rfl⟩ | ⟨t, i, j, ht, hi, hj, h0, h2, rfl⟩
  · omega
  · have := hs.ct; omega
  · have := hs.keep hk h0; omega
  · have := hs.list h0; omega
  · exact Or.inl h
  · exact Or.inr ⟨t, i, ht, hi, h0, rfl⟩
  · have h3 := (hs.bw ht hi hj h0).lead h2
    omega
section FL
variable {d k : Nat} {h : xH} {w u : Nat → Nat} {S : Nat → Bool}
theorem fS_out (hS : SOK u S) {p : Nat} (h1 : p / 8 = 0 ∨ u (p / 8) = 2 ∨ u (p / 8) = 3 ∨ 16 ≤ u (p / 8)) : fS S w p = w p := by
  unfold fS
  rw [if_neg]
  intro e
  have := hS _ e
  omega
theorem fS_div (p : Nat) : fS S w p / 4 = w p / 4 ∨ S (p / 8) = false := by
  unfold fS
  by_cases e : S (p / 8) = true
  · rw [if_pos e]; exact Or.inl (mk_div _ _)
  · exact Or.inr (by simpa using e)
theorem fS_div' (p : Nat) : fS S w p / 4 = w p / 4 := by
  rcases fS_div (S := S) (w := w) p with e | e
  · exact e
  · unfold fS; rw [if_neg (by rw [e]; decide)]
theorem fS_cnt (hs : Str w u) (hS : SOK u S) {X : Nat} (hX : X < 64) : cnt (fS S w) X = cnt w X := by
  refine cnt_congr hX (fS_out hS (Or.inl rfl)) (fun k hk => fS_out hS (Or.inr (Or.inl ?_))) (fun k hk h0 j hj => fS_out hS (Or.inr (Or.inr (Or.inr ?_))))
  · rw [ix_div hk]; exact hs.ct.2.2
  · rw [ix_div hj, (hs.keep hk h0).2]; omega
theorem SOK.add (hS : SOK u S) {c : Nat} (h1 : 1 ≤ c) (h2 : c < 64) (h3 : u c = 1 ∨ (4 ≤ u c ∧ u c < 16)) : SOK u (Sin S c) := by
  intro x hx
  rcases Sin_iff.mp hx with h | rfl
  · exact hS x h
  · exact ⟨h1, h2, h3⟩
theorem c_tellFlagsIn {c : Nat} (hw : h (10, k) = E (fS S w)) (hi : Inv w u) (hS : SOK u S) (h1 : 1 ≤ c) (h2 : c < 64) (h3 : u c = 1 ∨ (4 ≤ u c ∧ u c < 16)) (hc : ∀ j, j < 8 → w (8 * c + j) < 256 ∧ (2 < w (8 * c + j) ↔ w (8 * c + j) / 4 ≠ 0)) : Cl (d + 2) MX1_tellFlagsIn [vR (1, k), vI (nI c)] h none (hup h (10, k) (E (fS (Sin S c) w))) := by
  have hg := hi.cg
  have step : ∀ i, i < 8 → (fun p => if S (p / 8) = true ∨ (p / 8 = c ∧ p % 8 < i + 1) then mk w (w p) else w p) = up (fun p => if S (p / 8) = true ∨ (p / 8 = c ∧ p % 8 < i) then mk w (w p) else w p) (8 * c + i) (mk w (w (8 * c + i))) := by
    intro i hi
    funext p
    simp only [up]
    by_cases hp : p = 8 * c + i
    · subst hp
      rw [if_pos (Or.inr (by omega)), if_pos rfl]
    · rw [if_neg hp]
      by_cases hq : S (p / 8) = true
      · rw [if_pos (Or.inl hq), if_pos (Or.inl hq)]
      · by_cases h4 : p / 8 = c ∧ p % 8 < i
        · rw [if_pos (Or.inr (by omega)), if_pos (Or.inr h4)]
        · rw [if_neg (by intro z; rcases z with z | z; exact hq z; omega), if_neg (by intro z; rcases z with z | z; exact hq z; exact h4 z)]
  refine rnN 2 rfl ?_
  refine rnH (hE0 (v := fun p => if S (p / 8) = true ∨ (p / 8 = c ∧ p % 8 < 0) then mk w (w p) else w p) hw (by
    funext p
    unfold fS
    by_cases hq : S (p / 8) = true
    · rw [if_pos hq, if_pos (Or.inl hq)]
    · rw [if_neg hq, if_neg (by intro z; rcases z with z | z; exact hq z; omega)])) ?_
  have fin : (fun p => if S (p / 8) = true ∨ (p / 8 = c ∧ p % 8 < 8) then mk w (w p) else w p) = fS (Sin S c) w := by
    funext p
    unfold fS
    by_cases hq : Sin S c (p / 8) = true
    · rw [if_pos hq]
      rcases Sin_iff.mp hq with z | z
      · rw [if_pos (Or.inl z)]
      · rw [if_pos (Or.inr (by omega))]
    · rw [if_neg hq, if_neg (fun z => hq (Sin_iff.mpr (z.imp id (fun y => y.1))))]
  have go := lpN 8 (fun i => ∀ o3 o4 : Option xV, Rn (d + 2) MX1_tellFlagsIn 2 [some (vR (1, k)), some (vI (nI c)), some (vI (nI i)), o3, o4] [] (hup h (10, k) (E fun p => if S (p / 8) = true ∨ (p / 8 = c ∧ p % 8 < i) then mk w (w p) else w p)) none (hup h (10, k) (E (fS (Sin S c) w)))) (fun i hlt K => ?_) ?_
  · exact go none none
  · intro o3 o4
    obtain ⟨hx1, hx2⟩ := hc i hlt
    have hK : ∀ o3 o4 : Option xV, Rn (d + 2) MX1_tellFlagsIn 2 [some (vR (1, k)), some (vI (nI c)), some (vI (nI (i + 1))), o3, o4] [] (hup h (10, k) (E (up (fun p => if S (p / 8) = true ∨ (p / 8 = c ∧ p % 8 < i) then mk w (w p) else w p) (8 * c + i) (mk w (w (8 * c + i)))))) none (hup h (10, k) (E (fS (Sin S c) w))) := by
      rw [← step i hlt]
      exact K
    have hcn : ∀ X, X < 64 → cnt (fun p => if S (p / 8) = true ∨ (p / 8 = c ∧ p % 8 < i) then mk w (w p) else w p) X = cnt w X := by
      intro X hX
      have out : ∀ p, (p / 8 = 0 ∨ u (p / 8) = 2 ∨ 16 ≤ u (p / 8)) → (if S (p / 8) = true ∨ (p / 8 = c ∧ p % 8 < i) then mk w (w p) else w p) = w p := by
        intro p hp
        rw [if_neg]
        rintro (z | z)
        · have := hS _ z; omega
        · rw [z.1] at hp; omega
      refine cnt_congr hX (out 4 (Or.inl rfl)) (fun k hk => out _ (Or.inr (Or.inl ?_))) (fun k hk h0 j hj => out _ (Or.inr (Or.inr ?_)))
      · rw [ix_div hk]; exact hi.1.ct.2.2
      · rw [ix_div hj, (hi.1.keep hk h0).2]; omega
    have hq4 : (if S ((4 : Nat) / 8) = true ∨ ((4 : Nat) / 8 = c ∧ (4 : Nat) % 8 < i) then mk w (w 4) else w 4) = w 4 := by
      rw [if_neg]
      rintro (z | z)
      · have := hS _ z; omega
      · omega
    have hqk : ∀ k2, k2 < 8 → (if S ((8 * w 4 + k2) / 8) = true ∨ ((8 * w 4 + k2) / 8 = c ∧ (8 * w 4 + k2) % 8 < i) then mk w (w (8 * w 4 + k2)) else w (8 * w 4 + k2)) = w (8 * w 4 + k2) := by
      intro k2 hk2
      rw [if_neg]
      have h5 := hi.1.ct.2.2
      rintro (z | z)
      · have := hS _ z; rw [ix_div hk2] at this; omega
      · rw [ix_div hk2] at z; rw [z.1] at h5; omega
    -- the word as it stands now
    obtain ⟨v, hv, hvd, hvl⟩ : ∃ v, (if S ((8 * c + i) / 8) = true ∨ ((8 * c + i) / 8 = c ∧ (8 * c + i) % 8 < i) then mk w (w (8 * c + i)) else w (8 * c + i)) = v ∧ v / 4 = w (8 * c + i) / 4 ∧ (v = w (8 * c + i) ∨ v = mk w (w (8 * c + i))) := by
      by_cases z : S ((8 * c + i) / 8) = true ∨ ((8 * c + i) / 8 = c ∧ (8 * c + i) % 8 < i)
      · exact ⟨_, if_pos z, mk_div _ _, Or.inr rfl⟩
      · exact ⟨_, if_neg z, rfl, Or.inl rfl⟩
    have hv2 : 2 < v ↔ w (8 * c + i) / 4 ≠ 0 := by
      rcases hvl with e | e
      · rw [e]; exact hx2
      · constructor
        · intro z hz
          rw [e, mk_flat hz] at z
          exact hx2.mp z hz
        · intro z; omega
    have hvb : v < 256 := by omega
    refine rnN 2 rfl ?_
    refine rnT (nI_lt hlt (by decide)) rfl ?_
    refine rnN 4 rfl ?_
    refine rnK rfl (c_at hup_at h2 hlt) ?_
    rw [hv]
    refine rnN 2 rfl ?_
    refine rnK rfl (c_isLead (show v < 2147483648 by omega)) ?_
    by_cases hl : 2 < v
    · have h4 := hv2.mp hl
      rw [if_pos hl]
      refine rnN 4 rfl ?_
      refine rnK rfl (c_clusterOf (show v < 2147483648 by omega)) ?_
      refine rnK rfl (c_count hup_at (show v / 4 < 64 by omega) (by simp only [hq4]; exact hg.1) (by simp only [hq4, hqk (v / 4 / 8) (by omega)]; exact hg.2.1 _ (by omega))) ?_
      rw [hcn (v / 4) (by omega), hi.2.1 (v / 4) (by omega)]
      have hTl := T_le hi.1.ns.1 (v / 4)
      refine rnN 1 rfl ?_
      refine rnB rfl (fun h1c => ?_) (fun h1c => ?_)
      · have h1c : T w (v / 4) = 1 := (neq (by omega) (by decide)).mp h1c
        refine rnN 2 rfl ?_
        refine rnN 6 rfl ?_
        refine rnK rfl (c_clusterOf (show v < 2147483648 by omega)) ?_
        refine rnN 1 rfl ?_
        refine rnK rfl (c_leadTo (Nat.le_refl 1)) ?_
        refine rnK rfl (c_put hup_at h2 hlt) ?_
        refine rnN 2 rfl ?_
        simp (disch := omega) only [nI_add, pk_mul, pk_sub, nd8, nd4, nsub8, nand63, nand7, nshr2, nI_clamp, E_at, hup_at, hup_hup]
        have e : mk w (w (8 * c + i)) = 4 * (v / 4) + 1 := by rw [mk_lead h4, ← hvd, if_pos h1c]
        have K2 := hK (some (vI (nI v))) (some (vI (nI 1)))
        rw [e] at K2
        exact K2
      · have h1c : ¬ T w (v / 4) = 1 := fun e => h1c ((neq (by omega) (by decide)).mpr e)
        refine rnN 1 rfl ?_
        refine rnN 6 rfl ?_
        refine rnK rfl (c_clusterOf (show v < 2147483648 by omega)) ?_
        refine rnN 1 rfl ?_
        refine rnK rfl (c_leadTo (Nat.zero_le 1)) ?_
        refine rnK rfl (c_put hup_at h2 hlt) ?_
        refine rnN 2 rfl ?_
        simp (disch := omega) only [nI_add, pk_mul, pk_sub, nd8, nd4, nsub8, nand63, nand7, nshr2, nI_clamp, E_at, hup_at, hup_hup]
        have e : mk w (w (8 * c + i)) = 4 * (v / 4) + 0 := by rw [mk_lead h4, ← hvd, if_neg h1c]
        have K2 := hK (some (vI (nI v))) (some (vI (nI 0)))
        rw [e] at K2
        exact K2
    · have h4 : w (8 * c + i) / 4 = 0 := Classical.byContradiction fun z => hl (hv2.mpr z)
      rw [if_neg hl]
      refine rnN 3 rfl ?_
      simp (disch := omega) only [nI_add, pk_mul, pk_sub, nd8, nd4, nsub8, nand63, nand7, nshr2, nI_clamp, E_at, hup_at, hup_hup]
      have e : up (fun p => if S (p / 8) = true ∨ (p / 8 = c ∧ p % 8 < i) then mk w (w p) else w p) (8 * c + i) (mk w (w (8 * c + i))) = fun p => if S (p / 8) = true ∨ (p / 8 = c ∧ p % 8 < i) then mk w (w p) else w p := by
        funext p
        simp only [up]
        by_cases hp : p = 8 * c + i
        · subst hp
          rw [if_pos rfl, mk_flat h4]
          split <;> rfl
        · rw [if_neg hp]
      have K2 := hK (some (vI (nI v))) o4
      rw [e] at K2
      exact K2
  · intro o3 o4
    refine rnN 3 rfl ?_
    rw [fin]
    exact rnR rfl
end FL
