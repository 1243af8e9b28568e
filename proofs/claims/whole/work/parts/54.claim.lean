/-! ===== words of the stage as ints; claims ===== -/
theorem nI_toI {x : Nat} (h : x < 4294967296) : (nI x).toInt = if x < 2147483648 then (x : Int) else (x : Int) - 4294967296 := by
  have h1 : (nI x).toBitVec.toNat = x := pk_tn h
  show (nI x).toBitVec.toInt = _
  rw [BitVec.toInt_eq_toNat_cond, h1]
  by_cases e : x < 2147483648
  · rw [if_pos e, if_pos (by omega)]
  · rw [if_neg e, if_neg (by omega)]
    omega
/-- smaller, as ints, for words of 32 bits -/
theorem nltS {x c : Nat} (hx : x < 4294967296) (hc : c < 2147483648) : nI x < nI c ↔ (x < c ∨ 2147483648 ≤ x) := by
  rw [Int32.lt_iff_toInt_lt, nI_toI hx, nI_toInt hc]
  split <;> omega
theorem ngtS {x c : Nat} (hx : x < 4294967296) (hc : c < 2147483648) : nI c < nI x ↔ (c < x ∧ x < 2147483648) := by
  rw [Int32.lt_iff_toInt_lt, nI_toI hx, nI_toInt hc]
  split <;> omega
theorem nlt0S {x : Nat} (hx : x < 4294967296) : nI x < 0 ↔ 2147483648 ≤ x := by
  have h1 := nltS (c := 0) hx (by decide)
  rw [nI_0] at h1
  rw [h1]
  omega
theorem neqS {x y : Nat} (hx : x < 4294967296) (hy : y < 4294967296) : nI x = nI y ↔ x = y := by
  constructor
  · intro e
    have h1 := congrArg tn e
    rwa [tn_nI hx, tn_nI hy] at h1
  · intro e; rw [e]
theorem neq0S {x : Nat} (hx : x < 4294967296) : nI x = 0 ↔ x = 0 := by
  rw [← nI_0]
  exact neqS hx (by decide)
theorem nand3 {x : Nat} (hx : x < 4294967296) : nI x &&& nI 3 = nI (x % 4) := pk_andN hx (m := nI 3) 2 (by decide)
theorem nand2 {x : Nat} (hx : x < 4294967296) : (nI x &&& nI 2 = 0) ↔ x / 2 % 2 = 0 := by
  have h1 : nI x &&& nI 2 = nI (x % 4) &&& nI 2 := by
    rw [← nand3 hx, Int32.and_assoc]
    congr 1
  have h2 : ∀ k, k < 4 → ((nI k &&& nI 2 = 0) ↔ k / 2 % 2 = 0) := by decide
  rw [h1, h2 _ (by omega)]
  omega
theorem nshrS {x : Nat} (hx : x < 4294967296) : ∃ v, nI x >>> (nI 2 &&& 31) = v ∧ (x < 2147483648 → v = nI (x / 4)) ∧ (2147483648 ≤ x → v < 0) := by
  refine ⟨_, rfl, fun h => nshr2 h, fun h => ?_⟩
  have h1 := pk_shr (nI x) (nI 2 &&& 31) 2 (by decide)
  rw [Int32.lt_iff_toInt_lt, h1, nI_toI hx, if_neg (by omega)]
  show ((x : Int) - 4294967296) >>> 2 < 0
  rw [Int.shiftRight_eq_div_pow]
  omega
/-- later uses keep what earlier ones said -/
def le (us v : Nat → Nat) : Prop := ∀ c, us c ≠ 0 → v c = us c
def gd (us ct : Nat → Nat) : Prop := (∀ c, us c < 88) ∧ us 0 = 0 ∧ ∀ c, 1 ≤ c → (us c = 0 ↔ ct c = 0)
/-- the reader's rows -/
def rh (h : xH) (f0 f1 : Nat → Int32) (us ct : Nat → Nat) : xH := hup (hup h (11, 0) (cf f0 us)) (11, 1) (cf f1 ct)
/-- the reference's numbers of the uses -/
def mu (a : Nat) : Nat := if a = 0 then 0 else if a < 4 then a else if a < 8 then 16 + a else if a < 16 then 92 + a else if a < 24 then a - 6 else 176 + a
section CL
variable {d : Nat} {h : xH} {f0 f1 f : Nat → Int32} {us ct u v : Nat → Nat} {w : Nat → Nat}
theorem le_refl' (us : Nat → Nat) : le us us := fun _ _ => rfl
theorem le_trans' {a b c : Nat → Nat} (h1 : le a b) (h2 : le b c) : le a c := fun x hx => by
  have e := h1 x hx
  rw [h2 x (by rw [e]; exact hx), e]
theorem mu_inj {a b : Nat} (ha : a < 88) (hb : b < 88) (e : mu a = mu b) : a = b := by
  unfold mu at e
  repeat' (split at e)
  all_goals omega
theorem mu_0 {a : Nat} (ha : a < 88) : mu a = 0 ↔ a = 0 := by
  constructor
  · intro e; exact mu_inj ha (by decide) e
  · intro e; rw [e]; rfl
theorem mu_lt {a : Nat} (ha : a < 88) : mu a < 300 := by
  unfold mu
  repeat' split
  all_goals omega
theorem gd_claim {c a : Nat} (hg : gd us ct) (h1 : 1 ≤ c) (ha : a < 88) (ha0 : a ≠ 0) (hc : us c = 0 ∨ us c = a) : gd (up us c a) (fun X => ct X + iv c X) ∧ le us (up us c a) ∧ (∀ u, le us u → u c = a → le (up us c a) u) := by
  obtain ⟨g1, g2, g3⟩ := hg
  refine ⟨⟨fun x => ?_, by rw [up_ne (by omega)]; exact g2, fun x hx => ?_⟩, fun x hx => ?_, fun u hu e x hx => ?_⟩
  · unfold up
    split
    · exact ha
    · exact g1 x
  · by_cases e : x = c
    · subst e
      show up us x a x = 0 ↔ ct x + iv x x = 0
      rw [up_at, iv_self]
      omega
    · show up us c a x = 0 ↔ ct x + iv c x = 0
      rw [up_ne e, iv_ne (fun z => e z.symm), Nat.add_zero]
      exact g3 x hx
  · by_cases e : x = c
    · subst e
      rw [up_at]
      rcases hc with hc | hc
      · exact absurd hc hx
      · exact hc.symm
    · exact up_ne e
  · by_cases e2 : x = c
    · subst e2
      rw [up_at]
      exact e
    · rw [up_ne e2] at hx ⊢
      exact hu x hx
theorem cf_put {X x : Nat} (h : X < 64) : upd (cf f us) X (nI x) = cf f (up us X x) := by
  funext c
  simp only [upd, cf, up]
  by_cases e : c = X
  · rw [if_pos e, if_pos (by omega), if_pos e]
  · rw [if_neg e, if_neg e]
theorem rh_0 : rh h f0 f1 us ct (11, 0) = cf f0 us := by
  unfold rh
  rw [hup_ne (by decide), hup_at]
theorem rh_1 : rh h f0 f1 us ct (11, 1) = cf f1 ct := hup_at
theorem rh_o {q : xP} (h1 : q ≠ (11, 0)) (h2 : q ≠ (11, 1)) : rh h f0 f1 us ct q = h q := by
  unfold rh
  rw [hup_ne h2, hup_ne h1]
theorem rhpt0 {i x : Nat} (hi : i < 64) : hpt (rh h f0 f1 us ct) (11, 0) i (nI x) = rh h f0 f1 (up us i x) ct := by
  unfold hpt
  rw [rh_0, cf_put hi]
  funext q
  unfold rh hup
  by_cases h1 : q = (11, 0)
  · subst h1; rfl
  · simp only [if_neg h1]
theorem rhpt1 {i x : Nat} (hi : i < 64) : hpt (rh h f0 f1 us ct) (11, 1) i (nI x) = rh h f0 f1 us (up ct i x) := by
  unfold hpt
  rw [rh_1, cf_put hi]
  unfold rh
  rw [hup_hup]
/-- what a claim of a cluster comes to -/
theorem c_claim {v0 : Int32} {a : Nat} (hg : gd us ct) (ha : a < 88) (ha0 : a ≠ 0) : (∃ c, 1 ≤ c ∧ c < 64 ∧ v0 = nI c ∧ (us c = 0 ∨ us c = a) ∧ Cl d MX2_claim [vR (2, 0), vI v0, vI (nI a)] (rh h f0 f1 us ct) (some (vI (nI 1))) (rh h f0 f1 (up us c a) (fun X => ct X + iv c X)))
    ∨ ((∀ c, 1 ≤ c → c < 64 → v0 = nI c → us c ≠ 0 ∧ us c ≠ a) ∧ Cl d MX2_claim [vR (2, 0), vI v0, vI (nI a)] (rh h f0 f1 us ct) (some (vI (nI 0))) (rh h f0 f1 us ct)) := by
  by_cases h1 : v0 < nI 1
  · right
    refine ⟨fun c h2 h3 e => by rw [e] at h1; exact absurd ((nlt (by omega) (by decide)).mp h1) (by omega), ?_⟩
    refine rnN 2 rfl ?_
    refine rnT (h1) rfl ?_
    refine rnN 1 rfl ?_
    exact rnR rfl
  · by_cases h2 : nI 63 < v0
    · right
      refine ⟨fun c h3 h4 e => by rw [e] at h2; exact absurd ((nlt (by decide) (by omega)).mp h2) (by omega), ?_⟩
      refine rnN 2 rfl ?_
      refine rnF (h1) rfl ?_
      refine rnN 2 rfl ?_
      refine rnT (h2) rfl ?_
      refine rnN 1 rfl ?_
      exact rnR rfl
    · have h0 : ¬ v0 < 0 := fun e => h1 (Int32.lt_trans e (by decide))
      obtain ⟨c, hc, rfl⟩ := nI_of_small (n := 64) h0 (fun e => h2 (Int32.lt_of_lt_of_le (by decide) e)) (by decide)
      have hc1 : 1 ≤ c := by
        refine Classical.byContradiction fun e => h1 ?_
        exact nI_lt (by omega) (by decide)
      have hub := hg.1 c
      have tail : (us c = 0 ∨ us c = a) → Rn d MX2_claim 34 [some (vR (2, 0)), some (vI (nI c)), some (vI (nI a))] [] (rh h f0 f1 us ct) (some (vI (nI 1))) (rh h f0 f1 (up us c a) (fun X => ct X + iv c X)) := fun _ => by
        refine rnN 4 rfl ?_
        refine rnC (inN hc (by decide)) rfl ?_
        simp (disch := omega) only [nI_clamp, rhpt0]
        refine rnN 4 rfl ?_
        refine rnC (inN hc (by decide)) rfl ?_
        simp (disch := omega) only [nI_clamp, rh_1, cf_at]
        refine rnN 2 rfl ?_
        simp (disch := omega) only [nI_add, pk_mul, pk_sub, nd8, nd4, nsub8, nand63, nand7, nshr2, nI_clamp, E_at, hup_at, hup_hup, hpt_def, pf_at, pf_at2, cf_at, h12_14, h14_12, h12_15, h15_12, h14_15, h15_14]
        refine rnC (inN hc (by decide)) rfl ?_
        simp (disch := omega) only [nI_clamp, rhpt1]
        have e : rh h f0 f1 (up us c a) (up ct c (ct c + 1)) = rh h f0 f1 (up us c a) (fun X => ct X + iv c X) := by
          unfold rh
          congr 1
          refine cf_congr fun X _ => ?_
          by_cases e : X = c
          · subst e; rw [up_at, iv_self]
          · rw [up_ne e, iv_ne (fun z => e z.symm)]; rfl
        rw [e]
        refine rnN 1 rfl ?_
        exact rnR rfl
      by_cases h3 : us c = 0
      · left
        refine ⟨c, hc1, hc, rfl, Or.inl h3, ?_⟩
        refine rnN 2 rfl ?_
        refine rnF (h1) rfl ?_
        refine rnN 2 rfl ?_
        refine rnF (h2) rfl ?_
        refine rnN 3 rfl ?_
        refine rnC (inN hc (by decide)) rfl ?_
        simp (disch := omega) only [nI_clamp, rh_0, cf_at]
        rw [h3]
        refine rnN 1 rfl ?_
        exact tail (Or.inl h3)
      · by_cases h4 : us c = a
        · left
          refine ⟨c, hc1, hc, rfl, Or.inr h4, ?_⟩
          refine rnN 2 rfl ?_
          refine rnF (h1) rfl ?_
          refine rnN 2 rfl ?_
          refine rnF (h2) rfl ?_
          refine rnN 3 rfl ?_
          refine rnC (inN hc (by decide)) rfl ?_
          simp (disch := omega) only [nI_clamp, rh_0, cf_at]
          refine rnF (nI_ne0 (Nat.pos_of_ne_zero h3) (by omega)) rfl ?_
          refine rnN 3 rfl ?_
          refine rnC (inN hc (by decide)) rfl ?_
          simp (disch := omega) only [nI_clamp, rh_0, cf_at]
          refine rnN 1 rfl ?_
          refine rnT ((show nI (us c) = nI a by rw [h4])) rfl ?_
          exact tail (Or.inr h4)
        · right
          refine ⟨fun c' h5 h6 e => ?_, ?_⟩
          · have := (neq (by omega) (by omega)).mp e
            rw [← this]
            exact ⟨h3, h4⟩
          · refine rnN 2 rfl ?_
            refine rnF (h1) rfl ?_
            refine rnN 2 rfl ?_
            refine rnF (h2) rfl ?_
            refine rnN 3 rfl ?_
            refine rnC (inN hc (by decide)) rfl ?_
            simp (disch := omega) only [nI_clamp, rh_0, cf_at]
            refine rnF (nI_ne0 (Nat.pos_of_ne_zero h3) (by omega)) rfl ?_
            refine rnN 3 rfl ?_
            refine rnC (inN hc (by decide)) rfl ?_
            simp (disch := omega) only [nI_clamp, rh_0, cf_at]
            refine rnN 1 rfl ?_
            refine rnF ((fun e => h4 ((neq (by omega) (by omega)).mp e))) rfl ?_
            refine rnN 1 rfl ?_
            exact rnR rfl
/-- the cluster that a word leads to, or none -/
theorem c_clusterLedTo {y : Nat} (hy : y < 4294967296) : ∃ v0, Cl (d + 1) MX2_clusterLedTo [vI (nI y)] h (some (vI v0)) h ∧ ((LD y ∧ v0 = nI (y / 4)) ∨ (¬ LD y ∧ ∀ c, 1 ≤ c → c < 64 → v0 ≠ nI c)) := by
  by_cases h2 : y / 2 % 2 = 0
  · obtain ⟨v, e1, e2, e3⟩ := nshrS hy
    have hcl : Cl d MX3_clusterOf [vI (nI y)] h (some (vI v)) h := by
      refine rnN 3 rfl ?_
      rw [e1]
      exact rnR rfl
    refine ⟨v, ?_, ?_⟩
    · refine rnN 3 rfl ?_
      refine rnT (((nand2 hy).mpr h2)) rfl ?_
      refine rnN 1 rfl ?_
      refine rnK rfl (hcl) ?_
      refine rnN 1 rfl ?_
      exact rnR rfl
    · by_cases hL : LD y
      · exact Or.inl ⟨hL, e2 (by unfold LD at hL; omega)⟩
      · refine Or.inr ⟨hL, fun c h1 h3 e => ?_⟩
        by_cases h4 : y < 2147483648
        · rw [e2 h4] at e
          have := (neq (by omega) (by omega)).mp e
          exact hL (by unfold LD; omega)
        · have h5 := e3 (by omega)
          rw [e] at h5
          exact nI_pos (by omega) h5
  · refine ⟨nI 0, ?_, Or.inr ⟨fun h => by unfold LD at h; omega, fun c h1 h3 e => ?_⟩⟩
    · refine rnN 3 rfl ?_
      refine rnF ((fun e => h2 ((nand2 hy).mp e))) rfl ?_
      refine rnN 1 rfl ?_
      exact rnR rfl
    · have := (neq (by decide) (by omega)).mp e
      omega
end CL
