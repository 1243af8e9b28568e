/-! ===== countLeaf, countTable: counts go up or down by what a table leads to ===== -/
/-- the words w with counts g, clusters of Z wiped -/
def cW (w u g : Nat → Nat) (Z : Nat → Bool) : Nat → Nat := fun p => if Z (p / 8) = true then 0 else if p / 8 ≠ 0 ∧ 16 ≤ u (p / 8) ∧ u (p / 8) < 24 ∧ w (8 * w 4 + (u (p / 8) - 16)) = p / 8 then g (8 * (u (p / 8) - 16) + p % 8) else w p
def val (sg : Bool) (a c : Nat) : Nat := if sg = true then a + c else a - c
def dlt (sg : Bool) : Int32 := if sg = true then nI 1 else -1
def zS (sg : Bool) (g c : Nat → Nat) : Nat → Bool := fun X => !sg && decide (c X ≠ 0 ∧ g X = c X)
def cS (sg : Bool) (w u g c : Nat → Nat) : Nat → Nat := cW w u (fun X => val sg (g X) (c X)) (zS sg g c)
section CS
variable {d k : Nat} {h : xH} {w u g : Nat → Nat} {Z : Nat → Bool} {sg : Bool}
theorem cW_out {p : Nat} (hz : Z (p / 8) = false) (hu : u (p / 8) < 16 ∨ 24 ≤ u (p / 8) ∨ p / 8 = 0) : cW w u g Z p = w p := by
  unfold cW
  rw [if_neg (by rw [hz]; decide), if_neg (by omega)]
theorem cW_cpl (hs : Str w u) {X : Nat} (hX : X < 64) (h0 : w (8 * w 4 + X / 8) ≠ 0) (hz : Z (w (8 * w 4 + X / 8)) = false) : cW w u g Z (cpl w X) = g X := by
  have h1 := hs.keep (show X / 8 < 8 by omega) h0
  have h2 : cpl w X / 8 = w (8 * w 4 + X / 8) := by unfold cpl; omega
  have h3 : cpl w X % 8 = X % 8 := by unfold cpl; omega
  unfold cW
  rw [h2, h3, if_neg (by rw [hz]; decide), h1.2, show 16 + X / 8 - 16 = X / 8 by omega, if_pos (by omega)]
  congr 1
  omega
theorem cW_id (hi : Inv w u) : cW w u (T w) (fun _ => false) = w := by
  funext p
  unfold cW
  rw [if_neg (show ¬ (false = true) by decide)]
  split
  · next hc =>
    obtain ⟨h1, h2, h3, h4⟩ := hc
    have h5 := hi.cntAt (X := 8 * (u (p / 8) - 16) + p % 8) (by omega) (by rw [ix_div (by omega), h4]; exact h1)
    rw [← h5]
    congr 1
    unfold cpl
    rw [ix_div (by omega), h4, ix_mod (by omega)]
    omega
  · rfl
theorem val_step {a c : Nat} (h : sg = false → c + 1 ≤ a) : nI (val sg a c) + dlt sg = nI (val sg a (c + 1)) := by
  unfold val dlt
  cases sg with
  | true =>
    simp only [if_true]
    rw [nI_add]
    rfl
  | false =>
    simp only [Bool.false_eq_true, if_false]
    have h1 := h rfl
    rw [show a - c = (a - (c + 1)) + 1 by omega]
    exact pk_m1 _
theorem zS_false {c : Nat → Nat} {X : Nat} (h : sg = false → c X ≠ 0 → g X ≠ c X) : zS sg g c X = false := by
  unfold zS
  cases sg with
  | true => rfl
  | false =>
    have h1 : ¬ (c X ≠ 0 ∧ g X = c X) := fun e => h rfl e.1 e.2
    simp only [Bool.not_false, Bool.true_and, decide_eq_false_iff_not]
    exact h1
theorem cS_0 (hi : Inv w u) : cS sg w u (T w) (fun _ => 0) = w := by
  have e : cS sg w u (T w) (fun _ => 0) = cW w u (T w) (fun _ => false) := by
    unfold cS
    congr 1
    · funext X
      show (if sg = true then T w X + 0 else T w X - 0) = T w X
      split <;> omega
    · funext X
      exact zS_false (fun _ h => absurd rfl h)
  rw [e, cW_id hi]
/-- one count goes up or down -/
theorem cS_step (hs : Str w u) {c : Nat → Nat} {X : Nat} (h1 : 1 ≤ X) (hX : X < 64) (h0 : w (8 * w 4 + X / 8) ≠ 0) (hk : ∀ k, k < 8 → w (8 * w 4 + k) ≠ 0 → c (w (8 * w 4 + k)) = 0) (h4 : c (w 4) = 0) (hc0 : c 0 = 0) (hXu : u X < 16 ∨ 24 ≤ u X) (hX4 : X ≠ w 4) (hge : sg = false → c X + 1 ≤ g X) :
    adc (cS sg w u g c) X (val sg (g X) (c X + 1)) = cS sg w u g (fun Y => c Y + iv X Y) := by
  have hzk : ∀ k, k < 8 → w (8 * w 4 + k) ≠ 0 → zS sg g c (w (8 * w 4 + k)) = false := fun k hk2 hk0 => zS_false (fun _ e => absurd (hk k hk2 hk0) e)
  have hct := hs.ct
  have e4 : cS sg w u g c 4 = w 4 := cW_out (zS_false (fun _ e => absurd hc0 e)) (by omega)
  have ek : ∀ k, k < 8 → cS sg w u g c (8 * w 4 + k) = w (8 * w 4 + k) := fun k hk2 => cW_out (by rw [ix_div hk2]; exact zS_false (fun _ e => absurd h4 e)) (by rw [ix_div hk2]; omega)
  have ecpl : cpl (cS sg w u g c) X = cpl w X := by
    unfold cpl
    rw [e4, ek _ (by omega)]
  have hin := cpl_in hs hX h0
  have hkX := hs.keep (show X / 8 < 8 by omega) h0
  have h8 : cpl w X / 8 = w (8 * w 4 + X / 8) := by unfold cpl; omega
  have h9 : cpl w X % 8 = X % 8 := by unfold cpl; omega
  -- pointwise
  have hpt : ∀ p, p ≠ cpl w X → p / 8 ≠ X → cS sg w u g (fun Y => c Y + iv X Y) p = cS sg w u g c p := by
    intro p hp1 hp2
    unfold cS cW
    have e1 : zS sg g (fun Y => c Y + iv X Y) (p / 8) = zS sg g c (p / 8) := by
      unfold zS
      simp only [iv_ne (fun e => hp2 e.symm : X ≠ p / 8), Nat.add_zero]
    rw [e1]
    split
    · rfl
    · split
      · next hc =>
        obtain ⟨g1, g2, g3, g4⟩ := hc
        have e2 : X ≠ 8 * (u (p / 8) - 16) + p % 8 := fun e => hp1 (by
          unfold cpl
          rw [show X / 8 = u (p / 8) - 16 by omega, g4]
          omega)
        simp only [iv_ne e2, Nat.add_zero]
      · rfl
  have hcp : cS sg w u g (fun Y => c Y + iv X Y) (cpl w X) = val sg (g X) (c X + 1) := by
    unfold cS
    rw [cW_cpl hs hX h0 (zS_false (fun _ e => ?_))]
    · simp only [iv_self]
    · exfalso
      apply e
      have e3 : X ≠ w (8 * w 4 + X / 8) := fun e5 => by rw [← e5] at hkX; omega
      simp only [hk _ (by omega) h0, iv_ne e3]
  by_cases hb : val sg (g X) (c X + 1) = 0
  · have hsg : sg = false := by
      cases sg with
      | true => unfold val at hb; simp only [if_true] at hb; omega
      | false => rfl
    have hgc : g X = c X + 1 := by
      have := hge hsg
      unfold val at hb
      rw [if_neg (by rw [hsg]; decide)] at hb
      omega
    unfold adc
    rw [if_pos hb]
    funext p
    unfold zc
    by_cases hp : p / 8 = X
    · rw [if_pos hp]
      unfold cS cW
      have e1 : zS sg g (fun Y => c Y + iv X Y) (p / 8) = true := by
        unfold zS
        rw [hsg, hp]
        simp only [iv_self, Bool.not_false, Bool.true_and, decide_eq_true_eq]
        omega
      rw [if_pos e1]
    · rw [if_neg hp, setc_up, ecpl]
      by_cases hp2 : p = cpl w X
      · rw [hp2, up_at, hcp]
      · rw [up_ne hp2, hpt p hp2 hp]
  · unfold adc
    rw [if_neg hb, setc_up, ecpl]
    funext p
    by_cases hp2 : p = cpl w X
    · rw [hp2, up_at, hcp]
    · rw [up_ne hp2]
      by_cases hp : p / 8 = X
      · -- a cluster that isn't wiped
        have e1 : zS sg g c X = false := zS_false (fun hsg e => by have := hge hsg; omega)
        have e2 : zS sg g (fun Y => c Y + iv X Y) X = false := zS_false (fun hsg e => by
          simp only [iv_self]
          have := hge hsg
          intro e3
          apply hb
          unfold val
          rw [if_neg (by rw [hsg]; decide)]
          omega)
        unfold cS
        rw [cW_out (by rw [hp]; exact e1) (by rw [hp]; omega), cW_out (by rw [hp]; exact e2) (by rw [hp]; omega)]
      · rw [hpt p hp2 hp]
/-- a count goes up or down: the call -/
theorem c_addS {c : Nat → Nat} (hw : h (10, k) = E (cS sg w u g c)) (hs : Str w u) {X : Nat} (h1 : 1 ≤ X) (hX : X < 64) (h0 : w (8 * w 4 + X / 8) ≠ 0) (hk : ∀ k, k < 8 → w (8 * w 4 + k) ≠ 0 → c (w (8 * w 4 + k)) = 0) (h4 : c (w 4) = 0) (hc0 : c 0 = 0) (hXu : u X < 16 ∨ 24 ≤ u X) (hX4 : X ≠ w 4) (hge : sg = false → c X + 1 ≤ g X) (hb : g X + c X + 1 < 1000) :
    Cl (d + 1) MX0_addToCount [vR (0, k), vI (nI X), vI (dlt sg)] h none (hup h (10, k) (E (cS sg w u g (fun Y => c Y + iv X Y)))) := by
  have hct := hs.ct
  have e4 : cS sg w u g c 4 = w 4 := cW_out (zS_false (fun _ e => absurd hc0 e)) (by omega)
  have ek : ∀ k, k < 8 → cS sg w u g c (8 * w 4 + k) = w (8 * w 4 + k) := fun k hk2 => cW_out (by rw [ix_div hk2]; exact zS_false (fun _ e => absurd h4 e)) (by rw [ix_div hk2]; omega)
  have ev : cS sg w u g c (cpl w X) = val sg (g X) (c X) := cW_cpl hs hX h0 (zS_false (fun _ e => absurd (hk _ (by omega) h0) e))
  have hv : val sg (g X) (c X + 1) < 1000 := by
    unfold val
    split <;> omega
  have hca := c_addToCount (d := d) (h := h) (k := k) (w := cS sg w u g c) (c := X) (dl := dlt sg) (b := val sg (g X) (c X + 1)) hw hX (by rw [e4]; exact hct.2.1) (by rw [e4, ek _ (by omega)]; exact hs.keepLt (by omega)) (by
    rw [e4, ek _ (by omega), cpl_eq, ev]
    exact val_step hge) hv
  rw [cS_step hs h1 hX h0 hk h4 hc0 hXu hX4 hge] at hca
  exact hca
end CS
