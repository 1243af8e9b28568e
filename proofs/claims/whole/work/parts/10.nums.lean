/-! ===== words as numbers, and the rows on them ===== -/
def E (w : Nat → Nat) : Nat → Int32 := fun i => nI (w i)
def up (w : Nat → Nat) (i x : Nat) : Nat → Nat := fun j => if j = i then x else w j
/-- the number that an int is, 0 .. 2^32 - 1 -/
def tn (x : Int32) : Nat := x.toBitVec.toNat
theorem nI_tn (x : Int32) : nI (tn x) = x := by
  apply Int32.toBitVec_inj.mp
  apply BitVec.eq_of_toNat_eq
  exact pk_tn (n := tn x) x.toBitVec.isLt
theorem tn_lt (x : Int32) : tn x < 2 ^ 32 := x.toBitVec.isLt
theorem tn_nI {n : Nat} (h : n < 2 ^ 32) : tn (nI n) = n := pk_tn h
theorem E_at (w : Nat → Nat) (i : Nat) : E w i = nI (w i) := rfl
theorem hup_hup {h : xH} {p : xP} {f g : Nat → Int32} : hup (hup h p f) p g = hup h p g := by
  funext q
  unfold hup
  by_cases hq : q = p
  · rw [if_pos hq, if_pos hq]
  · rw [if_neg hq, if_neg hq, if_neg hq]
theorem hup_self {h : xH} {p : xP} {f : Nat → Int32} (e : h p = f) : hup h p f = h := by
  funext q
  unfold hup
  by_cases hq : q = p
  · rw [if_pos hq, hq, e]
  · rw [if_neg hq]
theorem hup_ne {h : xH} {p q : xP} {f : Nat → Int32} (hq : q ≠ p) : hup h p f q = h q := if_neg hq
theorem hup_comm {h : xH} {p q : xP} {f g : Nat → Int32} (hq : q ≠ p) : hup (hup h p f) q g = hup (hup h q g) p f := by
  funext z
  unfold hup
  by_cases h1 : z = p
  · rw [if_neg (fun e => hq (e.symm.trans h1)), if_pos h1, if_pos h1]
  · by_cases h2 : z = q
    · rw [if_pos h2, if_neg h1, if_pos h2]
    · rw [if_neg h2, if_neg h1, if_neg h1, if_neg h2]
theorem up_E {w : Nat → Nat} {i x : Nat} : upd (E w) i (nI x) = E (up w i x) := by
  funext j
  unfold upd E up
  by_cases hj : j = i
  · rw [if_pos hj, if_pos hj]
  · rw [if_neg hj, if_neg hj]
theorem hpt_E {h : xH} {p : xP} {w : Nat → Nat} {i x : Nat} (e : h p = E w) : hpt h p i (nI x) = hup h p (E (up w i x)) := by
  unfold hpt
  rw [e, up_E]
theorem up_at {w : Nat → Nat} {i x : Nat} : up w i x i = x := if_pos rfl
theorem up_ne {w : Nat → Nat} {i j x : Nat} (h : j ≠ i) : up w i x j = w j := if_neg h
theorem nd8 {a : Nat} (h : a < 2147483648) : nI a / nI 8 = nI (a / 8) := pk_div h (by decide) (by decide)
theorem nd4 {a : Nat} (h : a < 2147483648) : nI a / nI 4 = nI (a / 4) := pk_div h (by decide) (by decide)
theorem nsub8 (a : Nat) : a - a / 8 * 8 = a % 8 := by omega
theorem nand63 {a : Nat} (h : a < 64) : nI a &&& nI 63 = nI a := by
  rw [pk_andN (by omega) (m := nI 63) 6 (by decide)]
  congr 1
  omega
theorem nand7 {a : Nat} (h : a < 8) : nI a &&& nI 7 = nI a := by
  rw [pk_andN (by omega) (m := nI 7) 3 (by decide)]
  congr 1
  omega
theorem nshr2 {a : Nat} (h : a < 2147483648) : nI a >>> (nI 2 &&& 31) = nI (a / 4) := by
  rw [pk_shrN h (nI 2 &&& 31) 2 (by decide)]
theorem inN {a n : Nat} (h : a < n) (hn : n < 2147483648) : inb (nI a) n = true := by
  unfold inb
  exact decide_eq_true (nI_in h hn)
theorem nlt {a b : Nat} (ha : a < 2147483648) (hb : b < 2147483648) : (nI a < nI b) ↔ a < b := nI_ltI ha hb
theorem neq {a b : Nat} (ha : a < 2147483648) (hb : b < 2147483648) : (nI a = nI b) ↔ a = b := nI_eq ha hb
theorem nlt0 {a : Nat} (ha : a < 2147483648) : ¬ nI a < 0 := nI_pos ha
theorem n0lt {a : Nat} (ha : a < 2147483648) : (0 < nI a) ↔ 0 < a := by
  rw [← nI_0]
  exact nI_ltI (by decide) ha
theorem neq0 {a : Nat} (ha : a < 2147483648) : (nI a = 0) ↔ a = 0 := by
  rw [← nI_0]
  exact nI_eq ha (by decide)
/-- the words 8 * c + j, taken apart -/
theorem ix_div {c j : Nat} (h : j < 8) : (8 * c + j) / 8 = c := by omega
theorem ix_mod {c j : Nat} (h : j < 8) : (8 * c + j) % 8 = j := by omega
theorem rnH {d mi pc : Nat} {loc : xL} {stk : List xV} {h h2 hf : xH} {r : Option xV} (e : h = h2) (k : Rn d mi pc loc stk h2 r hf) : Rn d mi pc loc stk h r hf := e ▸ k
theorem lpN (n : Nat) (W : Nat → Prop) (hs : ∀ i, i < n → W (i + 1) → W i) (he : W n) : W 0 := by
  induction n with
  | zero => exact he
  | succ n ih => exact ih (fun i hi => hs i (Nat.lt_succ_of_lt hi)) (hs n (Nat.lt_succ_self n) he)
/-- the file's cell as it is, as numbers -/
theorem hE0 {h : xH} {p : xP} {w v : Nat → Nat} (hw : h p = E w) (e : v = w) : h = hup h p (E v) := by
  rw [e]
  exact (hup_self hw).symm
theorem bool_ok {x : Int32} (h : x = 0 ∨ x = 1) : x &&& 1 = x := by
  rcases h with rfl | rfl <;> decide
