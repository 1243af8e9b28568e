/-! ===== a small machine over the fixed world of cells: places, values, steps, runs ===== -/
/-- a cell of the world: its kind and its number among its kind (kinds 0..4: objects of the classes X0..X4, 5: the chain's row, 10..15: rows of ints) -/
abbrev xP : Type := Nat × Nat
/-- a value: an int, a reference or null, a long -/
abbrev xV : Type := Int32 ⊕ (Option xP ⊕ Int64)
/-- the ints of all cells -/
abbrev xH : Type := xP → Nat → Int32
abbrev xL : Type := List (Option xV)
abbrev xR : Type := Option ((Nat × xL × List xV × xH) ⊕ ((Nat × Nat × List xV × List xV) ⊕ Option xV))
abbrev vI (x : Int32) : xV := .inl x
abbrev vR (p : xP) : xV := .inr (.inl (some p))
abbrev vN : xV := .inr (.inl none)
abbrev vJ (x : Int64) : xV := .inr (.inr x)
def allP : List xP := [(0,0),(0,1),(0,2),(0,3),(1,0),(1,1),(1,2),(2,0),(3,0),(4,0),(5,0),(10,0),(10,1),(10,2),(10,3),(11,0),(11,1),(12,0),(13,0),(14,0),(14,1),(15,0)]
/-- the reference fields of the cells: they never change -/
def shp (p : xP) (k : Nat) : Option (Option xP) := match p.1, k with
  | 0, 0 => some (some (10, p.2))
  | 1, 0 => some (some (0, p.2))
  | 1, 1 => some (match p.2 with
    | 0 => none
    | j + 1 => some (1, j))
  | 2, 0 => some (some (11, 0))
  | 2, 1 => some (some (11, 1))
  | 3, 0 => some (some (5, 0))
  | 3, 2 => some (some (0, 3))
  | 3, 3 => some (some (2, 0))
  | 4, 0 => some (some (12, 0))
  | 4, 1 => some (some (13, 0))
  | 4, 3 => some (some (14, 0))
  | 4, 4 => some (some (14, 1))
  | 4, 6 => some (some (15, 0))
  | _, _ => none
/-- how many fields an object has, and how long a row of ints is -/
def nfld (c : Nat) : Nat := match c with
  | 0 => 1
  | 1 => 2
  | 2 => 2
  | 3 => 4
  | 4 => 7
  | _ => 0
def alen (c : Nat) : Nat := match c with
  | 10 => 512
  | 11 => 64
  | 12 => 2048
  | 13 => 512
  | 14 => 64
  | 15 => 8
  | _ => 0
def hup (h : xH) (p : xP) (f : Nat → Int32) : xH := fun q => if q = p then f else h q
def hpt (h : xH) (p : xP) (i : Nat) (x : Int32) : xH := hup h p (upd (h p) i x)
def inb (i : Int32) (n : Nat) : Bool := decide (¬ (i < 0 ∨ n ≤ i.toNatClampNeg))
def okP (q : xP) : Bool := decide (q ∈ allP)
def lsetK {α : Type} : xL → Nat → xV → (xL → Option α) → Option α
  | [], _, _, _ => none
  | _ :: l, 0, v, k => k (some v :: l)
  | o :: l, n + 1, v, k => lsetK l n v (fun l' => k (o :: l'))
/-- takes n values off a stack, the deepest one first -/
def takeK {α : Type} : Nat → List xV → List xV → (List xV → List xV → Option α) → Option α
  | 0, st, acc, k => k acc st
  | _ + 1, [], _, _ => none
  | _ + 1, .inr (.inr _) :: _, _, _ => none
  | n + 1, .inl x :: st, acc, k => takeK n st (.inl x :: acc) k
  | n + 1, .inr (.inl q) :: st, acc, k => takeK n st (.inr (.inl q) :: acc) k
def catL : List xV → Nat
  | [] => 0
  | .inr (.inr _) :: l => catL l + 2
  | _ :: l => catL l + 1
def binK {α : Type} (a : Nat) (x y : Int32) (k : Int32 → Option α) : Option α := match a with
  | 0 => k (x + y)
  | 1 => k (x - y)
  | 2 => k (x * y)
  | 3 => k (x &&& y)
  | 4 => k (x >>> (y &&& 31))
  | 5 => if y = 0 then none else k (x / y)
  | 6 => if y = 0 then none else k (x - x / y * y)
  | _ => none
def cmpN (a : Nat) (x y : Int32) (tg nx : Nat) : Nat := match a with
  | 0 => if x = y then tg else nx
  | 1 => if x = y then nx else tg
  | 2 => if x < y then tg else nx
  | 3 => if x < y then nx else tg
  | 4 => if y < x then tg else nx
  | _ => if y < x then nx else tg
def exV (a nx tg : Nat) (stk : List xV) : xR :=
  takeK (tg % 16) stk [] fun as st => match st with
    | .inr (.inl (some p)) :: r => bif Nat.beq p.1 (tg / 16) && Nat.ble (catL r) 8 then some (.inr (.inl (a, nx, vR p :: as, r))) else none
    | _ => none
def exS (a nx tg : Nat) (stk : List xV) : xR :=
  takeK (tg % 16) stk [] fun as r => bif Nat.ble (catL r) 8 then some (.inr (.inl (a, nx, as, r))) else none
def ex (k a nx tg : Nat) (c : Int32) (loc : xL) (stk : List xV) (h : xH) : xR := match k with
  | 0 => match nth loc a with
    | some (some (.inl x)) => some (.inl (nx, loc, vI x :: stk, h))
    | _ => none
  | 1 => some (.inl (nx, loc, vI c :: stk, h))
  | 2 => match stk with
    | .inl y :: .inl x :: r => binK a x y fun z => some (.inl (nx, loc, vI z :: r, h))
    | _ => none
  | 3 => match stk with
    | .inl x :: r => lsetK loc a (vI x) fun l => some (.inl (nx, l, r, h))
    | _ => none
  | 4 => match nth loc a with
    | some (some (.inl x)) => lsetK loc a (vI (x + c)) fun l => some (.inl (nx, l, stk, h))
    | _ => none
  | 5 => match stk with
    | .inl y :: .inl x :: r => some (.inl (cmpN a x y tg nx, loc, r, h))
    | _ => none
  | 6 => match stk with
    | .inl x :: r => some (.inl (cmpN a x 0 tg nx, loc, r, h))
    | _ => none
  | 7 => some (.inl (nx, loc, stk, h))
  | 8 => match stk with
    | .inr (.inl (some p)) :: r => bif Nat.beq p.1 a then (match shp p tg with
      | some q => some (.inl (nx, loc, .inr (.inl q) :: r, h))
      | none => some (.inl (nx, loc, vI (h p tg) :: r, h))) else none
    | _ => none
  | 9 => match stk with
    | .inl x :: .inr (.inl (some p)) :: r => bif Nat.beq p.1 a then (match shp p tg with
      | some _ => none
      | none => bif Nat.beq a 4 && Nat.beq tg 5 then (if x &&& 1 = x then some (.inl (nx, loc, r, hpt h p tg x)) else none) else some (.inl (nx, loc, r, hpt h p tg x))) else none
    | _ => none
  | 10 => match stk with
    | .inl i :: .inr (.inl (some p)) :: r => bif Nat.ble 10 p.1 then (if inb i (alen p.1) = true then some (.inl (nx, loc, vI (h p i.toNatClampNeg) :: r, h)) else none) else none
    | _ => none
  | 11 => match stk with
    | .inl x :: .inl i :: .inr (.inl (some p)) :: r => bif Nat.ble 10 p.1 then (if inb i (alen p.1) = true then some (.inl (nx, loc, r, hpt h p i.toNatClampNeg x)) else none) else none
    | _ => none
  | 12 => match stk with
    | .inl i :: .inr (.inl (some p)) :: r => bif Nat.beq p.1 5 then (if inb i 3 = true then some (.inl (nx, loc, vR (1, i.toNatClampNeg) :: r, h)) else none) else none
    | _ => none
  | 13 => match a with
    | 0 => match stk with
      | [.inl x] => some (.inr (.inr (some (vI x))))
      | _ => none
    | 1 => match stk with
      | [.inl x] => if x &&& 1 = x then some (.inr (.inr (some (vI x)))) else none
      | _ => none
    | 2 => match stk with
      | [.inr (.inl (some q))] => if okP q = true then some (.inr (.inr (some (.inr (.inl (some q)))))) else none
      | _ => none
    | 3 => match stk with
      | [.inr (.inr x)] => some (.inr (.inr (some (vJ x))))
      | _ => none
    | _ => none
  | 14 => exV a nx tg stk
  | 15 => exS a nx tg stk
  | 16 => exS a nx tg stk
  | 17 => match stk with
    | [] => some (.inr (.inr none))
    | _ => none
  | 18 => match stk with
    | .inr (.inr _) :: _ => none
    | v :: r => some (.inl (nx, loc, v :: v :: r, h))
    | _ => none
  | 19 => match stk with
    | .inr (.inr _) :: _ => none
    | _ :: .inr (.inr _) :: _ => none
    | v :: w :: r => some (.inl (nx, loc, v :: w :: v :: w :: r, h))
    | _ => none
  | 20 => match stk with
    | .inr (.inr _) :: _ => none
    | _ :: r => some (.inl (nx, loc, r, h))
    | _ => none
  | 21 => match stk with
    | .inr (.inl none) :: r => some (.inl (tg, loc, r, h))
    | .inr (.inl (some _)) :: r => some (.inl (nx, loc, r, h))
    | _ => none
  | 22 => match stk with
    | .inr (.inl none) :: r => some (.inl (nx, loc, r, h))
    | .inr (.inl (some _)) :: r => some (.inl (tg, loc, r, h))
    | _ => none
  | 23 => match stk with
    | .inl x :: r => some (.inl (nx, loc, vJ x.toInt64 :: r, h))
    | _ => none
  | 24 => some (.inl (nx, loc, vJ 4294967296 :: stk, h))
  | 26 => match nth loc a with
    | some (some (.inr (.inl q))) => some (.inl (nx, loc, .inr (.inl q) :: stk, h))
    | _ => none
  | 27 => match stk with
    | .inr (.inl q) :: r => lsetK loc a (.inr (.inl q)) fun l => some (.inl (nx, l, r, h))
    | _ => none
  | 25 => match stk with
    | .inl n :: .inl dp :: .inr (.inl (some q)) :: .inl sp :: .inr (.inl (some p)) :: r =>
      bif Nat.beq p.1 10 && Nat.beq q.1 10 && Nat.ble (catL r) 8 then (if n = 512 ∧ dp = 0 ∧ sp = 0 then some (.inl (nx, loc, r, hup h q (va_cpy (h p) (h q) 0 0 512))) else none) else none
    | _ => none
  | _ => none
def stp (mi pc : Nat) (loc : xL) (stk : List xV) (h : xH) : xR := match opAt mi pc with
  | none => none
  | some (k, a, nx, tg, c) => ex k a nx tg c loc stk h
def ent0 (mj : Nat) (as : List xV) : xL := as.map some ++ List.replicate (mL mj - as.length) none
def pshO (r : Option xV) (st : List xV) : List xV := match r with
  | none => st
  | some v => v :: st
def run : Nat → Nat → Nat → Nat → xL → List xV → xH → Option (Option xV × xH)
  | 0, _, _, _, _, _, _ => none
  | n + 1, d, mi, pc, loc, stk, h => match stp mi pc loc stk h with
    | none => none
    | some (.inl (pc', loc', stk', h')) => run n d mi pc' loc' stk' h'
    | some (.inr (.inl (mj, nx, as, rest))) => match d with
      | 0 => none
      | d' + 1 => match run n d' mj 0 (ent0 mj as) [] h with
        | none => none
        | some (r, h') => run n (d' + 1) mi nx loc (pshO r rest) h'
    | some (.inr (.inr r)) => some (r, h)
theorem run_mono : ∀ (n d mi pc : Nat) (loc : xL) (stk : List xV) (h : xH) (x : Option xV × xH), run n d mi pc loc stk h = some x → run (n + 1) d mi pc loc stk h = some x := by
  intro n
  induction n with
  | zero => intro d mi pc loc stk h x hx; simp [run] at hx
  | succ n ih =>
    intro d mi pc loc stk h x hx
    rw [run] at hx ⊢
    split at hx
    · cases hx
    · next e => exact ih _ _ _ _ _ _ _ hx
    · next e =>
      cases d with
      | zero => simp at hx
      | succ d' =>
        simp only at hx ⊢
        split at hx
        · cases hx
        · next r h' er =>
          rw [ih _ _ _ _ _ _ _ er]
          exact ih _ _ _ _ _ _ _ hx
    · next e => exact hx
theorem run_add {n d mi pc : Nat} {loc : xL} {stk : List xV} {h : xH} {x : Option xV × xH} (k : Nat) (hx : run n d mi pc loc stk h = some x) : run (n + k) d mi pc loc stk h = some x := by
  induction k with
  | zero => exact hx
  | succ k ih => exact run_mono _ _ _ _ _ _ _ _ ih
/-- from this state the method comes to its end with r, the ints are h' then -/
def Rn (d mi pc : Nat) (loc : xL) (stk : List xV) (h : xH) (r : Option xV) (h' : xH) : Prop := ∃ n, run n d mi pc loc stk h = some (r, h')
def Cl (d mi : Nat) (as : List xV) (h : xH) (r : Option xV) (h' : xH) : Prop := Rn d mi 0 (ent0 mi as) [] h r h'
def stpN : Nat → Nat → Nat → xL → List xV → xH → Option (Nat × xL × List xV × xH)
  | 0, _, pc, loc, stk, h => some (pc, loc, stk, h)
  | n + 1, mi, pc, loc, stk, h => match stp mi pc loc stk h with
    | some (.inl (pc', loc', stk', h')) => stpN n mi pc' loc' stk' h'
    | _ => none
section RN
variable {d mi pc pc' nx t f : Nat} {loc loc' : xL} {stk stk' rest : List xV} {h h' h1 hf : xH} {r r1 : Option xV} {as : List xV} {mj : Nat}
theorem rn1 (hs : stp mi pc loc stk h = some (.inl (pc', loc', stk', h'))) (k : Rn d mi pc' loc' stk' h' r hf) : Rn d mi pc loc stk h r hf := by
  obtain ⟨n, hn⟩ := k
  exact ⟨n + 1, by rw [run, hs]; exact hn⟩
theorem rnN (n : Nat) (hs : stpN n mi pc loc stk h = some (pc', loc', stk', h')) (k : Rn d mi pc' loc' stk' h' r hf) : Rn d mi pc loc stk h r hf := by
  induction n generalizing pc loc stk h with
  | zero => simp only [stpN, Option.some.injEq, Prod.mk.injEq] at hs; obtain ⟨rfl, rfl, rfl, rfl⟩ := hs; exact k
  | succ n ih =>
    rw [stpN] at hs
    split at hs
    · next e => exact rn1 e (ih hs)
    · cases hs
/-- a step behind a test that must hold -/
theorem rnC {c : Prop} [Decidable c] (hc : c) (hs : stp mi pc loc stk h = if c then some (.inl (pc', loc', stk', h')) else none) (k : Rn d mi pc' loc' stk' h' r hf) : Rn d mi pc loc stk h r hf :=
  rn1 (by rw [hs, if_pos hc]) k
/-- a branch -/
theorem rnB {c : Prop} [Decidable c] (hs : stp mi pc loc stk h = some (.inl (if c then t else f, loc', stk', h'))) (kt : c → Rn d mi t loc' stk' h' r hf) (kf : ¬ c → Rn d mi f loc' stk' h' r hf) : Rn d mi pc loc stk h r hf := by
  by_cases hc : c
  · exact rn1 (by rw [hs, if_pos hc]) (kt hc)
  · exact rn1 (by rw [hs, if_neg hc]) (kf hc)
theorem rnT {c : Prop} [Decidable c] (hc : c) (hs : stp mi pc loc stk h = some (.inl (if c then t else f, loc', stk', h'))) (kt : Rn d mi t loc' stk' h' r hf) : Rn d mi pc loc stk h r hf := rn1 (by rw [hs, if_pos hc]) kt
theorem rnF {c : Prop} [Decidable c] (hc : ¬ c) (hs : stp mi pc loc stk h = some (.inl (if c then t else f, loc', stk', h'))) (kf : Rn d mi f loc' stk' h' r hf) : Rn d mi pc loc stk h r hf := rn1 (by rw [hs, if_neg hc]) kf
/-- a call -/
theorem rnK (hs : stp mi pc loc stk h = some (.inr (.inl (mj, nx, as, rest)))) (hc : Cl d mj as h r1 h1) (k : Rn (d + 1) mi nx loc (pshO r1 rest) h1 r hf) : Rn (d + 1) mi pc loc stk h r hf := by
  obtain ⟨n, hn⟩ := hc
  obtain ⟨n2, hn2⟩ := k
  refine ⟨(n + n2) + 1, ?_⟩
  rw [run, hs]
  simp only
  rw [run_add n2 hn]
  simp only
  rw [Nat.add_comm n n2]
  exact run_add n hn2
theorem rnR (hs : stp mi pc loc stk h = some (.inr (.inr r))) : Rn d mi pc loc stk h r h := ⟨1, by rw [run, hs]⟩
theorem rnRC {c : Prop} [Decidable c] (hc : c) (hs : stp mi pc loc stk h = if c then some (.inr (.inr r)) else none) : Rn d mi pc loc stk h r h := ⟨1, by rw [run, hs, if_pos hc]⟩
theorem Rn.deep (k : Rn d mi pc loc stk h r hf) : Rn (d + 1) mi pc loc stk h r hf := by
  obtain ⟨n, hn⟩ := k
  refine ⟨n, ?_⟩
  induction n generalizing d mi pc loc stk h r hf with
  | zero => simp [run] at hn
  | succ n ih =>
    rw [run] at hn ⊢
    split at hn
    · cases hn
    · next e => exact ih hn
    · next e =>
      cases d with
      | zero => simp at hn
      | succ d' =>
        simp only at hn ⊢
        split at hn
        · cases hn
        · next r1 h1 er =>
          rw [ih er]
          exact ih hn
    · next e => exact hn
theorem Cl.deep {d mi : Nat} {as : List xV} {h h' : xH} {r : Option xV} (k : Cl d mi as h r h') : Cl (d + 1) mi as h r h' := Rn.deep k
/-- a loop with a counter -/
theorem rnL {α : Type} (n : Nat) (W : Nat → Prop) (hs : ∀ i, i < n → W (i + 1) → W i) (he : W n) : W 0 := by
  induction n with
  | zero => exact he
  | succ n ih => exact ih (fun i hi => hs i (Nat.lt_succ_of_lt hi)) (hs n (Nat.lt_succ_self n) he)
end RN
