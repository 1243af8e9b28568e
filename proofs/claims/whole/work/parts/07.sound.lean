/-! ===== the small machine's runs are the machine's ===== -/
def conc (ad : xP → Nat) (v : xV) : Value := match v with
  | .inl x => .int x
  | .inr (.inl none) => .null
  | .inr (.inl (some p)) => .ref (ad p)
  | .inr (.inr x) => .long x
def isJ (v : xV) : Bool := match v with
  | .inr (.inr _) => true
  | _ => false
theorem conc_cat (ad : xP → Nat) {v : xV} (h : isJ v = false) : (conc ad v).category = 1 := by
  match v, h with
  | .inl x, _ => rfl
  | .inr (.inl none), _ => rfl
  | .inr (.inl (some p)), _ => rfl
/-- a good value: its cell is one of the world's -/
def okV (v : xV) : Prop := match v with
  | .inr (.inl (some p)) => p ∈ allP
  | _ => True
def okS (st : List xV) : Prop := ∀ v ∈ st, okV v
def okL (l : xL) : Prop := ∀ (i : Nat) (v : xV), nth l i = some (some v) → okV v
/-! the world's cells -/
def fval (ad : xP → Nat) (h : xH) (p : xP) (k : Nat) : Value := match shp p k with
  | some r => conc ad (.inr (.inl r))
  | none => .int (h p k)
def ent (ad : xP → Nat) (cI cQ : ClassId) (h : xH) (p : xP) : va_E :=
  if p.1 < 5 then .inr (p.1, (List.range (nfld p.1)).map (fval ad h p))
  else if p.1 = 5 then .inl (cQ, 3, .inr (.inr (.inr (.inr fun j => some (ad (1, j))))))
  else .inl (cI, alen p.1, .inl (h p))
def cells (ad : xP → Nat) (cI cQ : ClassId) (h : xH) : va_W := allP.map fun p => (ad p, ent ad cI cQ h p)
def xtys (cI cQ : ClassId) : List (ClassId × FieldType) := [(cI, .int), (cQ, .object RX1)]
def AA (ad : xP → Nat) (sz : Nat) : Nat → Prop := fun q => (∃ p ∈ allP, q = ad p) ∨ sz ≤ q
def adI (ad : xP → Nat) : Prop := ∀ p ∈ allP, ∀ q ∈ allP, ad p = ad q → p = q
theorem allP_inj0 : ∀ i, i < 22 → ∀ j, j < 22 → allP[i]? = allP[j]? → i = j := by decide +kernel
theorem allP_inj {i j : Nat} {p : xP} (hi : allP[i]? = some p) (hj : allP[j]? = some p) : i = j := allP_inj0 i (List.getElem?_eq_some_iff.mp hi).1 j (List.getElem?_eq_some_iff.mp hj).1 (hi.trans hj.symm)
theorem cells_at {ad : xP → Nat} {cI cQ : ClassId} {h : xH} {p : xP} (hp : p ∈ allP) : ∃ i : Nat, allP[i]? = some p ∧ (cells ad cI cQ h)[i]? = some (ad p, ent ad cI cQ h p) := by
  obtain ⟨i, hi⟩ := List.getElem?_of_mem hp
  exact ⟨i, hi, by simp [cells, hi]⟩
theorem cells_set {ad : xP → Nat} {cI cQ : ClassId} {h h' : xH} {p : xP} {i : Nat} {e : va_E} (hi : allP[i]? = some p) (he : ent ad cI cQ h' p = e) (ho : ∀ q : xP, q ≠ p → ent ad cI cQ h' q = ent ad cI cQ h q) : (cells ad cI cQ h).set i (ad p, e) = cells ad cI cQ h' := by
  apply List.ext_getElem?
  intro j
  rw [List.getElem?_set]
  have hil : i < allP.length := (List.getElem?_eq_some_iff.mp hi).1
  by_cases hj : i = j
  · subst hj
    rw [if_pos rfl, if_pos (by simp [cells, hil])]
    simp [cells, hi, he]
  · rw [if_neg hj]
    simp only [cells, List.getElem?_map]
    cases hq : allP[j]? with
    | none => rfl
    | some q =>
      have hne : q ≠ p := by
        intro e
        subst e
        exact hj (allP_inj hi hq)
      simp [ho q hne]
theorem cells_D {ad : xP → Nat} (hI : adI ad) (cI cQ : ClassId) (h : xH) (sz : Nat) : va_D (AA ad sz) (cells ad cI cQ h) := by
  have key : ∀ (i : Nat) (x : Nat × va_E), (cells ad cI cQ h)[i]? = some x → ∃ p, allP[i]? = some p ∧ x.1 = ad p := by
    intro i x hx
    simp only [cells, List.getElem?_map] at hx
    cases hp : allP[i]? with
    | none => rw [hp] at hx; cases hx
    | some p => rw [hp] at hx; cases hx; exact ⟨p, rfl, rfl⟩
  refine ⟨fun i j x y hx hy e => ?_, fun i x hx => ?_⟩
  · obtain ⟨p, hp, e1⟩ := key i x hx
    obtain ⟨q, hq, e2⟩ := key j y hy
    have hpq : p = q := hI p (List.mem_of_getElem? hp) q (List.mem_of_getElem? hq) (by rw [← e1, ← e2]; exact e)
    subst hpq
    exact allP_inj hp hq
  · obtain ⟨p, hp, e1⟩ := key i x hx
    exact Or.inl ⟨p, List.mem_of_getElem? hp, e1⟩
theorem shp_ok : allP.all (fun p => (List.range (nfld p.1)).all fun k => match shp p k with
    | some (some q) => decide (q ∈ allP)
    | _ => true) = true := by decide +kernel
theorem shp_in {p q : xP} {k : Nat} (hp : p ∈ allP) (hk : k < nfld p.1) (h : shp p k = some (some q)) : q ∈ allP := by
  have h1 := List.all_eq_true.mp (List.all_eq_true.mp shp_ok p hp) k (List.mem_range.mpr hk)
  rw [h] at h1
  exact of_decide_eq_true h1
/-! locals -/
def LR (ad : xP → Nat) (ls : Array Slot) (n : Nat) (loc : xL) : Prop := ls.size = n ∧ lv_wf ls ∧ ∀ (i : Nat) (v : xV), nth loc i = some (some v) → ls[i]? = some (.val (conc ad v)) ∧ isJ v = false
def clv (ad : xP → Nat) : Nat → xL → List (Nat × Value)
  | _, [] => []
  | i, none :: l => clv ad (i + 1) l
  | i, some v :: l => (i, conc ad v) :: clv ad (i + 1) l
theorem mem_clv {ad : xP → Nat} {l : xL} : ∀ {i : Nat} {q : Nat × Value}, q ∈ clv ad i l ↔ ∃ k v, q.1 = i + k ∧ nth l k = some (some v) ∧ q.2 = conc ad v := by
  induction l with
  | nil => intro i q; simp [clv, nth]
  | cons o l ih =>
    intro i q
    cases o with
    | none =>
      rw [clv, ih]
      constructor
      · rintro ⟨k, v, h1, h2, h3⟩
        exact ⟨k + 1, v, by omega, h2, h3⟩
      · rintro ⟨k, v, h1, h2, h3⟩
        cases k with
        | zero => simp [nth] at h2
        | succ k => exact ⟨k, v, by omega, h2, h3⟩
    | some w =>
      rw [clv, List.mem_cons, ih]
      constructor
      · rintro (rfl | ⟨k, v, h1, h2, h3⟩)
        · exact ⟨0, w, rfl, rfl, rfl⟩
        · exact ⟨k + 1, v, by omega, h2, h3⟩
      · rintro ⟨k, v, h1, h2, h3⟩
        cases k with
        | zero =>
          simp only [nth, Option.some.injEq] at h2
          subst h2
          exact Or.inl (Prod.ext h1 h3)
        | succ k => exact Or.inr ⟨k, v, by omega, h2, h3⟩
theorem LR.has {ad : xP → Nat} {ls : Array Slot} {n : Nat} {loc : xL} (h : LR ad ls n loc) : lv_has ls n (clv ad 0 loc) := by
  refine ⟨h.1, h.2.1, fun q hq => ?_⟩
  obtain ⟨k, v, h1, h2, h3⟩ := mem_clv.mp hq
  rw [h1, h3, Nat.zero_add]
  exact (h.2.2 k v h2).1
theorem lsetK_spec {α : Type} {l : xL} : ∀ {i : Nat} {v : xV} {k : xL → Option α} {x : α}, lsetK l i v k = some x → ∃ l', k l' = some x ∧ ∀ j, nth l' j = if j = i then some (some v) else nth l j := by
  induction l with
  | nil => intro i v k x h; simp [lsetK] at h
  | cons o l ih =>
    intro i v k x h
    cases i with
    | zero =>
      refine ⟨some v :: l, h, fun j => ?_⟩
      cases j with
      | zero => rfl
      | succ j => rw [if_neg (by omega)]; rfl
    | succ i =>
      obtain ⟨l', h1, h2⟩ := ih h
      refine ⟨o :: l', h1, fun j => ?_⟩
      cases j with
      | zero => rw [if_neg (by omega)]; rfl
      | succ j =>
        show nth l' j = _
        rw [h2 j]
        by_cases hj : j = i
        · rw [if_pos hj, if_pos (by omega)]
        · rw [if_neg hj, if_neg (by omega)]; rfl
/-- what a store leaves -/
theorem LR.store {ad : xP → Nat} {ls ls' : Array Slot} {n i : Nat} {loc loc' : xL} {v : xV} (h : LR ad ls n loc) (hv : isJ v = false) (h' : lv_has ls' n ((i, conc ad v) :: (clv ad 0 loc).filter (fun q => !(q.1 == i) && !(q.1 + 1 == i && q.2.category == 2)))) (hs : ∀ j, nth loc' j = if j = i then some (some v) else nth loc j) : LR ad ls' n loc' := by
  refine ⟨h'.1, h'.2.1, fun j w hj => ?_⟩
  rw [hs j] at hj
  by_cases hji : j = i
  · subst hji
    rw [if_pos rfl] at hj
    simp only [Option.some.injEq] at hj
    subst hj
    exact ⟨h'.2.2 (j, conc ad v) List.mem_cons_self, hv⟩
  · rw [if_neg hji] at hj
    have hw := (h.2.2 j w hj).2
    refine ⟨h'.2.2 (j, conc ad w) (List.mem_cons_of_mem _ (List.mem_filter.mpr ⟨mem_clv.mpr ⟨j, w, by simp, hj, rfl⟩, ?_⟩)), hw⟩
    simp [hji, conc_cat ad hw]
theorem okL.store {i : Nat} {loc loc' : xL} {v : xV} (h : okL loc) (hv : okV v) (hs : ∀ j, nth loc' j = if j = i then some (some v) else nth loc j) : okL loc' := by
  intro j w hj
  rw [hs j] at hj
  by_cases hji : j = i
  · rw [if_pos hji] at hj
    simp only [Option.some.injEq] at hj
    subst hj
    exact hv
  · rw [if_neg hji] at hj
    exact h j w hj
theorem takeK_spec {α : Type} {n : Nat} : ∀ {st acc : List xV} {k : List xV → List xV → Option α} {x : α}, takeK n st acc k = some x → ∃ pre rest, st = pre ++ rest ∧ (pre.length = n ∧ ∀ w ∈ pre, isJ w = false) ∧ k (pre.reverse ++ acc) rest = some x := by
  induction n with
  | zero => intro st acc k x h; exact ⟨[], st, rfl, ⟨rfl, fun w hw => absurd hw List.not_mem_nil⟩, h⟩
  | succ n ih =>
    intro st acc k x h
    match st, h with
    | [], h => simp [takeK] at h
    | .inr (.inr z) :: st, h => simp [takeK] at h
    | .inl z :: st, h =>
      obtain ⟨pre, rest, h1, h2, h3⟩ := ih h
      refine ⟨.inl z :: pre, rest, by rw [h1]; rfl, ⟨by simp [h2.1], fun w hw => ?_⟩, by simpa using h3⟩
      rcases List.mem_cons.mp hw with rfl | hw
      · rfl
      · exact h2.2 w hw
    | .inr (.inl z) :: st, h =>
      obtain ⟨pre, rest, h1, h2, h3⟩ := ih h
      refine ⟨.inr (.inl z) :: pre, rest, by rw [h1]; rfl, ⟨by simp [h2.1], fun w hw => ?_⟩, by simpa using h3⟩
      rcases List.mem_cons.mp hw with rfl | hw
      · rfl
      · exact h2.2 w hw
theorem catL_eq (ad : xP → Nat) : ∀ (l : List xV), ((l.map (conc ad)).map fun v => v.category).sum = catL l := by
  intro l
  induction l with
  | nil => rfl
  | cons v l ih =>
    rw [List.map_cons, List.map_cons, List.sum_cons, ih]
    match v with
    | .inl x => simp only [catL, conc, Value.category]; omega
    | .inr (.inl none) => simp only [catL, conc, Value.category]; omega
    | .inr (.inl (some p)) => simp only [catL, conc, Value.category]; omega
    | .inr (.inr x) => simp only [catL, conc, Value.category]; omega
/-! the words on nest mates -/
def NW (U : State) : Prop := ∀ w ∈ nwl, va_Nw w U
theorem NW.warm {s U : State} (hW : s.WarmedH U.vm) (h : NW s) : NW U := by
  intro w hw
  have h1 := h w hw
  rcases List.mem_append.mp hw with h2 | h2
  · obtain ⟨q, -, rfl⟩ := List.mem_map.mp h2
    exact va_Nw.warmM hW h1
  · obtain ⟨q, -, rfl⟩ := List.mem_map.mp h2
    exact va_Nw.warmF hW h1
theorem NW.same {u U : State} (e : u.vm = U.vm) (h : NW u) : NW U := by
  intro w hw
  have h1 := h w hw
  rcases List.mem_append.mp hw with h2 | h2
  · obtain ⟨q, -, rfl⟩ := List.mem_map.mp h2
    exact va_Nw.same rfl e h1
  · obtain ⟨q, -, rfl⟩ := List.mem_map.mp h2
    exact va_Nw.same rfl e h1
def wsM (mi : Nat) : List Cond := Cond.code (mY mi) (mC mi) (mL mi) (mR mi) :: GW
def rmD (d : Nat) : Room := { frames := d + 1, cells := 0, slots := 0, locals := 40 * (d + 1) }
theorem GW_good {w : Cond} (h : w ∈ GW) : goodWord w = true := (List.mem_filter.mp h).2
theorem wsM_good {mi mj : Nat} (hj : mj < 135) : GoodIn (wsM mi) (wsM mj) := by
  intro w hw
  have hg : w ∈ GW := by
    rcases List.mem_cons.mp hw with rfl | h
    · exact cw_all mj hj
    · exact h
  exact ⟨List.mem_cons_of_mem _ hg, good_of_word (GW_good hg)⟩
