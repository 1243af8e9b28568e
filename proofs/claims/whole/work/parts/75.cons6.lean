/-! ===== constructors: the whole world ===== -/
theorem clamp_ok (v : Int32) : ∃ n, 1 ≤ n ∧ n ≤ 64 ∧ clampI v = nI n := by
  by_cases h1 : 1 < (if v < 64 then v else 64)
  · by_cases h2 : v < 64
    · rw [if_pos h2] at h1
      have e : clampI v = v := by unfold clampI; rw [if_pos h2, if_pos h1]
      rw [e]
      have h0 : ¬ v < 0 := fun q => by
        have := Int32.lt_trans (Int32.lt_trans h1 q) (show (0 : Int32) < 1 by decide)
        exact absurd this (by exact Int32.lt_irrefl)
      obtain ⟨n, hn, rfl⟩ := nI_of_small h0 (show ¬ nI 64 ≤ v from Int32.not_le.mpr h2) (by decide)
      refine ⟨n, ?_, by omega, rfl⟩
      refine Nat.pos_of_ne_zero fun e0 => ?_
      rw [e0] at h1
      exact absurd h1 (by decide)
    · rw [if_neg h2] at h1
      refine ⟨64, by decide, by decide, ?_⟩
      unfold clampI
      rw [if_neg h2, if_pos h1]
      rfl
  · refine ⟨1, by decide, by decide, ?_⟩
    unfold clampI
    rw [if_neg h1]
    rfl
theorem clamp_lo {v : Int32} (h : ¬ 1 ≤ v) : clampI v = 1 := by
  have h1 : v < 1 := Int32.not_le.mp h
  have h2 : v < 64 := Int32.lt_trans h1 (by decide)
  unfold clampI
  rw [if_pos h2, if_neg (fun q => absurd (Int32.lt_trans q h1) Int32.lt_irrefl)]
theorem clamp_hi {v : Int32} (h : ¬ v ≤ 64) : clampI v = 64 := by
  have h1 : (64 : Int32) < v := Int32.not_le.mp h
  unfold clampI
  rw [if_neg (fun q => absurd (Int32.lt_trans q h1) Int32.lt_irrefl), if_pos (by decide)]
theorem clamp_mid {v : Int32} (h1 : 1 ≤ v) (h2 : v ≤ 64) : clampI v = v := by
  unfold clampI
  by_cases e : v < 64
  · rw [if_pos e]
    by_cases e2 : 1 < v
    · rw [if_pos e2]
    · rw [if_neg e2]
      exact Int32.le_antisymm h1 (Int32.not_lt.mp e2)
  · rw [if_neg e, if_pos (by decide)]
    exact Int32.le_antisymm (Int32.not_lt.mp e) h2
theorem arrV_eq3 {c : ClassId} {f g : Nat → Value} (h0 : f 0 = g 0) (h1 : f 1 = g 1) (h2 : f 2 = g 2) : arrV c 3 f = arrV c 3 g := by
  unfold arrV
  have e : (fun j : Fin 3 => f j.val) = fun j => g j.val := by
    funext j
    rcases j with ⟨j, hj⟩
    rcases (show j = 0 ∨ j = 1 ∨ j = 2 by omega) with rfl | rfl | rfl
    · exact h0
    · exact h1
    · exact h2
  rw [e]
/-- the images' addresses -/
def mk1 (i0 i1 i2 : Nat) : Nat → Nat := fun j => match j with
  | 0 => i0
  | 1 => i1
  | _ => i2
/-- the addresses -/
def mkad (f0 f1 f2 f3 i0 i1 i2 r0 h3 h4 q5 w0 w1 w2 w3 u0 u1 m0 m1 m2 m3 m4 : Nat) : xP → Nat := fun p => match p with
  | (0, 0) => f0
  | (0, 1) => f1
  | (0, 2) => f2
  | (0, _) => f3
  | (1, j) => mk1 i0 i1 i2 j
  | (2, _) => r0
  | (3, _) => h3
  | (4, _) => h4
  | (5, _) => q5
  | (10, 0) => w0
  | (10, 1) => w1
  | (10, 2) => w2
  | (10, _) => w3
  | (11, 0) => u0
  | (11, _) => u1
  | (12, _) => m0
  | (13, _) => m1
  | (14, 0) => m2
  | (14, _) => m3
  | _ => m4
/-- the ints of all cells at the start -/
def hI0 (n : Nat) : xH := fun p => match p with
  | (3, _) => fun k => if k = 1 then 1 else 0
  | (4, _) => fun k => if k = 2 then 1 else 0
  | (10, 0) => E (newF n)
  | _ => fun _ => 0
theorem adI_of {ad : xP → Nat} {cI cQ : ClassId} {h : xH} {A : Nat → Prop} (hD : va_D A (cells ad cI cQ h)) : adI ad := by
  intro p hp q hq e
  obtain ⟨i, hi1, hi2⟩ := cells_at (ad := ad) (cI := cI) (cQ := cQ) (h := h) hp
  obtain ⟨j, hj1, hj2⟩ := cells_at (ad := ad) (cI := cI) (cQ := cQ) (h := h) hq
  have := hD.1 i j _ _ hi2 hj2 e
  rw [this, hj1] at hi1
  exact (Option.some.inj hi1).symm
theorem vaD_cells {ad : xP → Nat} {cI cQ : ClassId} {h h' : xH} {A : Nat → Prop} (hD : va_D A (cells ad cI cQ h)) : va_D A (cells ad cI cQ h') := by
  have key : ∀ (k : Nat) (q : Nat × va_E), (cells ad cI cQ h')[k]? = some q → ∃ e, (cells ad cI cQ h)[k]? = some (q.1, e) := by
    intro k q hq
    simp only [cells, List.getElem?_map, Option.map_eq_some_iff] at hq ⊢
    obtain ⟨p, hp, rfl⟩ := hq
    exact ⟨_, p, hp, rfl⟩
  refine ⟨fun i j p q hp hq e => ?_, fun k q hq => ?_⟩
  · obtain ⟨e1, h1⟩ := key i p hp
    obtain ⟨e2, h2⟩ := key j q hq
    exact hD.1 i j _ _ h1 h2 e
  · obtain ⟨e1, h1⟩ := key k q hq
    exact hD.2 k (q.1, e1) h1
theorem AA_in {ad : xP → Nat} {cI cQ : ClassId} {h : xH} {A : Nat → Prop} {H0 H : Heap} {locs : List Loc} (hD : va_D A (cells ad cI cQ h)) (hS : va_S A H0 H locs) (hA : ∀ q, H0.size ≤ q → A q) : ∀ q, AA ad H.size q → A q := by
  intro q hq
  rcases hq with ⟨p, hp, rfl⟩ | hq
  · obtain ⟨i, -, hi⟩ := cells_at (ad := ad) (cI := cI) (cQ := cQ) (h := h) hp
    exact hD.2 i _ hi
  · exact hA q (Nat.le_trans hS.1 hq)
section RM
variable {p : Program} {l : Launch} {e : Env} {R : Room} {s : State} {m : MethodId} {args : Array Value} {below : List Frame} {meth : Method} {c : Code} {H : Heap} {locs : List Loc} {cells slots mc ms : Nat} {g : JFrame} {rest : List Value} {Qa Qb : State → Outcome → State → Prop} {free : Addr → Prop}
theorem vaRun_mono (hr : va_Run p l e R s m args below meth c H locs cells slots mc ms g rest Qa free) (h : ∀ st oc t, Qa st oc t → Qb st oc t) : va_Run p l e R s m args below meth c H locs cells slots mc ms g rest Qb free := by
  intro T hT X
  obtain ⟨v, a, b, c', d, h1, h2, h3, h4, h5, h6, h7⟩ := hr T hT X
  exact ⟨v, a, b, c', d, h1, h2, h3, h4, h5, h _ _ _ h6, h7⟩
end RM
