/-! ===== ends, calls, runs ===== -/
theorem okM_spec {mj : Nat} (h : mj < 135) : Cond.initialized (cn (mOwn mj)) ∈ GW ∧ (mS mj = true → Cond.static (mY mj) ∈ GW) ∧ (mS mj = false → Cond.instanceMethod (mY mj) ∈ GW ∧ ((mY mj).name ≠ "<init>" → Cond.selects (mY mj).cls (mY mj) (mY mj) ∈ GW))
    ∧ (mY mj).cls = cn (mOwn mj) ∧ mOwn mj < 5 ∧ plainName (mY mj).cls = true ∧ (mY mj).cls ≠ "java/lang/invoke/MethodHandle" ∧ (mY mj).cls ≠ "java/lang/invoke/VarHandle" ∧ (parseMethodDescriptor (mY mj).desc).map (fun d => d.parameters.length) = some (mN mj) ∧ mN mj + 1 ≤ mL mj + (if mS mj = true then 1 else 0) ∧ mL mj ≤ 21 ∧ mN mj < 16 := by
  have h1 := okM_all h
  simp only [okM, Bool.and_eq_true, decide_eq_true_eq] at h1
  obtain ⟨⟨⟨⟨⟨⟨⟨⟨⟨⟨h1, h2⟩, h3⟩, h4⟩, h5⟩, h6⟩, h7⟩, h8⟩, h9⟩, h10⟩, h11⟩ := h1
  refine ⟨atW_in h1, fun hs => ?_, fun hs => ?_, h3, h4, h5, h6, h7, h8, h9, h10, h11⟩
  · rw [hs] at h2
    exact atW_in h2
  · rw [hs] at h2
    simp only [Bool.and_eq_true, Bool.or_eq_true] at h2
    refine ⟨atW_in h2.1, fun hn => ?_⟩
    rcases h2.2 with h | h
    · exact absurd (by simpa using h) hn
    · exact atW_in h
def Qx (ad : xP → Nat) (cI cQ : ClassId) (D : va_G) (sz : Nat) (r : Option xV) (h' : xH) : Array Value → State → Outcome → State → Prop := fun _ st oc t => oc = .returned (r.map (conc ad)) ∧ va_P D vwCl (cells ad cI cQ h') t.heap ∧ va_F (AA ad sz) st t
def Px (ad : xP → Nat) (cI cQ : ClassId) (D : va_G) (sz : Nat) (as : List xV) (h : xH) : Array Value → State → Prop := va_Pc (as.map (conc ad)) fun U => U.heap.size = sz ∧ va_P D vwCl (cells ad cI cQ h) U.heap ∧ va_K D vwCl (xtys cI cQ) U ∧ NW U
theorem Px_blind {ad : xP → Nat} {cI cQ : ClassId} {D : va_G} {sz : Nat} {as : List xV} {h : xH} : FrameBlind (Px ad cI cQ D sz as h) := fun a U g mk q => by
  obtain ⟨q0, q1, qP, qK, qN⟩ := q
  exact ⟨q0, q1, qP, va_K.moved (u := U) (U := U.calling g mk a) (Vm.Alike.refl U.vm) qK, NW.same (u := U) (U := U.calling g mk a) rfl qN⟩
theorem ex_kind {k a nx tg : Nat} {c : Int32} {loc : xL} {stk : List xV} {h : xH} {x : (Nat × Nat × List xV × List xV) ⊕ Option xV} (he : ex k a nx tg c loc stk h = some (.inr x)) : 13 ≤ k ∧ k ≤ 17 := by
  unfold ex at he
  simp only [binK, Bool.cond_eq_ite] at he
  split at he
  all_goals first
    | exact ⟨by decide, by decide⟩
    | (exfalso; first | cases he | (repeat' split at he) <;> first | cases he | (obtain ⟨l2, e2, -⟩ := lsetK_spec he; cases e2))
theorem ab_other {mi pc len k a nx tg : Nat} {ins : Instr} {c : Int32} (hab : ab mi pc ins len = some (k, a, nx, tg, c)) (hk : 13 ≤ k ∧ k ≤ 17) : ins = .ireturn ∨ ins = .areturn ∨ ins = .lreturn ∨ ins = .return_ ∨ (∃ i, ins = .invokevirtual i) ∨ ∃ i, ins = .invokestatic i := by
  cases ins
  case ireturn => exact Or.inl rfl
  case areturn => exact Or.inr (Or.inl rfl)
  case lreturn => exact Or.inr (Or.inr (Or.inl rfl))
  case return_ => exact Or.inr (Or.inr (Or.inr (Or.inl rfl)))
  case invokevirtual i => exact Or.inr (Or.inr (Or.inr (Or.inr (Or.inl ⟨i, rfl⟩))))
  case invokestatic i => exact Or.inr (Or.inr (Or.inr (Or.inr (Or.inr ⟨i, rfl⟩))))
  all_goals
    exfalso
    simp only [ab] at hab
    first
      | cases hab
      | ((repeat' split at hab) <;> first | (simp only [Option.some.injEq, Prod.mk.injEq] at hab; omega) | cases hab)
section ENDS
variable {p : Program} {l : Launch} {e : Env} {R : Room} {s : State} {m : MethodId} {args : Array Value} {below : List Frame} {meth : Method} {c : Code} {H : Heap} {locs : List Loc} {Q : State → Prop}
variable {ad : xP → Nat} {cI cQ : ClassId} {D : va_G} {mi sz pc : Nat} {h h1 : xH} {loc : xL} {stk : List xV} {ls : Array Slot} {r r1 : Option xV}
theorem sndR (C : CX ad cI cQ D mi sz p s m meth c args) (hP : va_P D vwCl (cells ad cI cQ h) H) (hS : va_S (AA ad sz) s.heap H locs) (hst : stp mi pc loc stk h = some (.inr (.inr r))) :
    W p l e R s m args below meth c H locs 0 0 (MQ below (Qx ad cI cQ D sz r h) args s 0 0 (AA ad sz)) (F0 m pc ls (stk.map (conc ad))) := by
  obtain ⟨hx, hb, hr, hml, hown, hts, hN, hK, hlk, hmi, hI, hsz⟩ := C
  unfold stp at hst
  cases ho : opAt mi pc with
  | none => rw [ho] at hst; cases hst
  | some o =>
    obtain ⟨k, a, nx, tg, cc⟩ := o
    obtain ⟨ins, len, hd, hab⟩ := opAt_dec ho
    rw [ho] at hst
    simp only at hst
    have hkd := ex_kind hst
    cases ins
    case ireturn =>
      simp only [ab] at hab
      split at hab
      · next hc =>
        subst hc
        split at hab
        · next hmr =>
          simp only [Option.some.injEq, Prod.mk.injEq] at hab
          obtain ⟨rfl, rfl, rfl, rfl, rfl⟩ := hab
          simp only [ex] at hst
          split at hst
          · next x =>
            simp only [Option.some.injEq, Sum.inr.injEq] at hst
            subst hst
            exact W.iret hx hb (hr.trans hmr) (fun t ht hW => ⟨rfl, by rw [ht]; exact hP, hS.F ht⟩) hS.2.2 hd hlk
          · cases hst
        · split at hab
          · next hmr =>
            simp only [Option.some.injEq, Prod.mk.injEq] at hab
            obtain ⟨rfl, rfl, rfl, rfl, rfl⟩ := hab
            simp only [ex] at hst
            split at hst
            · next x =>
              split at hst
              · next hx1 =>
                simp only [Option.some.injEq, Sum.inr.injEq] at hst
                subst hst
                exact W.zret hx hb (hr.trans hmr) (by show Value.int (x &&& 1) = _; rw [hx1]) (fun t ht hW => ⟨rfl, by rw [ht]; exact hP, hS.F ht⟩) hS.2.2 hd hlk
              · cases hst
            · cases hst
          · cases hab
      · cases hab
    case areturn =>
      simp only [ab] at hab
      split at hab
      · next hc =>
        obtain ⟨rfl, hmr⟩ := hc
        simp only [Option.some.injEq, Prod.mk.injEq] at hab
        obtain ⟨rfl, rfl, rfl, rfl, rfl⟩ := hab
        simp only [ex] at hst
        split at hst
        · next q =>
          split at hst
          · simp only [Option.some.injEq, Sum.inr.injEq] at hst
            subst hst
            exact W.aret hx hb (hr.trans hmr) (Or.inl ⟨_, rfl⟩) (Or.inr ⟨_, rfl⟩) (fun t ht hW => ⟨rfl, by rw [ht]; exact hP, hS.F ht⟩) hS.2.2 hd hlk
          · cases hst
        · cases hst
      · cases hab
    case lreturn =>
      simp only [ab] at hab
      split at hab
      · next hc =>
        obtain ⟨rfl, hmr⟩ := hc
        simp only [Option.some.injEq, Prod.mk.injEq] at hab
        obtain ⟨rfl, rfl, rfl, rfl, rfl⟩ := hab
        simp only [ex] at hst
        split at hst
        · next x =>
          simp only [Option.some.injEq, Sum.inr.injEq] at hst
          subst hst
          exact W.lret hx hb (hr.trans hmr) (fun t ht hW => ⟨rfl, by rw [ht]; exact hP, hS.F ht⟩) hS.2.2 hd hlk
        · cases hst
      · cases hab
    case return_ =>
      simp only [ab] at hab
      split at hab
      · next hc =>
        obtain ⟨rfl, hmr⟩ := hc
        simp only [Option.some.injEq, Prod.mk.injEq] at hab
        obtain ⟨rfl, rfl, rfl, rfl, rfl⟩ := hab
        simp only [ex] at hst
        split at hst
        · simp only [Option.some.injEq, Sum.inr.injEq] at hst
          subst hst
          exact W.vret hx hb (hr.trans hmr) (fun t ht hW => ⟨rfl, by rw [ht]; exact hP, hS.F ht⟩) hS.2.2 hd hlk
        · cases hst
      · cases hab
    case invokevirtual idx =>
      exfalso
      simp only [ab] at hab
      split at hab
      · split at hab
        · split at hab
          · simp only [Option.some.injEq, Prod.mk.injEq] at hab
            obtain ⟨rfl, rfl, rfl, rfl, rfl⟩ := hab
            simp only [ex, exV] at hst
            obtain ⟨pre, st2, e1, e2, h3⟩ := takeK_spec hst
            split at h3
            · simp only [Bool.cond_eq_ite] at h3
              split at h3 <;> cases h3
            · cases h3
          · cases hab
        · cases hab
      · cases hab
    case invokestatic idx =>
      exfalso
      have key : ∀ (a nx tg : Nat), exS a nx tg stk = some (.inr (.inr r)) → False := by
        intro a nx tg he
        unfold exS at he
        obtain ⟨pre, st2, e1, e2, h3⟩ := takeK_spec he
        simp only [Bool.cond_eq_ite] at h3
        split at h3 <;> cases h3
      simp only [ab] at hab
      (repeat' split at hab) <;> first
        | (simp only [Option.some.injEq, Prod.mk.injEq] at hab; obtain ⟨rfl, rfl, rfl, rfl, rfl⟩ := hab; simp only [ex] at hst; exact key _ _ _ hst)
        | (simp only [Option.some.injEq, Prod.mk.injEq] at hab; omega)
        | cases hab
    all_goals
      rcases ab_other hab hkd with h | h | h | h | ⟨i, h⟩ | ⟨i, h⟩ <;> cases h
theorem xcall {rest st0 : List Value} {a : Array Value} (hr : va_Run p l e R s m args below meth c H locs 0 0 0 0 (F0 m pc ls st0) rest (Qx ad cI cQ D H.size r1 h1 a) (AA ad H.size)) (hS : va_S (AA ad sz) s.heap H locs) (hsz : s.heap.size = sz)
    (kk : ∀ (H1 : Heap) (locs1 : List Loc), va_P D vwCl (cells ad cI cQ h1) H1 → va_S (AA ad sz) s.heap H1 locs1 → W p l e R s m args below meth c H1 locs1 0 0 Q (F0 m (pc + 3) ls ((r1.map (conc ad)).toList ++ rest))) : W p l e R s m args below meth c H locs 0 0 Q (F0 m pc ls st0) := by
  have hle : sz ≤ H.size := by rw [← hsz]; exact hS.1
  have hAA : ∀ q, AA ad H.size q → AA ad sz q := fun q hq => by
    rcases hq with h | h
    · exact Or.inl h
    · exact Or.inr (by omega)
  intro T hT X
  obtain ⟨v, st₀, t, T', L, h0, X', hL, e1, e2, ⟨hv, hp, hz, hk⟩, st⟩ := hr T hT X
  rw [h0] at hz hk
  have hv : v = r1.map (conc ad) := by cases hv; rfl
  subst hv
  obtain ⟨t2, a1, b1⟩ := kk T'.heap (locs ++ L) (by rw [e1]; exact hp)
    ⟨Nat.le_trans hS.1 (by rw [e1]; exact hz), fun q h1 h2 => by rw [e1, hk q (Nat.lt_of_lt_of_le h1 hS.1) (fun z => h2 (hAA q z))]; exact hS.2.1 q h1 h2, fun q hq => by
      rcases List.mem_append.mp hq with h | h
      · exact hS.2.2 q h
      · exact hAA _ (hL q h)⟩ T' rfl X'
  exact ⟨t2, st t2 a1, b1⟩
theorem psh_conc {r : Option xV} {rest : List xV} : (pshO r rest).map (conc ad) = (r.map (conc ad)).toList ++ rest.map (conc ad) := by
  cases r <;> rfl
set_option maxHeartbeats 1000000 in
theorem sndC {d mj nx : Nat} {as rest : List xV} (C : CX ad cI cQ D mi sz p s m meth c args) (hP : va_P D vwCl (cells ad cI cQ h) H) (hS : va_S (AA ad sz) s.heap H locs) (hl : LR ad ls (mL mi) loc) (vS : okS stk) (hR : R.frames = d + 2 ∧ R.locals = 40 * (d + 2)) (hst : stp mi pc loc stk h = some (.inr (.inl (mj, nx, as, rest))))
    (hM : mj < 135 → as.length = mN mj + (if mS mj = true then 0 else 1) → okS as → (∀ w ∈ as, isJ w = false) → ∀ sz', Met l (mY mj) (wsM mj) (rmD d) (Px ad cI cQ D sz' as h) (Qx ad cI cQ D sz' r1 h1) 0 0 (AA ad sz'))
    (kk : ∀ (H1 : Heap) (locs1 : List Loc), va_P D vwCl (cells ad cI cQ h1) H1 → va_S (AA ad sz) s.heap H1 locs1 → okS rest → W p l e R s m args below meth c H1 locs1 0 0 Q (F0 m nx ls ((pshO r1 rest).map (conc ad)))) :
    W p l e R s m args below meth c H locs 0 0 Q (F0 m pc ls (stk.map (conc ad))) := by
  obtain ⟨hx, hb, hr, hml, hown, hts, hN, hK, hlk, hmi, hI, hsz⟩ := C
  unfold stp at hst
  cases ho : opAt mi pc with
  | none => rw [ho] at hst; cases hst
  | some o =>
    obtain ⟨k, a, nx', tg, cc⟩ := o
    obtain ⟨ins, len, hd, hab⟩ := opAt_dec ho
    rw [ho] at hst
    simp only at hst
    have hroom : ∀ mj', mL mj' ≤ 21 → (rmD d).frames + 1 ≤ R.frames ∧ 8 + (mL mj' + 11) + (rmD d).locals ≤ R.locals := fun mj' hl => by
      rw [hR.1, hR.2]; simp only [rmD]; omega
    cases ins
    case invokevirtual idx =>
      simp only [ab] at hab
      split at hab
      · next hc =>
        subst hc
        split at hab
        · next mj' hv =>
          split at hab
          · next hcs =>
            simp only [Option.some.injEq, Prod.mk.injEq] at hab
            obtain ⟨rfl, rfl, rfl, rfl, rfl⟩ := hab
            simp only [ex, exV] at hst
            obtain ⟨pre, st2, e1, e2, h3⟩ := takeK_spec hst
            split at h3
            · next q r =>
              cases hbq : (Nat.beq q.1 ((16 * mOwn mj' + mN mj') / 16) && Nat.ble (catL r) 8) with
              | false => rw [hbq] at h3; cases h3
              | true =>
                rw [hbq] at h3
                simp only [cond_true, Option.some.injEq, Sum.inr.injEq, Sum.inl.injEq, Prod.mk.injEq] at h3
                obtain ⟨rfl, rfl, rfl, rfl⟩ := h3
                simp only [Bool.and_eq_true, Nat.beq_eq] at hbq
                obtain ⟨hlw, hj⟩ := vl_in hv
                obtain ⟨g1, -, g2, g3, g4, g5, g6, g7, g8, g9, g10, g11⟩ := okM_spec hj
                obtain ⟨g21, g22⟩ := g2 hcs.1
                have hq1 : q.1 = mOwn mj' := by rw [hbq.1]; omega
                have hlen : pre.length = mN mj' := by rw [e2.1]; omega
                have hq : q ∈ allP := vS (vR q) (by rw [e1]; simp)
                have hoks : okS (vR q :: (pre.reverse ++ [])) := by
                  intro v hv
                  apply vS v
                  rw [e1]
                  simp only [List.append_nil, List.mem_cons, List.mem_reverse] at hv
                  rcases hv with rfl | h
                  · simp
                  · exact List.mem_append_left _ h
                have hMM := hM hj (by simp [hlen, hcs.1]) hoks (fun w hw => by
                  simp only [List.append_nil, List.mem_cons, List.mem_reverse] at hw
                  rcases hw with rfl | h
                  · rfl
                  · exact e2.2 w h) H.size
                have hcat := catL_eq ad r
                have hle : catL r ≤ 8 := Nat.le_of_ble_eq_true hbq.2
                obtain ⟨q0, hq0, hce⟩ := cells_at (ad := ad) (cI := cI) (cQ := cQ) (h := h) hq
                rw [ent_obj (by omega), hq1] at hce
                have hgood : GoodIn (wsM mi) (wsV (cn (mOwn mi)) idx (cn (mOwn mj')) (mY mj') (wsM mj')) := by
                  intro w hw
                  rcases List.mem_append.mp hw with hw | hw
                  · simp only [List.mem_cons, List.not_mem_nil, or_false] at hw
                    rcases hw with rfl | rfl | rfl | rfl
                    · exact ⟨GW_in hlw, good_of_word (GW_good hlw)⟩
                    · exact ⟨GW_in g21, good_of_word (GW_good g21)⟩
                    · have g23 := g22 hcs.2; rw [g3] at g23; exact ⟨GW_in g23, good_of_word (GW_good g23)⟩
                    · exact ⟨GW_in g1, good_of_word (GW_good g1)⟩
                  · exact wsM_good hj w hw
                have hrun := va_runV (p := p) (l := l) (e := e) (R := R) (m := m) (below := below) (meth := meth) (locs := locs) (cells := 0) (slots := 0) (g := F0 m pc ls (stk.map (conc ad))) (As := (pre.map (conc ad)).reverse) (b := ad q) (rest := r.map (conc ad)) ⟨hx, hb, hml, hown, hts⟩ hMM
                  (cwV (mN mj') hts hgood rfl rfl rfl ⟨g3, g6, g7, g8⟩ (hroom mj' g10))
                  ⟨Px_blind, va_recv hK hP (vw_at g4) hce, fun U hU hW => ⟨by simp [conc], by rw [hU], by rw [hU]; exact hP, va_K.moved hW.alike hK, NW.warm hW hN⟩⟩
                  rfl (by simp [hlen]) hl.1 (by rw [List.reverse_reverse, e1]; simp [conc]) (lv_room (by rw [hcat]; exact hle)) hd ⟨Nat.zero_le _, Nat.zero_le _⟩
                refine xcall hrun hS hsz (fun H1 locs1 hP1 hS1 => ?_)
                have hkk := kk H1 locs1 hP1 hS1 (fun v hv => vS v (by rw [e1]; exact List.mem_append_right _ (List.mem_cons_of_mem _ hv)))
                rw [psh_conc] at hkk
                exact hkk
            · cases h3
          · cases hab
        · cases hab
      · cases hab
    case invokestatic idx =>
      simp only [ab] at hab
      split at hab
      · next hc =>
        subst hc
        have key : ∀ mj', mj' < 135 → mS mj' = true → nx' = pc + 3 → exS mj' (pc + 3) (16 * mOwn mj' + mN mj') stk = some (.inr (.inl (mj, nx, as, rest))) → (∀ (As rest0 : List Value), Met l (mY mj') (wsM mj') (rmD d) (Px ad cI cQ D H.size as h) (Qx ad cI cQ D H.size r1 h1) 0 0 (AA ad H.size) → PreS s H (Px ad cI cQ D H.size as h) As → As.length = mN mj' → stk.map (conc ad) = As.reverse ++ rest0 → (rest0.map fun v => v.category).sum ≤ 8 → va_Run p l e R s m args below meth c H locs 0 0 0 0 (F0 m pc ls (stk.map (conc ad))) rest0 (Qx ad cI cQ D H.size r1 h1 As.toArray) (AA ad H.size)) → W p l e R s m args below meth c H locs 0 0 Q (F0 m pc ls (stk.map (conc ad))) := by
          intro mj' hj hsm hnx hex row
          unfold exS at hex
          obtain ⟨pre, r, e1, e2, h3⟩ := takeK_spec hex
          cases hbq : Nat.ble (catL r) 8 with
          | false => rw [hbq] at h3; cases h3
          | true =>
            rw [hbq] at h3
            simp only [cond_true, Option.some.injEq, Sum.inr.injEq, Sum.inl.injEq, Prod.mk.injEq] at h3
            obtain ⟨rfl, rfl, rfl, rfl⟩ := h3
            obtain ⟨g1, g1s, g2, g3, g4, g5, g6, g7, g8, g9, g10, g11⟩ := okM_spec hj
            have hlen : pre.length = mN mj' := by rw [e2.1]; omega
            have hoks : okS (pre.reverse ++ []) := by
              intro v hv
              apply vS v
              rw [e1]
              simp only [List.append_nil, List.mem_reverse] at hv
              exact List.mem_append_left _ hv
            have hMM := hM hj (by simp [hlen, hsm]) hoks (fun w hw => e2.2 w (by simpa using hw)) H.size
            have hcat := catL_eq ad r
            have hle : catL r ≤ 8 := Nat.le_of_ble_eq_true hbq
            have hrun := row ((pre.map (conc ad)).reverse) (r.map (conc ad)) hMM ⟨Px_blind, fun U hU hW => ⟨by simp, by rw [hU], by rw [hU]; exact hP, va_K.moved hW.alike hK, NW.warm hW hN⟩⟩ (by simp [hlen]) (by rw [List.reverse_reverse, e1]; simp) (by rw [hcat]; exact hle)
            refine xcall hrun hS hsz (fun H1 locs1 hP1 hS1 => ?_)
            have hkk := kk H1 locs1 hP1 hS1 (fun v hv => vS v (by rw [e1]; exact List.mem_append_right _ hv))
            rw [psh_conc] at hkk
            exact hkk
        split at hab
        · next mj' hv =>
          split at hab
          · next hcs =>
            simp only [Option.some.injEq, Prod.mk.injEq] at hab
            obtain ⟨rfl, rfl, rfl, rfl, rfl⟩ := hab
            simp only [ex] at hst
            obtain ⟨hlw, hj⟩ := vl_in hv
            obtain ⟨g1, g1s, g2, g3, g4, g5, g6, g7, g8, g9, g10, g11⟩ := okM_spec hj
            refine key mj' hj hcs.1 rfl hst (fun As rest0 hMM hpre hAs hstk hcat => ?_)
            have hgood : GoodIn (wsM mi) (wsS (cn (mOwn mi)) idx (mY mj') (wsM mj')) := by
              intro w hw
              rcases List.mem_append.mp hw with hw | hw
              · simp only [List.mem_cons, List.not_mem_nil, or_false] at hw
                rcases hw with rfl | rfl | rfl
                · exact ⟨GW_in hlw, good_of_word (GW_good hlw)⟩
                · exact ⟨GW_in (g1s hcs.1), good_of_word (GW_good (g1s hcs.1))⟩
                · rw [hcs.2] at g1; exact ⟨GW_in g1, good_of_word (GW_good g1)⟩
              · exact wsM_good hj w hw
            exact va_runS (g := F0 m pc ls (stk.map (conc ad))) ⟨hx, hb, hml, hown, hts⟩ hMM (cwS (mN mj') hts hgood rfl rfl rfl ⟨by rw [g3, hcs.2], g6, g7, g8⟩ (hroom mj' g10)) hpre rfl hAs hl.1 hstk (lv_room hcat) hd ⟨Nat.zero_le _, Nat.zero_le _⟩
          · cases hab
        · split at hab
          · next mj' hv =>
            split at hab
            · next hcs =>
              simp only [Option.some.injEq, Prod.mk.injEq] at hab
              obtain ⟨rfl, rfl, rfl, rfl, rfl⟩ := hab
              simp only [ex] at hst
              obtain ⟨hlw, hj⟩ := nl_in hv
              obtain ⟨g1, g1s, g2, g3, g4, g5, g6, g7, g8, g9, g10, g11⟩ := okM_spec hj
              refine key mj' hj hcs rfl hst (fun As rest0 hMM hpre hAs hstk hcat => ?_)
              exact va_runSN (g := F0 m pc ls (stk.map (conc ad))) ⟨hx, hb, hml, hown, hts⟩ hMM ⟨va_cnB (mN mj') hts (wsM_good hj) rfl rfl rfl (hN _ hlw) (by rw [g3]; exact hts _ (GW_in g1)) ⟨g6, g7, g8⟩ (hroom mj' g10), hts _ (GW_in (g1s hcs)), trivial⟩ hpre rfl hAs hl.1 hstk (lv_room hcat) hd ⟨Nat.zero_le _, Nat.zero_le _⟩
            · cases hab
          · split at hab
            · simp only [Option.some.injEq, Prod.mk.injEq] at hab
              obtain ⟨rfl, rfl, rfl, rfl, rfl⟩ := hab
              simp only [ex] at hst
              split at hst
              · next n0 dp q sp pq r =>
                cases hbq : (Nat.beq pq.1 10 && Nat.beq q.1 10 && Nat.ble (catL r) 8) <;> rw [hbq] at hst
                · cases hst
                · simp only [cond_true] at hst
                  split at hst <;> cases hst
              · cases hst
            · cases hab
      · cases hab
    case ireturn =>
      exfalso
      simp only [ab] at hab
      (repeat' split at hab) <;> first
        | (simp only [Option.some.injEq, Prod.mk.injEq] at hab; obtain ⟨rfl, rfl, rfl, rfl, rfl⟩ := hab; simp only [ex] at hst; (repeat' split at hst) <;> cases hst)
        | cases hab
    case areturn =>
      exfalso
      simp only [ab] at hab
      (repeat' split at hab) <;> first
        | (simp only [Option.some.injEq, Prod.mk.injEq] at hab; obtain ⟨rfl, rfl, rfl, rfl, rfl⟩ := hab; simp only [ex] at hst; (repeat' split at hst) <;> cases hst)
        | cases hab
    case lreturn =>
      exfalso
      simp only [ab] at hab
      (repeat' split at hab) <;> first
        | (simp only [Option.some.injEq, Prod.mk.injEq] at hab; obtain ⟨rfl, rfl, rfl, rfl, rfl⟩ := hab; simp only [ex] at hst; (repeat' split at hst) <;> cases hst)
        | cases hab
    case return_ =>
      exfalso
      simp only [ab] at hab
      (repeat' split at hab) <;> first
        | (simp only [Option.some.injEq, Prod.mk.injEq] at hab; obtain ⟨rfl, rfl, rfl, rfl, rfl⟩ := hab; simp only [ex] at hst; (repeat' split at hst) <;> cases hst)
        | cases hab
    all_goals
      rcases ab_other hab (ex_kind hst) with h | h | h | h | ⟨i, h⟩ | ⟨i, h⟩ <;> cases h
end ENDS
/-! ===== the runs ===== -/
theorem nth_map_some {as : List xV} {k i : Nat} {v : xV} (h : nth (as.map some ++ List.replicate k none) i = some (some v)) : i < as.length ∧ as[i]? = some v := by
  induction as generalizing i with
  | nil =>
    exfalso
    simp only [List.map_nil, List.nil_append] at h
    induction k generalizing i with
    | zero => simp [nth] at h
    | succ k ih =>
      cases i with
      | zero => simp [List.replicate, nth] at h
      | succ i => exact ih h
  | cons a as ih =>
    cases i with
    | zero =>
      simp only [List.map_cons, List.cons_append, nth, Option.some.injEq] at h
      subst h
      exact ⟨by simp, rfl⟩
    | succ i =>
      obtain ⟨h1, h2⟩ := ih h
      exact ⟨by simp; omega, by simpa using h2⟩
theorem lv_args_at {ad : xP → Nat} : ∀ (as : List xV) (b i : Nat) (v : xV), (∀ w ∈ as, isJ w = false) → as[i]? = some v → (b + i, conc ad v) ∈ lv_args b (as.map (conc ad)) := by
  intro as
  induction as with
  | nil => intro b i v _ h; simp at h
  | cons a as ih =>
    intro b i v hj h
    have hc : (conc ad a).category = 1 := conc_cat ad (hj a List.mem_cons_self)
    show _ ∈ (b, conc ad a) :: lv_args (if (conc ad a).category = 2 then b + 2 else b + 1) (as.map (conc ad))
    rw [if_neg (by rw [hc]; decide)]
    cases i with
    | zero =>
      simp only [List.getElem?_cons_zero, Option.some.injEq] at h
      subst h
      exact List.mem_cons_self
    | succ i =>
      have h2 := ih (b + 1) i v (fun w hw => hj w (List.mem_cons_of_mem _ hw)) (by simpa using h)
      rw [show b + (i + 1) = b + 1 + i by omega]
      exact List.mem_cons_of_mem _ h2
theorem lg_sl_len {ad : xP → Nat} : ∀ (as : List xV), (∀ w ∈ as, isJ w = false) → (lg_sl (as.map (conc ad))).length = as.length := by
  intro as
  induction as with
  | nil => intro _; rfl
  | cons a as ih =>
    intro hj
    have h1 := ih (fun w hw => hj w (List.mem_cons_of_mem _ hw))
    have h2 := hj a List.mem_cons_self
    match a, h2 with
    | .inl x, _ => simpa [lg_sl, conc, Value.category] using h1
    | .inr (.inl none), _ => simpa [lg_sl, conc, Value.category] using h1
    | .inr (.inl (some q)), _ => simpa [lg_sl, conc, Value.category] using h1
/-- what a run says of the method, at a depth -/
theorem met_of {l : Launch} {D : va_G} {ad : xP → Nat} {cI cQ : ClassId} {d mj : Nat} {as : List xV} {h h1 : xH} {r1 : Option xV} (hI : adI ad) (hj : mj < 135) (hlen : as.length = mN mj + (if mS mj = true then 0 else 1)) (ha : okS as) (hnj : ∀ w ∈ as, isJ w = false)
    (hw : ∀ {p : Program} {e : Env} {s : State} {m : MethodId} {args : Array Value} {below : List Frame} {meth : Method} {c : Code} {H : Heap} {locs : List Loc} {ls : Array Slot} {sz : Nat}, CX ad cI cQ D mj sz p s m meth c args → va_P D vwCl (cells ad cI cQ h) H → va_S (AA ad sz) s.heap H locs → LR ad ls (mL mj) (ent0 mj as) → okL (ent0 mj as) → okS [] →
      W p l e (rmD d) s m args below meth c H locs 0 0 (MQ below (Qx ad cI cQ D sz r1 h1) args s 0 0 (AA ad sz)) (F0 m 0 ls (([] : List xV).map (conc ad)))) :
    ∀ sz', Met l (mY mj) (wsM mj) (rmD d) (Px ad cI cQ D sz' as h) (Qx ad cI cQ D sz' r1 h1) 0 0 (AA ad sz') := by
  intro sz'
  obtain ⟨g1, g1s, g2, g3, g4, g5, g6, g7, g8, g9, g10, g11⟩ := okM_spec hj
  refine Met.ofW (cc := mC mj) (maxL := mL mj) (ret := mR mj) g5 rfl ?_
  intro p e s m args below meth c s₁ B hml hv
  obtain ⟨rfl, hsz, hP, hK, hN⟩ := hv
  have hts := atoms_spec (ws := wsM mj) B.pre
  have hown : s.vm.findClass (mY mj).cls = some m.cls := findClass_of_methodNamed B.named
  rw [g3] at hown
  rw [lg_entry_eq]
  have hle : as.length ≤ mL mj := by
    rw [hlen]
    by_cases hs : mS mj = true
    · rw [if_pos hs] at g9 ⊢; omega
    · rw [if_neg hs] at g9 ⊢; omega
  have hl := lv_entry (as.map (conc ad)) (n := mL mj) (by rw [lg_sl_len as hnj]; exact hle)
  refine hw (ls := _) (sz := sz') ⟨B.exec, B.bytes, B.returns, hml, hown, hts, hN, hK, B.notSynchronized, hj, hI, hsz⟩ hP va_S.rf ⟨hl.1, hl.2.1, fun i v hv => ?_⟩ (fun i v hv => ?_) (fun v hv => absurd hv List.not_mem_nil)
  · obtain ⟨h1, h2⟩ := nth_map_some hv
    have h3 := lv_args_at (ad := ad) as 0 i v hnj h2
    rw [Nat.zero_add] at h3
    exact ⟨hl.2.2 _ h3, hnj v (List.mem_of_getElem? h2)⟩
  · obtain ⟨h1, h2⟩ := nth_map_some hv
    exact ha v (List.mem_of_getElem? h2)
theorem ex_ret {k a nx tg : Nat} {c : Int32} {loc : xL} {stk : List xV} {h : xH} {w : xV} (he : ex k a nx tg c loc stk h = some (.inr (.inr (some w)))) : okV w := by
  have hk := ex_kind he
  rcases (show k = 13 ∨ k = 14 ∨ k = 15 ∨ k = 16 ∨ k = 17 by omega) with rfl | rfl | rfl | rfl | rfl
  · simp only [ex] at he
    (repeat' split at he) <;> first
      | (next hq => simp only [Option.some.injEq, Sum.inr.injEq] at he; subst he; simp only [okP, decide_eq_true_eq] at hq; exact hq)
      | (simp only [Option.some.injEq, Sum.inr.injEq] at he; subst he; trivial)
      | cases he
  · simp only [ex, exV] at he
    obtain ⟨pre, st2, e1, e2, h3⟩ := takeK_spec he
    split at h3
    · simp only [Bool.cond_eq_ite] at h3
      split at h3 <;> cases h3
    · cases h3
  · simp only [ex, exS] at he
    obtain ⟨pre, st2, e1, e2, h3⟩ := takeK_spec he
    simp only [Bool.cond_eq_ite] at h3
    split at h3 <;> cases h3
  · simp only [ex, exS] at he
    obtain ⟨pre, st2, e1, e2, h3⟩ := takeK_spec he
    simp only [Bool.cond_eq_ite] at h3
    split at h3 <;> cases h3
  · simp only [ex] at he
    split at he <;> cases he
theorem run_ok : ∀ (n d mi pc : Nat) (loc : xL) (stk : List xV) (h : xH) (w : xV) (hf : xH), run n d mi pc loc stk h = some (some w, hf) → okV w := by
  intro n
  induction n with
  | zero => intro d mi pc loc stk h w hf hr; simp [run] at hr
  | succ n ih =>
    intro d mi pc loc stk h w hf hr
    rw [run] at hr
    split at hr
    · cases hr
    · exact ih _ _ _ _ _ _ _ _ hr
    · cases d with
      | zero => simp at hr
      | succ d =>
        simp only at hr
        split at hr
        · cases hr
        · exact ih _ _ _ _ _ _ _ _ hr
    · next hst =>
      simp only [Option.some.injEq, Prod.mk.injEq] at hr
      obtain ⟨rfl, rfl⟩ := hr
      unfold stp at hst
      split at hst
      · cases hst
      · exact ex_ret hst
theorem walk {l : Launch} {D : va_G} {ad : xP → Nat} {cI cQ : ClassId} (hI : adI ad) : ∀ (n d mi pc : Nat) (loc : xL) (stk : List xV) (h : xH) (r : Option xV) (hf : xH), run n d mi pc loc stk h = some (r, hf) →
    ∀ {p : Program} {e : Env} {s : State} {m : MethodId} {args : Array Value} {below : List Frame} {meth : Method} {c : Code} {H : Heap} {locs : List Loc} {ls : Array Slot} {sz : Nat}, CX ad cI cQ D mi sz p s m meth c args → va_P D vwCl (cells ad cI cQ h) H → va_S (AA ad sz) s.heap H locs → LR ad ls (mL mi) loc → okL loc → okS stk →
      W p l e (rmD d) s m args below meth c H locs 0 0 (MQ below (Qx ad cI cQ D sz r hf) args s 0 0 (AA ad sz)) (F0 m pc ls (stk.map (conc ad))) := by
  intro n
  induction n with
  | zero => intro d mi pc loc stk h r hf hr; simp [run] at hr
  | succ n ih =>
    intro d mi pc loc stk h r hf hr p e s m args below meth c H locs ls sz C hP hS hl vL vS
    rw [run] at hr
    split at hr
    · cases hr
    · next pc' loc' stk' h' hst =>
      exact snd1 C hP hS hl vL vS (by simp [rmD]) (by simp only [rmD]; omega) hst (fun H' locs' ls' hP' hS' hl' vL' vS' => ih _ _ _ _ _ _ _ _ hr C hP' hS' hl' vL' vS')
    · next mj nx as rest hst =>
      cases d with
      | zero => simp at hr
      | succ d =>
        simp only at hr
        split at hr
        · cases hr
        · next r1 h1 hr1 =>
          exact sndC (d := d) C hP hS hl vS ⟨rfl, rfl⟩ hst (fun hj hlen ha hnj sz' => met_of hI hj hlen ha hnj (fun C2 hP2 hS2 hl2 vL2 vS2 => ih _ _ _ _ _ _ _ _ hr1 C2 hP2 hS2 hl2 vL2 vS2) sz')
            (fun H1 locs1 hP1 hS1 vS1 => ih _ _ _ _ _ _ _ _ hr C hP1 hS1 hl vL (fun v hv => by
              cases r1 with
              | none => exact vS1 v hv
              | some w =>
                rcases List.mem_cons.mp hv with rfl | hv
                · exact run_ok _ _ _ _ _ _ _ _ _ hr1
                · exact vS1 v hv))
    · next r' hst =>
      simp only [Option.some.injEq, Prod.mk.injEq] at hr
      obtain ⟨rfl, rfl⟩ := hr
      exact sndR C hP hS hst
theorem met_cl {l : Launch} {D : va_G} {ad : xP → Nat} {cI cQ : ClassId} {d mj : Nat} {as : List xV} {h h1 : xH} {r1 : Option xV} (hI : adI ad) (hj : mj < 135) (hlen : as.length = mN mj + (if mS mj = true then 0 else 1)) (ha : okS as) (hnj : ∀ w ∈ as, isJ w = false) (hc : Cl d mj as h r1 h1) :
    ∀ sz', Met l (mY mj) (wsM mj) (rmD d) (Px ad cI cQ D sz' as h) (Qx ad cI cQ D sz' r1 h1) 0 0 (AA ad sz') := by
  obtain ⟨n, hn⟩ := hc
  exact met_of hI hj hlen ha hnj (fun C2 hP2 hS2 hl2 vL2 vS2 => walk hI n _ _ _ _ _ _ _ _ hn C2 hP2 hS2 hl2 vL2 vS2)
