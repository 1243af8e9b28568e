/-! ===== a simple step of the small machine (printed by wip/gen/gen3.py) ===== -/
/-- what holds in a method's frame -/
def CX (ad : xP → Nat) (cI cQ : ClassId) (D : va_G) (mi sz : Nat) (p : Program) (s : State) (m : MethodId) (meth : Method) (c : Code) (args : Array Value) : Prop :=
  p.tables.exec = Jvm.exec ∧ c.code = mC mi ∧ meth.sig.returnType = mR mi ∧ c.maxLocals = mL mi ∧ s.vm.findClass (cn (mOwn mi)) = some m.cls ∧ (∀ w ∈ wsM mi, w.before args s = true) ∧ NW s ∧ va_K D vwCl (xtys cI cQ) s ∧ meth.locks = false ∧ mi < 135 ∧ adI ad ∧ s.heap.size = sz
theorem GW_in {mi : Nat} {w : Cond} (h : w ∈ GW) : w ∈ wsM mi := List.mem_cons_of_mem _ h
theorem nwl_use {s : State} {w : Cond} {args : Array Value} (hN : NW s) (h : w ∈ nwl) : w.before args s = true := by
  have h1 := hN w h
  rcases List.mem_append.mp h with h2 | h2
  · obtain ⟨q, -, rfl⟩ := List.mem_map.mp h2
    exact va_Nw.use rfl h1
  · obtain ⟨q, -, rfl⟩ := List.mem_map.mp h2
    exact va_Nw.use rfl h1
theorem okS_cons {v : xV} {st : List xV} (h1 : okV v) (h2 : okS st) : okS (v :: st) := fun w hw => by
  rcases List.mem_cons.mp hw with rfl | h
  · exact h1
  · exact h2 w h
theorem okS_tl {v : xV} {st : List xV} (h : okS (v :: st)) : okS st := fun w hw => h w (List.mem_cons_of_mem _ hw)
theorem okS_hd {v : xV} {st : List xV} (h : okS (v :: st)) : okV v := h v List.mem_cons_self
theorem x_bool {x : Int32} (h : x &&& 1 = x) : x = 0 ∨ x = 1 := by
  obtain ⟨j, hj, e⟩ := pk_andE x (m := 1) 1 (by decide)
  rw [h] at e
  rcases (show j = 0 ∨ j = 1 by omega) with rfl | rfl
  · exact Or.inl e
  · exact Or.inr e
theorem inb_vp {i : Int32} {n : Nat} (h : inb i n = true) : vp_in i n := by
  unfold inb at h
  have h1 : ¬ (i < 0 ∨ n ≤ i.toNatClampNeg) := of_decide_eq_true h
  exact h1
theorem allP_kind : allP.all (fun p => (decide (p.1 < 5) || decide (p.1 = 5) || decide (10 ≤ p.1)) && (decide (p.1 ≠ 5) || decide (p.2 = 0))) = true := by decide +kernel
theorem ent_obj {ad : xP → Nat} {cI cQ : ClassId} {h : xH} {p : xP} (hp : p.1 < 5) : ent ad cI cQ h p = .inr (p.1, (List.range (nfld p.1)).map (fval ad h p)) := by
  unfold ent
  rw [if_pos hp]
theorem ent_arr {ad : xP → Nat} {cI cQ : ClassId} {h : xH} {p : xP} (hp : 10 ≤ p.1) : ent ad cI cQ h p = .inl (cI, alen p.1, .inl (h p)) := by
  unfold ent
  rw [if_neg (by omega), if_neg (by omega)]
theorem ent_row {ad : xP → Nat} {cI cQ : ClassId} {h : xH} {p : xP} (hp : p.1 = 5) : ent ad cI cQ h p = .inl (cQ, 3, .inr (.inr (.inr (.inr fun j => some (ad (1, j)))))) := by
  unfold ent
  rw [if_neg (by omega), if_pos hp]
theorem ent_off {ad : xP → Nat} {cI cQ : ClassId} {h : xH} {p q : xP} {f : Nat → Int32} (hq : q ≠ p) : ent ad cI cQ (hup h p f) q = ent ad cI cQ h q := by
  have e : hup h p f q = h q := if_neg hq
  have e2 : fval ad (hup h p f) q = fval ad h q := by
    funext k
    unfold fval
    rw [e]
  unfold ent
  rw [e, e2]
theorem hup_at {h : xH} {p : xP} {f : Nat → Int32} : hup h p f p = f := if_pos rfl
section STEP
variable {p : Program} {l : Launch} {e : Env} {R : Room} {s : State} {m : MethodId} {args : Array Value} {below : List Frame} {meth : Method} {c : Code} {H : Heap} {locs : List Loc} {Q : State → Prop}
variable {ad : xP → Nat} {cI cQ : ClassId} {D : va_G} {mi sz pc pc' : Nat} {h h' : xH} {loc loc' : xL} {stk stk' : List xV} {ls : Array Slot}
set_option maxHeartbeats 4000000 in
theorem snd1 (C : CX ad cI cQ D mi sz p s m meth c args) (hP : va_P D vwCl (cells ad cI cQ h) H) (hS : va_S (AA ad sz) s.heap H locs) (hl : LR ad ls (mL mi) loc) (vL : okL loc) (vS : okS stk) (hr1 : 1 ≤ R.frames) (hr2 : 40 ≤ R.locals)
    (hst : stp mi pc loc stk h = some (.inl (pc', loc', stk', h')))
    (kk : ∀ (H' : Heap) (locs' : List Loc) (ls' : Array Slot), va_P D vwCl (cells ad cI cQ h') H' → va_S (AA ad sz) s.heap H' locs' → LR ad ls' (mL mi) loc' → okL loc' → okS stk' → W p l e R s m args below meth c H' locs' 0 0 Q (F0 m pc' ls' (stk'.map (conc ad)))) :
    W p l e R s m args below meth c H locs 0 0 Q (F0 m pc ls (stk.map (conc ad))) := by
  obtain ⟨hx, hb, hr, hml, hown, hts, hN, hK, hlk, hmi, hI, hsz⟩ := C
  unfold stp at hst
  cases ho : opAt mi pc with
  | none => rw [ho] at hst; cases hst
  | some o =>
    obtain ⟨k, a, nx, tg, cc⟩ := o
    obtain ⟨ins, len, hd, hab⟩ := opAt_dec ho
    rw [ho] at hst
    simp only at hst
    have hD := cells_D hI cI cQ h sz
    cases ins
    case iload_n k0 =>
      simp only [ab] at hab
      split at hab
      · next hc =>
        simp only [Option.some.injEq, Prod.mk.injEq] at hab
        obtain ⟨rfl, rfl, rfl, rfl, rfl⟩ := hab
        subst hc
        simp only [ex] at hst
        split at hst
        · next x hv =>
          simp only [Option.some.injEq, Sum.inl.injEq, Prod.mk.injEq] at hst
          obtain ⟨rfl, rfl, rfl, rfl⟩ := hst
          exact lv_iload_n hx hb hd rfl (hl.2.2 _ _ hv).1 (kk H locs ls hP hS hl vL (okS_cons trivial vS))
        · cases hst
      · cases hab
    case iload i0 =>
      simp only [ab] at hab
      split at hab
      · next hc =>
        simp only [Option.some.injEq, Prod.mk.injEq] at hab
        obtain ⟨rfl, rfl, rfl, rfl, rfl⟩ := hab
        subst hc
        simp only [ex] at hst
        split at hst
        · next x hv =>
          simp only [Option.some.injEq, Sum.inl.injEq, Prod.mk.injEq] at hst
          obtain ⟨rfl, rfl, rfl, rfl⟩ := hst
          exact lv_iload hx hb hd (hl.2.2 _ _ hv).1 (kk H locs ls hP hS hl vL (okS_cons trivial vS))
        · cases hst
      · cases hab
    case aload_n k0 =>
      simp only [ab] at hab
      split at hab
      · next hc =>
        simp only [Option.some.injEq, Prod.mk.injEq] at hab
        obtain ⟨rfl, rfl, rfl, rfl, rfl⟩ := hab
        subst hc
        simp only [ex] at hst
        split at hst
        · next q hv =>
          simp only [Option.some.injEq, Sum.inl.injEq, Prod.mk.injEq] at hst
          obtain ⟨rfl, rfl, rfl, rfl⟩ := hst
          have hq := vL _ _ hv
          cases q with
          | none => exact lv_aload_nN hx hb hd rfl (hl.2.2 _ _ hv).1 (kk H locs ls hP hS hl vL (okS_cons trivial vS))
          | some q => exact lv_aload_n hx hb hd rfl (hl.2.2 _ _ hv).1 (kk H locs ls hP hS hl vL (okS_cons hq vS))
        · cases hst
      · cases hab
    case aload i0 =>
      simp only [ab] at hab
      split at hab
      · next hc =>
        simp only [Option.some.injEq, Prod.mk.injEq] at hab
        obtain ⟨rfl, rfl, rfl, rfl, rfl⟩ := hab
        subst hc
        simp only [ex] at hst
        split at hst
        · next q hv =>
          simp only [Option.some.injEq, Sum.inl.injEq, Prod.mk.injEq] at hst
          obtain ⟨rfl, rfl, rfl, rfl⟩ := hst
          have hq := vL _ _ hv
          cases q with
          | none => exact lv_aloadN hx hb hd (hl.2.2 _ _ hv).1 (kk H locs ls hP hS hl vL (okS_cons trivial vS))
          | some q => exact lv_aload hx hb hd (hl.2.2 _ _ hv).1 (kk H locs ls hP hS hl vL (okS_cons hq vS))
        · cases hst
      · cases hab
    case iconst n0 =>
      simp only [ab] at hab
      split at hab
      · next hc =>
        simp only [Option.some.injEq, Prod.mk.injEq] at hab
        obtain ⟨rfl, rfl, rfl, rfl, rfl⟩ := hab
        subst hc
        simp only [ex] at hst
        simp only [Option.some.injEq, Sum.inl.injEq, Prod.mk.injEq] at hst
        obtain ⟨rfl, rfl, rfl, rfl⟩ := hst
        exact lv_iconst hx hb hd rfl (kk H locs ls hP hS hl vL (okS_cons trivial vS))
      · cases hab
    case bipush n0 =>
      simp only [ab] at hab
      split at hab
      · next hc =>
        simp only [Option.some.injEq, Prod.mk.injEq] at hab
        obtain ⟨rfl, rfl, rfl, rfl, rfl⟩ := hab
        subst hc
        simp only [ex] at hst
        simp only [Option.some.injEq, Sum.inl.injEq, Prod.mk.injEq] at hst
        obtain ⟨rfl, rfl, rfl, rfl⟩ := hst
        exact lv_bipush hx hb hd rfl (kk H locs ls hP hS hl vL (okS_cons trivial vS))
      · cases hab
    case sipush n0 =>
      simp only [ab] at hab
      split at hab
      · next hc =>
        simp only [Option.some.injEq, Prod.mk.injEq] at hab
        obtain ⟨rfl, rfl, rfl, rfl, rfl⟩ := hab
        subst hc
        simp only [ex] at hst
        simp only [Option.some.injEq, Sum.inl.injEq, Prod.mk.injEq] at hst
        obtain ⟨rfl, rfl, rfl, rfl⟩ := hst
        exact lv_sipush hx hb hd rfl (kk H locs ls hP hS hl vL (okS_cons trivial vS))
      · cases hab
    case iadd =>
      simp only [ab] at hab
      split at hab
      · next hc =>
        simp only [Option.some.injEq, Prod.mk.injEq] at hab
        obtain ⟨rfl, rfl, rfl, rfl, rfl⟩ := hab
        subst hc
        simp only [ex] at hst
        split at hst
        · next y x r =>
          simp only [binK] at hst
          simp only [Option.some.injEq, Sum.inl.injEq, Prod.mk.injEq] at hst
          obtain ⟨rfl, rfl, rfl, rfl⟩ := hst
          exact lv_iadd hx hb hd (kk H locs ls hP hS hl vL (okS_cons trivial (okS_tl (okS_tl vS))))
        · cases hst
      · cases hab
    case isub =>
      simp only [ab] at hab
      split at hab
      · next hc =>
        simp only [Option.some.injEq, Prod.mk.injEq] at hab
        obtain ⟨rfl, rfl, rfl, rfl, rfl⟩ := hab
        subst hc
        simp only [ex] at hst
        split at hst
        · next y x r =>
          simp only [binK] at hst
          simp only [Option.some.injEq, Sum.inl.injEq, Prod.mk.injEq] at hst
          obtain ⟨rfl, rfl, rfl, rfl⟩ := hst
          exact lv_isub hx hb hd (kk H locs ls hP hS hl vL (okS_cons trivial (okS_tl (okS_tl vS))))
        · cases hst
      · cases hab
    case imul =>
      simp only [ab] at hab
      split at hab
      · next hc =>
        simp only [Option.some.injEq, Prod.mk.injEq] at hab
        obtain ⟨rfl, rfl, rfl, rfl, rfl⟩ := hab
        subst hc
        simp only [ex] at hst
        split at hst
        · next y x r =>
          simp only [binK] at hst
          simp only [Option.some.injEq, Sum.inl.injEq, Prod.mk.injEq] at hst
          obtain ⟨rfl, rfl, rfl, rfl⟩ := hst
          exact lv_imul hx hb hd (kk H locs ls hP hS hl vL (okS_cons trivial (okS_tl (okS_tl vS))))
        · cases hst
      · cases hab
    case iand =>
      simp only [ab] at hab
      split at hab
      · next hc =>
        simp only [Option.some.injEq, Prod.mk.injEq] at hab
        obtain ⟨rfl, rfl, rfl, rfl, rfl⟩ := hab
        subst hc
        simp only [ex] at hst
        split at hst
        · next y x r =>
          simp only [binK] at hst
          simp only [Option.some.injEq, Sum.inl.injEq, Prod.mk.injEq] at hst
          obtain ⟨rfl, rfl, rfl, rfl⟩ := hst
          exact lv_iand hx hb hd (kk H locs ls hP hS hl vL (okS_cons trivial (okS_tl (okS_tl vS))))
        · cases hst
      · cases hab
    case ishr =>
      simp only [ab] at hab
      split at hab
      · next hc =>
        simp only [Option.some.injEq, Prod.mk.injEq] at hab
        obtain ⟨rfl, rfl, rfl, rfl, rfl⟩ := hab
        subst hc
        simp only [ex] at hst
        split at hst
        · next y x r =>
          simp only [binK] at hst
          simp only [Option.some.injEq, Sum.inl.injEq, Prod.mk.injEq] at hst
          obtain ⟨rfl, rfl, rfl, rfl⟩ := hst
          exact lv_ishr hx hb hd (kk H locs ls hP hS hl vL (okS_cons trivial (okS_tl (okS_tl vS))))
        · cases hst
      · cases hab
    case idiv =>
      simp only [ab] at hab
      split at hab
      · next hc =>
        simp only [Option.some.injEq, Prod.mk.injEq] at hab
        obtain ⟨rfl, rfl, rfl, rfl, rfl⟩ := hab
        subst hc
        simp only [ex] at hst
        split at hst
        · next y x r =>
          simp only [binK] at hst
          split at hst
          · cases hst
          · next hne =>
            simp only [Option.some.injEq, Sum.inl.injEq, Prod.mk.injEq] at hst
            obtain ⟨rfl, rfl, rfl, rfl⟩ := hst
            exact lv_idiv hx hb hd hne (kk H locs ls hP hS hl vL (okS_cons trivial (okS_tl (okS_tl vS))))
        · cases hst
      · cases hab
    case irem =>
      simp only [ab] at hab
      split at hab
      · next hc =>
        simp only [Option.some.injEq, Prod.mk.injEq] at hab
        obtain ⟨rfl, rfl, rfl, rfl, rfl⟩ := hab
        subst hc
        simp only [ex] at hst
        split at hst
        · next y x r =>
          simp only [binK] at hst
          split at hst
          · cases hst
          · next hne =>
            simp only [Option.some.injEq, Sum.inl.injEq, Prod.mk.injEq] at hst
            obtain ⟨rfl, rfl, rfl, rfl⟩ := hst
            exact lv_irem hx hb hd hne (kk H locs ls hP hS hl vL (okS_cons trivial (okS_tl (okS_tl vS))))
        · cases hst
      · cases hab
    case istore_n k0 =>
      simp only [ab] at hab
      split at hab
      · next hc =>
        simp only [Option.some.injEq, Prod.mk.injEq] at hab
        obtain ⟨rfl, rfl, rfl, rfl, rfl⟩ := hab
        obtain ⟨rfl, hlt⟩ := hc
        simp only [ex] at hst
        split at hst
        · next x r =>
          obtain ⟨l2, e2, hs2⟩ := lsetK_spec hst
          simp only [Option.some.injEq, Sum.inl.injEq, Prod.mk.injEq] at e2
          obtain ⟨rfl, rfl, rfl, rfl⟩ := e2
          exact lv_istore_n hx hb hd rfl hl.has hlt rfl (fun ls2 h2 => kk H locs ls2 hP hS (hl.store (v := vI x) rfl h2 hs2) (vL.store (v := vI x) trivial hs2) (okS_tl vS))
        · cases hst
      · cases hab
    case istore i0 =>
      simp only [ab] at hab
      split at hab
      · next hc =>
        simp only [Option.some.injEq, Prod.mk.injEq] at hab
        obtain ⟨rfl, rfl, rfl, rfl, rfl⟩ := hab
        obtain ⟨rfl, hlt⟩ := hc
        simp only [ex] at hst
        split at hst
        · next x r =>
          obtain ⟨l2, e2, hs2⟩ := lsetK_spec hst
          simp only [Option.some.injEq, Sum.inl.injEq, Prod.mk.injEq] at e2
          obtain ⟨rfl, rfl, rfl, rfl⟩ := e2
          exact lv_istore hx hb hd hl.has hlt rfl (fun ls2 h2 => kk H locs ls2 hP hS (hl.store (v := vI x) rfl h2 hs2) (vL.store (v := vI x) trivial hs2) (okS_tl vS))
        · cases hst
      · cases hab
    case astore_n k0 =>
      simp only [ab] at hab
      split at hab
      · next hc =>
        simp only [Option.some.injEq, Prod.mk.injEq] at hab
        obtain ⟨rfl, rfl, rfl, rfl, rfl⟩ := hab
        obtain ⟨rfl, hlt⟩ := hc
        simp only [ex] at hst
        split at hst
        · next q r =>
          obtain ⟨l2, e2, hs2⟩ := lsetK_spec hst
          simp only [Option.some.injEq, Sum.inl.injEq, Prod.mk.injEq] at e2
          obtain ⟨rfl, rfl, rfl, rfl⟩ := e2
          have hq := okS_hd vS
          cases q with
          | none => exact lv_astore_nN hx hb hd rfl hl.has hlt rfl (fun ls2 h2 => kk H locs ls2 hP hS (hl.store (v := vN) rfl h2 hs2) (vL.store (v := vN) trivial hs2) (okS_tl vS))
          | some q => exact lv_astore_n hx hb hd rfl hl.has hlt rfl (fun ls2 h2 => kk H locs ls2 hP hS (hl.store (v := vR q) rfl h2 hs2) (vL.store (v := vR q) hq hs2) (okS_tl vS))
        · cases hst
      · cases hab
    case astore i0 =>
      simp only [ab] at hab
      split at hab
      · next hc =>
        simp only [Option.some.injEq, Prod.mk.injEq] at hab
        obtain ⟨rfl, rfl, rfl, rfl, rfl⟩ := hab
        obtain ⟨rfl, hlt⟩ := hc
        simp only [ex] at hst
        split at hst
        · next q r =>
          obtain ⟨l2, e2, hs2⟩ := lsetK_spec hst
          simp only [Option.some.injEq, Sum.inl.injEq, Prod.mk.injEq] at e2
          obtain ⟨rfl, rfl, rfl, rfl⟩ := e2
          have hq := okS_hd vS
          cases q with
          | none => exact lv_astoreN hx hb hd hl.has hlt rfl (fun ls2 h2 => kk H locs ls2 hP hS (hl.store (v := vN) rfl h2 hs2) (vL.store (v := vN) trivial hs2) (okS_tl vS))
          | some q => exact lv_astore hx hb hd hl.has hlt rfl (fun ls2 h2 => kk H locs ls2 hP hS (hl.store (v := vR q) rfl h2 hs2) (vL.store (v := vR q) hq hs2) (okS_tl vS))
        · cases hst
      · cases hab
    case iinc i0 n0 =>
      simp only [ab] at hab
      split at hab
      · next hc =>
        simp only [Option.some.injEq, Prod.mk.injEq] at hab
        obtain ⟨rfl, rfl, rfl, rfl, rfl⟩ := hab
        obtain ⟨rfl, hlt⟩ := hc
        simp only [ex] at hst
        split at hst
        · next x hv =>
          obtain ⟨l2, e2, hs2⟩ := lsetK_spec hst
          simp only [Option.some.injEq, Sum.inl.injEq, Prod.mk.injEq] at e2
          obtain ⟨rfl, rfl, rfl, rfl⟩ := e2
          have hm : (i0, Value.int x) ∈ clv ad 0 loc := mem_clv.mpr ⟨i0, vI x, by simp, hv, rfl⟩
          obtain ⟨kq, hkq⟩ := List.getElem?_of_mem hm
          exact lv_iinc hx hb hd hl.has hkq rfl hlt rfl (fun ls2 h2 => kk H locs ls2 hP hS (hl.store (v := vI (x + Int32.ofInt n0)) rfl h2 hs2) (vL.store (v := vI (x + Int32.ofInt n0)) trivial hs2) vS)
        · cases hst
      · cases hab
    case if_icmp c0 off =>
      simp only [ab] at hab
      split at hab
      · next hc =>
        simp only [Option.some.injEq, Prod.mk.injEq] at hab
        obtain ⟨rfl, rfl, rfl, rfl, rfl⟩ := hab
        obtain ⟨rfl, hge⟩ := hc
        have ht : (pc : Int) + off = ((((pc : Int) + off).toNat : Nat) : Int) := (Int.toNat_of_nonneg hge).symm
        simp only [ex] at hst
        split at hst
        · next y x r =>
          simp only [Option.some.injEq, Sum.inl.injEq, Prod.mk.injEq] at hst
          obtain ⟨rfl, rfl, rfl, rfl⟩ := hst
          cases c0 with
          | eq => exact lv_icmp_eq hx hb hd ht (fun q => by have z := kk H locs ls hP hS hl vL (okS_tl (okS_tl vS)); simpa only [cmpN, cnum, if_pos q] using z) (fun q => by have z := kk H locs ls hP hS hl vL (okS_tl (okS_tl vS)); simpa only [cmpN, cnum, if_neg q] using z)
          | ne => exact lv_icmp_ne hx hb hd ht (fun q => by have z := kk H locs ls hP hS hl vL (okS_tl (okS_tl vS)); simpa only [cmpN, cnum, if_neg q] using z) (fun q => by have z := kk H locs ls hP hS hl vL (okS_tl (okS_tl vS)); simpa only [cmpN, cnum, if_pos q] using z)
          | lt => exact lv_icmp_lt hx hb hd ht (fun q => by have z := kk H locs ls hP hS hl vL (okS_tl (okS_tl vS)); simpa only [cmpN, cnum, if_pos q] using z) (fun q => by have z := kk H locs ls hP hS hl vL (okS_tl (okS_tl vS)); simpa only [cmpN, cnum, if_neg q] using z)
          | ge => exact lv_icmp_ge hx hb hd ht (fun q => by have z := kk H locs ls hP hS hl vL (okS_tl (okS_tl vS)); simpa only [cmpN, cnum, if_neg (Int32.not_lt.mpr q)] using z) (fun q => by have z := kk H locs ls hP hS hl vL (okS_tl (okS_tl vS)); simpa only [cmpN, cnum, if_pos (Int32.not_le.mp q)] using z)
          | gt => exact lv_icmp_gt hx hb hd ht (fun q => by have z := kk H locs ls hP hS hl vL (okS_tl (okS_tl vS)); simpa only [cmpN, cnum, if_pos q] using z) (fun q => by have z := kk H locs ls hP hS hl vL (okS_tl (okS_tl vS)); simpa only [cmpN, cnum, if_neg q] using z)
          | le => exact lv_icmp_le hx hb hd ht (fun q => by have z := kk H locs ls hP hS hl vL (okS_tl (okS_tl vS)); simpa only [cmpN, cnum, if_neg (Int32.not_lt.mpr q)] using z) (fun q => by have z := kk H locs ls hP hS hl vL (okS_tl (okS_tl vS)); simpa only [cmpN, cnum, if_pos (Int32.not_le.mp q)] using z)
        · cases hst
      · cases hab
    case ifCond c0 off =>
      simp only [ab] at hab
      split at hab
      · next hc =>
        simp only [Option.some.injEq, Prod.mk.injEq] at hab
        obtain ⟨rfl, rfl, rfl, rfl, rfl⟩ := hab
        obtain ⟨rfl, hge⟩ := hc
        have ht : (pc : Int) + off = ((((pc : Int) + off).toNat : Nat) : Int) := (Int.toNat_of_nonneg hge).symm
        simp only [ex] at hst
        split at hst
        · next x r =>
          simp only [Option.some.injEq, Sum.inl.injEq, Prod.mk.injEq] at hst
          obtain ⟨rfl, rfl, rfl, rfl⟩ := hst
          cases c0 with
          | eq => exact lv_if_eq hx hb hd ht (fun q => by have z := kk H locs ls hP hS hl vL (okS_tl vS); simpa only [cmpN, cnum, if_pos q] using z) (fun q => by have z := kk H locs ls hP hS hl vL (okS_tl vS); simpa only [cmpN, cnum, if_neg q] using z)
          | ne => exact lv_if_ne hx hb hd ht (fun q => by have z := kk H locs ls hP hS hl vL (okS_tl vS); simpa only [cmpN, cnum, if_neg q] using z) (fun q => by have z := kk H locs ls hP hS hl vL (okS_tl vS); simpa only [cmpN, cnum, if_pos q] using z)
          | lt => exact lv_if_lt hx hb hd ht (fun q => by have z := kk H locs ls hP hS hl vL (okS_tl vS); simpa only [cmpN, cnum, if_pos q] using z) (fun q => by have z := kk H locs ls hP hS hl vL (okS_tl vS); simpa only [cmpN, cnum, if_neg q] using z)
          | ge => exact lv_if_ge hx hb hd ht (fun q => by have z := kk H locs ls hP hS hl vL (okS_tl vS); simpa only [cmpN, cnum, if_neg (Int32.not_lt.mpr q)] using z) (fun q => by have z := kk H locs ls hP hS hl vL (okS_tl vS); simpa only [cmpN, cnum, if_pos (Int32.not_le.mp q)] using z)
          | gt => exact lv_if_gt hx hb hd ht (fun q => by have z := kk H locs ls hP hS hl vL (okS_tl vS); simpa only [cmpN, cnum, if_pos q] using z) (fun q => by have z := kk H locs ls hP hS hl vL (okS_tl vS); simpa only [cmpN, cnum, if_neg q] using z)
          | le => exact lv_if_le hx hb hd ht (fun q => by have z := kk H locs ls hP hS hl vL (okS_tl vS); simpa only [cmpN, cnum, if_neg (Int32.not_lt.mpr q)] using z) (fun q => by have z := kk H locs ls hP hS hl vL (okS_tl vS); simpa only [cmpN, cnum, if_pos (Int32.not_le.mp q)] using z)
        · cases hst
      · cases hab
    case goto off =>
      simp only [ab] at hab
      split at hab
      · next hc =>
        simp only [Option.some.injEq, Prod.mk.injEq] at hab
        obtain ⟨rfl, rfl, rfl, rfl, rfl⟩ := hab
        obtain ⟨rfl, hge⟩ := hc
        have ht : (pc : Int) + off = ((((pc : Int) + off).toNat : Nat) : Int) := (Int.toNat_of_nonneg hge).symm
        simp only [ex] at hst
        simp only [Option.some.injEq, Sum.inl.injEq, Prod.mk.injEq] at hst
        obtain ⟨rfl, rfl, rfl, rfl⟩ := hst
        exact lv_goto hx hb hd ht (kk H locs ls hP hS hl vL  vS)
      · cases hab
    case ifnull off =>
      simp only [ab] at hab
      split at hab
      · next hc =>
        simp only [Option.some.injEq, Prod.mk.injEq] at hab
        obtain ⟨rfl, rfl, rfl, rfl, rfl⟩ := hab
        obtain ⟨rfl, hge⟩ := hc
        have ht : (pc : Int) + off = ((((pc : Int) + off).toNat : Nat) : Int) := (Int.toNat_of_nonneg hge).symm
        simp only [ex] at hst
        split at hst
        · next r =>
          simp only [Option.some.injEq, Sum.inl.injEq, Prod.mk.injEq] at hst
          obtain ⟨rfl, rfl, rfl, rfl⟩ := hst
          exact lv_ifnullN hx hb hd ht (kk H locs ls hP hS hl vL  (okS_tl vS))
        · next q r =>
          simp only [Option.some.injEq, Sum.inl.injEq, Prod.mk.injEq] at hst
          obtain ⟨rfl, rfl, rfl, rfl⟩ := hst
          exact lv_ifnull hx hb hd (kk H locs ls hP hS hl vL  (okS_tl vS))
        · cases hst
      · cases hab
    case ifnonnull off =>
      simp only [ab] at hab
      split at hab
      · next hc =>
        simp only [Option.some.injEq, Prod.mk.injEq] at hab
        obtain ⟨rfl, rfl, rfl, rfl, rfl⟩ := hab
        obtain ⟨rfl, hge⟩ := hc
        have ht : (pc : Int) + off = ((((pc : Int) + off).toNat : Nat) : Int) := (Int.toNat_of_nonneg hge).symm
        simp only [ex] at hst
        split at hst
        · next r =>
          simp only [Option.some.injEq, Sum.inl.injEq, Prod.mk.injEq] at hst
          obtain ⟨rfl, rfl, rfl, rfl⟩ := hst
          exact lv_ifnonnullN hx hb hd (kk H locs ls hP hS hl vL  (okS_tl vS))
        · next q r =>
          simp only [Option.some.injEq, Sum.inl.injEq, Prod.mk.injEq] at hst
          obtain ⟨rfl, rfl, rfl, rfl⟩ := hst
          exact lv_ifnonnull hx hb hd ht (kk H locs ls hP hS hl vL  (okS_tl vS))
        · cases hst
      · cases hab
    case getfield idx =>
      simp only [ab] at hab
      split at hab
      · next hc =>
        subst hc
        have hgo : ∀ (cl0 k0 : Nat) (flag : Int32), cl0 < 5 → k0 < nfld cl0 → (k, a, nx, tg, cc) = (8, cl0, pc + 3, k0, flag) → (∀ (v : Value) (q0 : Nat) (a0 : Nat) (fs : List Value) (rest : List Value), (cells ad cI cQ h)[q0]? = some (a0, .inr (cl0, fs)) → fs[k0]? = some v → W p l e R s m args below meth c H locs 0 0 Q (F0 m (pc + 3) ls (v :: rest)) → W p l e R s m args below meth c H locs 0 0 Q (F0 m pc ls (.ref a0 :: rest))) → W p l e R s m args below meth c H locs 0 0 Q (F0 m pc ls (stk.map (conc ad))) := by
          intro cl0 k0 flag hc5 hk5 hop row
          simp only [Prod.mk.injEq] at hop
          obtain ⟨rfl, rfl, rfl, rfl, rfl⟩ := hop
          simp only [ex] at hst
          split at hst
          · next q r =>
            have hq : q ∈ allP := okS_hd vS
            cases hbq : Nat.beq q.1 a with
            | false => rw [hbq] at hst; cases hst
            | true =>
              rw [hbq] at hst
              have hqa : q.1 = a := Nat.eq_of_beq_eq_true hbq
              subst hqa
              obtain ⟨q0, hq0, hce⟩ := cells_at (ad := ad) (cI := cI) (cQ := cQ) (h := h) hq
              rw [ent_obj hc5] at hce
              have hfs : ∀ v, fval ad h q tg = v → ((List.range (nfld q.1)).map (fval ad h q))[tg]? = some v := by
                intro v hv
                rw [List.getElem?_map, List.getElem?_range hk5, Option.map_some, hv]
              cases hsh : shp q tg with
              | some z =>
                simp only [cond_true, hsh] at hst
                simp only [Option.some.injEq, Sum.inl.injEq, Prod.mk.injEq] at hst
                obtain ⟨rfl, rfl, rfl, rfl⟩ := hst
                have hz : okV (.inr (.inl z)) := by
                  cases z with
                  | none => trivial
                  | some z => exact shp_in hq hk5 hsh
                exact row _ _ _ _ _ hce (hfs _ (by unfold fval; rw [hsh])) (kk H locs ls hP hS hl vL (okS_cons hz (okS_tl vS)))
              | none =>
                simp only [cond_true, hsh] at hst
                simp only [Option.some.injEq, Sum.inl.injEq, Prod.mk.injEq] at hst
                obtain ⟨rfl, rfl, rfl, rfl⟩ := hst
                exact row _ _ _ _ _ hce (hfs _ (by unfold fval; rw [hsh]; rfl)) (kk H locs ls hP hS hl vL (okS_cons (v := vI (h q tg)) trivial (okS_tl vS)))
          · cases hst
        split at hab
        · next cl0 k0 hf =>
          obtain ⟨hlw, hc5, hk5⟩ := fl_in hf
          simp only [Option.some.injEq] at hab
          exact hgo cl0 k0 0 hc5 hk5 hab.symm (fun v q0 a0 fs rest he hv K => va_get hx hb hts (fun w hw => GW_in (lays_in hc5 w hw)) hown hK hP q0 he (vw_at hc5) k0 hk5 (hts _ (GW_in hlw)) (fun x hx2 => by rw [← cOwn hc5 hk5]; exact hx2) hv hd K)
        · split at hab
          · next cl0 k0 hf =>
            obtain ⟨hlw, hc5, hk5⟩ := fnl_in hf
            simp only [Option.some.injEq] at hab
            exact hgo cl0 k0 1 hc5 hk5 hab.symm (fun v q0 a0 fs rest he hv K => va_getN hx hb hts (fun w hw => GW_in (lays_in hc5 w hw)) hown hK hP q0 he (vw_at hc5) k0 hk5 (nwl_use hN hlw) (fun x hx2 => by rw [← cOwn hc5 hk5]; exact hx2) hv hd K)
          · cases hab
      · cases hab
    case putfield idx =>
      simp only [ab] at hab
      split at hab
      · next hc =>
        subst hc
        split at hab
        · next cl0 k0 hf =>
          obtain ⟨hlw, hc5, hk5⟩ := fl_in hf
          split at hab
          · next hwh =>
            simp only [Option.some.injEq, Prod.mk.injEq] at hab
            obtain ⟨rfl, rfl, rfl, rfl, rfl⟩ := hab
            simp only [ex] at hst
            split at hst
            · next x q r =>
              have hq : q ∈ allP := okS_hd (okS_tl vS)
              cases hbq : Nat.beq q.1 cl0 with
              | false => rw [hbq] at hst; cases hst
              | true =>
                rw [hbq] at hst
                have hqa : q.1 = cl0 := Nat.eq_of_beq_eq_true hbq
                subst hqa
                obtain ⟨q0, hq0, hce⟩ := cells_at (ad := ad) (cI := cI) (cQ := cQ) (h := h) hq
                rw [ent_obj hc5] at hce
                cases hsh : shp q k0 with
                | some z => simp only [cond_true, hsh] at hst; cases hst
                | none =>
                  simp only [cond_true, hsh] at hst
                  have hgo : (∃ ty, parseFieldDescriptor (cT q.1 k0).2.2.1 = some ty ∧ narrow ty (.int x) = .int x ∧ fits ty (.int x) = true) → (cT q.1 k0).2.2.2 = false → some (Sum.inl (pc + 3, loc, r, hpt h q k0 x)) = (some (Sum.inl (pc', loc', stk', h')) : xR) → W p l e R s m args below meth c H locs 0 0 Q (F0 m pc ls (.int x :: .ref (ad q) :: r.map (conc ad))) := by
                    intro hty hfin he
                    obtain ⟨ty, ht1, ht2, ht3⟩ := hty
                    simp only [Option.some.injEq, Sum.inl.injEq, Prod.mk.injEq] at he
                    obtain ⟨rfl, rfl, rfl, rfl⟩ := he
                    refine va_put hx hb hts (fun w hw => GW_in (lays_in hc5 w hw)) (cTy q.1) (cTy_ok hc5) (cNm hc5) hown hK hP hD hS q0 hce (vw_at hc5) k0 hk5 (hts _ (GW_in hlw)) (fun x hx2 => by rw [← cOwn hc5 hk5]; exact hx2) hfin ht1 ht2 ht3 (by rw [List.length_map, List.length_range]; exact hk5) hd (fun H1 locs1 hP1 _ hS1 => ?_)
                    have hset := cells_set (ad := ad) (cI := cI) (cQ := cQ) (h := h) (h' := hpt h q k0 x) hq0 (ent_obj hc5) (fun z hz => ent_off hz)
                    have hfs : ((List.range (nfld q.1)).map (fval ad h q)).set k0 (.int x) = (List.range (nfld q.1)).map (fval ad (hpt h q k0 x) q) := by
                      apply List.ext_getElem?
                      intro j
                      rw [List.getElem?_set]
                      by_cases hj : k0 = j
                      · subst hj
                        rw [if_pos rfl, if_pos (by simpa using hk5), List.getElem?_map, List.getElem?_range hk5, Option.map_some]
                        simp [fval, hsh, hpt, hup, upd]
                      · rw [if_neg hj, List.getElem?_map, List.getElem?_map]
                        by_cases hjn : j < nfld q.1
                        · rw [List.getElem?_range hjn, Option.map_some, Option.map_some]
                          have hkk : ¬ j = k0 := fun e => hj e.symm
                          simp [fval, hpt, hup, upd, hkk]
                        · rw [List.getElem?_eq_none (by rw [List.length_range]; omega)]
                          rfl
                    rw [hfs, hset] at hP1
                    exact kk H1 locs1 ls hP1 hS1 hl vL (okS_tl (okS_tl vS))
                  cases hb4 : (Nat.beq q.1 4 && Nat.beq k0 5) with
                  | true =>
                    rw [hb4] at hst
                    simp only [cond_true] at hst
                    split at hst
                    · next hx1 =>
                      simp only [Bool.and_eq_true, Nat.beq_eq] at hb4
                      refine hgo ⟨.boolean, by rw [hb4.1, hb4.2]; decide +kernel, by show Value.int (x &&& 1) = _; rw [hx1], by rcases x_bool hx1 with rfl | rfl <;> rfl⟩ (by rw [hb4.1, hb4.2]; rfl) hst
                    · cases hst
                  | false =>
                    rw [hb4] at hst
                    simp only [cond_false] at hst
                    refine hgo ⟨.int, ?_, rfl, rfl⟩ ?_ hst
                    · rcases hwh with e | e | e
                      · simp only [Prod.mk.injEq] at e; rw [e.1, e.2]; decide +kernel
                      · simp only [Prod.mk.injEq] at e; rw [e.1, e.2]; decide +kernel
                      · simp only [Prod.mk.injEq] at e; rw [e.1, e.2] at hb4; cases hb4
                    · rcases hwh with e | e | e
                      · simp only [Prod.mk.injEq] at e; rw [e.1, e.2]; rfl
                      · simp only [Prod.mk.injEq] at e; rw [e.1, e.2]; rfl
                      · simp only [Prod.mk.injEq] at e; rw [e.1, e.2]; rfl
            · cases hst
          · cases hab
        · cases hab
      · cases hab
    case iaload =>
      simp only [ab] at hab
      split at hab
      · next hc =>
        subst hc
        simp only [Option.some.injEq, Prod.mk.injEq] at hab
        obtain ⟨rfl, rfl, rfl, rfl, rfl⟩ := hab
        simp only [ex] at hst
        split at hst
        · next i q r =>
          have hq : q ∈ allP := okS_hd (okS_tl vS)
          cases hbq : Nat.ble 10 q.1 with
          | false => rw [hbq] at hst; cases hst
          | true =>
            rw [hbq] at hst
            have h10 : 10 ≤ q.1 := Nat.le_of_ble_eq_true hbq
            obtain ⟨q0, hq0, hce⟩ := cells_at (ad := ad) (cI := cI) (cQ := cQ) (h := h) hq
            rw [ent_arr h10] at hce
            simp only [cond_true] at hst
            split at hst
            · next hin =>
              simp only [Option.some.injEq, Sum.inl.injEq, Prod.mk.injEq] at hst
              obtain ⟨rfl, rfl, rfl, rfl⟩ := hst
              exact va_iald hx hb hK hP q0 0 hce rfl (inb_vp hin) hd (kk H locs ls hP hS hl vL (okS_cons (v := vI (h q i.toNatClampNeg)) trivial (okS_tl (okS_tl vS))))
            · cases hst
        · cases hst
      · cases hab
    case iastore =>
      simp only [ab] at hab
      split at hab
      · next hc =>
        subst hc
        simp only [Option.some.injEq, Prod.mk.injEq] at hab
        obtain ⟨rfl, rfl, rfl, rfl, rfl⟩ := hab
        simp only [ex] at hst
        split at hst
        · next x i q r =>
          have hq : q ∈ allP := okS_hd (okS_tl (okS_tl vS))
          cases hbq : Nat.ble 10 q.1 with
          | false => rw [hbq] at hst; cases hst
          | true =>
            rw [hbq] at hst
            have h10 : 10 ≤ q.1 := Nat.le_of_ble_eq_true hbq
            obtain ⟨q0, hq0, hce⟩ := cells_at (ad := ad) (cI := cI) (cQ := cQ) (h := h) hq
            rw [ent_arr h10] at hce
            simp only [cond_true] at hst
            split at hst
            · next hin =>
              simp only [Option.some.injEq, Sum.inl.injEq, Prod.mk.injEq] at hst
              obtain ⟨rfl, rfl, rfl, rfl⟩ := hst
              refine va_iast hx hb hK hP hD hS q0 0 hce rfl (inb_vp hin) hd (fun H1 locs1 hP1 _ hS1 => ?_)
              have hset := cells_set (ad := ad) (cI := cI) (cQ := cQ) (h := h) (h' := hpt h q i.toNatClampNeg x) hq0 (ent_arr h10) (fun z hz => ent_off hz)
              have hat : hpt h q i.toNatClampNeg x q = upd (h q) i.toNatClampNeg x := hup_at
              rw [hat] at hset
              rw [hset] at hP1
              exact kk H1 locs1 ls hP1 hS1 hl vL (okS_tl (okS_tl (okS_tl vS)))
            · cases hst
        · cases hst
      · cases hab
    case aaload =>
      simp only [ab] at hab
      split at hab
      · next hc =>
        subst hc
        simp only [Option.some.injEq, Prod.mk.injEq] at hab
        obtain ⟨rfl, rfl, rfl, rfl, rfl⟩ := hab
        simp only [ex] at hst
        split at hst
        · next i q r =>
          have hq : q ∈ allP := okS_hd (okS_tl vS)
          cases hbq : Nat.beq q.1 5 with
          | false => rw [hbq] at hst; cases hst
          | true =>
            rw [hbq] at hst
            have h5 : q.1 = 5 := Nat.eq_of_beq_eq_true hbq
            obtain ⟨q0, hq0, hce⟩ := cells_at (ad := ad) (cI := cI) (cQ := cQ) (h := h) hq
            rw [ent_row h5] at hce
            simp only [cond_true] at hst
            split at hst
            · next hin =>
              simp only [Option.some.injEq, Sum.inl.injEq, Prod.mk.injEq] at hst
              obtain ⟨rfl, rfl, rfl, rfl⟩ := hst
              obtain ⟨j, hj, ej⟩ := vp_in_of (inb_vp hin) (by decide)
              have hok : okV (vR (1, i.toNatClampNeg)) := by
                show (1, i.toNatClampNeg) ∈ allP
                rw [ej, nI_clamp (by omega)]
                rcases (show j = 0 ∨ j = 1 ∨ j = 2 by omega) with rfl | rfl | rfl <;> decide
              exact va_aldq hx hb hK hP q0 1 hce rfl (inb_vp hin) hd (kk H locs ls hP hS hl vL (okS_cons (v := vR (1, i.toNatClampNeg)) hok (okS_tl (okS_tl vS))))
            · cases hst
        · cases hst
      · cases hab
    case dup =>
      simp only [ab] at hab
      split at hab
      · next hc =>
        subst hc
        simp only [Option.some.injEq, Prod.mk.injEq] at hab
        obtain ⟨rfl, rfl, rfl, rfl, rfl⟩ := hab
        simp only [ex] at hst
        split at hst
        · cases hst
        · next v r hnl =>
          have hj : isJ v = false := by
            match v with
            | .inl _ => rfl
            | .inr (.inl _) => rfl
            | .inr (.inr z) => exact absurd rfl (hnl z)
          simp only [Option.some.injEq, Sum.inl.injEq, Prod.mk.injEq] at hst
          obtain ⟨rfl, rfl, rfl, rfl⟩ := hst
          exact lv_dup hx hb hd (conc_cat ad hj) (kk H locs ls hP hS hl vL (okS_cons (okS_hd vS) vS))
        · cases hst
      · cases hab
    case dup2 =>
      simp only [ab] at hab
      split at hab
      · next hc =>
        subst hc
        simp only [Option.some.injEq, Prod.mk.injEq] at hab
        obtain ⟨rfl, rfl, rfl, rfl, rfl⟩ := hab
        simp only [ex] at hst
        split at hst
        · cases hst
        · cases hst
        · next v z r hnl hnl2 =>
          have hj : isJ v = false := by
            match v with
            | .inl _ => rfl
            | .inr (.inl _) => rfl
            | .inr (.inr y) => exact absurd rfl (hnl y)
          have hj2 : isJ z = false := by
            match z with
            | .inl _ => rfl
            | .inr (.inl _) => rfl
            | .inr (.inr y) => exact absurd rfl (hnl2 y)
          simp only [Option.some.injEq, Sum.inl.injEq, Prod.mk.injEq] at hst
          obtain ⟨rfl, rfl, rfl, rfl⟩ := hst
          exact lv_dup2_11 hx hb hd (conc_cat ad hj) (conc_cat ad hj2) (kk H locs ls hP hS hl vL (okS_cons (okS_hd vS) (okS_cons (okS_hd (okS_tl vS)) vS)))
        · cases hst
      · cases hab
    case pop =>
      simp only [ab] at hab
      split at hab
      · next hc =>
        subst hc
        simp only [Option.some.injEq, Prod.mk.injEq] at hab
        obtain ⟨rfl, rfl, rfl, rfl, rfl⟩ := hab
        simp only [ex] at hst
        split at hst
        · cases hst
        · next v r hnl =>
          have hj : isJ v = false := by
            match v with
            | .inl _ => rfl
            | .inr (.inl _) => rfl
            | .inr (.inr z) => exact absurd rfl (hnl z)
          simp only [Option.some.injEq, Sum.inl.injEq, Prod.mk.injEq] at hst
          obtain ⟨rfl, rfl, rfl, rfl⟩ := hst
          exact lv_pop hx hb hd (conc_cat ad hj) (kk H locs ls hP hS hl vL (okS_tl vS))
        · cases hst
      · cases hab
    case i2l =>
      simp only [ab] at hab
      split at hab
      · next hc =>
        simp only [Option.some.injEq, Prod.mk.injEq] at hab
        obtain ⟨rfl, rfl, rfl, rfl, rfl⟩ := hab
        subst hc
        simp only [ex] at hst
        split at hst
        · next x r =>
          simp only [Option.some.injEq, Sum.inl.injEq, Prod.mk.injEq] at hst
          obtain ⟨rfl, rfl, rfl, rfl⟩ := hst
          exact lv_i2l hx hb hd rfl (kk H locs ls hP hS hl vL (okS_cons (v := vJ x.toInt64) trivial (okS_tl vS)))
        · cases hst
      · cases hab
    case ldc2_w idx =>
      simp only [ab] at hab
      split at hab
      · next hc =>
        simp only [Option.some.injEq, Prod.mk.injEq] at hab
        obtain ⟨rfl, rfl, rfl, rfl, rfl⟩ := hab
        obtain ⟨rfl, hwh⟩ := hc
        simp only [ex] at hst
        simp only [Option.some.injEq, Sum.inl.injEq, Prod.mk.injEq] at hst
        obtain ⟨rfl, rfl, rfl, rfl⟩ := hst
        have hcl : (Cond.constantLong (cn (mOwn mi)) idx 4294967296).before args s = true := by
          rcases hwh with e | e
          · simp only [Prod.mk.injEq] at e; rw [e.1, e.2]; exact hts _ (GW_in (okW_in cl_in.1))
          · simp only [Prod.mk.injEq] at e; rw [e.1, e.2]; exact hts _ (GW_in (okW_in cl_in.2))
        exact lv_ldc2 hx hb hown hcl hd (kk H locs ls hP hS hl vL (okS_cons (v := vJ 4294967296) trivial vS))
      · cases hab
    case invokestatic idx =>
      simp only [ab] at hab
      split at hab
      · next hc =>
        subst hc
        split at hab
        · next mj hv =>
          split at hab
          · simp only [Option.some.injEq, Prod.mk.injEq] at hab
            obtain ⟨rfl, rfl, rfl, rfl, rfl⟩ := hab
            simp only [ex, exS] at hst
            obtain ⟨pre, rest, -, -, h3⟩ := takeK_spec hst
            cases hbq : Nat.ble (catL rest) 8 <;> rw [hbq] at h3 <;> cases h3
          · cases hab
        · split at hab
          · next mj hv =>
            split at hab
            · simp only [Option.some.injEq, Prod.mk.injEq] at hab
              obtain ⟨rfl, rfl, rfl, rfl, rfl⟩ := hab
              simp only [ex, exS] at hst
              obtain ⟨pre, rest, -, -, h3⟩ := takeK_spec hst
              cases hbq : Nat.ble (catL rest) 8 <;> rw [hbq] at h3 <;> cases h3
            · cases hab
          · split at hab
            · next hwh =>
              simp only [Option.some.injEq, Prod.mk.injEq] at hab
              obtain ⟨rfl, rfl, rfl, rfl, rfl⟩ := hab
              obtain ⟨hown0, rfl⟩ := hwh
              simp only [ex] at hst
              split at hst
              · next n0 dp q sp pq r =>
                have hqd : q ∈ allP := okS_hd (okS_tl (okS_tl vS))
                have hqs : pq ∈ allP := okS_hd (okS_tl (okS_tl (okS_tl (okS_tl vS))))
                cases hbq : (Nat.beq pq.1 10 && Nat.beq q.1 10 && Nat.ble (catL r) 8) with
                | false => rw [hbq] at hst; cases hst
                | true =>
                  rw [hbq] at hst
                  simp only [Bool.and_eq_true, Nat.beq_eq] at hbq
                  simp only [cond_true] at hst
                  split at hst
                  · next hn =>
                    obtain ⟨rfl, rfl, rfl⟩ := hn
                    simp only [Option.some.injEq, Sum.inl.injEq, Prod.mk.injEq] at hst
                    obtain ⟨rfl, rfl, rfl, rfl⟩ := hst
                    obtain ⟨q0, hq0, hce⟩ := cells_at (ad := ad) (cI := cI) (cQ := cQ) (h := h) hqs
                    obtain ⟨q1, hq1, hce1⟩ := cells_at (ad := ad) (cI := cI) (cQ := cQ) (h := h) hqd
                    rw [ent_arr (by omega), hbq.1.1] at hce
                    rw [ent_arr (by omega), hbq.1.2] at hce1
                    have z0 : (0 : Int32).toNatClampNeg = 0 := rfl
                    have z5 : (512 : Int32).toNatClampNeg = 512 := rfl
                    rw [hown0] at hown
                    have hcat := catL_eq ad r
                    have hle : catL r ≤ 8 := Nat.le_of_ble_eq_true hbq.2
                    have hnf : nativeFrameWords "java/lang/System" "arraycopy" 5 = 7 := by decide +kernel
                    refine va_copyi hx hb (hml.trans hl.1.symm) hown (hts _ (GW_in (okW_in ac_in.1))) (hts _ (GW_in (okW_in ac_in.2.1))) (hts _ (GW_in (okW_in ac_in.2.2.1))) (hts _ (GW_in (okW_in ac_in.2.2.2))) hK hP hD hS q0 q1 0 0 hce hce1 rfl rfl rfl (by decide) (by decide) (by decide) (by rw [z0, z5]; decide) (by rw [z0, z5]; decide) (fun i _ => rfl) hr1 (by rw [hcat, hnf]; omega) hd (fun H1 locs1 hP1 _ hS1 => ?_)
                    rw [z0, z5] at hP1
                    have hset := cells_set (ad := ad) (cI := cI) (cQ := cQ) (h := h) (h' := hup h q (va_cpy (h pq) (h q) 0 0 512)) hq1 (ent_arr (by omega)) (fun z hz => ent_off hz)
                    rw [hup_at, hbq.1.2] at hset
                    rw [show alen 10 = 512 from rfl] at hset hP1
                    rw [hset] at hP1
                    exact kk H1 locs1 ls hP1 hS1 hl vL (okS_tl (okS_tl (okS_tl (okS_tl (okS_tl vS)))))
                  · cases hst
              · cases hst
            · cases hab
      · cases hab
    case invokevirtual idx =>
      simp only [ab] at hab
      split at hab
      · next hc =>
        subst hc
        split at hab
        · next mj hv =>
          split at hab
          · simp only [Option.some.injEq, Prod.mk.injEq] at hab
            obtain ⟨rfl, rfl, rfl, rfl, rfl⟩ := hab
            simp only [ex, exV] at hst
            obtain ⟨pre, rest, -, -, h3⟩ := takeK_spec hst
            split at h3
            · next q r => 
              cases hbq : (Nat.beq q.1 ((16 * mOwn mj + mN mj) / 16) && Nat.ble (catL r) 8) <;> rw [hbq] at h3 <;> cases h3
            · cases h3
          · cases hab
        · cases hab
      · cases hab
    case ireturn =>
      simp only [ab] at hab
      split at hab
      · next hc =>
        subst hc
        split at hab
        · simp only [Option.some.injEq, Prod.mk.injEq] at hab
          obtain ⟨rfl, rfl, rfl, rfl, rfl⟩ := hab
          simp only [ex] at hst
          split at hst <;> first | cases hst | (split at hst <;> cases hst)
        · split at hab
          · simp only [Option.some.injEq, Prod.mk.injEq] at hab
            obtain ⟨rfl, rfl, rfl, rfl, rfl⟩ := hab
            simp only [ex] at hst
            split at hst <;> first | cases hst | (split at hst <;> cases hst)
          · cases hab
      · cases hab
    case areturn =>
      simp only [ab] at hab
      split at hab
      · next hc =>
        simp only [Option.some.injEq, Prod.mk.injEq] at hab
        obtain ⟨rfl, rfl, rfl, rfl, rfl⟩ := hab
        simp only [ex] at hst
        split at hst <;> first | cases hst | (split at hst <;> cases hst)
      · cases hab
    case lreturn =>
      simp only [ab] at hab
      split at hab
      · next hc =>
        simp only [Option.some.injEq, Prod.mk.injEq] at hab
        obtain ⟨rfl, rfl, rfl, rfl, rfl⟩ := hab
        simp only [ex] at hst
        split at hst <;> first | cases hst | (split at hst <;> cases hst)
      · cases hab
    case return_ =>
      simp only [ab] at hab
      split at hab
      · next hc =>
        simp only [Option.some.injEq, Prod.mk.injEq] at hab
        obtain ⟨rfl, rfl, rfl, rfl, rfl⟩ := hab
        simp only [ex] at hst
        split at hst <;> first | cases hst | (split at hst <;> cases hst)
      · cases hab
    all_goals (simp only [ab] at hab; cases hab)
end STEP
