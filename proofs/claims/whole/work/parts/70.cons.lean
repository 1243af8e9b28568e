/-! ===== constructors ===== -/
theorem cons_x0 {U : State} {D : va_G} {tys : List (ClassId × FieldType)} {cA cB : ClassId} (i j : Nat) (hK : va_K D vwCl tys U) (hi : tys[i]? = some (cA, .int)) (hj : tys[j]? = some (cB, .int)) : cB = cA := by
  have h1 : U.vm.findClass ("[" ++ (FieldType.int).toString) = some cA := (hK.2 i _ hi).2
  have h2 : U.vm.findClass ("[" ++ (FieldType.int).toString) = some cB := (hK.2 j _ hj).2
  exact Option.some.inj (h2.symm.trans h1)
set_option maxHeartbeats 4000000 in
set_option maxRecDepth 100000 in
/-- ClusterFile(): 512 zeroes -/
theorem k_X0_init (l : Launch) (D : va_G) (cI cQ : ClassId) (h0 sz : Nat) : Met l yX0_init (wsM 0) ({ frames := 1, cells := 1, slots := 512, locals := 12 }) (va_Pc [.ref h0] fun U => U.heap.size = sz ∧ va_P D vwCl [(h0, .inr (0, [.null]))] U.heap ∧ va_K D vwCl (xtys cI cQ) U ∧ va_D (fun _ => True) [(h0, .inr (0, [.null]))])
    (va_Qv (fun _ : Unit => True) (fun _ t => ∃ q, va_P D vwCl [(h0, .inr (0, [.ref q])), (q, .inl (cI, 512, .inl fun _ => 0))] t.heap ∧ va_D (va_A [(h0, .inr (0, [.null]))] sz) [(h0, .inr (0, [.ref q])), (q, .inl (cI, 512, .inl fun _ => 0))]) (va_A [(h0, .inr (0, [.null]))] sz)) 1 512 (va_A [(h0, .inr (0, [.null]))] sz) := by
  refine Met.ofW (cc := cX0_init) (maxL := 1) (ret := none) (by decide) rfl ?_
  intro p e s m args below meth c s₁ B hml hv
  obtain ⟨rfl, hsz, hP, hK, hD0⟩ := hv
  have hx := B.exec
  have hb := B.bytes
  have hr := B.returns
  have hts := atoms_spec (ws := wsM 0) B.pre
  have htw : ∀ w, okW w = true → w.before _ s = true := fun w h => hts w (GW_in (okW_in h))
  have hown : s.vm.findClass RX0 = some m.cls := findClass_of_methodNamed B.named
  have hin : meth.name = "<init>" := (name_of_methodNamed B.named B.method).1
  subst hsz
  have hD := hD0.self (sz := s.heap.size)
  generalize hAe : va_A [(h0, .inr (0, [.null]))] s.heap.size = A at hD ⊢
  have hA : ∀ q : Nat, s.heap.size ≤ q → A q := fun q h => by rw [← hAe]; exact Or.inr h
  have hS : va_S A s.heap s.heap [] := va_S.rf
  have hl := lv_entry ([.ref h0]) (n := 1) (Nat.le_of_ble_eq_true rfl)
  rw [lg_entry_eq]
  generalize (lg_sl ([.ref h0]) ++ List.replicate (1 - (lg_sl ([.ref h0])).length) Slot.unset).toArray = ls at hl ⊢
  have hl : lv_has ls 1 [(0, .ref h0)] := hl
  refine lv_aload_n hx hb dX0_init_0 rfl (lv_at hl 0 rfl) ?_
  refine W.objInit hx hb hown (htw (.methodLink RX0 3 objectInit) (by decide +kernel)) (htw (.instanceMethod objectInit) (by decide +kernel)) (htw (.code objectInit ⟨#[0xb1]⟩ 1 none) (by decide +kernel)) rfl (by rw [hml]; exact hl.1) rfl dX0_init_1 (Nat.le_of_ble_eq_true rfl) (Nat.le_of_ble_eq_true rfl) ?_
  refine W.eq (g2 := F0 m 4 ls []) rfl ?_
  refine lv_aload_n hx hb dX0_init_4 rfl (lv_at hl 0 rfl) ?_
  refine lv_sipush hx hb dX0_init_5 rfl ?_
  refine va_newa (atype := .int) (ty := .int) (N' := 512) (a0 := (512, .inl fun _ => 0)) hx hb (htw (.arrayClass .int) (by decide +kernel)) rfl hK hP hD hS hA (fun _ => rfl) (by decide) (by decide) (Nat.le_of_ble_eq_true rfl) (Nat.le_of_ble_eq_true rfl) (Nat.le_of_ble_eq_true rfl) dX0_init_8 (fun q cA H hK2 hP hD hS => ?_)
  have e : cA = cI := cons_x0 0 2 hK2 rfl rfl
  subst e
  refine va_putF (ci := 0) (v := .ref q) (ty := .array .int) (C := RX0) (T := TX0) (N := 1) hx hb hts (fun w hw => GW_in (lays_in (c := 0) (by decide) w hw)) tyX0 tyX0_ok nmX0 hown hK hP hD hS 0 rfl rfl 0 (by decide) (htw (.fieldLink RX0 9 "LayeredImage$ClusterFile" "words" "[I") (by decide +kernel)) (fun _ h9 => h9) rfl hin rfl (by decide +kernel) rfl rfl (Nat.le_of_ble_eq_true rfl) dX0_init_10 (fun H locs hP hD hS => ?_)
  exact W.vret hx hb hr (fun t ht hW => ⟨⟨(), rfl, trivial, q, by rw [ht]; exact hP, hD⟩, hS.F ht⟩) hS.2.2 dX0_init_13
set_option maxHeartbeats 4000000 in
set_option maxRecDepth 100000 in
/-- Reader(): twice 64 zeroes -/
theorem k_X2_init (l : Launch) (D : va_G) (cI cQ : ClassId) (h0 sz : Nat) : Met l yX2_init (wsM 48) ({ frames := 1, cells := 2, slots := 128, locals := 12 }) (va_Pc [.ref h0] fun U => U.heap.size = sz ∧ va_P D vwCl [(h0, .inr (2, [.null, .null]))] U.heap ∧ va_K D vwCl (xtys cI cQ) U ∧ va_D (fun _ => True) [(h0, .inr (2, [.null, .null]))])
    (va_Qv (fun _ : Unit => True) (fun _ t => ∃ q1 q2, va_P D vwCl [(h0, .inr (2, [.ref q1, .ref q2])), (q1, .inl (cI, 64, .inl fun _ => 0)), (q2, .inl (cI, 64, .inl fun _ => 0))] t.heap ∧ va_D (va_A [(h0, .inr (2, [.null, .null]))] sz) [(h0, .inr (2, [.ref q1, .ref q2])), (q1, .inl (cI, 64, .inl fun _ => 0)), (q2, .inl (cI, 64, .inl fun _ => 0))]) (va_A [(h0, .inr (2, [.null, .null]))] sz)) 2 128 (va_A [(h0, .inr (2, [.null, .null]))] sz) := by
  refine Met.ofW (cc := cX2_init) (maxL := 1) (ret := none) (by decide) rfl ?_
  intro p e s m args below meth c s₁ B hml hv
  obtain ⟨rfl, hsz, hP, hK, hD0⟩ := hv
  have hx := B.exec
  have hb := B.bytes
  have hr := B.returns
  have hts := atoms_spec (ws := wsM 48) B.pre
  have htw : ∀ w, okW w = true → w.before _ s = true := fun w h => hts w (GW_in (okW_in h))
  have hown : s.vm.findClass RX2 = some m.cls := findClass_of_methodNamed B.named
  have hin : meth.name = "<init>" := (name_of_methodNamed B.named B.method).1
  subst hsz
  have hD := hD0.self (sz := s.heap.size)
  generalize hAe : va_A [(h0, .inr (2, [.null, .null]))] s.heap.size = A at hD ⊢
  have hA : ∀ q : Nat, s.heap.size ≤ q → A q := fun q h => by rw [← hAe]; exact Or.inr h
  have hS : va_S A s.heap s.heap [] := va_S.rf
  have hl := lv_entry ([.ref h0]) (n := 1) (Nat.le_of_ble_eq_true rfl)
  rw [lg_entry_eq]
  generalize (lg_sl ([.ref h0]) ++ List.replicate (1 - (lg_sl ([.ref h0])).length) Slot.unset).toArray = ls at hl ⊢
  have hl : lv_has ls 1 [(0, .ref h0)] := hl
  refine lv_aload_n hx hb dX2_init_0 rfl (lv_at hl 0 rfl) ?_
  refine W.objInit hx hb hown (htw (.methodLink RX2 5 objectInit) (by decide +kernel)) (htw (.instanceMethod objectInit) (by decide +kernel)) (htw (.code objectInit ⟨#[0xb1]⟩ 1 none) (by decide +kernel)) rfl (by rw [hml]; exact hl.1) rfl dX2_init_1 (Nat.le_of_ble_eq_true rfl) (Nat.le_of_ble_eq_true rfl) ?_
  refine W.eq (g2 := F0 m 4 ls []) rfl ?_
  refine lv_aload_n hx hb dX2_init_4 rfl (lv_at hl 0 rfl) ?_
  refine lv_bipush hx hb dX2_init_5 rfl ?_
  refine va_newa (atype := .int) (ty := .int) (N' := 64) (a0 := (64, .inl fun _ => 0)) hx hb (htw (.arrayClass .int) (by decide +kernel)) rfl hK hP hD hS hA (fun _ => rfl) (by decide) (by decide) (Nat.le_of_ble_eq_true rfl) (Nat.le_of_ble_eq_true rfl) (Nat.le_of_ble_eq_true rfl) dX2_init_7 (fun q1 cA H hK2 hP hD hS => ?_)
  have e : cA = cI := cons_x0 0 2 hK2 rfl rfl
  subst e
  refine va_putF (ci := 2) (v := .ref q1) (ty := .array .int) (C := RX2) (T := TX2) (N := 2) hx hb hts (fun w hw => GW_in (lays_in (c := 2) (by decide) w hw)) tyX2 tyX2_ok nmX2 hown hK hP hD hS 0 rfl rfl 0 (by decide) (htw (.fieldLink RX2 11 "LayeredImage$Reader" "uses" "[I") (by decide +kernel)) (fun _ h9 => h9) rfl hin rfl (by decide +kernel) rfl rfl (Nat.le_of_ble_eq_true rfl) dX2_init_9 (fun H locs hP hD hS => ?_)
  refine lv_aload_n hx hb dX2_init_12 rfl (lv_at hl 0 rfl) ?_
  refine lv_bipush hx hb dX2_init_13 rfl ?_
  refine va_newa (atype := .int) (ty := .int) (N' := 64) (a0 := (64, .inl fun _ => 0)) hx hb (htw (.arrayClass .int) (by decide +kernel)) rfl hK hP hD hS hA (fun _ => rfl) (by decide) (by decide) (Nat.le_of_ble_eq_true rfl) (Nat.le_of_ble_eq_true rfl) (Nat.le_of_ble_eq_true rfl) dX2_init_15 (fun q2 cA2 H hK2 hP hD hS => ?_)
  have e : cA2 = cA := cons_x0 0 2 hK2 rfl rfl
  subst e
  refine va_putF (ci := 2) (v := .ref q2) (ty := .array .int) (C := RX2) (T := TX2) (N := 2) hx hb hts (fun w hw => GW_in (lays_in (c := 2) (by decide) w hw)) tyX2 tyX2_ok nmX2 hown hK hP hD hS 0 rfl rfl 1 (by decide) (htw (.fieldLink RX2 15 "LayeredImage$Reader" "counts" "[I") (by decide +kernel)) (fun _ h9 => h9) rfl hin rfl (by decide +kernel) rfl rfl (Nat.le_of_ble_eq_true rfl) dX2_init_17 (fun H locs hP hD hS => ?_)
  exact W.vret hx hb hr (fun t ht hW => ⟨⟨(), rfl, trivial, q1, q2, by rw [ht]; exact hP, hD⟩, hS.F ht⟩) hS.2.2 dX2_init_20
