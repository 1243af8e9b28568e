/-! ===== constructors: an image ===== -/
set_option maxHeartbeats 4000000 in
set_option maxRecDepth 100000 in
/-- Image(below) -/
theorem k_X1_init_n (l : Launch) (D : va_G) (cI cQ : ClassId) (h0 sz : Nat) : Met l yX1_init (wsM 13) ({ frames := 2, cells := 2, slots := 513, locals := 32 }) (va_Pc [.ref h0, .null] fun U => U.heap.size = sz ∧ va_P D vwCl [(h0, .inr (1, [.null, .null]))] U.heap ∧ va_K D vwCl (xtys cI cQ) U ∧ va_D (fun _ => True) [(h0, .inr (1, [.null, .null]))])
    (va_Qv (fun _ : Unit => True) (fun _ t => ∃ f q, va_P D vwCl [(h0, .inr (1, [.ref f, .null])), (f, .inr (0, [.ref q])), (q, .inl (cI, 512, .inl fun _ => 0))] t.heap ∧ va_D (va_A [(h0, .inr (1, [.null, .null]))] sz) [(h0, .inr (1, [.ref f, .null])), (f, .inr (0, [.ref q])), (q, .inl (cI, 512, .inl fun _ => 0))]) (va_A [(h0, .inr (1, [.null, .null]))] sz)) 2 513 (va_A [(h0, .inr (1, [.null, .null]))] sz) := by
  refine Met.ofW (cc := cX1_init) (maxL := 2) (ret := none) (by decide) rfl ?_
  intro p e s m args below meth c s₁ B hml hv
  obtain ⟨rfl, hsz, hP, hK, hD0⟩ := hv
  have hx := B.exec
  have hb := B.bytes
  have hr := B.returns
  have hts := atoms_spec (ws := wsM 13) B.pre
  have htw : ∀ w, okW w = true → w.before _ s = true := fun w h => hts w (GW_in (okW_in h))
  have hown : s.vm.findClass RX1 = some m.cls := findClass_of_methodNamed B.named
  have hin : meth.name = "<init>" := (name_of_methodNamed B.named B.method).1
  subst hsz
  have hD := hD0.self (sz := s.heap.size)
  generalize hAe : va_A [(h0, .inr (1, [.null, .null]))] s.heap.size = A at hD ⊢
  have hA : ∀ q : Nat, s.heap.size ≤ q → A q := fun q h => by rw [← hAe]; exact Or.inr h
  have hS : va_S A s.heap s.heap [] := va_S.rf
  have hl := lv_entry ([.ref h0, .null]) (n := 2) (Nat.le_of_ble_eq_true rfl)
  rw [lg_entry_eq]
  generalize (lg_sl ([.ref h0, .null]) ++ List.replicate (2 - (lg_sl ([.ref h0, .null])).length) Slot.unset).toArray = ls at hl ⊢
  have hl : lv_has ls 2 [(0, .ref h0), (1, .null)] := hl
  refine lv_aload_n hx hb dX1_init_0 rfl (lv_at hl 0 rfl) ?_
  refine W.objInit hx hb hown (htw (.methodLink RX1 3 objectInit) (by decide +kernel)) (htw (.instanceMethod objectInit) (by decide +kernel)) (htw (.code objectInit ⟨#[0xb1]⟩ 1 none) (by decide +kernel)) rfl (by rw [hml]; exact hl.1) rfl dX1_init_1 (Nat.le_of_ble_eq_true rfl) (Nat.le_of_ble_eq_true rfl) ?_
  refine W.eq (g2 := F0 m 4 ls []) rfl ?_
  refine lv_aload_n hx hb dX1_init_4 rfl (lv_at hl 0 rfl) ?_
  refine va_new (ci := 0) (fs := [.null]) (C := RX0) (T := TX0) (N := 1) hx hb hts (fun w hw => GW_in (lays_in (c := 0) (by decide) w hw)) tyX0 tyX0_ok hown (htw (.classLink RX1 9 RX0) (by decide +kernel)) (htw (.instantiable RX0 1) (by decide +kernel)) (htw (.initialized RX0) (by decide +kernel)) hK hP hD hS hA rfl (fun j hj => by rcases (show j = 0 by omega) with rfl; rfl) (Nat.le_of_ble_eq_true rfl) (Nat.le_of_ble_eq_true rfl) dX1_init_5 (fun q5 H hP hD hS => ?_)
  refine lv_dup hx hb dX1_init_8 rfl ?_
  have hPc := hP.sub (ws' := [(q5, .inr (0, [.null]))]) [1] rfl
  have hDc := hD.sub (ws' := [(q5, .inr (0, [.null]))]) [1] (by decide) rfl
  have hFc := va_free (wc := [(q5, .inr (0, [.null]))]) hD hS hA [1] rfl
  refine va_callv (va_runI (As := []) (rest := [.ref q5, .ref h0]) ⟨hx, hb, hml, hown, hts⟩ (k_X0_init l D cI cQ q5 H.size) (cwI (maxL := 1) (bytes := cX0_init) 0 hts (wsM_good (mi := 13) (mj := 0) (by decide)) rfl rfl rfl (htw (.initialized RX0) (by decide +kernel)) (htw (.methodLink RX1 11 yX0_init) (by decide +kernel)) (htw (.instanceMethod yX0_init) (by decide +kernel)) rfl (by decide +kernel) ⟨Nat.le_of_ble_eq_true rfl, Nat.le_of_ble_eq_true rfl⟩) ⟨fun a U g mk q => by obtain ⟨q0, q1, qP, qK, qD⟩ := q; exact ⟨q0, q1, qP, va_K.moved (u := U) (U := U.calling g mk a) (Vm.Alike.refl U.vm) qK, qD⟩, fun U hU hW => ⟨rfl, by rw [hU], by rw [hU]; exact hPc, va_K.moved hW.alike hK, hDc.weaken (fun _ _ _ _ => trivial)⟩⟩ rfl rfl hl.1 rfl (lv_room (Nat.le_of_ble_eq_true rfl)) dX1_init_9 ⟨Nat.le_of_ble_eq_true rfl, Nat.le_of_ble_eq_true rfl⟩) hS (fun q _ h => hFc q h) hFc (fun u t H1 locs ht hvm h5 hB hz1 hk1 hS => ?_)
  obtain ⟨q, hP1, hD1⟩ := hB
  rw [ht] at hP1
  obtain ⟨hP, hD⟩ := va_join (wr := [(h0, .inr (1, [.null, .null]))]) (w1 := [(q5, .inr (0, [.ref q])), (q, .inl (cI, 512, .inl fun _ => 0))]) hP hD [1] [0] rfl rfl (by decide) (by decide) hk1 hFc hP1 hD1
  refine va_putF (ci := 1) (v := .ref q5) (ty := .object "LayeredImage$ClusterFile") (C := RX1) (T := TX1) (N := 2) hx hb hts (fun w hw => GW_in (lays_in (c := 1) (by decide) w hw)) tyX1 tyX1_ok nmX1 hown hK hP hD hS 0 rfl rfl 0 (by decide) (htw (.fieldLink RX1 12 "LayeredImage$Image" "file" "LLayeredImage$ClusterFile;") (by decide +kernel)) (fun _ h9 => h9) rfl hin rfl (by decide +kernel) rfl rfl (Nat.le_of_ble_eq_true rfl) dX1_init_12 (fun H locs hP hD hS => ?_)
  refine lv_aload_n hx hb dX1_init_15 rfl (lv_at hl 0 rfl) ?_
  refine lv_aload_nN hx hb dX1_init_16 rfl (lv_at hl 1 rfl) ?_
  refine va_putF (ci := 1) (v := .null) (ty := .object "LayeredImage$Image") (C := RX1) (T := TX1) (N := 2) hx hb hts (fun w hw => GW_in (lays_in (c := 1) (by decide) w hw)) tyX1 tyX1_ok nmX1 hown hK hP hD hS 0 rfl rfl 1 (by decide) (htw (.fieldLink RX1 18 "LayeredImage$Image" "below" "LLayeredImage$Image;") (by decide +kernel)) (fun _ h9 => h9) rfl hin rfl (by decide +kernel) rfl rfl (Nat.le_of_ble_eq_true rfl) dX1_init_17 (fun H locs hP hD hS => ?_)
  exact W.vret hx hb hr (fun t ht hW => ⟨⟨(), rfl, trivial, q5, q, by rw [ht]; exact hP, hD⟩, hS.F ht⟩) hS.2.2 dX1_init_20
set_option maxHeartbeats 4000000 in
set_option maxRecDepth 100000 in
/-- Image(below) -/
theorem k_X1_init_r (l : Launch) (D : va_G) (cI cQ : ClassId) (h0 b sz : Nat) : Met l yX1_init (wsM 13) ({ frames := 2, cells := 2, slots := 513, locals := 32 }) (va_Pc [.ref h0, .ref b] fun U => U.heap.size = sz ∧ va_P D vwCl [(h0, .inr (1, [.null, .null]))] U.heap ∧ va_K D vwCl (xtys cI cQ) U ∧ va_D (fun _ => True) [(h0, .inr (1, [.null, .null]))])
    (va_Qv (fun _ : Unit => True) (fun _ t => ∃ f q, va_P D vwCl [(h0, .inr (1, [.ref f, .ref b])), (f, .inr (0, [.ref q])), (q, .inl (cI, 512, .inl fun _ => 0))] t.heap ∧ va_D (va_A [(h0, .inr (1, [.null, .null]))] sz) [(h0, .inr (1, [.ref f, .ref b])), (f, .inr (0, [.ref q])), (q, .inl (cI, 512, .inl fun _ => 0))]) (va_A [(h0, .inr (1, [.null, .null]))] sz)) 2 513 (va_A [(h0, .inr (1, [.null, .null]))] sz) := by
  refine Met.ofW (cc := cX1_init) (maxL := 2) (ret := none) (by decide) rfl ?_
  intro p e s m args below meth c s₁ B hml hv
  obtain ⟨rfl, hsz, hP, hK, hD0⟩ := hv
  have hx := B.exec
  have hb := B.bytes
  have hr := B.returns
  have hts := atoms_spec (ws := wsM 13) B.pre
  have htw : ∀ w, okW w = true → w.before _ s = true := fun w h => hts w (GW_in (okW_in h))
  have hown : s.vm.findClass RX1 = some m.cls := findClass_of_methodNamed B.named
  have hin : meth.name = "<init>" := (name_of_methodNamed B.named B.method).1
  subst hsz
  have hD := hD0.self (sz := s.heap.size)
  generalize hAe : va_A [(h0, .inr (1, [.null, .null]))] s.heap.size = A at hD ⊢
  have hA : ∀ q : Nat, s.heap.size ≤ q → A q := fun q h => by rw [← hAe]; exact Or.inr h
  have hS : va_S A s.heap s.heap [] := va_S.rf
  have hl := lv_entry ([.ref h0, .ref b]) (n := 2) (Nat.le_of_ble_eq_true rfl)
  rw [lg_entry_eq]
  generalize (lg_sl ([.ref h0, .ref b]) ++ List.replicate (2 - (lg_sl ([.ref h0, .ref b])).length) Slot.unset).toArray = ls at hl ⊢
  have hl : lv_has ls 2 [(0, .ref h0), (1, .ref b)] := hl
  refine lv_aload_n hx hb dX1_init_0 rfl (lv_at hl 0 rfl) ?_
  refine W.objInit hx hb hown (htw (.methodLink RX1 3 objectInit) (by decide +kernel)) (htw (.instanceMethod objectInit) (by decide +kernel)) (htw (.code objectInit ⟨#[0xb1]⟩ 1 none) (by decide +kernel)) rfl (by rw [hml]; exact hl.1) rfl dX1_init_1 (Nat.le_of_ble_eq_true rfl) (Nat.le_of_ble_eq_true rfl) ?_
  refine W.eq (g2 := F0 m 4 ls []) rfl ?_
  refine lv_aload_n hx hb dX1_init_4 rfl (lv_at hl 0 rfl) ?_
  refine va_new (ci := 0) (fs := [.null]) (C := RX0) (T := TX0) (N := 1) hx hb hts (fun w hw => GW_in (lays_in (c := 0) (by decide) w hw)) tyX0 tyX0_ok hown (htw (.classLink RX1 9 RX0) (by decide +kernel)) (htw (.instantiable RX0 1) (by decide +kernel)) (htw (.initialized RX0) (by decide +kernel)) hK hP hD hS hA rfl (fun j hj => by rcases (show j = 0 by omega) with rfl; rfl) (Nat.le_of_ble_eq_true rfl) (Nat.le_of_ble_eq_true rfl) dX1_init_5 (fun q5 H hP hD hS => ?_)
  refine lv_dup hx hb dX1_init_8 rfl ?_
  have hPc := hP.sub (ws' := [(q5, .inr (0, [.null]))]) [1] rfl
  have hDc := hD.sub (ws' := [(q5, .inr (0, [.null]))]) [1] (by decide) rfl
  have hFc := va_free (wc := [(q5, .inr (0, [.null]))]) hD hS hA [1] rfl
  refine va_callv (va_runI (As := []) (rest := [.ref q5, .ref h0]) ⟨hx, hb, hml, hown, hts⟩ (k_X0_init l D cI cQ q5 H.size) (cwI (maxL := 1) (bytes := cX0_init) 0 hts (wsM_good (mi := 13) (mj := 0) (by decide)) rfl rfl rfl (htw (.initialized RX0) (by decide +kernel)) (htw (.methodLink RX1 11 yX0_init) (by decide +kernel)) (htw (.instanceMethod yX0_init) (by decide +kernel)) rfl (by decide +kernel) ⟨Nat.le_of_ble_eq_true rfl, Nat.le_of_ble_eq_true rfl⟩) ⟨fun a U g mk q => by obtain ⟨q0, q1, qP, qK, qD⟩ := q; exact ⟨q0, q1, qP, va_K.moved (u := U) (U := U.calling g mk a) (Vm.Alike.refl U.vm) qK, qD⟩, fun U hU hW => ⟨rfl, by rw [hU], by rw [hU]; exact hPc, va_K.moved hW.alike hK, hDc.weaken (fun _ _ _ _ => trivial)⟩⟩ rfl rfl hl.1 rfl (lv_room (Nat.le_of_ble_eq_true rfl)) dX1_init_9 ⟨Nat.le_of_ble_eq_true rfl, Nat.le_of_ble_eq_true rfl⟩) hS (fun q _ h => hFc q h) hFc (fun u t H1 locs ht hvm h5 hB hz1 hk1 hS => ?_)
  obtain ⟨q, hP1, hD1⟩ := hB
  rw [ht] at hP1
  obtain ⟨hP, hD⟩ := va_join (wr := [(h0, .inr (1, [.null, .null]))]) (w1 := [(q5, .inr (0, [.ref q])), (q, .inl (cI, 512, .inl fun _ => 0))]) hP hD [1] [0] rfl rfl (by decide) (by decide) hk1 hFc hP1 hD1
  refine va_putF (ci := 1) (v := .ref q5) (ty := .object "LayeredImage$ClusterFile") (C := RX1) (T := TX1) (N := 2) hx hb hts (fun w hw => GW_in (lays_in (c := 1) (by decide) w hw)) tyX1 tyX1_ok nmX1 hown hK hP hD hS 0 rfl rfl 0 (by decide) (htw (.fieldLink RX1 12 "LayeredImage$Image" "file" "LLayeredImage$ClusterFile;") (by decide +kernel)) (fun _ h9 => h9) rfl hin rfl (by decide +kernel) rfl rfl (Nat.le_of_ble_eq_true rfl) dX1_init_12 (fun H locs hP hD hS => ?_)
  refine lv_aload_n hx hb dX1_init_15 rfl (lv_at hl 0 rfl) ?_
  refine lv_aload_n hx hb dX1_init_16 rfl (lv_at hl 1 rfl) ?_
  refine va_putF (ci := 1) (v := .ref b) (ty := .object "LayeredImage$Image") (C := RX1) (T := TX1) (N := 2) hx hb hts (fun w hw => GW_in (lays_in (c := 1) (by decide) w hw)) tyX1 tyX1_ok nmX1 hown hK hP hD hS 0 rfl rfl 1 (by decide) (htw (.fieldLink RX1 18 "LayeredImage$Image" "below" "LLayeredImage$Image;") (by decide +kernel)) (fun _ h9 => h9) rfl hin rfl (by decide +kernel) rfl rfl (Nat.le_of_ble_eq_true rfl) dX1_init_17 (fun H locs hP hD hS => ?_)
  exact W.vret hx hb hr (fun t ht hW => ⟨⟨(), rfl, trivial, q5, q, by rw [ht]; exact hP, hD⟩, hS.F ht⟩) hS.2.2 dX1_init_20
