/-! ===== constructors: the class's format ===== -/
theorem goodG {mi : Nat} {ws : List Cond} (h : ws.all okW = true) : GoodIn (wsM mi) ws := fun w hw => ⟨GW_in (okW_in (List.all_eq_true.mp h w hw)), good_of_word (GW_good (okW_in (List.all_eq_true.mp h w hw)))⟩
set_option maxHeartbeats 4000000 in
set_option maxRecDepth 100000 in
theorem k_X0_put (l : Launch) (D : va_G) (cI cQ : ClassId) (h0 a sz : Nat) (f : Nat → Int32) (c j : Nat) (x : Int32) (hc : c < 64) (hj : j < 8) : Met l yX0_put (wsM 2) ({ frames := 1, cells := 0, slots := 0, locals := 12 }) (va_Pc [.ref h0, .int (nI c), .int (nI j), .int x] fun U => U.heap.size = sz ∧ va_P D vwCl [(h0, .inr (0, [.ref a])), (a, .inl (cI, 512, .inl f))] U.heap ∧ va_K D vwCl (xtys cI cQ) U ∧ va_D (fun _ => True) [(h0, .inr (0, [.ref a])), (a, .inl (cI, 512, .inl f))])
    (va_Qv (fun _ : Unit => True) (fun _ t => va_P D vwCl [(h0, .inr (0, [.ref a])), (a, .inl (cI, 512, .inl (upd f (8 * c + j) x)))] t.heap ∧ va_D (va_A [(h0, .inr (0, [.ref a])), (a, .inl (cI, 512, .inl f))] sz) [(h0, .inr (0, [.ref a])), (a, .inl (cI, 512, .inl (upd f (8 * c + j) x)))]) (va_A [(h0, .inr (0, [.ref a])), (a, .inl (cI, 512, .inl f))] sz)) 0 0 (va_A [(h0, .inr (0, [.ref a])), (a, .inl (cI, 512, .inl f))] sz) := by
  refine Met.ofW (cc := cX0_put) (maxL := 4) (ret := none) (by decide) rfl ?_
  intro p e s m args below meth cc s₁ B hml hv
  obtain ⟨rfl, hsz, hP, hK, hD0⟩ := hv
  have hx := B.exec
  have hb := B.bytes
  have hr := B.returns
  have hts := atoms_spec (ws := wsM 2) B.pre
  have htw : ∀ w, okW w = true → w.before _ s = true := fun w h => hts w (GW_in (okW_in h))
  have hown : s.vm.findClass RX0 = some m.cls := findClass_of_methodNamed B.named
  skip
  subst hsz
  have hD := hD0.self (sz := s.heap.size)
  generalize hAe : va_A [(h0, .inr (0, [.ref a])), (a, .inl (cI, 512, .inl f))] s.heap.size = A at hD ⊢
  have hA : ∀ q : Nat, s.heap.size ≤ q → A q := fun q h => by rw [← hAe]; exact Or.inr h
  have hS : va_S A s.heap s.heap [] := va_S.rf
  have hl := lv_entry ([.ref h0, .int (nI c), .int (nI j), .int x]) (n := 4) (Nat.le_of_ble_eq_true rfl)
  rw [lg_entry_eq]
  generalize (lg_sl ([.ref h0, .int (nI c), .int (nI j), .int x]) ++ List.replicate (4 - (lg_sl ([.ref h0, .int (nI c), .int (nI j), .int x])).length) Slot.unset).toArray = ls at hl ⊢
  have hl : lv_has ls 4 [(0, .ref h0), (1, .int (nI c)), (2, .int (nI j)), (3, .int x)] := hl
  refine lv_aload_n hx hb dX0_put_0 rfl (lv_at hl 0 rfl) ?_
  refine va_get (ci := 0) (v := .ref a) (C := RX0) (T := TX0) (N := 1) hx hb hts (fun w hw => GW_in (lays_in (c := 0) (by decide) w hw)) hown hK hP 0 rfl rfl 0 (by decide) (htw (.fieldLink RX0 9 "LayeredImage$ClusterFile" "words" "[I") (by decide +kernel)) (fun _ h9 => h9) rfl dX0_put_1 ?_
  refine lv_iload_n hx hb dX0_put_4 rfl (lv_at hl 1 rfl) ?_
  refine lv_bipush hx hb dX0_put_5 rfl ?_
  refine lv_iand hx hb dX0_put_7 ?_
  refine lv_bipush hx hb dX0_put_8 rfl ?_
  refine lv_imul hx hb dX0_put_10 ?_
  refine lv_iload_n hx hb dX0_put_11 rfl (lv_at hl 2 rfl) ?_
  refine lv_bipush hx hb dX0_put_12 rfl ?_
  refine lv_iand hx hb dX0_put_14 ?_
  refine lv_iadd hx hb dX0_put_15 ?_
  refine lv_topi (fun z ez => ?_)
  have ez2 : z = nI (8 * c + j) := by
    rw [ez]
    show (nI c &&& nI 63) * nI 8 + (nI j &&& nI 7) = _
    rw [nand63 hc, nand7 hj, pk_mul, nI_add]
    congr 1
    omega
  subst ez2
  refine lv_iload_n hx hb dX0_put_16 rfl (lv_at hl 3 rfl) ?_
  refine va_iast hx hb hK hP hD hS 1 0 rfl rfl (inb_vp (inN (show 8 * c + j < 512 by omega) (by decide))) dX0_put_17 (fun H locs hP hD hS => ?_)
  rw [nI_clamp (show 8 * c + j < 2147483648 by omega)] at hP hD
  exact W.vret hx hb hr (fun t ht hW => ⟨⟨(), rfl, trivial, by rw [ht]; exact hP, hD⟩, hS.F ht⟩) hS.2.2 dX0_put_18
