/-! ===== the law, from its entry ===== -/
theorem goodC : GoodIn lw_tbl (Cond.code yL_cell cL_cell 2 (some .int) :: GW) := by
  intro w hw
  rcases List.mem_cons.mp hw with rfl | h
  · have hg := okW_in (w := Cond.code yL_cell cL_cell 2 (some .int)) (by decide +kernel)
    exact ⟨GW_tbl hg, good_of_word (GW_good hg)⟩
  · exact ⟨GW_tbl h, good_of_word (GW_good h)⟩
theorem row_mk {D : va_G} {A : Nat → Prop} {ws ws' : va_W} {H : Heap} {q5 i0 i1 i2 : Nat} {cQ : ClassId} (p : Nat) (hP : va_P D vwCl ws H) (hD : va_D A ws) (hp : ws[p]? = some (q5, .inl (cQ, 3, .inr (.inr (.inr (.inr (va_up (va_up (va_up (fun _ => none) 0 (some i0)) 1 (some i1)) 2 (some i2)))))))) (he : ws.set p (q5, .inl (cQ, 3, .inr (.inr (.inr (.inr fun j => some (mk1 i0 i1 i2 j)))))) = ws') : va_P D vwCl ws' H ∧ va_D A ws' := by
  have h1 := hP p _ hp
  rw [← he]
  refine ⟨hP.set (H1 := H) hD hp ?_ (fun _ _ => rfl), hD.set hp⟩
  refine Eq.trans h1 (congrArg some ?_)
  show vp_cell _ _ = vp_cell _ _
  rw [vp_cell_q, vp_cell_q]
  exact arrV_eq3 rfl rfl rfl
set_option maxHeartbeats 16000000 in
set_option maxRecDepth 100000 in
theorem whole_start {p : Program} {e : Env} {s : State} {m : MethodId} {below : List Frame} {meth : Method} {c : Code} (l : Launch) (hflags : l.flags = flags0) {b L : Nat} {xs : Nat → Int32} (hL : L ≤ 385) (C0 : lw_At p s m meth c b L xs) : W p l e room_1 s m #[Value.ref b] below meth c s.heap [] 0 0 (lw_Z below #[Value.ref b] s) (entryFrame m ([Value.ref b] : List Value).toArray 4) := by
  have C1 := C0
  obtain ⟨hx, hb0, hr, hml, hown, hts, hX, hbl, hlocks, hgv⟩ := C1
  have hb : c.code = cL_law := hb0
  have hA : ∀ q : Nat, s.heap.size ≤ q → (fun q : Nat => s.heap.size ≤ q) q := fun _ h => h
  have hbA : ¬ (fun q : Nat => s.heap.size ≤ q) b := Nat.not_le.mpr hbl
  obtain ⟨D, cI, cQ, hK, hN, hAO⟩ := entry_K hts
  have hS : va_S (fun q : Nat => s.heap.size ≤ q) s.heap s.heap [] := va_S.rf
  have hP : va_P D vwCl [] s.heap := fun k q h => by simp at h
  have hD : va_D (fun q : Nat => s.heap.size ≤ q) [] := ⟨fun i j p q h => by simp at h, fun k q h => by simp at h⟩
  have hl := lv_entry ([.ref b]) (n := 4) (Nat.le_of_ble_eq_true rfl)
  rw [lg_entry_eq]
  generalize (lg_sl ([.ref b]) ++ List.replicate (4 - (lg_sl ([.ref b])).length) Slot.unset).toArray = ls at hl ⊢
  have hl : lv_has ls 4 [(0, .ref b)] := hl

  refine va_new (ci := 3) (fs := [.null, .int 0, .null, .null]) (C := RX3) (T := TX3) (N := 4) hx hb hts (fun w hw => GW_tbl (lays_in (c := 3) (by decide) w hw)) tyX3 tyX3_ok hown (hts (.classLink R_law 7 RX3) (by decide +kernel)) (hts (.instantiable RX3 4) (by decide +kernel)) (hts (.initialized RX3) (by decide +kernel)) hK hP hD hS hA rfl (fun j hj => by rcases (show j = 0 ∨ j = 1 ∨ j = 2 ∨ j = 3 by omega) with rfl | rfl | rfl | rfl <;> rfl) (Nat.le_of_ble_eq_true rfl) (Nat.le_of_ble_eq_true rfl) dL_law_0 (fun h3 H hP hD hS => ?_)
  have hP : va_P D vwCl [(h3, .inr (3, [.null, .int 0, .null, .null]))] H := hP
  have hD : va_D (fun q : Nat => s.heap.size ≤ q) [(h3, .inr (3, [.null, .int 0, .null, .null]))] := hD
  refine lv_dup hx hb dL_law_3 rfl ?_
  refine lv_aload_n hx hb dL_law_4 rfl (lv_at hl 0 rfl) ?_
  refine lv_iconst (v := 0) hx hb dL_law_5 (by decide) ?_
  refine va_calli (va_runS (As := [.ref b, .int 0]) (rest := [.ref h3, .ref h3]) ⟨hx, hb, hml, hown, hts⟩ (k_cell l b L H.size xs hL) (cwS 2 hts (goodA (goodL1 (by decide +kernel)) goodC) rfl rfl rfl (by decide +kernel) ⟨Nat.le_of_ble_eq_true rfl, Nat.le_of_ble_eq_true rfl⟩) ⟨fun a U g mk q => by obtain ⟨q0, q1, qX, qb⟩ := q; exact ⟨q0, q1, va_X.moved (u := U) (U := U.calling g mk a) (Vm.Alike.refl U.vm) qX, qb⟩, fun U hU hW => ⟨rfl, by rw [hU], by rw [hU]; exact va_X.moved hW.alike (hX.kept (hS.2.1 b hbl hbA)), by rw [hU]; exact Nat.lt_of_lt_of_le hbl hS.1⟩⟩ rfl rfl hl.1 rfl (lv_room (Nat.le_of_ble_eq_true rfl)) dL_law_6 ⟨Nat.le_of_ble_eq_true rfl, Nat.le_of_ble_eq_true rfl⟩) hS (fun q _ h => Nat.le_trans hS.1 h) (fun q h => Nat.le_trans hS.1 h) (fun r u t H1 locs ht hvm h5 hB hz1 hk1 hS => ?_)
  have hP := hP.kept (H1 := H1) (fun k q hq => hk1 q.1 ((hP k q hq).lt) (Nat.not_le.mpr ((hP k q hq).lt)))
  generalize H1 = H at hP hS hk1 hz1 ⊢
  have h5a := h5
  obtain ⟨n, hn1, hn2, hn⟩ := clamp_ok r
  have hFc := va_free (wc := [(h3, .inr (3, [.null, .int 0, .null, .null]))]) hD hS hA [0] rfl
  refine va_callv (va_runI (As := [.int r]) (rest := [.ref h3]) ⟨hx, hb, hml, hown, hts⟩ (k_X3_init l D cI cQ h3 H.size r n hn) (cwI (maxL := 5) (bytes := cX3_init) 1 hts (goodL2 (mj := 65) (by decide)) rfl rfl rfl (hts (.initialized RX3) (by decide +kernel)) (hts (.methodLink R_law 15 yX3_init) (by decide +kernel)) (hts (.instanceMethod yX3_init) (by decide +kernel)) rfl (by decide +kernel) ⟨Nat.le_of_ble_eq_true rfl, Nat.le_of_ble_eq_true rfl⟩) ⟨fun a U g mk q => by obtain ⟨q0, q1, qP, qK, qD, qN, qA⟩ := q; exact ⟨q0, q1, qP, va_K.moved (u := U) (U := U.calling g mk a) (Vm.Alike.refl U.vm) qK, qD, NW.same (u := U) (U := U.calling g mk a) rfl qN, va_AO.moved (u := U) (U := U.calling g mk a) (Vm.Alike.refl U.vm) qA⟩, fun U hU hW => ⟨rfl, by rw [hU], by rw [hU]; exact hP, va_K.moved hW.alike hK, hD.weaken (fun _ _ _ _ => trivial), NW.warm hW hN, va_AO.moved hW.alike hAO⟩⟩ rfl rfl hl.1 rfl (lv_room (Nat.le_of_ble_eq_true rfl)) dL_law_9 ⟨Nat.le_of_ble_eq_true rfl, Nat.le_of_ble_eq_true rfl⟩) hS (fun q _ h => hFc q h) hFc (fun u t H1 locs ht hvm h5 hB hz1 hk1 hS => ?_)
  obtain ⟨f0, f1, f2, f3, i0, i1, i2, r0, q5, w0, w1, w2, w3, u0, u1, hP, hD1⟩ := hB
  have hD := hD1.weaken (B := (fun q : Nat => s.heap.size ≤ q)) (fun _ q _ hq => hFc q.1 hq)
  clear hD1
  rw [ht] at hP
  generalize H1 = H at hP hS ⊢
  refine lv_astore_n (lv' := [(1, .ref h3), (0, .ref b)]) hx hb dL_law_12 rfl hl (by decide) rfl (fun ls hl => ?_)
  refine va_new (ci := 4) (fs := [.null, .null, .int 0, .null, .null, .int 0, .null]) (C := RX4) (T := TX4) (N := 7) hx hb hts (fun w hw => GW_tbl (lays_in (c := 4) (by decide) w hw)) tyX4 tyX4_ok hown (hts (.classLink R_law 18 RX4) (by decide +kernel)) (hts (.instantiable RX4 7) (by decide +kernel)) (hts (.initialized RX4) (by decide +kernel)) hK hP hD hS hA rfl (fun j hj => by rcases (show j = 0 ∨ j = 1 ∨ j = 2 ∨ j = 3 ∨ j = 4 ∨ j = 5 ∨ j = 6 by omega) with rfl | rfl | rfl | rfl | rfl | rfl | rfl <;> rfl) (Nat.le_of_ble_eq_true rfl) (Nat.le_of_ble_eq_true rfl) dL_law_13 (fun h4 H hP hD hS => ?_)
  have hP : va_P D vwCl [(f0, .inr (0, [.ref w0])), (f1, .inr (0, [.ref w1])), (f2, .inr (0, [.ref w2])), (f3, .inr (0, [.ref w3])), (i0, .inr (1, [.ref f0, .null])), (i1, .inr (1, [.ref f1, .ref i0])), (i2, .inr (1, [.ref f2, .ref i1])), (r0, .inr (2, [.ref u0, .ref u1])), (h3, .inr (3, [.ref q5, .int (nI 1), .ref f3, .ref r0])), (q5, .inl (cQ, 3, .inr (.inr (.inr (.inr (va_up (va_up (va_up (fun _ => none) 0 (some i0)) 1 (some i1)) 2 (some i2))))))), (w0, .inl (cI, 512, .inl (E (newF n)))), (w1, .inl (cI, 512, .inl fun _ => 0)), (w2, .inl (cI, 512, .inl fun _ => 0)), (w3, .inl (cI, 512, .inl fun _ => 0)), (u0, .inl (cI, 64, .inl fun _ => 0)), (u1, .inl (cI, 64, .inl fun _ => 0)), (h4, .inr (4, [.null, .null, .int 0, .null, .null, .int 0, .null]))] H := hP
  have hD : va_D (fun q : Nat => s.heap.size ≤ q) [(f0, .inr (0, [.ref w0])), (f1, .inr (0, [.ref w1])), (f2, .inr (0, [.ref w2])), (f3, .inr (0, [.ref w3])), (i0, .inr (1, [.ref f0, .null])), (i1, .inr (1, [.ref f1, .ref i0])), (i2, .inr (1, [.ref f2, .ref i1])), (r0, .inr (2, [.ref u0, .ref u1])), (h3, .inr (3, [.ref q5, .int (nI 1), .ref f3, .ref r0])), (q5, .inl (cQ, 3, .inr (.inr (.inr (.inr (va_up (va_up (va_up (fun _ => none) 0 (some i0)) 1 (some i1)) 2 (some i2))))))), (w0, .inl (cI, 512, .inl (E (newF n)))), (w1, .inl (cI, 512, .inl fun _ => 0)), (w2, .inl (cI, 512, .inl fun _ => 0)), (w3, .inl (cI, 512, .inl fun _ => 0)), (u0, .inl (cI, 64, .inl fun _ => 0)), (u1, .inl (cI, 64, .inl fun _ => 0)), (h4, .inr (4, [.null, .null, .int 0, .null, .null, .int 0, .null]))] := hD
  refine lv_dup hx hb dL_law_16 rfl ?_
  refine lv_aload_n hx hb dL_law_17 rfl (lv_at hl 1 rfl) ?_
  refine lv_iconst (v := 0) hx hb dL_law_18 (by decide) ?_
  refine va_calli (va_runS (As := [.ref b, .int 0]) (rest := [.ref h4, .ref h4]) ⟨hx, hb, hml, hown, hts⟩ (k_cell l b L H.size xs hL) (cwS 2 hts (goodA (goodL1 (by decide +kernel)) goodC) rfl rfl rfl (by decide +kernel) ⟨Nat.le_of_ble_eq_true rfl, Nat.le_of_ble_eq_true rfl⟩) ⟨fun a U g mk q => by obtain ⟨q0, q1, qX, qb⟩ := q; exact ⟨q0, q1, va_X.moved (u := U) (U := U.calling g mk a) (Vm.Alike.refl U.vm) qX, qb⟩, fun U hU hW => ⟨rfl, by rw [hU], by rw [hU]; exact va_X.moved hW.alike (hX.kept (hS.2.1 b hbl hbA)), by rw [hU]; exact Nat.lt_of_lt_of_le hbl hS.1⟩⟩ rfl rfl hl.1 rfl (lv_room (Nat.le_of_ble_eq_true rfl)) dL_law_19 ⟨Nat.le_of_ble_eq_true rfl, Nat.le_of_ble_eq_true rfl⟩) hS (fun q _ h => Nat.le_trans hS.1 h) (fun q h => Nat.le_trans hS.1 h) (fun r0b u t H1 locs ht hvm h5 hB hz1 hk1 hS => ?_)
  have hP := hP.kept (H1 := H1) (fun k q hq => hk1 q.1 ((hP k q hq).lt) (Nat.not_le.mpr ((hP k q hq).lt)))
  generalize H1 = H at hP hS hk1 hz1 ⊢
  have er : r0b = r := h5.trans h5a.symm
  subst er
  have hP9 := hP.sub (ws' := [(h4, .inr (4, [.null, .null, .int 0, .null, .null, .int 0, .null])), (f0, .inr (0, [.ref w0])), (f1, .inr (0, [.ref w1])), (f2, .inr (0, [.ref w2])), (f3, .inr (0, [.ref w3])), (i0, .inr (1, [.ref f0, .null])), (i1, .inr (1, [.ref f1, .ref i0])), (i2, .inr (1, [.ref f2, .ref i1])), (r0, .inr (2, [.ref u0, .ref u1])), (h3, .inr (3, [.ref q5, .int (nI 1), .ref f3, .ref r0])), (q5, .inl (cQ, 3, .inr (.inr (.inr (.inr (va_up (va_up (va_up (fun _ => none) 0 (some i0)) 1 (some i1)) 2 (some i2))))))), (w0, .inl (cI, 512, .inl (E (newF n)))), (w1, .inl (cI, 512, .inl fun _ => 0)), (w2, .inl (cI, 512, .inl fun _ => 0)), (w3, .inl (cI, 512, .inl fun _ => 0)), (u0, .inl (cI, 64, .inl fun _ => 0)), (u1, .inl (cI, 64, .inl fun _ => 0))]) [16, 0, 1, 2, 3, 4, 5, 6, 7, 8, 9, 10, 11, 12, 13, 14, 15] rfl
  have hD9 := hD.sub (ws' := [(h4, .inr (4, [.null, .null, .int 0, .null, .null, .int 0, .null])), (f0, .inr (0, [.ref w0])), (f1, .inr (0, [.ref w1])), (f2, .inr (0, [.ref w2])), (f3, .inr (0, [.ref w3])), (i0, .inr (1, [.ref f0, .null])), (i1, .inr (1, [.ref f1, .ref i0])), (i2, .inr (1, [.ref f2, .ref i1])), (r0, .inr (2, [.ref u0, .ref u1])), (h3, .inr (3, [.ref q5, .int (nI 1), .ref f3, .ref r0])), (q5, .inl (cQ, 3, .inr (.inr (.inr (.inr (va_up (va_up (va_up (fun _ => none) 0 (some i0)) 1 (some i1)) 2 (some i2))))))), (w0, .inl (cI, 512, .inl (E (newF n)))), (w1, .inl (cI, 512, .inl fun _ => 0)), (w2, .inl (cI, 512, .inl fun _ => 0)), (w3, .inl (cI, 512, .inl fun _ => 0)), (u0, .inl (cI, 64, .inl fun _ => 0)), (u1, .inl (cI, 64, .inl fun _ => 0))]) [16, 0, 1, 2, 3, 4, 5, 6, 7, 8, 9, 10, 11, 12, 13, 14, 15] (by decide) rfl
  obtain ⟨hP, hD⟩ := row_mk (ws' := [(h4, .inr (4, [.null, .null, .int 0, .null, .null, .int 0, .null])), (f0, .inr (0, [.ref w0])), (f1, .inr (0, [.ref w1])), (f2, .inr (0, [.ref w2])), (f3, .inr (0, [.ref w3])), (i0, .inr (1, [.ref f0, .null])), (i1, .inr (1, [.ref f1, .ref i0])), (i2, .inr (1, [.ref f2, .ref i1])), (r0, .inr (2, [.ref u0, .ref u1])), (h3, .inr (3, [.ref q5, .int 1, .ref f3, .ref r0])), (q5, .inl (cQ, 3, .inr (.inr (.inr (.inr fun j => some (mk1 i0 i1 i2 j)))))), (w0, .inl (cI, 512, .inl (E (newF n)))), (w1, .inl (cI, 512, .inl fun _ => 0)), (w2, .inl (cI, 512, .inl fun _ => 0)), (w3, .inl (cI, 512, .inl fun _ => 0)), (u0, .inl (cI, 64, .inl fun _ => 0)), (u1, .inl (cI, 64, .inl fun _ => 0))]) 10 hP9 hD9 rfl rfl
  have hFc := va_free (wc := [(h4, .inr (4, [.null, .null, .int 0, .null, .null, .int 0, .null])), (f0, .inr (0, [.ref w0])), (f1, .inr (0, [.ref w1])), (f2, .inr (0, [.ref w2])), (f3, .inr (0, [.ref w3])), (i0, .inr (1, [.ref f0, .null])), (i1, .inr (1, [.ref f1, .ref i0])), (i2, .inr (1, [.ref f2, .ref i1])), (r0, .inr (2, [.ref u0, .ref u1])), (h3, .inr (3, [.ref q5, .int 1, .ref f3, .ref r0])), (q5, .inl (cQ, 3, .inr (.inr (.inr (.inr fun j => some (mk1 i0 i1 i2 j)))))), (w0, .inl (cI, 512, .inl (E (newF n)))), (w1, .inl (cI, 512, .inl fun _ => 0)), (w2, .inl (cI, 512, .inl fun _ => 0)), (w3, .inl (cI, 512, .inl fun _ => 0)), (u0, .inl (cI, 64, .inl fun _ => 0)), (u1, .inl (cI, 64, .inl fun _ => 0))]) hD hS hA [0, 1, 2, 3, 4, 5, 6, 7, 8, 9, 10, 11, 12, 13, 14, 15, 16] rfl
  refine va_callv (va_runI (As := [.int r0b]) (rest := [.ref h4]) ⟨hx, hb, hml, hown, hts⟩ (k_X4_init l D cI cQ f0 f1 f2 f3 i0 i1 i2 r0 h3 h4 q5 w0 w1 w2 w3 u0 u1 H.size r0b n hn hn1 hn2) (cwI (maxL := 2) (bytes := cX4_init) 1 hts (goodL2 (mj := 86) (by decide)) rfl rfl rfl (hts (.initialized RX4) (by decide +kernel)) (hts (.methodLink R_law 20 yX4_init) (by decide +kernel)) (hts (.instanceMethod yX4_init) (by decide +kernel)) rfl (by decide +kernel) ⟨Nat.le_of_ble_eq_true rfl, Nat.le_of_ble_eq_true rfl⟩) ⟨fun a U g mk q => by obtain ⟨q0, q1, qP, qK, qD, qN⟩ := q; exact ⟨q0, q1, qP, va_K.moved (u := U) (U := U.calling g mk a) (Vm.Alike.refl U.vm) qK, qD, NW.same (u := U) (U := U.calling g mk a) rfl qN⟩, fun U hU hW => ⟨rfl, by rw [hU], by rw [hU]; exact hP, va_K.moved hW.alike hK, hD.weaken (fun _ _ _ _ => trivial), NW.warm hW hN⟩⟩ rfl rfl hl.1 rfl (lv_room (Nat.le_of_ble_eq_true rfl)) dL_law_22 ⟨Nat.le_of_ble_eq_true rfl, Nat.le_of_ble_eq_true rfl⟩) hS (fun q _ h => hFc q h) hFc (fun u t H1 locs ht hvm h5 hB hz1 hk1 hS => ?_)
  obtain ⟨ad, f, rfl, rfl, hP, hD1⟩ := hB
  have hD := hD1.weaken (B := (fun q : Nat => s.heap.size ≤ q)) (fun _ q _ hq => hFc q.1 hq)
  clear hD1
  rw [ht] at hP
  have hIa := adI_of hD
  refine lv_astore_n (lv' := [(2, .ref (ad (4, 0))), (1, .ref (ad (3, 0))), (0, .ref b)]) hx hb dL_law_25 rfl hl (by decide) rfl (fun ls hl => ?_)
  refine lv_iconst (v := nI 1) hx hb dL_law_26 (by decide) ?_
  refine lv_istore_n (lv' := [(3, .int (nI 1)), (2, .ref (ad (4, 0))), (1, .ref (ad (3, 0))), (0, .ref b)]) hx hb dL_law_27 rfl hl (by decide) rfl (fun ls hl => ?_)
  exact law_loop hL C0 hIa hK hN (Nat.le_of_ble_eq_true rfl) (Nat.le_of_ble_eq_true rfl) (L + 7) 1 (by omega) (by omega) _ _ _ _ _ _ ls (lv_sub hl [3, 2, 1, 0] rfl) (SI_0 hn1 hn2) hP hD hS
