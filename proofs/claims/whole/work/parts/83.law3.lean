/-! ===== the calls of the law ===== -/
section LAW
variable {p : Program} {l : Launch} {e : Env} {s : State} {m : MethodId} {below : List Frame} {meth : Method} {c : Code} {b L : Nat} {xs : Nat → Int32} {D : va_G} {cI cQ : ClassId} {ad : xP → Nat} {cl sl : Nat} {h : xH} {k i : Nat} {W' U : Nat → Nat → Nat} {H : Heap} {locs : List Loc} {ls : Array Slot} {Q : State → Prop}
set_option maxHeartbeats 4000000 in
set_option maxRecDepth 100000 in
theorem law_used (hL : L ≤ 385) (C0 : lw_At p s m meth c b L xs) (hIa : adI ad) (hK : va_K D vwCl (xtys cI cQ) s) (hN : NW s) (hcl : cl ≤ room_1.cells) (hsl : sl ≤ room_1.slots) (hi : i + 5 < L) (hl : lv_has ls 4 [(0, .ref b), (1, .ref (ad (3, 0))), (2, .ref (ad (4, 0))), (3, .int (nI i))]) (S : SI k W' U h) (hP : va_P D vwCl (cells ad cI cQ h) H) (hD : va_D (fun q : Nat => s.heap.size ≤ q) (cells ad cI cQ h)) (hS : va_S (fun q : Nat => s.heap.size ≤ q) s.heap H locs)
    (kk : ∀ (h2 : xH) (k2 : Nat) (W2 U2 : Nat → Nat → Nat) (H1 : Heap) (locs1 : List Loc), SI k2 W2 U2 h2 → va_P D vwCl (cells ad cI cQ h2) H1 → va_D (fun q : Nat => s.heap.size ≤ q) (cells ad cI cQ h2) → va_S (fun q : Nat => s.heap.size ≤ q) s.heap H1 locs1 → W p l e room_1 s m #[.ref b] below meth c H1 locs1 cl sl Q (F0 m 499 ls [])) : W p l e room_1 s m #[.ref b] below meth c H locs cl sl Q (F0 m 377 ls []) := by
  obtain ⟨hx, hb0, hr, hml, hown, hts, hX, hbl, hlocks, hgv⟩ := C0
  have hb : c.code = cL_law := hb0
  have hA : ∀ q : Nat, s.heap.size ≤ q → (fun q : Nat => s.heap.size ≤ q) q := fun _ h => h
  have hbA : ¬ (fun q : Nat => s.heap.size ≤ q) b := Nat.not_le.mpr hbl
  obtain ⟨r, h1, h2, k2, W2, U2, c3, c4, S'⟩ := op_used S 
  refine lv_aload_n hx hb dL_law_377 rfl (lv_at hl 1 rfl) ?_
  refine lw_calli (q := (3, 0)) (mj := MX3_used) (bytes := cX3_used) (as := []) (As := []) (rest := []) ⟨hx, hb, hml, hown, hts⟩ hIa (by decide) rfl (okS_int (as := []) (by decide)) (nj_int (as := [])) c3 (cwV 0 hts (goodA (goodL1 (by decide +kernel)) (goodL2 (by decide))) rfl rfl rfl (by decide +kernel) ⟨Nat.le_of_ble_eq_true rfl, Nat.le_of_ble_eq_true rfl⟩) (rcv3 hK hP) rfl rfl hl.1 (Nat.le_of_ble_eq_true rfl) dL_law_378 hcl hsl hK hN hP hD hS hA (fun H locs hP hD hS => ?_)
  refine lv_aload_n hx hb dL_law_381 rfl (lv_at hl 2 rfl) ?_
  refine lw_calli (q := (4, 0)) (mj := MX4_used) (bytes := cX4_used) (as := []) (As := []) (rest := [.int r]) ⟨hx, hb, hml, hown, hts⟩ hIa (by decide) rfl (okS_int (as := []) (by decide)) (nj_int (as := [])) c4 (cwV 0 hts (goodA (goodL1 (by decide +kernel)) (goodL2 (by decide))) rfl rfl rfl (by decide +kernel) ⟨Nat.le_of_ble_eq_true rfl, Nat.le_of_ble_eq_true rfl⟩) (rcv4 hK hP) rfl rfl hl.1 (Nat.le_of_ble_eq_true rfl) dL_law_382 hcl hsl hK hN hP hD hS hA (fun H locs hP hD hS => ?_)
  refine lv_icmp_eq (tgt := 499) hx hb dL_law_385 (by decide) (fun q1 => ?_) (fun q1 => absurd rfl q1)
  exact kk h2 k2 W2 U2 _ _ S' hP hD hS
set_option maxHeartbeats 4000000 in
set_option maxRecDepth 100000 in
theorem law_word (hL : L ≤ 385) (C0 : lw_At p s m meth c b L xs) (hIa : adI ad) (hK : va_K D vwCl (xtys cI cQ) s) (hN : NW s) (hcl : cl ≤ room_1.cells) (hsl : sl ≤ room_1.slots) (hi : i + 5 < L) (hl : lv_has ls 4 [(0, .ref b), (1, .ref (ad (3, 0))), (2, .ref (ad (4, 0))), (3, .int (nI i))]) (S : SI k W' U h) (hP : va_P D vwCl (cells ad cI cQ h) H) (hD : va_D (fun q : Nat => s.heap.size ≤ q) (cells ad cI cQ h)) (hS : va_S (fun q : Nat => s.heap.size ≤ q) s.heap H locs)
    (kk : ∀ (h2 : xH) (k2 : Nat) (W2 U2 : Nat → Nat → Nat) (H1 : Heap) (locs1 : List Loc), SI k2 W2 U2 h2 → va_P D vwCl (cells ad cI cQ h2) H1 → va_D (fun q : Nat => s.heap.size ≤ q) (cells ad cI cQ h2) → va_S (fun q : Nat => s.heap.size ≤ q) s.heap H1 locs1 → W p l e room_1 s m #[.ref b] below meth c H1 locs1 cl sl Q (F0 m 499 ls [])) : W p l e room_1 s m #[.ref b] below meth c H locs cl sl Q (F0 m 390 ls []) := by
  obtain ⟨hx, hb0, hr, hml, hown, hts, hX, hbl, hlocks, hgv⟩ := C0
  have hb : c.code = cL_law := hb0
  have hA : ∀ q : Nat, s.heap.size ≤ q → (fun q : Nat => s.heap.size ≤ q) q := fun _ h => h
  have hbA : ¬ (fun q : Nat => s.heap.size ≤ q) b := Nat.not_le.mpr hbl
  obtain ⟨r, h1, h2, k2, W2, U2, c3, c4, S'⟩ := op_word S (xs (nI (i + 1)).toNatClampNeg) (xs (nI (i + 2)).toNatClampNeg)
  refine lv_aload_n hx hb dL_law_390 rfl (lv_at hl 1 rfl) ?_
  refine lv_aload_n hx hb dL_law_391 rfl (lv_at hl 0 rfl) ?_
  refine lv_iload_n hx hb dL_law_392 rfl (lv_at hl 3 rfl) ?_
  refine lv_iconst (v := nI 1) hx hb dL_law_393 (by decide) ?_
  refine lv_iadd hx hb dL_law_394 ?_
  rw [nI_add]
  refine va_sld hx hb hX hbl hbA hS (i := nI (i + 1)) (vp_in_nI (by omega) (by omega)) dL_law_395 ?_
  refine lv_aload_n hx hb dL_law_396 rfl (lv_at hl 0 rfl) ?_
  refine lv_iload_n hx hb dL_law_397 rfl (lv_at hl 3 rfl) ?_
  refine lv_iconst (v := nI 2) hx hb dL_law_398 (by decide) ?_
  refine lv_iadd hx hb dL_law_399 ?_
  rw [nI_add]
  refine va_sld hx hb hX hbl hbA hS (i := nI (i + 2)) (vp_in_nI (by omega) (by omega)) dL_law_400 ?_
  refine lw_calli (q := (3, 0)) (mj := MX3_word) (bytes := cX3_word) (as := [vI (xs (nI (i + 1)).toNatClampNeg), vI (xs (nI (i + 2)).toNatClampNeg)]) (As := [.int (xs (nI (i + 1)).toNatClampNeg), .int (xs (nI (i + 2)).toNatClampNeg)]) (rest := []) ⟨hx, hb, hml, hown, hts⟩ hIa (by decide) rfl (okS_int (as := [(xs (nI (i + 1)).toNatClampNeg), (xs (nI (i + 2)).toNatClampNeg)]) (by decide)) (nj_int (as := [(xs (nI (i + 1)).toNatClampNeg), (xs (nI (i + 2)).toNatClampNeg)])) c3 (cwV 2 hts (goodA (goodL1 (by decide +kernel)) (goodL2 (by decide))) rfl rfl rfl (by decide +kernel) ⟨Nat.le_of_ble_eq_true rfl, Nat.le_of_ble_eq_true rfl⟩) (rcv3 hK hP) rfl rfl hl.1 (Nat.le_of_ble_eq_true rfl) dL_law_401 hcl hsl hK hN hP hD hS hA (fun H locs hP hD hS => ?_)
  refine lv_aload_n hx hb dL_law_404 rfl (lv_at hl 2 rfl) ?_
  refine lv_aload_n hx hb dL_law_405 rfl (lv_at hl 0 rfl) ?_
  refine lv_iload_n hx hb dL_law_406 rfl (lv_at hl 3 rfl) ?_
  refine lv_iconst (v := nI 1) hx hb dL_law_407 (by decide) ?_
  refine lv_iadd hx hb dL_law_408 ?_
  rw [nI_add]
  refine va_sld hx hb hX hbl hbA hS (i := nI (i + 1)) (vp_in_nI (by omega) (by omega)) dL_law_409 ?_
  refine lv_aload_n hx hb dL_law_410 rfl (lv_at hl 0 rfl) ?_
  refine lv_iload_n hx hb dL_law_411 rfl (lv_at hl 3 rfl) ?_
  refine lv_iconst (v := nI 2) hx hb dL_law_412 (by decide) ?_
  refine lv_iadd hx hb dL_law_413 ?_
  rw [nI_add]
  refine va_sld hx hb hX hbl hbA hS (i := nI (i + 2)) (vp_in_nI (by omega) (by omega)) dL_law_414 ?_
  refine lw_calli (q := (4, 0)) (mj := MX4_word) (bytes := cX4_word) (as := [vI (xs (nI (i + 1)).toNatClampNeg), vI (xs (nI (i + 2)).toNatClampNeg)]) (As := [.int (xs (nI (i + 1)).toNatClampNeg), .int (xs (nI (i + 2)).toNatClampNeg)]) (rest := [.int r]) ⟨hx, hb, hml, hown, hts⟩ hIa (by decide) rfl (okS_int (as := [(xs (nI (i + 1)).toNatClampNeg), (xs (nI (i + 2)).toNatClampNeg)]) (by decide)) (nj_int (as := [(xs (nI (i + 1)).toNatClampNeg), (xs (nI (i + 2)).toNatClampNeg)])) c4 (cwV 2 hts (goodA (goodL1 (by decide +kernel)) (goodL2 (by decide))) rfl rfl rfl (by decide +kernel) ⟨Nat.le_of_ble_eq_true rfl, Nat.le_of_ble_eq_true rfl⟩) (rcv4 hK hP) rfl rfl hl.1 (Nat.le_of_ble_eq_true rfl) dL_law_415 hcl hsl hK hN hP hD hS hA (fun H locs hP hD hS => ?_)
  refine lv_icmp_eq (tgt := 499) hx hb dL_law_418 (by decide) (fun q1 => ?_) (fun q1 => absurd rfl q1)
  exact kk h2 k2 W2 U2 _ _ S' hP hD hS
set_option maxHeartbeats 4000000 in
set_option maxRecDepth 100000 in
theorem law_stage (hL : L ≤ 385) (C0 : lw_At p s m meth c b L xs) (hIa : adI ad) (hK : va_K D vwCl (xtys cI cQ) s) (hN : NW s) (hcl : cl ≤ room_1.cells) (hsl : sl ≤ room_1.slots) (hi : i + 5 < L) (hl : lv_has ls 4 [(0, .ref b), (1, .ref (ad (3, 0))), (2, .ref (ad (4, 0))), (3, .int (nI i))]) (S : SI k W' U h) (hP : va_P D vwCl (cells ad cI cQ h) H) (hD : va_D (fun q : Nat => s.heap.size ≤ q) (cells ad cI cQ h)) (hS : va_S (fun q : Nat => s.heap.size ≤ q) s.heap H locs)
    (kk : ∀ (h2 : xH) (k2 : Nat) (W2 U2 : Nat → Nat → Nat) (H1 : Heap) (locs1 : List Loc), SI k2 W2 U2 h2 → va_P D vwCl (cells ad cI cQ h2) H1 → va_D (fun q : Nat => s.heap.size ≤ q) (cells ad cI cQ h2) → va_S (fun q : Nat => s.heap.size ≤ q) s.heap H1 locs1 → W p l e room_1 s m #[.ref b] below meth c H1 locs1 cl sl Q (F0 m 499 ls [])) : W p l e room_1 s m #[.ref b] below meth c H locs cl sl Q (F0 m 423 ls []) := by
  obtain ⟨hx, hb0, hr, hml, hown, hts, hX, hbl, hlocks, hgv⟩ := C0
  have hb : c.code = cL_law := hb0
  have hA : ∀ q : Nat, s.heap.size ≤ q → (fun q : Nat => s.heap.size ≤ q) q := fun _ h => h
  have hbA : ¬ (fun q : Nat => s.heap.size ≤ q) b := Nat.not_le.mpr hbl
  obtain ⟨r, h1, h2, k2, W2, U2, c3, c4, S'⟩ := op_stage S (xs (nI (i + 1)).toNatClampNeg) (xs (nI (i + 2)).toNatClampNeg) (xs (nI (i + 3)).toNatClampNeg) (xs (nI (i + 4)).toNatClampNeg) (xs (nI (i + 5)).toNatClampNeg)
  refine lv_aload_n hx hb dL_law_423 rfl (lv_at hl 1 rfl) ?_
  refine lv_aload_n hx hb dL_law_424 rfl (lv_at hl 0 rfl) ?_
  refine lv_iload_n hx hb dL_law_425 rfl (lv_at hl 3 rfl) ?_
  refine lv_iconst (v := nI 1) hx hb dL_law_426 (by decide) ?_
  refine lv_iadd hx hb dL_law_427 ?_
  rw [nI_add]
  refine va_sld hx hb hX hbl hbA hS (i := nI (i + 1)) (vp_in_nI (by omega) (by omega)) dL_law_428 ?_
  refine lv_aload_n hx hb dL_law_429 rfl (lv_at hl 0 rfl) ?_
  refine lv_iload_n hx hb dL_law_430 rfl (lv_at hl 3 rfl) ?_
  refine lv_iconst (v := nI 2) hx hb dL_law_431 (by decide) ?_
  refine lv_iadd hx hb dL_law_432 ?_
  rw [nI_add]
  refine va_sld hx hb hX hbl hbA hS (i := nI (i + 2)) (vp_in_nI (by omega) (by omega)) dL_law_433 ?_
  refine lv_aload_n hx hb dL_law_434 rfl (lv_at hl 0 rfl) ?_
  refine lv_iload_n hx hb dL_law_435 rfl (lv_at hl 3 rfl) ?_
  refine lv_iconst (v := nI 3) hx hb dL_law_436 (by decide) ?_
  refine lv_iadd hx hb dL_law_437 ?_
  rw [nI_add]
  refine va_sld hx hb hX hbl hbA hS (i := nI (i + 3)) (vp_in_nI (by omega) (by omega)) dL_law_438 ?_
  refine lv_aload_n hx hb dL_law_439 rfl (lv_at hl 0 rfl) ?_
  refine lv_iload_n hx hb dL_law_440 rfl (lv_at hl 3 rfl) ?_
  refine lv_iconst (v := nI 4) hx hb dL_law_441 (by decide) ?_
  refine lv_iadd hx hb dL_law_442 ?_
  rw [nI_add]
  refine va_sld hx hb hX hbl hbA hS (i := nI (i + 4)) (vp_in_nI (by omega) (by omega)) dL_law_443 ?_
  refine lv_aload_n hx hb dL_law_444 rfl (lv_at hl 0 rfl) ?_
  refine lv_iload_n hx hb dL_law_445 rfl (lv_at hl 3 rfl) ?_
  refine lv_iconst (v := nI 5) hx hb dL_law_446 (by decide) ?_
  refine lv_iadd hx hb dL_law_447 ?_
  rw [nI_add]
  refine va_sld hx hb hX hbl hbA hS (i := nI (i + 5)) (vp_in_nI (by omega) (by omega)) dL_law_448 ?_
  refine lw_calli (q := (3, 0)) (mj := MX3_stage) (bytes := cX3_stage) (as := [vI (xs (nI (i + 1)).toNatClampNeg), vI (xs (nI (i + 2)).toNatClampNeg), vI (xs (nI (i + 3)).toNatClampNeg), vI (xs (nI (i + 4)).toNatClampNeg), vI (xs (nI (i + 5)).toNatClampNeg)]) (As := [.int (xs (nI (i + 1)).toNatClampNeg), .int (xs (nI (i + 2)).toNatClampNeg), .int (xs (nI (i + 3)).toNatClampNeg), .int (xs (nI (i + 4)).toNatClampNeg), .int (xs (nI (i + 5)).toNatClampNeg)]) (rest := []) ⟨hx, hb, hml, hown, hts⟩ hIa (by decide) rfl (okS_int (as := [(xs (nI (i + 1)).toNatClampNeg), (xs (nI (i + 2)).toNatClampNeg), (xs (nI (i + 3)).toNatClampNeg), (xs (nI (i + 4)).toNatClampNeg), (xs (nI (i + 5)).toNatClampNeg)]) (by decide)) (nj_int (as := [(xs (nI (i + 1)).toNatClampNeg), (xs (nI (i + 2)).toNatClampNeg), (xs (nI (i + 3)).toNatClampNeg), (xs (nI (i + 4)).toNatClampNeg), (xs (nI (i + 5)).toNatClampNeg)])) c3 (cwV 5 hts (goodA (goodL1 (by decide +kernel)) (goodL2 (by decide))) rfl rfl rfl (by decide +kernel) ⟨Nat.le_of_ble_eq_true rfl, Nat.le_of_ble_eq_true rfl⟩) (rcv3 hK hP) rfl rfl hl.1 (Nat.le_of_ble_eq_true rfl) dL_law_449 hcl hsl hK hN hP hD hS hA (fun H locs hP hD hS => ?_)
  refine lv_aload_n hx hb dL_law_452 rfl (lv_at hl 2 rfl) ?_
  refine lv_aload_n hx hb dL_law_453 rfl (lv_at hl 0 rfl) ?_
  refine lv_iload_n hx hb dL_law_454 rfl (lv_at hl 3 rfl) ?_
  refine lv_iconst (v := nI 1) hx hb dL_law_455 (by decide) ?_
  refine lv_iadd hx hb dL_law_456 ?_
  rw [nI_add]
  refine va_sld hx hb hX hbl hbA hS (i := nI (i + 1)) (vp_in_nI (by omega) (by omega)) dL_law_457 ?_
  refine lv_aload_n hx hb dL_law_458 rfl (lv_at hl 0 rfl) ?_
  refine lv_iload_n hx hb dL_law_459 rfl (lv_at hl 3 rfl) ?_
  refine lv_iconst (v := nI 2) hx hb dL_law_460 (by decide) ?_
  refine lv_iadd hx hb dL_law_461 ?_
  rw [nI_add]
  refine va_sld hx hb hX hbl hbA hS (i := nI (i + 2)) (vp_in_nI (by omega) (by omega)) dL_law_462 ?_
  refine lv_aload_n hx hb dL_law_463 rfl (lv_at hl 0 rfl) ?_
  refine lv_iload_n hx hb dL_law_464 rfl (lv_at hl 3 rfl) ?_
  refine lv_iconst (v := nI 3) hx hb dL_law_465 (by decide) ?_
  refine lv_iadd hx hb dL_law_466 ?_
  rw [nI_add]
  refine va_sld hx hb hX hbl hbA hS (i := nI (i + 3)) (vp_in_nI (by omega) (by omega)) dL_law_467 ?_
  refine lv_aload_n hx hb dL_law_468 rfl (lv_at hl 0 rfl) ?_
  refine lv_iload_n hx hb dL_law_469 rfl (lv_at hl 3 rfl) ?_
  refine lv_iconst (v := nI 4) hx hb dL_law_470 (by decide) ?_
  refine lv_iadd hx hb dL_law_471 ?_
  rw [nI_add]
  refine va_sld hx hb hX hbl hbA hS (i := nI (i + 4)) (vp_in_nI (by omega) (by omega)) dL_law_472 ?_
  refine lv_aload_n hx hb dL_law_473 rfl (lv_at hl 0 rfl) ?_
  refine lv_iload_n hx hb dL_law_474 rfl (lv_at hl 3 rfl) ?_
  refine lv_iconst (v := nI 5) hx hb dL_law_475 (by decide) ?_
  refine lv_iadd hx hb dL_law_476 ?_
  rw [nI_add]
  refine va_sld hx hb hX hbl hbA hS (i := nI (i + 5)) (vp_in_nI (by omega) (by omega)) dL_law_477 ?_
  refine lw_calli (q := (4, 0)) (mj := MX4_stage) (bytes := cX4_stage) (as := [vI (xs (nI (i + 1)).toNatClampNeg), vI (xs (nI (i + 2)).toNatClampNeg), vI (xs (nI (i + 3)).toNatClampNeg), vI (xs (nI (i + 4)).toNatClampNeg), vI (xs (nI (i + 5)).toNatClampNeg)]) (As := [.int (xs (nI (i + 1)).toNatClampNeg), .int (xs (nI (i + 2)).toNatClampNeg), .int (xs (nI (i + 3)).toNatClampNeg), .int (xs (nI (i + 4)).toNatClampNeg), .int (xs (nI (i + 5)).toNatClampNeg)]) (rest := [.int r]) ⟨hx, hb, hml, hown, hts⟩ hIa (by decide) rfl (okS_int (as := [(xs (nI (i + 1)).toNatClampNeg), (xs (nI (i + 2)).toNatClampNeg), (xs (nI (i + 3)).toNatClampNeg), (xs (nI (i + 4)).toNatClampNeg), (xs (nI (i + 5)).toNatClampNeg)]) (by decide)) (nj_int (as := [(xs (nI (i + 1)).toNatClampNeg), (xs (nI (i + 2)).toNatClampNeg), (xs (nI (i + 3)).toNatClampNeg), (xs (nI (i + 4)).toNatClampNeg), (xs (nI (i + 5)).toNatClampNeg)])) c4 (cwV 5 hts (goodA (goodL1 (by decide +kernel)) (goodL2 (by decide))) rfl rfl rfl (by decide +kernel) ⟨Nat.le_of_ble_eq_true rfl, Nat.le_of_ble_eq_true rfl⟩) (rcv4 hK hP) rfl rfl hl.1 (Nat.le_of_ble_eq_true rfl) dL_law_478 hcl hsl hK hN hP hD hS hA (fun H locs hP hD hS => ?_)
  refine lv_icmp_eq (tgt := 499) hx hb dL_law_481 (by decide) (fun q1 => ?_) (fun q1 => absurd rfl q1)
  exact kk h2 k2 W2 U2 _ _ S' hP hD hS
set_option maxHeartbeats 4000000 in
set_option maxRecDepth 100000 in
theorem law_load (hL : L ≤ 385) (C0 : lw_At p s m meth c b L xs) (hIa : adI ad) (hK : va_K D vwCl (xtys cI cQ) s) (hN : NW s) (hcl : cl ≤ room_1.cells) (hsl : sl ≤ room_1.slots) (hi : i + 5 < L) (hl : lv_has ls 4 [(0, .ref b), (1, .ref (ad (3, 0))), (2, .ref (ad (4, 0))), (3, .int (nI i))]) (S : SI k W' U h) (hP : va_P D vwCl (cells ad cI cQ h) H) (hD : va_D (fun q : Nat => s.heap.size ≤ q) (cells ad cI cQ h)) (hS : va_S (fun q : Nat => s.heap.size ≤ q) s.heap H locs)
    (kk : ∀ (h2 : xH) (k2 : Nat) (W2 U2 : Nat → Nat → Nat) (H1 : Heap) (locs1 : List Loc), SI k2 W2 U2 h2 → va_P D vwCl (cells ad cI cQ h2) H1 → va_D (fun q : Nat => s.heap.size ≤ q) (cells ad cI cQ h2) → va_S (fun q : Nat => s.heap.size ≤ q) s.heap H1 locs1 → W p l e room_1 s m #[.ref b] below meth c H1 locs1 cl sl Q (F0 m 499 ls [])) : W p l e room_1 s m #[.ref b] below meth c H locs cl sl Q (F0 m 486 ls []) := by
  obtain ⟨hx, hb0, hr, hml, hown, hts, hX, hbl, hlocks, hgv⟩ := C0
  have hb : c.code = cL_law := hb0
  have hA : ∀ q : Nat, s.heap.size ≤ q → (fun q : Nat => s.heap.size ≤ q) q := fun _ h => h
  have hbA : ¬ (fun q : Nat => s.heap.size ≤ q) b := Nat.not_le.mpr hbl
  obtain ⟨r, h1, h2, k2, W2, U2, c3, c4, S'⟩ := op_load S 
  refine lv_aload_n hx hb dL_law_486 rfl (lv_at hl 1 rfl) ?_
  refine lw_calli (q := (3, 0)) (mj := MX3_load) (bytes := cX3_load) (as := []) (As := []) (rest := []) ⟨hx, hb, hml, hown, hts⟩ hIa (by decide) rfl (okS_int (as := []) (by decide)) (nj_int (as := [])) c3 (cwV 0 hts (goodA (goodL1 (by decide +kernel)) (goodL2 (by decide))) rfl rfl rfl (by decide +kernel) ⟨Nat.le_of_ble_eq_true rfl, Nat.le_of_ble_eq_true rfl⟩) (rcv3 hK hP) rfl rfl hl.1 (Nat.le_of_ble_eq_true rfl) dL_law_487 hcl hsl hK hN hP hD hS hA (fun H locs hP hD hS => ?_)
  refine lv_aload_n hx hb dL_law_490 rfl (lv_at hl 2 rfl) ?_
  refine lw_calli (q := (4, 0)) (mj := MX4_load) (bytes := cX4_load) (as := []) (As := []) (rest := [.int r]) ⟨hx, hb, hml, hown, hts⟩ hIa (by decide) rfl (okS_int (as := []) (by decide)) (nj_int (as := [])) c4 (cwV 0 hts (goodA (goodL1 (by decide +kernel)) (goodL2 (by decide))) rfl rfl rfl (by decide +kernel) ⟨Nat.le_of_ble_eq_true rfl, Nat.le_of_ble_eq_true rfl⟩) (rcv4 hK hP) rfl rfl hl.1 (Nat.le_of_ble_eq_true rfl) dL_law_491 hcl hsl hK hN hP hD hS hA (fun H locs hP hD hS => ?_)
  refine lv_icmp_eq (tgt := 499) hx hb dL_law_494 (by decide) (fun q1 => ?_) (fun q1 => absurd rfl q1)
  exact kk h2 k2 W2 U2 _ _ S' hP hD hS
end LAW
