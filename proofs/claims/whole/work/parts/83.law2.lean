/-! ===== the calls of the law ===== -/
section LAW
variable {p : Program} {l : Launch} {e : Env} {s : State} {m : MethodId} {below : List Frame} {meth : Method} {c : Code} {b L : Nat} {xs : Nat → Int32} {D : va_G} {cI cQ : ClassId} {ad : xP → Nat} {cl sl : Nat} {h : xH} {k i : Nat} {W' U : Nat → Nat → Nat} {H : Heap} {locs : List Loc} {ls : Array Slot} {Q : State → Prop}
set_option maxHeartbeats 4000000 in
set_option maxRecDepth 100000 in
theorem law_commit (hL : L ≤ 385) (C0 : lw_At p s m meth c b L xs) (hIa : adI ad) (hK : va_K D vwCl (xtys cI cQ) s) (hN : NW s) (hcl : cl ≤ room_1.cells) (hsl : sl ≤ room_1.slots) (hi : i + 5 < L) (hl : lv_has ls 4 [(0, .ref b), (1, .ref (ad (3, 0))), (2, .ref (ad (4, 0))), (3, .int (nI i))]) (S : SI k W' U h) (hP : va_P D vwCl (cells ad cI cQ h) H) (hD : va_D (fun q : Nat => s.heap.size ≤ q) (cells ad cI cQ h)) (hS : va_S (fun q : Nat => s.heap.size ≤ q) s.heap H locs)
    (kk : ∀ (h2 : xH) (k2 : Nat) (W2 U2 : Nat → Nat → Nat) (H1 : Heap) (locs1 : List Loc), SI k2 W2 U2 h2 → va_P D vwCl (cells ad cI cQ h2) H1 → va_D (fun q : Nat => s.heap.size ≤ q) (cells ad cI cQ h2) → va_S (fun q : Nat => s.heap.size ≤ q) s.heap H1 locs1 → W p l e room_1 s m #[.ref b] below meth c H1 locs1 cl sl Q (F0 m 499 ls [])) : W p l e room_1 s m #[.ref b] below meth c H locs cl sl Q (F0 m 315 ls []) := by
  obtain ⟨hx, hb0, hr, hml, hown, hts, hX, hbl, hlocks, hgv⟩ := C0
  have hb : c.code = cL_law := hb0
  have hA : ∀ q : Nat, s.heap.size ≤ q → (fun q : Nat => s.heap.size ≤ q) q := fun _ h => h
  have hbA : ¬ (fun q : Nat => s.heap.size ≤ q) b := Nat.not_le.mpr hbl
  obtain ⟨r, h1, h2, k2, W2, U2, c3, c4, S'⟩ := op_commit S 
  refine lv_aload_n hx hb dL_law_315 rfl (lv_at hl 1 rfl) ?_
  refine lw_calli (q := (3, 0)) (mj := MX3_commit) (bytes := cX3_commit) (as := []) (As := []) (rest := []) ⟨hx, hb, hml, hown, hts⟩ hIa (by decide) rfl (okS_int (as := []) (by decide)) (nj_int (as := [])) c3 (cwV 0 hts (goodA (goodL1 (by decide +kernel)) (goodL2 (by decide))) rfl rfl rfl (by decide +kernel) ⟨Nat.le_of_ble_eq_true rfl, Nat.le_of_ble_eq_true rfl⟩) (rcv3 hK hP) rfl rfl hl.1 (Nat.le_of_ble_eq_true rfl) dL_law_316 hcl hsl hK hN hP hD hS hA (fun H locs hP hD hS => ?_)
  refine lv_aload_n hx hb dL_law_319 rfl (lv_at hl 2 rfl) ?_
  refine lw_calli (q := (4, 0)) (mj := MX4_commit) (bytes := cX4_commit) (as := []) (As := []) (rest := [.int r]) ⟨hx, hb, hml, hown, hts⟩ hIa (by decide) rfl (okS_int (as := []) (by decide)) (nj_int (as := [])) c4 (cwV 0 hts (goodA (goodL1 (by decide +kernel)) (goodL2 (by decide))) rfl rfl rfl (by decide +kernel) ⟨Nat.le_of_ble_eq_true rfl, Nat.le_of_ble_eq_true rfl⟩) (rcv4 hK hP) rfl rfl hl.1 (Nat.le_of_ble_eq_true rfl) dL_law_320 hcl hsl hK hN hP hD hS hA (fun H locs hP hD hS => ?_)
  refine lv_icmp_eq (tgt := 499) hx hb dL_law_323 (by decide) (fun q1 => ?_) (fun q1 => absurd rfl q1)
  exact kk h2 k2 W2 U2 _ _ S' hP hD hS
set_option maxHeartbeats 4000000 in
set_option maxRecDepth 100000 in
theorem law_grow (hL : L ≤ 385) (C0 : lw_At p s m meth c b L xs) (hIa : adI ad) (hK : va_K D vwCl (xtys cI cQ) s) (hN : NW s) (hcl : cl ≤ room_1.cells) (hsl : sl ≤ room_1.slots) (hi : i + 5 < L) (hl : lv_has ls 4 [(0, .ref b), (1, .ref (ad (3, 0))), (2, .ref (ad (4, 0))), (3, .int (nI i))]) (S : SI k W' U h) (hP : va_P D vwCl (cells ad cI cQ h) H) (hD : va_D (fun q : Nat => s.heap.size ≤ q) (cells ad cI cQ h)) (hS : va_S (fun q : Nat => s.heap.size ≤ q) s.heap H locs)
    (kk : ∀ (h2 : xH) (k2 : Nat) (W2 U2 : Nat → Nat → Nat) (H1 : Heap) (locs1 : List Loc), SI k2 W2 U2 h2 → va_P D vwCl (cells ad cI cQ h2) H1 → va_D (fun q : Nat => s.heap.size ≤ q) (cells ad cI cQ h2) → va_S (fun q : Nat => s.heap.size ≤ q) s.heap H1 locs1 → W p l e room_1 s m #[.ref b] below meth c H1 locs1 cl sl Q (F0 m 499 ls [])) : W p l e room_1 s m #[.ref b] below meth c H locs cl sl Q (F0 m 328 ls []) := by
  obtain ⟨hx, hb0, hr, hml, hown, hts, hX, hbl, hlocks, hgv⟩ := C0
  have hb : c.code = cL_law := hb0
  have hA : ∀ q : Nat, s.heap.size ≤ q → (fun q : Nat => s.heap.size ≤ q) q := fun _ h => h
  have hbA : ¬ (fun q : Nat => s.heap.size ≤ q) b := Nat.not_le.mpr hbl
  obtain ⟨r, h1, h2, k2, W2, U2, c3, c4, S'⟩ := op_grow S (xs (nI (i + 1)).toNatClampNeg)
  refine lv_aload_n hx hb dL_law_328 rfl (lv_at hl 1 rfl) ?_
  refine lv_aload_n hx hb dL_law_329 rfl (lv_at hl 0 rfl) ?_
  refine lv_iload_n hx hb dL_law_330 rfl (lv_at hl 3 rfl) ?_
  refine lv_iconst (v := nI 1) hx hb dL_law_331 (by decide) ?_
  refine lv_iadd hx hb dL_law_332 ?_
  rw [nI_add]
  refine va_sld hx hb hX hbl hbA hS (i := nI (i + 1)) (vp_in_nI (by omega) (by omega)) dL_law_333 ?_
  refine lw_calli (q := (3, 0)) (mj := MX3_grow) (bytes := cX3_grow) (as := [vI (xs (nI (i + 1)).toNatClampNeg)]) (As := [.int (xs (nI (i + 1)).toNatClampNeg)]) (rest := []) ⟨hx, hb, hml, hown, hts⟩ hIa (by decide) rfl (okS_int (as := [(xs (nI (i + 1)).toNatClampNeg)]) (by decide)) (nj_int (as := [(xs (nI (i + 1)).toNatClampNeg)])) c3 (cwV 1 hts (goodA (goodL1 (by decide +kernel)) (goodL2 (by decide))) rfl rfl rfl (by decide +kernel) ⟨Nat.le_of_ble_eq_true rfl, Nat.le_of_ble_eq_true rfl⟩) (rcv3 hK hP) rfl rfl hl.1 (Nat.le_of_ble_eq_true rfl) dL_law_334 hcl hsl hK hN hP hD hS hA (fun H locs hP hD hS => ?_)
  refine lv_aload_n hx hb dL_law_337 rfl (lv_at hl 2 rfl) ?_
  refine lv_aload_n hx hb dL_law_338 rfl (lv_at hl 0 rfl) ?_
  refine lv_iload_n hx hb dL_law_339 rfl (lv_at hl 3 rfl) ?_
  refine lv_iconst (v := nI 1) hx hb dL_law_340 (by decide) ?_
  refine lv_iadd hx hb dL_law_341 ?_
  rw [nI_add]
  refine va_sld hx hb hX hbl hbA hS (i := nI (i + 1)) (vp_in_nI (by omega) (by omega)) dL_law_342 ?_
  refine lw_calli (q := (4, 0)) (mj := MX4_grow) (bytes := cX4_grow) (as := [vI (xs (nI (i + 1)).toNatClampNeg)]) (As := [.int (xs (nI (i + 1)).toNatClampNeg)]) (rest := [.int r]) ⟨hx, hb, hml, hown, hts⟩ hIa (by decide) rfl (okS_int (as := [(xs (nI (i + 1)).toNatClampNeg)]) (by decide)) (nj_int (as := [(xs (nI (i + 1)).toNatClampNeg)])) c4 (cwV 1 hts (goodA (goodL1 (by decide +kernel)) (goodL2 (by decide))) rfl rfl rfl (by decide +kernel) ⟨Nat.le_of_ble_eq_true rfl, Nat.le_of_ble_eq_true rfl⟩) (rcv4 hK hP) rfl rfl hl.1 (Nat.le_of_ble_eq_true rfl) dL_law_343 hcl hsl hK hN hP hD hS hA (fun H locs hP hD hS => ?_)
  refine lv_icmp_eq (tgt := 499) hx hb dL_law_346 (by decide) (fun q1 => ?_) (fun q1 => absurd rfl q1)
  exact kk h2 k2 W2 U2 _ _ S' hP hD hS
set_option maxHeartbeats 4000000 in
set_option maxRecDepth 100000 in
theorem law_size (hL : L ≤ 385) (C0 : lw_At p s m meth c b L xs) (hIa : adI ad) (hK : va_K D vwCl (xtys cI cQ) s) (hN : NW s) (hcl : cl ≤ room_1.cells) (hsl : sl ≤ room_1.slots) (hi : i + 5 < L) (hl : lv_has ls 4 [(0, .ref b), (1, .ref (ad (3, 0))), (2, .ref (ad (4, 0))), (3, .int (nI i))]) (S : SI k W' U h) (hP : va_P D vwCl (cells ad cI cQ h) H) (hD : va_D (fun q : Nat => s.heap.size ≤ q) (cells ad cI cQ h)) (hS : va_S (fun q : Nat => s.heap.size ≤ q) s.heap H locs)
    (kk : ∀ (h2 : xH) (k2 : Nat) (W2 U2 : Nat → Nat → Nat) (H1 : Heap) (locs1 : List Loc), SI k2 W2 U2 h2 → va_P D vwCl (cells ad cI cQ h2) H1 → va_D (fun q : Nat => s.heap.size ≤ q) (cells ad cI cQ h2) → va_S (fun q : Nat => s.heap.size ≤ q) s.heap H1 locs1 → W p l e room_1 s m #[.ref b] below meth c H1 locs1 cl sl Q (F0 m 499 ls [])) : W p l e room_1 s m #[.ref b] below meth c H locs cl sl Q (F0 m 351 ls []) := by
  obtain ⟨hx, hb0, hr, hml, hown, hts, hX, hbl, hlocks, hgv⟩ := C0
  have hb : c.code = cL_law := hb0
  have hA : ∀ q : Nat, s.heap.size ≤ q → (fun q : Nat => s.heap.size ≤ q) q := fun _ h => h
  have hbA : ¬ (fun q : Nat => s.heap.size ≤ q) b := Nat.not_le.mpr hbl
  obtain ⟨r, h1, h2, k2, W2, U2, c3, c4, S'⟩ := op_size S 
  refine lv_aload_n hx hb dL_law_351 rfl (lv_at hl 1 rfl) ?_
  refine lw_calli (q := (3, 0)) (mj := MX3_size) (bytes := cX3_size) (as := []) (As := []) (rest := []) ⟨hx, hb, hml, hown, hts⟩ hIa (by decide) rfl (okS_int (as := []) (by decide)) (nj_int (as := [])) c3 (cwV 0 hts (goodA (goodL1 (by decide +kernel)) (goodL2 (by decide))) rfl rfl rfl (by decide +kernel) ⟨Nat.le_of_ble_eq_true rfl, Nat.le_of_ble_eq_true rfl⟩) (rcv3 hK hP) rfl rfl hl.1 (Nat.le_of_ble_eq_true rfl) dL_law_352 hcl hsl hK hN hP hD hS hA (fun H locs hP hD hS => ?_)
  refine lv_aload_n hx hb dL_law_355 rfl (lv_at hl 2 rfl) ?_
  refine lw_calli (q := (4, 0)) (mj := MX4_size) (bytes := cX4_size) (as := []) (As := []) (rest := [.int r]) ⟨hx, hb, hml, hown, hts⟩ hIa (by decide) rfl (okS_int (as := []) (by decide)) (nj_int (as := [])) c4 (cwV 0 hts (goodA (goodL1 (by decide +kernel)) (goodL2 (by decide))) rfl rfl rfl (by decide +kernel) ⟨Nat.le_of_ble_eq_true rfl, Nat.le_of_ble_eq_true rfl⟩) (rcv4 hK hP) rfl rfl hl.1 (Nat.le_of_ble_eq_true rfl) dL_law_356 hcl hsl hK hN hP hD hS hA (fun H locs hP hD hS => ?_)
  refine lv_icmp_eq (tgt := 499) hx hb dL_law_359 (by decide) (fun q1 => ?_) (fun q1 => absurd rfl q1)
  exact kk h2 k2 W2 U2 _ _ S' hP hD hS
set_option maxHeartbeats 4000000 in
set_option maxRecDepth 100000 in
theorem law_images (hL : L ≤ 385) (C0 : lw_At p s m meth c b L xs) (hIa : adI ad) (hK : va_K D vwCl (xtys cI cQ) s) (hN : NW s) (hcl : cl ≤ room_1.cells) (hsl : sl ≤ room_1.slots) (hi : i + 5 < L) (hl : lv_has ls 4 [(0, .ref b), (1, .ref (ad (3, 0))), (2, .ref (ad (4, 0))), (3, .int (nI i))]) (S : SI k W' U h) (hP : va_P D vwCl (cells ad cI cQ h) H) (hD : va_D (fun q : Nat => s.heap.size ≤ q) (cells ad cI cQ h)) (hS : va_S (fun q : Nat => s.heap.size ≤ q) s.heap H locs)
    (kk : ∀ (h2 : xH) (k2 : Nat) (W2 U2 : Nat → Nat → Nat) (H1 : Heap) (locs1 : List Loc), SI k2 W2 U2 h2 → va_P D vwCl (cells ad cI cQ h2) H1 → va_D (fun q : Nat => s.heap.size ≤ q) (cells ad cI cQ h2) → va_S (fun q : Nat => s.heap.size ≤ q) s.heap H1 locs1 → W p l e room_1 s m #[.ref b] below meth c H1 locs1 cl sl Q (F0 m 499 ls [])) : W p l e room_1 s m #[.ref b] below meth c H locs cl sl Q (F0 m 364 ls []) := by
  obtain ⟨hx, hb0, hr, hml, hown, hts, hX, hbl, hlocks, hgv⟩ := C0
  have hb : c.code = cL_law := hb0
  have hA : ∀ q : Nat, s.heap.size ≤ q → (fun q : Nat => s.heap.size ≤ q) q := fun _ h => h
  have hbA : ¬ (fun q : Nat => s.heap.size ≤ q) b := Nat.not_le.mpr hbl
  obtain ⟨r, h1, h2, k2, W2, U2, c3, c4, S'⟩ := op_images S 
  refine lv_aload_n hx hb dL_law_364 rfl (lv_at hl 1 rfl) ?_
  refine lw_calli (q := (3, 0)) (mj := MX3_images) (bytes := cX3_images) (as := []) (As := []) (rest := []) ⟨hx, hb, hml, hown, hts⟩ hIa (by decide) rfl (okS_int (as := []) (by decide)) (nj_int (as := [])) c3 (cwV 0 hts (goodA (goodL1 (by decide +kernel)) (goodL2 (by decide))) rfl rfl rfl (by decide +kernel) ⟨Nat.le_of_ble_eq_true rfl, Nat.le_of_ble_eq_true rfl⟩) (rcv3 hK hP) rfl rfl hl.1 (Nat.le_of_ble_eq_true rfl) dL_law_365 hcl hsl hK hN hP hD hS hA (fun H locs hP hD hS => ?_)
  refine lv_aload_n hx hb dL_law_368 rfl (lv_at hl 2 rfl) ?_
  refine lw_calli (q := (4, 0)) (mj := MX4_images) (bytes := cX4_images) (as := []) (As := []) (rest := [.int r]) ⟨hx, hb, hml, hown, hts⟩ hIa (by decide) rfl (okS_int (as := []) (by decide)) (nj_int (as := [])) c4 (cwV 0 hts (goodA (goodL1 (by decide +kernel)) (goodL2 (by decide))) rfl rfl rfl (by decide +kernel) ⟨Nat.le_of_ble_eq_true rfl, Nat.le_of_ble_eq_true rfl⟩) (rcv4 hK hP) rfl rfl hl.1 (Nat.le_of_ble_eq_true rfl) dL_law_369 hcl hsl hK hN hP hD hS hA (fun H locs hP hD hS => ?_)
  refine lv_icmp_eq (tgt := 499) hx hb dL_law_372 (by decide) (fun q1 => ?_) (fun q1 => absurd rfl q1)
  exact kk h2 k2 W2 U2 _ _ S' hP hD hS
end LAW
