/-! ===== the calls of the law ===== -/
section LAW
variable {p : Program} {l : Launch} {e : Env} {s : State} {m : MethodId} {below : List Frame} {meth : Method} {c : Code} {b L : Nat} {xs : Nat → Int32} {D : va_G} {cI cQ : ClassId} {ad : xP → Nat} {cl sl : Nat} {h : xH} {k i : Nat} {W' U : Nat → Nat → Nat} {H : Heap} {locs : List Loc} {ls : Array Slot} {Q : State → Prop}
set_option maxHeartbeats 4000000 in
set_option maxRecDepth 100000 in
theorem law_revert (hL : L ≤ 385) (C0 : lw_At p s m meth c b L xs) (hIa : adI ad) (hK : va_K D vwCl (xtys cI cQ) s) (hN : NW s) (hcl : cl ≤ room_1.cells) (hsl : sl ≤ room_1.slots) (hi : i + 5 < L) (hl : lv_has ls 4 [(0, .ref b), (1, .ref (ad (3, 0))), (2, .ref (ad (4, 0))), (3, .int (nI i))]) (S : SI k W' U h) (hP : va_P D vwCl (cells ad cI cQ h) H) (hD : va_D (fun q : Nat => s.heap.size ≤ q) (cells ad cI cQ h)) (hS : va_S (fun q : Nat => s.heap.size ≤ q) s.heap H locs)
    (kk : ∀ (h2 : xH) (k2 : Nat) (W2 U2 : Nat → Nat → Nat) (H1 : Heap) (locs1 : List Loc), SI k2 W2 U2 h2 → va_P D vwCl (cells ad cI cQ h2) H1 → va_D (fun q : Nat => s.heap.size ≤ q) (cells ad cI cQ h2) → va_S (fun q : Nat => s.heap.size ≤ q) s.heap H1 locs1 → W p l e room_1 s m #[.ref b] below meth c H1 locs1 cl sl Q (F0 m 499 ls [])) : W p l e room_1 s m #[.ref b] below meth c H locs cl sl Q (F0 m 222 ls []) := by
  obtain ⟨hx, hb0, hr, hml, hown, hts, hX, hbl, hlocks, hgv⟩ := C0
  have hb : c.code = cL_law := hb0
  have hA : ∀ q : Nat, s.heap.size ≤ q → (fun q : Nat => s.heap.size ≤ q) q := fun _ h => h
  have hbA : ¬ (fun q : Nat => s.heap.size ≤ q) b := Nat.not_le.mpr hbl
  obtain ⟨r, h1, h2, k2, W2, U2, c3, c4, S'⟩ := op_revert S (xs (nI (i + 1)).toNatClampNeg)
  refine lv_aload_n hx hb dL_law_222 rfl (lv_at hl 1 rfl) ?_
  refine lv_aload_n hx hb dL_law_223 rfl (lv_at hl 0 rfl) ?_
  refine lv_iload_n hx hb dL_law_224 rfl (lv_at hl 3 rfl) ?_
  refine lv_iconst (v := nI 1) hx hb dL_law_225 (by decide) ?_
  refine lv_iadd hx hb dL_law_226 ?_
  rw [nI_add]
  refine va_sld hx hb hX hbl hbA hS (i := nI (i + 1)) (vp_in_nI (by omega) (by omega)) dL_law_227 ?_
  refine lw_calli (q := (3, 0)) (mj := MX3_revert) (bytes := cX3_revert) (as := [vI (xs (nI (i + 1)).toNatClampNeg)]) (As := [.int (xs (nI (i + 1)).toNatClampNeg)]) (rest := []) ⟨hx, hb, hml, hown, hts⟩ hIa (by decide) rfl (okS_int (as := [(xs (nI (i + 1)).toNatClampNeg)]) (by decide)) (nj_int (as := [(xs (nI (i + 1)).toNatClampNeg)])) c3 (cwV 1 hts (goodA (goodL1 (by decide +kernel)) (goodL2 (by decide))) rfl rfl rfl (by decide +kernel) ⟨Nat.le_of_ble_eq_true rfl, Nat.le_of_ble_eq_true rfl⟩) (rcv3 hK hP) rfl rfl hl.1 (Nat.le_of_ble_eq_true rfl) dL_law_228 hcl hsl hK hN hP hD hS hA (fun H locs hP hD hS => ?_)
  refine lv_aload_n hx hb dL_law_231 rfl (lv_at hl 2 rfl) ?_
  refine lv_aload_n hx hb dL_law_232 rfl (lv_at hl 0 rfl) ?_
  refine lv_iload_n hx hb dL_law_233 rfl (lv_at hl 3 rfl) ?_
  refine lv_iconst (v := nI 1) hx hb dL_law_234 (by decide) ?_
  refine lv_iadd hx hb dL_law_235 ?_
  rw [nI_add]
  refine va_sld hx hb hX hbl hbA hS (i := nI (i + 1)) (vp_in_nI (by omega) (by omega)) dL_law_236 ?_
  refine lw_calli (q := (4, 0)) (mj := MX4_revert) (bytes := cX4_revert) (as := [vI (xs (nI (i + 1)).toNatClampNeg)]) (As := [.int (xs (nI (i + 1)).toNatClampNeg)]) (rest := [.int r]) ⟨hx, hb, hml, hown, hts⟩ hIa (by decide) rfl (okS_int (as := [(xs (nI (i + 1)).toNatClampNeg)]) (by decide)) (nj_int (as := [(xs (nI (i + 1)).toNatClampNeg)])) c4 (cwV 1 hts (goodA (goodL1 (by decide +kernel)) (goodL2 (by decide))) rfl rfl rfl (by decide +kernel) ⟨Nat.le_of_ble_eq_true rfl, Nat.le_of_ble_eq_true rfl⟩) (rcv4 hK hP) rfl rfl hl.1 (Nat.le_of_ble_eq_true rfl) dL_law_237 hcl hsl hK hN hP hD hS hA (fun H locs hP hD hS => ?_)
  refine lv_icmp_eq (tgt := 499) hx hb dL_law_240 (by decide) (fun q1 => ?_) (fun q1 => absurd rfl q1)
  exact kk h2 k2 W2 U2 _ _ S' hP hD hS
set_option maxHeartbeats 4000000 in
set_option maxRecDepth 100000 in
theorem law_delete (hL : L ≤ 385) (C0 : lw_At p s m meth c b L xs) (hIa : adI ad) (hK : va_K D vwCl (xtys cI cQ) s) (hN : NW s) (hcl : cl ≤ room_1.cells) (hsl : sl ≤ room_1.slots) (hi : i + 5 < L) (hl : lv_has ls 4 [(0, .ref b), (1, .ref (ad (3, 0))), (2, .ref (ad (4, 0))), (3, .int (nI i))]) (S : SI k W' U h) (hP : va_P D vwCl (cells ad cI cQ h) H) (hD : va_D (fun q : Nat => s.heap.size ≤ q) (cells ad cI cQ h)) (hS : va_S (fun q : Nat => s.heap.size ≤ q) s.heap H locs)
    (kk : ∀ (h2 : xH) (k2 : Nat) (W2 U2 : Nat → Nat → Nat) (H1 : Heap) (locs1 : List Loc), SI k2 W2 U2 h2 → va_P D vwCl (cells ad cI cQ h2) H1 → va_D (fun q : Nat => s.heap.size ≤ q) (cells ad cI cQ h2) → va_S (fun q : Nat => s.heap.size ≤ q) s.heap H1 locs1 → W p l e room_1 s m #[.ref b] below meth c H1 locs1 cl sl Q (F0 m 499 ls [])) : W p l e room_1 s m #[.ref b] below meth c H locs cl sl Q (F0 m 245 ls []) := by
  obtain ⟨hx, hb0, hr, hml, hown, hts, hX, hbl, hlocks, hgv⟩ := C0
  have hb : c.code = cL_law := hb0
  have hA : ∀ q : Nat, s.heap.size ≤ q → (fun q : Nat => s.heap.size ≤ q) q := fun _ h => h
  have hbA : ¬ (fun q : Nat => s.heap.size ≤ q) b := Nat.not_le.mpr hbl
  obtain ⟨r, h1, h2, k2, W2, U2, c3, c4, S'⟩ := op_delete S (xs (nI (i + 1)).toNatClampNeg)
  refine lv_aload_n hx hb dL_law_245 rfl (lv_at hl 1 rfl) ?_
  refine lv_aload_n hx hb dL_law_246 rfl (lv_at hl 0 rfl) ?_
  refine lv_iload_n hx hb dL_law_247 rfl (lv_at hl 3 rfl) ?_
  refine lv_iconst (v := nI 1) hx hb dL_law_248 (by decide) ?_
  refine lv_iadd hx hb dL_law_249 ?_
  rw [nI_add]
  refine va_sld hx hb hX hbl hbA hS (i := nI (i + 1)) (vp_in_nI (by omega) (by omega)) dL_law_250 ?_
  refine lw_calli (q := (3, 0)) (mj := MX3_delete) (bytes := cX3_delete) (as := [vI (xs (nI (i + 1)).toNatClampNeg)]) (As := [.int (xs (nI (i + 1)).toNatClampNeg)]) (rest := []) ⟨hx, hb, hml, hown, hts⟩ hIa (by decide) rfl (okS_int (as := [(xs (nI (i + 1)).toNatClampNeg)]) (by decide)) (nj_int (as := [(xs (nI (i + 1)).toNatClampNeg)])) c3 (cwV 1 hts (goodA (goodL1 (by decide +kernel)) (goodL2 (by decide))) rfl rfl rfl (by decide +kernel) ⟨Nat.le_of_ble_eq_true rfl, Nat.le_of_ble_eq_true rfl⟩) (rcv3 hK hP) rfl rfl hl.1 (Nat.le_of_ble_eq_true rfl) dL_law_251 hcl hsl hK hN hP hD hS hA (fun H locs hP hD hS => ?_)
  refine lv_aload_n hx hb dL_law_254 rfl (lv_at hl 2 rfl) ?_
  refine lv_aload_n hx hb dL_law_255 rfl (lv_at hl 0 rfl) ?_
  refine lv_iload_n hx hb dL_law_256 rfl (lv_at hl 3 rfl) ?_
  refine lv_iconst (v := nI 1) hx hb dL_law_257 (by decide) ?_
  refine lv_iadd hx hb dL_law_258 ?_
  rw [nI_add]
  refine va_sld hx hb hX hbl hbA hS (i := nI (i + 1)) (vp_in_nI (by omega) (by omega)) dL_law_259 ?_
  refine lw_calli (q := (4, 0)) (mj := MX4_delete) (bytes := cX4_delete) (as := [vI (xs (nI (i + 1)).toNatClampNeg)]) (As := [.int (xs (nI (i + 1)).toNatClampNeg)]) (rest := [.int r]) ⟨hx, hb, hml, hown, hts⟩ hIa (by decide) rfl (okS_int (as := [(xs (nI (i + 1)).toNatClampNeg)]) (by decide)) (nj_int (as := [(xs (nI (i + 1)).toNatClampNeg)])) c4 (cwV 1 hts (goodA (goodL1 (by decide +kernel)) (goodL2 (by decide))) rfl rfl rfl (by decide +kernel) ⟨Nat.le_of_ble_eq_true rfl, Nat.le_of_ble_eq_true rfl⟩) (rcv4 hK hP) rfl rfl hl.1 (Nat.le_of_ble_eq_true rfl) dL_law_260 hcl hsl hK hN hP hD hS hA (fun H locs hP hD hS => ?_)
  refine lv_icmp_eq (tgt := 499) hx hb dL_law_263 (by decide) (fun q1 => ?_) (fun q1 => absurd rfl q1)
  exact kk h2 k2 W2 U2 _ _ S' hP hD hS
set_option maxHeartbeats 4000000 in
set_option maxRecDepth 100000 in
theorem law_readOld (hL : L ≤ 385) (C0 : lw_At p s m meth c b L xs) (hIa : adI ad) (hK : va_K D vwCl (xtys cI cQ) s) (hN : NW s) (hcl : cl ≤ room_1.cells) (hsl : sl ≤ room_1.slots) (hi : i + 5 < L) (hl : lv_has ls 4 [(0, .ref b), (1, .ref (ad (3, 0))), (2, .ref (ad (4, 0))), (3, .int (nI i))]) (S : SI k W' U h) (hP : va_P D vwCl (cells ad cI cQ h) H) (hD : va_D (fun q : Nat => s.heap.size ≤ q) (cells ad cI cQ h)) (hS : va_S (fun q : Nat => s.heap.size ≤ q) s.heap H locs)
    (kk : ∀ (h2 : xH) (k2 : Nat) (W2 U2 : Nat → Nat → Nat) (H1 : Heap) (locs1 : List Loc), SI k2 W2 U2 h2 → va_P D vwCl (cells ad cI cQ h2) H1 → va_D (fun q : Nat => s.heap.size ≤ q) (cells ad cI cQ h2) → va_S (fun q : Nat => s.heap.size ≤ q) s.heap H1 locs1 → W p l e room_1 s m #[.ref b] below meth c H1 locs1 cl sl Q (F0 m 499 ls [])) : W p l e room_1 s m #[.ref b] below meth c H locs cl sl Q (F0 m 268 ls []) := by
  obtain ⟨hx, hb0, hr, hml, hown, hts, hX, hbl, hlocks, hgv⟩ := C0
  have hb : c.code = cL_law := hb0
  have hA : ∀ q : Nat, s.heap.size ≤ q → (fun q : Nat => s.heap.size ≤ q) q := fun _ h => h
  have hbA : ¬ (fun q : Nat => s.heap.size ≤ q) b := Nat.not_le.mpr hbl
  obtain ⟨r, h1, h2, k2, W2, U2, c3, c4, S'⟩ := op_readOld S (xs (nI (i + 1)).toNatClampNeg) (xs (nI (i + 2)).toNatClampNeg)
  refine lv_aload_n hx hb dL_law_268 rfl (lv_at hl 1 rfl) ?_
  refine lv_aload_n hx hb dL_law_269 rfl (lv_at hl 0 rfl) ?_
  refine lv_iload_n hx hb dL_law_270 rfl (lv_at hl 3 rfl) ?_
  refine lv_iconst (v := nI 1) hx hb dL_law_271 (by decide) ?_
  refine lv_iadd hx hb dL_law_272 ?_
  rw [nI_add]
  refine va_sld hx hb hX hbl hbA hS (i := nI (i + 1)) (vp_in_nI (by omega) (by omega)) dL_law_273 ?_
  refine lv_aload_n hx hb dL_law_274 rfl (lv_at hl 0 rfl) ?_
  refine lv_iload_n hx hb dL_law_275 rfl (lv_at hl 3 rfl) ?_
  refine lv_iconst (v := nI 2) hx hb dL_law_276 (by decide) ?_
  refine lv_iadd hx hb dL_law_277 ?_
  rw [nI_add]
  refine va_sld hx hb hX hbl hbA hS (i := nI (i + 2)) (vp_in_nI (by omega) (by omega)) dL_law_278 ?_
  refine lw_calll (q := (3, 0)) (mj := MX3_readOld) (bytes := cX3_readOld) (as := [vI (xs (nI (i + 1)).toNatClampNeg), vI (xs (nI (i + 2)).toNatClampNeg)]) (As := [.int (xs (nI (i + 1)).toNatClampNeg), .int (xs (nI (i + 2)).toNatClampNeg)]) (rest := []) ⟨hx, hb, hml, hown, hts⟩ hIa (by decide) rfl (okS_int (as := [(xs (nI (i + 1)).toNatClampNeg), (xs (nI (i + 2)).toNatClampNeg)]) (by decide)) (nj_int (as := [(xs (nI (i + 1)).toNatClampNeg), (xs (nI (i + 2)).toNatClampNeg)])) c3 (cwV 2 hts (goodA (goodL1 (by decide +kernel)) (goodL2 (by decide))) rfl rfl rfl (by decide +kernel) ⟨Nat.le_of_ble_eq_true rfl, Nat.le_of_ble_eq_true rfl⟩) (rcv3 hK hP) rfl rfl hl.1 (Nat.le_of_ble_eq_true rfl) dL_law_279 hcl hsl hK hN hP hD hS hA (fun H locs hP hD hS => ?_)
  refine lv_aload_n hx hb dL_law_282 rfl (lv_at hl 2 rfl) ?_
  refine lv_aload_n hx hb dL_law_283 rfl (lv_at hl 0 rfl) ?_
  refine lv_iload_n hx hb dL_law_284 rfl (lv_at hl 3 rfl) ?_
  refine lv_iconst (v := nI 1) hx hb dL_law_285 (by decide) ?_
  refine lv_iadd hx hb dL_law_286 ?_
  rw [nI_add]
  refine va_sld hx hb hX hbl hbA hS (i := nI (i + 1)) (vp_in_nI (by omega) (by omega)) dL_law_287 ?_
  refine lv_aload_n hx hb dL_law_288 rfl (lv_at hl 0 rfl) ?_
  refine lv_iload_n hx hb dL_law_289 rfl (lv_at hl 3 rfl) ?_
  refine lv_iconst (v := nI 2) hx hb dL_law_290 (by decide) ?_
  refine lv_iadd hx hb dL_law_291 ?_
  rw [nI_add]
  refine va_sld hx hb hX hbl hbA hS (i := nI (i + 2)) (vp_in_nI (by omega) (by omega)) dL_law_292 ?_
  refine lw_calll (q := (4, 0)) (mj := MX4_readOld) (bytes := cX4_readOld) (as := [vI (xs (nI (i + 1)).toNatClampNeg), vI (xs (nI (i + 2)).toNatClampNeg)]) (As := [.int (xs (nI (i + 1)).toNatClampNeg), .int (xs (nI (i + 2)).toNatClampNeg)]) (rest := [.long r]) ⟨hx, hb, hml, hown, hts⟩ hIa (by decide) rfl (okS_int (as := [(xs (nI (i + 1)).toNatClampNeg), (xs (nI (i + 2)).toNatClampNeg)]) (by decide)) (nj_int (as := [(xs (nI (i + 1)).toNatClampNeg), (xs (nI (i + 2)).toNatClampNeg)])) c4 (cwV 2 hts (goodA (goodL1 (by decide +kernel)) (goodL2 (by decide))) rfl rfl rfl (by decide +kernel) ⟨Nat.le_of_ble_eq_true rfl, Nat.le_of_ble_eq_true rfl⟩) (rcv4 hK hP) rfl rfl hl.1 (Nat.le_of_ble_eq_true rfl) dL_law_293 hcl hsl hK hN hP hD hS hA (fun H locs hP hD hS => ?_)
  refine W.lcmp hx hb dL_law_296 ?_
  refine lv_if_eq (tgt := 499) hx hb dL_law_297 (by decide) (fun q1 => ?_) (fun q1 => absurd (by simp [lg_cmp]) q1)
  exact kk h2 k2 W2 U2 _ _ S' hP hD hS
set_option maxHeartbeats 4000000 in
set_option maxRecDepth 100000 in
theorem law_overlay (hL : L ≤ 385) (C0 : lw_At p s m meth c b L xs) (hIa : adI ad) (hK : va_K D vwCl (xtys cI cQ) s) (hN : NW s) (hcl : cl ≤ room_1.cells) (hsl : sl ≤ room_1.slots) (hi : i + 5 < L) (hl : lv_has ls 4 [(0, .ref b), (1, .ref (ad (3, 0))), (2, .ref (ad (4, 0))), (3, .int (nI i))]) (S : SI k W' U h) (hP : va_P D vwCl (cells ad cI cQ h) H) (hD : va_D (fun q : Nat => s.heap.size ≤ q) (cells ad cI cQ h)) (hS : va_S (fun q : Nat => s.heap.size ≤ q) s.heap H locs)
    (kk : ∀ (h2 : xH) (k2 : Nat) (W2 U2 : Nat → Nat → Nat) (H1 : Heap) (locs1 : List Loc), SI k2 W2 U2 h2 → va_P D vwCl (cells ad cI cQ h2) H1 → va_D (fun q : Nat => s.heap.size ≤ q) (cells ad cI cQ h2) → va_S (fun q : Nat => s.heap.size ≤ q) s.heap H1 locs1 → W p l e room_1 s m #[.ref b] below meth c H1 locs1 cl sl Q (F0 m 499 ls [])) : W p l e room_1 s m #[.ref b] below meth c H locs cl sl Q (F0 m 302 ls []) := by
  obtain ⟨hx, hb0, hr, hml, hown, hts, hX, hbl, hlocks, hgv⟩ := C0
  have hb : c.code = cL_law := hb0
  have hA : ∀ q : Nat, s.heap.size ≤ q → (fun q : Nat => s.heap.size ≤ q) q := fun _ h => h
  have hbA : ¬ (fun q : Nat => s.heap.size ≤ q) b := Nat.not_le.mpr hbl
  obtain ⟨r, h1, h2, k2, W2, U2, c3, c4, S'⟩ := op_overlay S 
  refine lv_aload_n hx hb dL_law_302 rfl (lv_at hl 1 rfl) ?_
  refine lw_calli (q := (3, 0)) (mj := MX3_overlay) (bytes := cX3_overlay) (as := []) (As := []) (rest := []) ⟨hx, hb, hml, hown, hts⟩ hIa (by decide) rfl (okS_int (as := []) (by decide)) (nj_int (as := [])) c3 (cwV 0 hts (goodA (goodL1 (by decide +kernel)) (goodL2 (by decide))) rfl rfl rfl (by decide +kernel) ⟨Nat.le_of_ble_eq_true rfl, Nat.le_of_ble_eq_true rfl⟩) (rcv3 hK hP) rfl rfl hl.1 (Nat.le_of_ble_eq_true rfl) dL_law_303 hcl hsl hK hN hP hD hS hA (fun H locs hP hD hS => ?_)
  refine lv_aload_n hx hb dL_law_306 rfl (lv_at hl 2 rfl) ?_
  refine lw_calli (q := (4, 0)) (mj := MX4_overlay) (bytes := cX4_overlay) (as := []) (As := []) (rest := [.int r]) ⟨hx, hb, hml, hown, hts⟩ hIa (by decide) rfl (okS_int (as := []) (by decide)) (nj_int (as := [])) c4 (cwV 0 hts (goodA (goodL1 (by decide +kernel)) (goodL2 (by decide))) rfl rfl rfl (by decide +kernel) ⟨Nat.le_of_ble_eq_true rfl, Nat.le_of_ble_eq_true rfl⟩) (rcv4 hK hP) rfl rfl hl.1 (Nat.le_of_ble_eq_true rfl) dL_law_307 hcl hsl hK hN hP hD hS hA (fun H locs hP hD hS => ?_)
  refine lv_icmp_eq (tgt := 499) hx hb dL_law_310 (by decide) (fun q1 => ?_) (fun q1 => absurd rfl q1)
  exact kk h2 k2 W2 U2 _ _ S' hP hD hS
end LAW
