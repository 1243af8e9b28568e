/-! ===== the calls of the law ===== -/
section LAW
variable {p : Program} {l : Launch} {e : Env} {s : State} {m : MethodId} {below : List Frame} {meth : Method} {c : Code} {b L : Nat} {xs : Nat → Int32} {D : va_G} {cI cQ : ClassId} {ad : xP → Nat} {cl sl : Nat} {h : xH} {k i : Nat} {W' U : Nat → Nat → Nat} {H : Heap} {locs : List Loc} {ls : Array Slot} {Q : State → Prop}
set_option maxHeartbeats 4000000 in
set_option maxRecDepth 100000 in
theorem law_write (hL : L ≤ 385) (C0 : lw_At p s m meth c b L xs) (hIa : adI ad) (hK : va_K D vwCl (xtys cI cQ) s) (hN : NW s) (hcl : cl ≤ room_1.cells) (hsl : sl ≤ room_1.slots) (hi : i + 5 < L) (hl : lv_has ls 4 [(0, .ref b), (1, .ref (ad (3, 0))), (2, .ref (ad (4, 0))), (3, .int (nI i))]) (S : SI k W' U h) (hP : va_P D vwCl (cells ad cI cQ h) H) (hD : va_D (fun q : Nat => s.heap.size ≤ q) (cells ad cI cQ h)) (hS : va_S (fun q : Nat => s.heap.size ≤ q) s.heap H locs)
    (kk : ∀ (h2 : xH) (k2 : Nat) (W2 U2 : Nat → Nat → Nat) (H1 : Heap) (locs1 : List Loc), SI k2 W2 U2 h2 → va_P D vwCl (cells ad cI cQ h2) H1 → va_D (fun q : Nat => s.heap.size ≤ q) (cells ad cI cQ h2) → va_S (fun q : Nat => s.heap.size ≤ q) s.heap H1 locs1 → W p l e room_1 s m #[.ref b] below meth c H1 locs1 cl sl Q (F0 m 499 ls [])) : W p l e room_1 s m #[.ref b] below meth c H locs cl sl Q (F0 m 120 ls []) := by
  obtain ⟨hx, hb0, hr, hml, hown, hts, hX, hbl, hlocks, hgv⟩ := C0
  have hb : c.code = cL_law := hb0
  have hA : ∀ q : Nat, s.heap.size ≤ q → (fun q : Nat => s.heap.size ≤ q) q := fun _ h => h
  have hbA : ¬ (fun q : Nat => s.heap.size ≤ q) b := Nat.not_le.mpr hbl
  obtain ⟨r, h1, h2, k2, W2, U2, c3, c4, S'⟩ := op_write S (xs (nI (i + 1)).toNatClampNeg) (xs (nI (i + 2)).toNatClampNeg)
  refine lv_aload_n hx hb dL_law_120 rfl (lv_at hl 1 rfl) ?_
  refine lv_aload_n hx hb dL_law_121 rfl (lv_at hl 0 rfl) ?_
  refine lv_iload_n hx hb dL_law_122 rfl (lv_at hl 3 rfl) ?_
  refine lv_iconst (v := nI 1) hx hb dL_law_123 (by decide) ?_
  refine lv_iadd hx hb dL_law_124 ?_
  rw [nI_add]
  refine va_sld hx hb hX hbl hbA hS (i := nI (i + 1)) (vp_in_nI (by omega) (by omega)) dL_law_125 ?_
  refine lv_aload_n hx hb dL_law_126 rfl (lv_at hl 0 rfl) ?_
  refine lv_iload_n hx hb dL_law_127 rfl (lv_at hl 3 rfl) ?_
  refine lv_iconst (v := nI 2) hx hb dL_law_128 (by decide) ?_
  refine lv_iadd hx hb dL_law_129 ?_
  rw [nI_add]
  refine va_sld hx hb hX hbl hbA hS (i := nI (i + 2)) (vp_in_nI (by omega) (by omega)) dL_law_130 ?_
  refine lw_calli (q := (3, 0)) (mj := MX3_write) (bytes := cX3_write) (as := [vI (xs (nI (i + 1)).toNatClampNeg), vI (xs (nI (i + 2)).toNatClampNeg)]) (As := [.int (xs (nI (i + 1)).toNatClampNeg), .int (xs (nI (i + 2)).toNatClampNeg)]) (rest := []) ⟨hx, hb, hml, hown, hts⟩ hIa (by decide) rfl (okS_int (as := [(xs (nI (i + 1)).toNatClampNeg), (xs (nI (i + 2)).toNatClampNeg)]) (by decide)) (nj_int (as := [(xs (nI (i + 1)).toNatClampNeg), (xs (nI (i + 2)).toNatClampNeg)])) c3 (cwV 2 hts (goodA (goodL1 (by decide +kernel)) (goodL2 (by decide))) rfl rfl rfl (by decide +kernel) ⟨Nat.le_of_ble_eq_true rfl, Nat.le_of_ble_eq_true rfl⟩) (rcv3 hK hP) rfl rfl hl.1 (Nat.le_of_ble_eq_true rfl) dL_law_131 hcl hsl hK hN hP hD hS hA (fun H locs hP hD hS => ?_)
  refine lv_aload_n hx hb dL_law_134 rfl (lv_at hl 2 rfl) ?_
  refine lv_aload_n hx hb dL_law_135 rfl (lv_at hl 0 rfl) ?_
  refine lv_iload_n hx hb dL_law_136 rfl (lv_at hl 3 rfl) ?_
  refine lv_iconst (v := nI 1) hx hb dL_law_137 (by decide) ?_
  refine lv_iadd hx hb dL_law_138 ?_
  rw [nI_add]
  refine va_sld hx hb hX hbl hbA hS (i := nI (i + 1)) (vp_in_nI (by omega) (by omega)) dL_law_139 ?_
  refine lv_aload_n hx hb dL_law_140 rfl (lv_at hl 0 rfl) ?_
  refine lv_iload_n hx hb dL_law_141 rfl (lv_at hl 3 rfl) ?_
  refine lv_iconst (v := nI 2) hx hb dL_law_142 (by decide) ?_
  refine lv_iadd hx hb dL_law_143 ?_
  rw [nI_add]
  refine va_sld hx hb hX hbl hbA hS (i := nI (i + 2)) (vp_in_nI (by omega) (by omega)) dL_law_144 ?_
  refine lw_calli (q := (4, 0)) (mj := MX4_write) (bytes := cX4_write) (as := [vI (xs (nI (i + 1)).toNatClampNeg), vI (xs (nI (i + 2)).toNatClampNeg)]) (As := [.int (xs (nI (i + 1)).toNatClampNeg), .int (xs (nI (i + 2)).toNatClampNeg)]) (rest := [.int r]) ⟨hx, hb, hml, hown, hts⟩ hIa (by decide) rfl (okS_int (as := [(xs (nI (i + 1)).toNatClampNeg), (xs (nI (i + 2)).toNatClampNeg)]) (by decide)) (nj_int (as := [(xs (nI (i + 1)).toNatClampNeg), (xs (nI (i + 2)).toNatClampNeg)])) c4 (cwV 2 hts (goodA (goodL1 (by decide +kernel)) (goodL2 (by decide))) rfl rfl rfl (by decide +kernel) ⟨Nat.le_of_ble_eq_true rfl, Nat.le_of_ble_eq_true rfl⟩) (rcv4 hK hP) rfl rfl hl.1 (Nat.le_of_ble_eq_true rfl) dL_law_145 hcl hsl hK hN hP hD hS hA (fun H locs hP hD hS => ?_)
  refine lv_icmp_eq (tgt := 499) hx hb dL_law_148 (by decide) (fun q1 => ?_) (fun q1 => absurd rfl q1)
  exact kk h2 k2 W2 U2 _ _ S' hP hD hS
set_option maxHeartbeats 4000000 in
set_option maxRecDepth 100000 in
theorem law_read (hL : L ≤ 385) (C0 : lw_At p s m meth c b L xs) (hIa : adI ad) (hK : va_K D vwCl (xtys cI cQ) s) (hN : NW s) (hcl : cl ≤ room_1.cells) (hsl : sl ≤ room_1.slots) (hi : i + 5 < L) (hl : lv_has ls 4 [(0, .ref b), (1, .ref (ad (3, 0))), (2, .ref (ad (4, 0))), (3, .int (nI i))]) (S : SI k W' U h) (hP : va_P D vwCl (cells ad cI cQ h) H) (hD : va_D (fun q : Nat => s.heap.size ≤ q) (cells ad cI cQ h)) (hS : va_S (fun q : Nat => s.heap.size ≤ q) s.heap H locs)
    (kk : ∀ (h2 : xH) (k2 : Nat) (W2 U2 : Nat → Nat → Nat) (H1 : Heap) (locs1 : List Loc), SI k2 W2 U2 h2 → va_P D vwCl (cells ad cI cQ h2) H1 → va_D (fun q : Nat => s.heap.size ≤ q) (cells ad cI cQ h2) → va_S (fun q : Nat => s.heap.size ≤ q) s.heap H1 locs1 → W p l e room_1 s m #[.ref b] below meth c H1 locs1 cl sl Q (F0 m 499 ls [])) : W p l e room_1 s m #[.ref b] below meth c H locs cl sl Q (F0 m 153 ls []) := by
  obtain ⟨hx, hb0, hr, hml, hown, hts, hX, hbl, hlocks, hgv⟩ := C0
  have hb : c.code = cL_law := hb0
  have hA : ∀ q : Nat, s.heap.size ≤ q → (fun q : Nat => s.heap.size ≤ q) q := fun _ h => h
  have hbA : ¬ (fun q : Nat => s.heap.size ≤ q) b := Nat.not_le.mpr hbl
  obtain ⟨r, h1, h2, k2, W2, U2, c3, c4, S'⟩ := op_read S (xs (nI (i + 1)).toNatClampNeg)
  refine lv_aload_n hx hb dL_law_153 rfl (lv_at hl 1 rfl) ?_
  refine lv_aload_n hx hb dL_law_154 rfl (lv_at hl 0 rfl) ?_
  refine lv_iload_n hx hb dL_law_155 rfl (lv_at hl 3 rfl) ?_
  refine lv_iconst (v := nI 1) hx hb dL_law_156 (by decide) ?_
  refine lv_iadd hx hb dL_law_157 ?_
  rw [nI_add]
  refine va_sld hx hb hX hbl hbA hS (i := nI (i + 1)) (vp_in_nI (by omega) (by omega)) dL_law_158 ?_
  refine lw_calli (q := (3, 0)) (mj := MX3_read) (bytes := cX3_read) (as := [vI (xs (nI (i + 1)).toNatClampNeg)]) (As := [.int (xs (nI (i + 1)).toNatClampNeg)]) (rest := []) ⟨hx, hb, hml, hown, hts⟩ hIa (by decide) rfl (okS_int (as := [(xs (nI (i + 1)).toNatClampNeg)]) (by decide)) (nj_int (as := [(xs (nI (i + 1)).toNatClampNeg)])) c3 (cwV 1 hts (goodA (goodL1 (by decide +kernel)) (goodL2 (by decide))) rfl rfl rfl (by decide +kernel) ⟨Nat.le_of_ble_eq_true rfl, Nat.le_of_ble_eq_true rfl⟩) (rcv3 hK hP) rfl rfl hl.1 (Nat.le_of_ble_eq_true rfl) dL_law_159 hcl hsl hK hN hP hD hS hA (fun H locs hP hD hS => ?_)
  refine lv_aload_n hx hb dL_law_162 rfl (lv_at hl 2 rfl) ?_
  refine lv_aload_n hx hb dL_law_163 rfl (lv_at hl 0 rfl) ?_
  refine lv_iload_n hx hb dL_law_164 rfl (lv_at hl 3 rfl) ?_
  refine lv_iconst (v := nI 1) hx hb dL_law_165 (by decide) ?_
  refine lv_iadd hx hb dL_law_166 ?_
  rw [nI_add]
  refine va_sld hx hb hX hbl hbA hS (i := nI (i + 1)) (vp_in_nI (by omega) (by omega)) dL_law_167 ?_
  refine lw_calli (q := (4, 0)) (mj := MX4_read) (bytes := cX4_read) (as := [vI (xs (nI (i + 1)).toNatClampNeg)]) (As := [.int (xs (nI (i + 1)).toNatClampNeg)]) (rest := [.int r]) ⟨hx, hb, hml, hown, hts⟩ hIa (by decide) rfl (okS_int (as := [(xs (nI (i + 1)).toNatClampNeg)]) (by decide)) (nj_int (as := [(xs (nI (i + 1)).toNatClampNeg)])) c4 (cwV 1 hts (goodA (goodL1 (by decide +kernel)) (goodL2 (by decide))) rfl rfl rfl (by decide +kernel) ⟨Nat.le_of_ble_eq_true rfl, Nat.le_of_ble_eq_true rfl⟩) (rcv4 hK hP) rfl rfl hl.1 (Nat.le_of_ble_eq_true rfl) dL_law_168 hcl hsl hK hN hP hD hS hA (fun H locs hP hD hS => ?_)
  refine lv_icmp_eq (tgt := 499) hx hb dL_law_171 (by decide) (fun q1 => ?_) (fun q1 => absurd rfl q1)
  exact kk h2 k2 W2 U2 _ _ S' hP hD hS
set_option maxHeartbeats 4000000 in
set_option maxRecDepth 100000 in
theorem law_discard (hL : L ≤ 385) (C0 : lw_At p s m meth c b L xs) (hIa : adI ad) (hK : va_K D vwCl (xtys cI cQ) s) (hN : NW s) (hcl : cl ≤ room_1.cells) (hsl : sl ≤ room_1.slots) (hi : i + 5 < L) (hl : lv_has ls 4 [(0, .ref b), (1, .ref (ad (3, 0))), (2, .ref (ad (4, 0))), (3, .int (nI i))]) (S : SI k W' U h) (hP : va_P D vwCl (cells ad cI cQ h) H) (hD : va_D (fun q : Nat => s.heap.size ≤ q) (cells ad cI cQ h)) (hS : va_S (fun q : Nat => s.heap.size ≤ q) s.heap H locs)
    (kk : ∀ (h2 : xH) (k2 : Nat) (W2 U2 : Nat → Nat → Nat) (H1 : Heap) (locs1 : List Loc), SI k2 W2 U2 h2 → va_P D vwCl (cells ad cI cQ h2) H1 → va_D (fun q : Nat => s.heap.size ≤ q) (cells ad cI cQ h2) → va_S (fun q : Nat => s.heap.size ≤ q) s.heap H1 locs1 → W p l e room_1 s m #[.ref b] below meth c H1 locs1 cl sl Q (F0 m 499 ls [])) : W p l e room_1 s m #[.ref b] below meth c H locs cl sl Q (F0 m 176 ls []) := by
  obtain ⟨hx, hb0, hr, hml, hown, hts, hX, hbl, hlocks, hgv⟩ := C0
  have hb : c.code = cL_law := hb0
  have hA : ∀ q : Nat, s.heap.size ≤ q → (fun q : Nat => s.heap.size ≤ q) q := fun _ h => h
  have hbA : ¬ (fun q : Nat => s.heap.size ≤ q) b := Nat.not_le.mpr hbl
  obtain ⟨r, h1, h2, k2, W2, U2, c3, c4, S'⟩ := op_discard S (xs (nI (i + 1)).toNatClampNeg)
  refine lv_aload_n hx hb dL_law_176 rfl (lv_at hl 1 rfl) ?_
  refine lv_aload_n hx hb dL_law_177 rfl (lv_at hl 0 rfl) ?_
  refine lv_iload_n hx hb dL_law_178 rfl (lv_at hl 3 rfl) ?_
  refine lv_iconst (v := nI 1) hx hb dL_law_179 (by decide) ?_
  refine lv_iadd hx hb dL_law_180 ?_
  rw [nI_add]
  refine va_sld hx hb hX hbl hbA hS (i := nI (i + 1)) (vp_in_nI (by omega) (by omega)) dL_law_181 ?_
  refine lw_calli (q := (3, 0)) (mj := MX3_discard) (bytes := cX3_discard) (as := [vI (xs (nI (i + 1)).toNatClampNeg)]) (As := [.int (xs (nI (i + 1)).toNatClampNeg)]) (rest := []) ⟨hx, hb, hml, hown, hts⟩ hIa (by decide) rfl (okS_int (as := [(xs (nI (i + 1)).toNatClampNeg)]) (by decide)) (nj_int (as := [(xs (nI (i + 1)).toNatClampNeg)])) c3 (cwV 1 hts (goodA (goodL1 (by decide +kernel)) (goodL2 (by decide))) rfl rfl rfl (by decide +kernel) ⟨Nat.le_of_ble_eq_true rfl, Nat.le_of_ble_eq_true rfl⟩) (rcv3 hK hP) rfl rfl hl.1 (Nat.le_of_ble_eq_true rfl) dL_law_182 hcl hsl hK hN hP hD hS hA (fun H locs hP hD hS => ?_)
  refine lv_aload_n hx hb dL_law_185 rfl (lv_at hl 2 rfl) ?_
  refine lv_aload_n hx hb dL_law_186 rfl (lv_at hl 0 rfl) ?_
  refine lv_iload_n hx hb dL_law_187 rfl (lv_at hl 3 rfl) ?_
  refine lv_iconst (v := nI 1) hx hb dL_law_188 (by decide) ?_
  refine lv_iadd hx hb dL_law_189 ?_
  rw [nI_add]
  refine va_sld hx hb hX hbl hbA hS (i := nI (i + 1)) (vp_in_nI (by omega) (by omega)) dL_law_190 ?_
  refine lw_calli (q := (4, 0)) (mj := MX4_discard) (bytes := cX4_discard) (as := [vI (xs (nI (i + 1)).toNatClampNeg)]) (As := [.int (xs (nI (i + 1)).toNatClampNeg)]) (rest := [.int r]) ⟨hx, hb, hml, hown, hts⟩ hIa (by decide) rfl (okS_int (as := [(xs (nI (i + 1)).toNatClampNeg)]) (by decide)) (nj_int (as := [(xs (nI (i + 1)).toNatClampNeg)])) c4 (cwV 1 hts (goodA (goodL1 (by decide +kernel)) (goodL2 (by decide))) rfl rfl rfl (by decide +kernel) ⟨Nat.le_of_ble_eq_true rfl, Nat.le_of_ble_eq_true rfl⟩) (rcv4 hK hP) rfl rfl hl.1 (Nat.le_of_ble_eq_true rfl) dL_law_191 hcl hsl hK hN hP hD hS hA (fun H locs hP hD hS => ?_)
  refine lv_icmp_eq (tgt := 499) hx hb dL_law_194 (by decide) (fun q1 => ?_) (fun q1 => absurd rfl q1)
  exact kk h2 k2 W2 U2 _ _ S' hP hD hS
set_option maxHeartbeats 4000000 in
set_option maxRecDepth 100000 in
theorem law_snapshot (hL : L ≤ 385) (C0 : lw_At p s m meth c b L xs) (hIa : adI ad) (hK : va_K D vwCl (xtys cI cQ) s) (hN : NW s) (hcl : cl ≤ room_1.cells) (hsl : sl ≤ room_1.slots) (hi : i + 5 < L) (hl : lv_has ls 4 [(0, .ref b), (1, .ref (ad (3, 0))), (2, .ref (ad (4, 0))), (3, .int (nI i))]) (S : SI k W' U h) (hP : va_P D vwCl (cells ad cI cQ h) H) (hD : va_D (fun q : Nat => s.heap.size ≤ q) (cells ad cI cQ h)) (hS : va_S (fun q : Nat => s.heap.size ≤ q) s.heap H locs)
    (kk : ∀ (h2 : xH) (k2 : Nat) (W2 U2 : Nat → Nat → Nat) (H1 : Heap) (locs1 : List Loc), SI k2 W2 U2 h2 → va_P D vwCl (cells ad cI cQ h2) H1 → va_D (fun q : Nat => s.heap.size ≤ q) (cells ad cI cQ h2) → va_S (fun q : Nat => s.heap.size ≤ q) s.heap H1 locs1 → W p l e room_1 s m #[.ref b] below meth c H1 locs1 cl sl Q (F0 m 499 ls [])) : W p l e room_1 s m #[.ref b] below meth c H locs cl sl Q (F0 m 199 ls []) := by
  obtain ⟨hx, hb0, hr, hml, hown, hts, hX, hbl, hlocks, hgv⟩ := C0
  have hb : c.code = cL_law := hb0
  have hA : ∀ q : Nat, s.heap.size ≤ q → (fun q : Nat => s.heap.size ≤ q) q := fun _ h => h
  have hbA : ¬ (fun q : Nat => s.heap.size ≤ q) b := Nat.not_le.mpr hbl
  obtain ⟨r, h1, h2, k2, W2, U2, c3, c4, S'⟩ := op_snapshot S (xs (nI (i + 1)).toNatClampNeg)
  refine lv_aload_n hx hb dL_law_199 rfl (lv_at hl 1 rfl) ?_
  refine lv_aload_n hx hb dL_law_200 rfl (lv_at hl 0 rfl) ?_
  refine lv_iload_n hx hb dL_law_201 rfl (lv_at hl 3 rfl) ?_
  refine lv_iconst (v := nI 1) hx hb dL_law_202 (by decide) ?_
  refine lv_iadd hx hb dL_law_203 ?_
  rw [nI_add]
  refine va_sld hx hb hX hbl hbA hS (i := nI (i + 1)) (vp_in_nI (by omega) (by omega)) dL_law_204 ?_
  refine lw_calli (q := (3, 0)) (mj := MX3_snapshot) (bytes := cX3_snapshot) (as := [vI (xs (nI (i + 1)).toNatClampNeg)]) (As := [.int (xs (nI (i + 1)).toNatClampNeg)]) (rest := []) ⟨hx, hb, hml, hown, hts⟩ hIa (by decide) rfl (okS_int (as := [(xs (nI (i + 1)).toNatClampNeg)]) (by decide)) (nj_int (as := [(xs (nI (i + 1)).toNatClampNeg)])) c3 (cwV 1 hts (goodA (goodL1 (by decide +kernel)) (goodL2 (by decide))) rfl rfl rfl (by decide +kernel) ⟨Nat.le_of_ble_eq_true rfl, Nat.le_of_ble_eq_true rfl⟩) (rcv3 hK hP) rfl rfl hl.1 (Nat.le_of_ble_eq_true rfl) dL_law_205 hcl hsl hK hN hP hD hS hA (fun H locs hP hD hS => ?_)
  refine lv_aload_n hx hb dL_law_208 rfl (lv_at hl 2 rfl) ?_
  refine lv_aload_n hx hb dL_law_209 rfl (lv_at hl 0 rfl) ?_
  refine lv_iload_n hx hb dL_law_210 rfl (lv_at hl 3 rfl) ?_
  refine lv_iconst (v := nI 1) hx hb dL_law_211 (by decide) ?_
  refine lv_iadd hx hb dL_law_212 ?_
  rw [nI_add]
  refine va_sld hx hb hX hbl hbA hS (i := nI (i + 1)) (vp_in_nI (by omega) (by omega)) dL_law_213 ?_
  refine lw_calli (q := (4, 0)) (mj := MX4_snapshot) (bytes := cX4_snapshot) (as := [vI (xs (nI (i + 1)).toNatClampNeg)]) (As := [.int (xs (nI (i + 1)).toNatClampNeg)]) (rest := [.int r]) ⟨hx, hb, hml, hown, hts⟩ hIa (by decide) rfl (okS_int (as := [(xs (nI (i + 1)).toNatClampNeg)]) (by decide)) (nj_int (as := [(xs (nI (i + 1)).toNatClampNeg)])) c4 (cwV 1 hts (goodA (goodL1 (by decide +kernel)) (goodL2 (by decide))) rfl rfl rfl (by decide +kernel) ⟨Nat.le_of_ble_eq_true rfl, Nat.le_of_ble_eq_true rfl⟩) (rcv4 hK hP) rfl rfl hl.1 (Nat.le_of_ble_eq_true rfl) dL_law_214 hcl hsl hK hN hP hD hS hA (fun H locs hP hD hS => ?_)
  refine lv_icmp_eq (tgt := 499) hx hb dL_law_217 (by decide) (fun q1 => ?_) (fun q1 => absurd rfl q1)
  exact kk h2 k2 W2 U2 _ _ S' hP hD hS
end LAW
