/-! ===== the law's loop ===== -/
theorem head_lt {L i : Nat} (hL : L ≤ 385) (hi : i < 1000) (q : ¬ nI L - 6 < nI i) : i + 5 < L := by
  rcases Nat.lt_or_ge L 6 with h | h
  · exfalso
    refine q (Int32.lt_of_lt_of_le (b := 0) ?_ (nI_le (Nat.zero_le i) (by omega)))
    rcases (show L = 0 ∨ L = 1 ∨ L = 2 ∨ L = 3 ∨ L = 4 ∨ L = 5 by omega) with rfl | rfl | rfl | rfl | rfl | rfl <;> decide
  · have e : nI L - 6 = nI (L - 6) := pk_sub (b := 6) h
    rw [e] at q
    have : ¬ L - 6 < i := fun h2 => q (nI_lt h2 (by omega))
    omega
theorem and15 (x : Int32) : ∃ k : Nat, k < 16 ∧ (x &&& 15).toInt = (k : Int) := by
  have h : (x &&& 15).toBitVec.toNat < 16 := by
    rw [Int32.toBitVec_and, BitVec.toNat_and]
    exact Nat.lt_of_le_of_lt Nat.and_le_right (by decide)
  refine ⟨(x &&& 15).toBitVec.toNat, h, ?_⟩
  show (x &&& 15).toBitVec.toInt = _
  rw [BitVec.toInt_eq_toNat_of_lt (by omega)]
section LAWL
variable {p : Program} {l : Launch} {e : Env} {s : State} {m : MethodId} {below : List Frame} {meth : Method} {c : Code} {b L : Nat} {xs : Nat → Int32} {D : va_G} {cI cQ : ClassId} {ad : xP → Nat} {cl sl : Nat}
set_option maxHeartbeats 4000000 in
set_option maxRecDepth 100000 in
theorem law_loop (hL : L ≤ 385) (C0 : lw_At p s m meth c b L xs) (hIa : adI ad) (hK : va_K D vwCl (xtys cI cQ) s) (hN : NW s) (hcl : cl ≤ room_1.cells) (hsl : sl ≤ room_1.slots) : ∀ (n i : Nat), L + 7 ≤ i + n → i ≤ L + 1 → ∀ (h : xH) (k : Nat) (W' U : Nat → Nat → Nat) (H : Heap) (locs : List Loc) (ls : Array Slot), lv_has ls 4 [(0, .ref b), (1, .ref (ad (3, 0))), (2, .ref (ad (4, 0))), (3, .int (nI i))] → SI k W' U h → va_P D vwCl (cells ad cI cQ h) H → va_D (fun q : Nat => s.heap.size ≤ q) (cells ad cI cQ h) → va_S (fun q : Nat => s.heap.size ≤ q) s.heap H locs →
    W p l e room_1 s m #[.ref b] below meth c H locs cl sl (lw_Z below #[.ref b] s) (F0 m 28 ls []) := by
  have C1 := C0
  obtain ⟨hx, hb0, hr, hml, hown, hts, hX, hbl, hlocks, hgv⟩ := C1
  have hb : c.code = cL_law := hb0
  have hbA : ¬ (fun q : Nat => s.heap.size ≤ q) b := Nat.not_le.mpr hbl
  intro n
  induction n with
  | zero =>
    intro i h1 h2
    exact absurd h1 (by omega)
  | succ n ih =>
    intro i hn hi h k W' U H locs ls hl S hP hD hS
    refine lv_iload_n hx hb dL_law_28 rfl (lv_at hl 3 rfl) ?_
    refine lv_aload_n hx hb dL_law_29 rfl (lv_at hl 0 rfl) ?_
    refine va_slen hx hb hX hbl hbA hS dL_law_30 ?_
    refine lv_bipush (v := 6) hx hb dL_law_31 (by decide) ?_
    refine lv_isub hx hb dL_law_33 ?_
    refine lv_icmp_gt (tgt := 505) hx hb dL_law_34 (by decide) (fun q1 => ?_) (fun q1 => ?_)
    · refine lv_iconst (v := 1) hx hb dL_law_505 (by decide) ?_
      refine va_forget (fun q hq => hS.2.2 q hq) ?_
      refine W.widen (k := 600000) (n := 7302250) hcl hsl ?_
      exact lw_ret hx hb hr hlocks dL_law_506
    · have hlt : i + 5 < L := head_lt hL (by omega) q1
      have kk : ∀ (h2 : xH) (k2 : Nat) (W2 U2 : Nat → Nat → Nat) (H1 : Heap) (locs1 : List Loc), SI k2 W2 U2 h2 → va_P D vwCl (cells ad cI cQ h2) H1 → va_D (fun q : Nat => s.heap.size ≤ q) (cells ad cI cQ h2) → va_S (fun q : Nat => s.heap.size ≤ q) s.heap H1 locs1 → W p l e room_1 s m #[.ref b] below meth c H1 locs1 cl sl (lw_Z below #[.ref b] s) (F0 m 499 ls []) := by
        intro h2 k2 W2 U2 H1 locs1 S2 hP2 hD2 hS2
        refine lv_iinc (v := nI (i + 6)) (lv' := [(3, .int (nI (i + 6))), (0, .ref b), (1, .ref (ad (3, 0))), (2, .ref (ad (4, 0)))]) hx hb dL_law_499 hl (k := 3) rfl (nI_add i 6) (by decide) rfl (fun ls hl => ?_)
        refine lv_goto (tgt := 28) hx hb dL_law_502 (by decide) ?_
        exact ih (i + 6) (by omega) (by omega) h2 k2 W2 U2 H1 locs1 ls (lv_sub hl [1, 2, 3, 0] rfl) S2 hP2 hD2 hS2
      refine lv_aload_n hx hb dL_law_37 rfl (lv_at hl 0 rfl) ?_
      refine lv_iload_n hx hb dL_law_38 rfl (lv_at hl 3 rfl) ?_
      refine va_sld hx hb hX hbl hbA hS (i := nI i) (vp_in_nI (by omega) (by omega)) dL_law_39 ?_
      refine lv_bipush (v := 15) hx hb dL_law_40 (by decide) ?_
      refine lv_iand hx hb dL_law_42 ?_
      obtain ⟨j, hj, hjx⟩ := and15 (xs (nI i).toNatClampNeg)
      generalize (xs (nI i).toNatClampNeg) &&& 15 = y at hjx ⊢
      rcases (show j = 0 ∨ j = 1 ∨ j = 2 ∨ j = 3 ∨ j = 4 ∨ j = 5 ∨ j = 6 ∨ j = 7 ∨ j = 8 ∨ j = 9 ∨ j = 10 ∨ j = 11 ∨ j = 12 ∨ j = 13 ∨ j = 14 ∨ j = 15 by omega) with rfl | rfl | rfl | rfl | rfl | rfl | rfl | rfl | rfl | rfl | rfl | rfl | rfl | rfl | rfl | rfl
      · refine lv_tableIn (off := 77) (tgt := 120) hx hb dL_law_43 (by rw [hjx]; decide) (by rw [hjx]; decide) (by rw [hjx]; rfl) (by decide) ?_
        exact law_write hL C0 hIa hK hN hcl hsl hlt hl S hP hD hS kk
      · refine lv_tableIn (off := 110) (tgt := 153) hx hb dL_law_43 (by rw [hjx]; decide) (by rw [hjx]; decide) (by rw [hjx]; rfl) (by decide) ?_
        exact law_read hL C0 hIa hK hN hcl hsl hlt hl S hP hD hS kk
      · refine lv_tableIn (off := 133) (tgt := 176) hx hb dL_law_43 (by rw [hjx]; decide) (by rw [hjx]; decide) (by rw [hjx]; rfl) (by decide) ?_
        exact law_discard hL C0 hIa hK hN hcl hsl hlt hl S hP hD hS kk
      · refine lv_tableIn (off := 156) (tgt := 199) hx hb dL_law_43 (by rw [hjx]; decide) (by rw [hjx]; decide) (by rw [hjx]; rfl) (by decide) ?_
        exact law_snapshot hL C0 hIa hK hN hcl hsl hlt hl S hP hD hS kk
      · refine lv_tableIn (off := 179) (tgt := 222) hx hb dL_law_43 (by rw [hjx]; decide) (by rw [hjx]; decide) (by rw [hjx]; rfl) (by decide) ?_
        exact law_revert hL C0 hIa hK hN hcl hsl hlt hl S hP hD hS kk
      · refine lv_tableIn (off := 202) (tgt := 245) hx hb dL_law_43 (by rw [hjx]; decide) (by rw [hjx]; decide) (by rw [hjx]; rfl) (by decide) ?_
        exact law_delete hL C0 hIa hK hN hcl hsl hlt hl S hP hD hS kk
      · refine lv_tableIn (off := 225) (tgt := 268) hx hb dL_law_43 (by rw [hjx]; decide) (by rw [hjx]; decide) (by rw [hjx]; rfl) (by decide) ?_
        exact law_readOld hL C0 hIa hK hN hcl hsl hlt hl S hP hD hS kk
      · refine lv_tableIn (off := 259) (tgt := 302) hx hb dL_law_43 (by rw [hjx]; decide) (by rw [hjx]; decide) (by rw [hjx]; rfl) (by decide) ?_
        exact law_overlay hL C0 hIa hK hN hcl hsl hlt hl S hP hD hS kk
      · refine lv_tableIn (off := 272) (tgt := 315) hx hb dL_law_43 (by rw [hjx]; decide) (by rw [hjx]; decide) (by rw [hjx]; rfl) (by decide) ?_
        exact law_commit hL C0 hIa hK hN hcl hsl hlt hl S hP hD hS kk
      · refine lv_tableIn (off := 285) (tgt := 328) hx hb dL_law_43 (by rw [hjx]; decide) (by rw [hjx]; decide) (by rw [hjx]; rfl) (by decide) ?_
        exact law_grow hL C0 hIa hK hN hcl hsl hlt hl S hP hD hS kk
      · refine lv_tableIn (off := 308) (tgt := 351) hx hb dL_law_43 (by rw [hjx]; decide) (by rw [hjx]; decide) (by rw [hjx]; rfl) (by decide) ?_
        exact law_size hL C0 hIa hK hN hcl hsl hlt hl S hP hD hS kk
      · refine lv_tableIn (off := 321) (tgt := 364) hx hb dL_law_43 (by rw [hjx]; decide) (by rw [hjx]; decide) (by rw [hjx]; rfl) (by decide) ?_
        exact law_images hL C0 hIa hK hN hcl hsl hlt hl S hP hD hS kk
      · refine lv_tableIn (off := 334) (tgt := 377) hx hb dL_law_43 (by rw [hjx]; decide) (by rw [hjx]; decide) (by rw [hjx]; rfl) (by decide) ?_
        exact law_used hL C0 hIa hK hN hcl hsl hlt hl S hP hD hS kk
      · refine lv_tableIn (off := 347) (tgt := 390) hx hb dL_law_43 (by rw [hjx]; decide) (by rw [hjx]; decide) (by rw [hjx]; rfl) (by decide) ?_
        exact law_word hL C0 hIa hK hN hcl hsl hlt hl S hP hD hS kk
      · refine lv_tableIn (off := 380) (tgt := 423) hx hb dL_law_43 (by rw [hjx]; decide) (by rw [hjx]; decide) (by rw [hjx]; rfl) (by decide) ?_
        exact law_stage hL C0 hIa hK hN hcl hsl hlt hl S hP hD hS kk
      · refine lv_tableIn (off := 443) (tgt := 486) hx hb dL_law_43 (by rw [hjx]; decide) (by rw [hjx]; decide) (by rw [hjx]; rfl) (by decide) ?_
        exact law_load hL C0 hIa hK hN hcl hsl hlt hl S hP hD hS kk
end LAWL
