/-! ===== constructors: the class's format ===== -/
theorem goodA {big a b : List Cond} (ha : GoodIn big a) (hb : GoodIn big b) : GoodIn big (a ++ b) := fun w h => (List.mem_append.mp h).elim (fun h => ha w h) (fun h => hb w h)
def fmg (size n : Nat) : Nat → Int32 := fun p => if 16 ≤ p ∧ p < 16 + n then 1 else upd (upd (upd (upd (upd (upd (fun _ => 0) (8 * 0 + 0) (nI 7001)) (8 * 0 + 1) (nI 1)) (8 * 0 + 2) (nI size)) (8 * 0 + 3) (nI 3)) (8 * 0 + 4) (nI 1)) (8 * 1 + 0) (nI 2) p
theorem fmg_0 (size : Nat) : upd (upd (upd (upd (upd (upd (fun _ => 0) (8 * 0 + 0) (nI 7001)) (8 * 0 + 1) (nI 1)) (8 * 0 + 2) (nI size)) (8 * 0 + 3) (nI 3)) (8 * 0 + 4) (nI 1)) (8 * 1 + 0) (nI 2) = fmg size 0 := by
  funext p
  unfold fmg
  rw [if_neg (by omega)]
theorem fmg_s (size n : Nat) : upd (fmg size n) (8 * 2 + n) (nI 1) = fmg size (n + 1) := by
  funext p
  unfold fmg
  simp only [upd]
  by_cases e : p = 8 * 2 + n
  · rw [if_pos e, if_pos (by omega)]; rfl
  · rw [if_neg e]
    by_cases e2 : 16 ≤ p ∧ p < 16 + n
    · rw [if_pos e2, if_pos (by omega)]
    · rw [if_neg e2, if_neg (show ¬ (16 ≤ p ∧ p < 16 + (n + 1)) by omega)]
theorem fmg_4 (size : Nat) : fmg size 4 = E (newF size) := by
  funext p
  by_cases h : p < 20
  · rcases (show p = 0 ∨ p = 1 ∨ p = 2 ∨ p = 3 ∨ p = 4 ∨ p = 5 ∨ p = 6 ∨ p = 7 ∨ p = 8 ∨ p = 9 ∨ p = 10 ∨ p = 11 ∨ p = 12 ∨ p = 13 ∨ p = 14 ∨ p = 15 ∨ p = 16 ∨ p = 17 ∨ p = 18 ∨ p = 19 by omega) with rfl | rfl | rfl | rfl | rfl | rfl | rfl | rfl | rfl | rfl | rfl | rfl | rfl | rfl | rfl | rfl | rfl | rfl | rfl | rfl <;> rfl
  · rw [E_at, newF_0 (by omega)]
    unfold fmg
    rw [if_neg (by omega)]
    simp only [upd]
    rw [if_neg (by omega), if_neg (by omega), if_neg (by omega), if_neg (by omega), if_neg (by omega), if_neg (by omega)]
    rfl
set_option maxHeartbeats 8000000 in
set_option maxRecDepth 100000 in
theorem k_X0_format (l : Launch) (D : va_G) (cI cQ : ClassId) (h0 a sz size : Nat) : Met l yX0_format (wsM 6) ({ frames := 2, cells := 0, slots := 0, locals := 35 }) (va_Pc [.ref h0, .int (nI size)] fun U => U.heap.size = sz ∧ va_P D vwCl [(h0, .inr (0, [.ref a])), (a, .inl (cI, 512, .inl fun _ => 0))] U.heap ∧ va_K D vwCl (xtys cI cQ) U ∧ va_D (fun _ => True) [(h0, .inr (0, [.ref a])), (a, .inl (cI, 512, .inl fun _ => 0))])
    (va_Qv (fun _ : Unit => True) (fun _ t => va_P D vwCl [(h0, .inr (0, [.ref a])), (a, .inl (cI, 512, .inl (E (newF size))))] t.heap ∧ va_D (va_A [(h0, .inr (0, [.ref a])), (a, .inl (cI, 512, .inl fun _ => 0))] sz) [(h0, .inr (0, [.ref a])), (a, .inl (cI, 512, .inl (E (newF size))))]) (va_A [(h0, .inr (0, [.ref a])), (a, .inl (cI, 512, .inl fun _ => 0))] sz)) 0 0 (va_A [(h0, .inr (0, [.ref a])), (a, .inl (cI, 512, .inl fun _ => 0))] sz) := by
  refine Met.ofW (cc := cX0_format) (maxL := 3) (ret := none) (by decide) rfl ?_
  intro p e s m args below meth cc s₁ B hml hv
  obtain ⟨rfl, hsz, hP, hK, hD0⟩ := hv
  have hx := B.exec
  have hb := B.bytes
  have hr := B.returns
  have hts := atoms_spec (ws := wsM 6) B.pre
  have htw : ∀ w, okW w = true → w.before _ s = true := fun w h => hts w (GW_in (okW_in h))
  have hown : s.vm.findClass RX0 = some m.cls := findClass_of_methodNamed B.named
  subst hsz
  have hD := hD0.self (sz := s.heap.size)
  generalize hAe : va_A [(h0, .inr (0, [.ref a])), (a, .inl (cI, 512, .inl fun _ => 0))] s.heap.size = A at hD ⊢
  have hA : ∀ q : Nat, s.heap.size ≤ q → A q := fun q h => by rw [← hAe]; exact Or.inr h
  have hS : va_S A s.heap s.heap [] := va_S.rf
  have hl := lv_entry ([.ref h0, .int (nI size)]) (n := 3) (Nat.le_of_ble_eq_true rfl)
  rw [lg_entry_eq]
  generalize (lg_sl ([.ref h0, .int (nI size)]) ++ List.replicate (3 - (lg_sl ([.ref h0, .int (nI size)])).length) Slot.unset).toArray = ls at hl ⊢
  have hl : lv_has ls 3 [(0, .ref h0), (1, .int (nI size))] := hl
  obtain ⟨Q, hQe⟩ : ∃ Q, Q = MQ below (va_Qv (fun _ : Unit => True) (fun _ t => va_P D vwCl [(h0, .inr (0, [.ref a])), (a, .inl (cI, 512, .inl (E (newF size))))] t.heap ∧ va_D A [(h0, .inr (0, [.ref a])), (a, .inl (cI, 512, .inl (E (newF size))))]) A) #[.ref h0, .int (nI size)] s 0 0 A := ⟨_, rfl⟩
  show W p l e { frames := 2, cells := 0, slots := 0, locals := 35 } s m #[.ref h0, .int (nI size)] below meth cc s.heap [] 0 0 (MQ below (va_Qv (fun _ : Unit => True) (fun _ t => va_P D vwCl [(h0, .inr (0, [.ref a])), (a, .inl (cI, 512, .inl (E (newF size))))] t.heap ∧ va_D A [(h0, .inr (0, [.ref a])), (a, .inl (cI, 512, .inl (E (newF size))))]) A) #[.ref h0, .int (nI size)] s 0 0 A) (F0 m 0 ls [])
  rw [← hQe]
  -- the second loop
  have two : ∀ H locs ls, va_P D vwCl [(h0, .inr (0, [.ref a])), (a, .inl (cI, 512, .inl (fmg size 0)))] H → va_D A [(h0, .inr (0, [.ref a])), (a, .inl (cI, 512, .inl (fmg size 0)))] → va_S A s.heap H locs → lv_has ls 3 [(2, .int (nI 0)), (0, .ref h0), (1, .int (nI size))] → W p l e { frames := 2, cells := 0, slots := 0, locals := 35 } s m #[.ref h0, .int (nI size)] below meth cc H locs 0 0 Q (F0 m 68 ls []) := by
    refine lpN 4 (fun n => ∀ H locs ls, va_P D vwCl [(h0, .inr (0, [.ref a])), (a, .inl (cI, 512, .inl (fmg size n)))] H → va_D A [(h0, .inr (0, [.ref a])), (a, .inl (cI, 512, .inl (fmg size n)))] → va_S A s.heap H locs → lv_has ls 3 [(2, .int (nI n)), (0, .ref h0), (1, .int (nI size))] → W p l e { frames := 2, cells := 0, slots := 0, locals := 35 } s m #[.ref h0, .int (nI size)] below meth cc H locs 0 0 Q (F0 m 68 ls [])) (fun n hn K => ?_) ?_
    · intro H locs ls hP hD hS hl
      refine lv_iload_n hx hb dX0_format_68 rfl (lv_at hl 0 rfl) ?_
      refine lv_iconst (v := nI 3) hx hb dX0_format_69 (by decide) ?_
      refine lv_icmp_gt (tgt := 86) hx hb dX0_format_70 (by decide) (fun q => absurd q (nI_nlt (show n ≤ 3 by omega) (by omega))) (fun _ => ?_)
      refine lv_aload_n hx hb dX0_format_73 rfl (lv_at hl 1 rfl) ?_
      refine lv_iconst (v := nI 2) hx hb dX0_format_74 (by decide) ?_
      refine lv_iload_n hx hb dX0_format_75 rfl (lv_at hl 0 rfl) ?_
      refine lv_iconst (v := nI 1) hx hb dX0_format_76 (by decide) ?_
      have hFc := va_free (wc := [(h0, .inr (0, [.ref a])), (a, .inl (cI, 512, .inl (fmg size n)))]) hD hS hA [0, 1] rfl
      refine va_callv (va_runV (As := [.int (nI 2), .int (nI n), .int (nI 1)]) (rest := []) ⟨hx, hb, hml, hown, hts⟩ (k_X0_put l D cI cQ h0 a H.size (fmg size n) 2 n (nI 1) (by decide) (by omega)) (cwV (maxL := 4) (bytes := cX0_put) 3 hts (goodA (goodG (by decide +kernel)) (wsM_good (mi := 6) (mj := 2) (by decide))) rfl rfl rfl (by decide +kernel) ⟨Nat.le_of_ble_eq_true rfl, Nat.le_of_ble_eq_true rfl⟩) ⟨fun a U g mk q => by obtain ⟨q0, q1, qP, qK, qD⟩ := q; exact ⟨q0, q1, qP, va_K.moved (u := U) (U := U.calling g mk a) (Vm.Alike.refl U.vm) qK, qD⟩, va_recv hK hP (ci := 0) (q0 := 0) rfl rfl, fun U hU hW => ⟨rfl, by rw [hU], by rw [hU]; exact hP, va_K.moved hW.alike hK, hD.weaken (fun _ _ _ _ => trivial)⟩⟩ rfl rfl hl.1 rfl (lv_room (Nat.le_of_ble_eq_true rfl)) dX0_format_77 ⟨Nat.le_of_ble_eq_true rfl, Nat.le_of_ble_eq_true rfl⟩) hS (fun q _ h => hFc q h) hFc (fun u t H1 locs ht hvm h5 hB hz1 hk1 hS => ?_)
      obtain ⟨hP1, hD1⟩ := hB
      rw [ht] at hP1
      obtain ⟨hP, hD⟩ := va_join (wr := []) (w1 := [(h0, .inr (0, [.ref a])), (a, .inl (cI, 512, .inl (upd (fmg size n) (8 * 2 + n) (nI 1))))]) hP hD [0, 1] [] rfl rfl (by decide) (by decide) hk1 hFc hP1 hD1
      generalize H1 = H at hP hS ⊢
      have hP : va_P D vwCl [(h0, .inr (0, [.ref a])), (a, .inl (cI, 512, .inl (upd (fmg size n) (8 * 2 + n) (nI 1))))] H := hP
      have hD : va_D A [(h0, .inr (0, [.ref a])), (a, .inl (cI, 512, .inl (upd (fmg size n) (8 * 2 + n) (nI 1))))] := hD
      rw [fmg_s] at hP hD
      refine lv_iinc (v := nI (n + 1)) (lv' := [(2, .int (nI (n + 1))), (0, .ref h0), (1, .int (nI size))]) hx hb dX0_format_80 hl (k := 0) rfl (nI_add n 1) (by decide) rfl (fun ls hl => ?_)
      refine lv_goto (tgt := 68) hx hb dX0_format_83 (by decide) ?_
      exact K _ _ _ hP hD hS hl
    · intro H locs ls hP hD hS hl
      refine lv_iload_n hx hb dX0_format_68 rfl (lv_at hl 0 rfl) ?_
      refine lv_iconst (v := nI 3) hx hb dX0_format_69 (by decide) ?_
      refine lv_icmp_gt (tgt := 86) hx hb dX0_format_70 (by decide) (fun _ => ?_) (fun q => absurd (nI_lt (show 3 < 4 by decide) (by decide)) q)
      rw [fmg_4] at hP hD
      rw [hQe]
      exact W.vret hx hb hr (fun t ht hW => ⟨⟨(), rfl, trivial, by rw [ht]; exact hP, hD⟩, hS.F ht⟩) hS.2.2 dX0_format_86
  -- the first loop
  refine lv_iconst (v := nI 0) hx hb dX0_format_0 (by decide) ?_
  refine lv_istore_n (lv' := [(2, .int (nI 0)), (0, .ref h0), (1, .int (nI size))]) hx hb dX0_format_1 rfl hl (by decide) rfl (fun ls hl => ?_)
  refine lpN 512 (fun n => ∀ H locs ls, va_P D vwCl [(h0, .inr (0, [.ref a])), (a, .inl (cI, 512, .inl fun _ => 0))] H → va_S A s.heap H locs → lv_has ls 3 [(2, .int (nI n)), (0, .ref h0), (1, .int (nI size))] → W p l e { frames := 2, cells := 0, slots := 0, locals := 35 } s m #[.ref h0, .int (nI size)] below meth cc H locs 0 0 Q (F0 m 2 ls [])) (fun n hn K => ?_) ?_ _ _ _ hP hS hl
  · intro H locs ls hP hS hl
    refine lv_iload_n hx hb dX0_format_2 rfl (lv_at hl 0 rfl) ?_
    refine lv_sipush (v := nI 512) hx hb dX0_format_3 (by decide) ?_
    refine lv_icmp_ge (tgt := 22) hx hb dX0_format_6 (by decide) (fun q => absurd (nI_lt hn (by decide)) (Int32.not_lt.mpr q)) (fun _ => ?_)
    refine lv_aload_n hx hb dX0_format_9 rfl (lv_at hl 1 rfl) ?_
    refine va_get (ci := 0) (v := .ref a) (C := RX0) (T := TX0) (N := 1) hx hb hts (fun w hw => GW_in (lays_in (c := 0) (by decide) w hw)) hown hK hP 0 rfl rfl 0 (by decide) (htw (.fieldLink RX0 9 "LayeredImage$ClusterFile" "words" "[I") (by decide +kernel)) (fun _ h9 => h9) rfl dX0_format_10 ?_
    refine lv_iload_n hx hb dX0_format_13 rfl (lv_at hl 0 rfl) ?_
    refine lv_iconst (v := 0) hx hb dX0_format_14 (by decide) ?_
    refine va_iast hx hb hK hP hD hS 1 0 rfl rfl (inb_vp (inN hn (by decide))) dX0_format_15 (fun H locs hP hD2 hS => ?_)
    have e0 : upd (fun _ => 0) (nI n).toNatClampNeg 0 = fun _ => (0 : Int32) := by
      funext p
      simp only [upd]
      split <;> rfl
    rw [e0] at hP
    refine lv_iinc (v := nI (n + 1)) (lv' := [(2, .int (nI (n + 1))), (0, .ref h0), (1, .int (nI size))]) hx hb dX0_format_16 hl (k := 0) rfl (nI_add n 1) (by decide) rfl (fun ls hl => ?_)
    refine lv_goto (tgt := 2) hx hb dX0_format_19 (by decide) ?_
    exact K _ _ _ hP hS hl
  intro H locs ls hP hS hl
  refine lv_iload_n hx hb dX0_format_2 rfl (lv_at hl 0 rfl) ?_
  refine lv_sipush (v := nI 512) hx hb dX0_format_3 (by decide) ?_
  refine lv_icmp_ge (tgt := 22) hx hb dX0_format_6 (by decide) (fun _ => ?_) (fun q => absurd (Int32.le_refl _) q)
  have hl : lv_has ls 3 [(0, .ref h0), (1, .int (nI size))] := lv_sub hl [1, 2] rfl
  refine lv_aload_n hx hb dX0_format_22 rfl (lv_at hl 0 rfl) ?_
  refine lv_iconst (v := nI 0) hx hb dX0_format_23 (by decide) ?_
  refine lv_iconst (v := nI 0) hx hb dX0_format_24 (by decide) ?_
  refine lv_sipush (v := nI 7001) hx hb dX0_format_25 (by decide) ?_
  have hFc := va_free (wc := [(h0, .inr (0, [.ref a])), (a, .inl (cI, 512, .inl (fun _ => 0)))]) hD hS hA [0, 1] rfl
  refine va_callv (va_runV (As := [.int (nI 0), .int (nI 0), .int (nI 7001)]) (rest := []) ⟨hx, hb, hml, hown, hts⟩ (k_X0_put l D cI cQ h0 a H.size (fun _ => 0) 0 0 (nI 7001) (by decide) (by omega)) (cwV (maxL := 4) (bytes := cX0_put) 3 hts (goodA (goodG (by decide +kernel)) (wsM_good (mi := 6) (mj := 2) (by decide))) rfl rfl rfl (by decide +kernel) ⟨Nat.le_of_ble_eq_true rfl, Nat.le_of_ble_eq_true rfl⟩) ⟨fun a U g mk q => by obtain ⟨q0, q1, qP, qK, qD⟩ := q; exact ⟨q0, q1, qP, va_K.moved (u := U) (U := U.calling g mk a) (Vm.Alike.refl U.vm) qK, qD⟩, va_recv hK hP (ci := 0) (q0 := 0) rfl rfl, fun U hU hW => ⟨rfl, by rw [hU], by rw [hU]; exact hP, va_K.moved hW.alike hK, hD.weaken (fun _ _ _ _ => trivial)⟩⟩ rfl rfl hl.1 rfl (lv_room (Nat.le_of_ble_eq_true rfl)) dX0_format_28 ⟨Nat.le_of_ble_eq_true rfl, Nat.le_of_ble_eq_true rfl⟩) hS (fun q _ h => hFc q h) hFc (fun u t H1 locs ht hvm h5 hB hz1 hk1 hS => ?_)
  obtain ⟨hP1, hD1⟩ := hB
  rw [ht] at hP1
  obtain ⟨hP, hD⟩ := va_join (wr := []) (w1 := [(h0, .inr (0, [.ref a])), (a, .inl (cI, 512, .inl (upd (fun _ => 0) (8 * 0 + 0) (nI 7001))))]) hP hD [0, 1] [] rfl rfl (by decide) (by decide) hk1 hFc hP1 hD1
  generalize H1 = H at hP hS ⊢
  have hP : va_P D vwCl [(h0, .inr (0, [.ref a])), (a, .inl (cI, 512, .inl (upd (fun _ => 0) (8 * 0 + 0) (nI 7001))))] H := hP
  have hD : va_D A [(h0, .inr (0, [.ref a])), (a, .inl (cI, 512, .inl (upd (fun _ => 0) (8 * 0 + 0) (nI 7001))))] := hD
  refine lv_aload_n hx hb dX0_format_31 rfl (lv_at hl 0 rfl) ?_
  refine lv_iconst (v := nI 0) hx hb dX0_format_32 (by decide) ?_
  refine lv_iconst (v := nI 1) hx hb dX0_format_33 (by decide) ?_
  refine lv_iconst (v := nI 1) hx hb dX0_format_34 (by decide) ?_
  have hFc := va_free (wc := [(h0, .inr (0, [.ref a])), (a, .inl (cI, 512, .inl (upd (fun _ => 0) (8 * 0 + 0) (nI 7001))))]) hD hS hA [0, 1] rfl
  refine va_callv (va_runV (As := [.int (nI 0), .int (nI 1), .int (nI 1)]) (rest := []) ⟨hx, hb, hml, hown, hts⟩ (k_X0_put l D cI cQ h0 a H.size (upd (fun _ => 0) (8 * 0 + 0) (nI 7001)) 0 1 (nI 1) (by decide) (by omega)) (cwV (maxL := 4) (bytes := cX0_put) 3 hts (goodA (goodG (by decide +kernel)) (wsM_good (mi := 6) (mj := 2) (by decide))) rfl rfl rfl (by decide +kernel) ⟨Nat.le_of_ble_eq_true rfl, Nat.le_of_ble_eq_true rfl⟩) ⟨fun a U g mk q => by obtain ⟨q0, q1, qP, qK, qD⟩ := q; exact ⟨q0, q1, qP, va_K.moved (u := U) (U := U.calling g mk a) (Vm.Alike.refl U.vm) qK, qD⟩, va_recv hK hP (ci := 0) (q0 := 0) rfl rfl, fun U hU hW => ⟨rfl, by rw [hU], by rw [hU]; exact hP, va_K.moved hW.alike hK, hD.weaken (fun _ _ _ _ => trivial)⟩⟩ rfl rfl hl.1 rfl (lv_room (Nat.le_of_ble_eq_true rfl)) dX0_format_35 ⟨Nat.le_of_ble_eq_true rfl, Nat.le_of_ble_eq_true rfl⟩) hS (fun q _ h => hFc q h) hFc (fun u t H1 locs ht hvm h5 hB hz1 hk1 hS => ?_)
  obtain ⟨hP1, hD1⟩ := hB
  rw [ht] at hP1
  obtain ⟨hP, hD⟩ := va_join (wr := []) (w1 := [(h0, .inr (0, [.ref a])), (a, .inl (cI, 512, .inl (upd (upd (fun _ => 0) (8 * 0 + 0) (nI 7001)) (8 * 0 + 1) (nI 1))))]) hP hD [0, 1] [] rfl rfl (by decide) (by decide) hk1 hFc hP1 hD1
  generalize H1 = H at hP hS ⊢
  have hP : va_P D vwCl [(h0, .inr (0, [.ref a])), (a, .inl (cI, 512, .inl (upd (upd (fun _ => 0) (8 * 0 + 0) (nI 7001)) (8 * 0 + 1) (nI 1))))] H := hP
  have hD : va_D A [(h0, .inr (0, [.ref a])), (a, .inl (cI, 512, .inl (upd (upd (fun _ => 0) (8 * 0 + 0) (nI 7001)) (8 * 0 + 1) (nI 1))))] := hD
  refine lv_aload_n hx hb dX0_format_38 rfl (lv_at hl 0 rfl) ?_
  refine lv_iconst (v := nI 0) hx hb dX0_format_39 (by decide) ?_
  refine lv_iconst (v := nI 2) hx hb dX0_format_40 (by decide) ?_
  refine lv_iload_n hx hb dX0_format_41 rfl (lv_at hl 1 rfl) ?_
  have hFc := va_free (wc := [(h0, .inr (0, [.ref a])), (a, .inl (cI, 512, .inl (upd (upd (fun _ => 0) (8 * 0 + 0) (nI 7001)) (8 * 0 + 1) (nI 1))))]) hD hS hA [0, 1] rfl
  refine va_callv (va_runV (As := [.int (nI 0), .int (nI 2), .int (nI size)]) (rest := []) ⟨hx, hb, hml, hown, hts⟩ (k_X0_put l D cI cQ h0 a H.size (upd (upd (fun _ => 0) (8 * 0 + 0) (nI 7001)) (8 * 0 + 1) (nI 1)) 0 2 (nI size) (by decide) (by omega)) (cwV (maxL := 4) (bytes := cX0_put) 3 hts (goodA (goodG (by decide +kernel)) (wsM_good (mi := 6) (mj := 2) (by decide))) rfl rfl rfl (by decide +kernel) ⟨Nat.le_of_ble_eq_true rfl, Nat.le_of_ble_eq_true rfl⟩) ⟨fun a U g mk q => by obtain ⟨q0, q1, qP, qK, qD⟩ := q; exact ⟨q0, q1, qP, va_K.moved (u := U) (U := U.calling g mk a) (Vm.Alike.refl U.vm) qK, qD⟩, va_recv hK hP (ci := 0) (q0 := 0) rfl rfl, fun U hU hW => ⟨rfl, by rw [hU], by rw [hU]; exact hP, va_K.moved hW.alike hK, hD.weaken (fun _ _ _ _ => trivial)⟩⟩ rfl rfl hl.1 rfl (lv_room (Nat.le_of_ble_eq_true rfl)) dX0_format_42 ⟨Nat.le_of_ble_eq_true rfl, Nat.le_of_ble_eq_true rfl⟩) hS (fun q _ h => hFc q h) hFc (fun u t H1 locs ht hvm h5 hB hz1 hk1 hS => ?_)
  obtain ⟨hP1, hD1⟩ := hB
  rw [ht] at hP1
  obtain ⟨hP, hD⟩ := va_join (wr := []) (w1 := [(h0, .inr (0, [.ref a])), (a, .inl (cI, 512, .inl (upd (upd (upd (fun _ => 0) (8 * 0 + 0) (nI 7001)) (8 * 0 + 1) (nI 1)) (8 * 0 + 2) (nI size))))]) hP hD [0, 1] [] rfl rfl (by decide) (by decide) hk1 hFc hP1 hD1
  generalize H1 = H at hP hS ⊢
  have hP : va_P D vwCl [(h0, .inr (0, [.ref a])), (a, .inl (cI, 512, .inl (upd (upd (upd (fun _ => 0) (8 * 0 + 0) (nI 7001)) (8 * 0 + 1) (nI 1)) (8 * 0 + 2) (nI size))))] H := hP
  have hD : va_D A [(h0, .inr (0, [.ref a])), (a, .inl (cI, 512, .inl (upd (upd (upd (fun _ => 0) (8 * 0 + 0) (nI 7001)) (8 * 0 + 1) (nI 1)) (8 * 0 + 2) (nI size))))] := hD
  refine lv_aload_n hx hb dX0_format_45 rfl (lv_at hl 0 rfl) ?_
  refine lv_iconst (v := nI 0) hx hb dX0_format_46 (by decide) ?_
  refine lv_iconst (v := nI 3) hx hb dX0_format_47 (by decide) ?_
  refine lv_iconst (v := nI 3) hx hb dX0_format_48 (by decide) ?_
  have hFc := va_free (wc := [(h0, .inr (0, [.ref a])), (a, .inl (cI, 512, .inl (upd (upd (upd (fun _ => 0) (8 * 0 + 0) (nI 7001)) (8 * 0 + 1) (nI 1)) (8 * 0 + 2) (nI size))))]) hD hS hA [0, 1] rfl
  refine va_callv (va_runV (As := [.int (nI 0), .int (nI 3), .int (nI 3)]) (rest := []) ⟨hx, hb, hml, hown, hts⟩ (k_X0_put l D cI cQ h0 a H.size (upd (upd (upd (fun _ => 0) (8 * 0 + 0) (nI 7001)) (8 * 0 + 1) (nI 1)) (8 * 0 + 2) (nI size)) 0 3 (nI 3) (by decide) (by omega)) (cwV (maxL := 4) (bytes := cX0_put) 3 hts (goodA (goodG (by decide +kernel)) (wsM_good (mi := 6) (mj := 2) (by decide))) rfl rfl rfl (by decide +kernel) ⟨Nat.le_of_ble_eq_true rfl, Nat.le_of_ble_eq_true rfl⟩) ⟨fun a U g mk q => by obtain ⟨q0, q1, qP, qK, qD⟩ := q; exact ⟨q0, q1, qP, va_K.moved (u := U) (U := U.calling g mk a) (Vm.Alike.refl U.vm) qK, qD⟩, va_recv hK hP (ci := 0) (q0 := 0) rfl rfl, fun U hU hW => ⟨rfl, by rw [hU], by rw [hU]; exact hP, va_K.moved hW.alike hK, hD.weaken (fun _ _ _ _ => trivial)⟩⟩ rfl rfl hl.1 rfl (lv_room (Nat.le_of_ble_eq_true rfl)) dX0_format_49 ⟨Nat.le_of_ble_eq_true rfl, Nat.le_of_ble_eq_true rfl⟩) hS (fun q _ h => hFc q h) hFc (fun u t H1 locs ht hvm h5 hB hz1 hk1 hS => ?_)
  obtain ⟨hP1, hD1⟩ := hB
  rw [ht] at hP1
  obtain ⟨hP, hD⟩ := va_join (wr := []) (w1 := [(h0, .inr (0, [.ref a])), (a, .inl (cI, 512, .inl (upd (upd (upd (upd (fun _ => 0) (8 * 0 + 0) (nI 7001)) (8 * 0 + 1) (nI 1)) (8 * 0 + 2) (nI size)) (8 * 0 + 3) (nI 3))))]) hP hD [0, 1] [] rfl rfl (by decide) (by decide) hk1 hFc hP1 hD1
  generalize H1 = H at hP hS ⊢
  have hP : va_P D vwCl [(h0, .inr (0, [.ref a])), (a, .inl (cI, 512, .inl (upd (upd (upd (upd (fun _ => 0) (8 * 0 + 0) (nI 7001)) (8 * 0 + 1) (nI 1)) (8 * 0 + 2) (nI size)) (8 * 0 + 3) (nI 3))))] H := hP
  have hD : va_D A [(h0, .inr (0, [.ref a])), (a, .inl (cI, 512, .inl (upd (upd (upd (upd (fun _ => 0) (8 * 0 + 0) (nI 7001)) (8 * 0 + 1) (nI 1)) (8 * 0 + 2) (nI size)) (8 * 0 + 3) (nI 3))))] := hD
  refine lv_aload_n hx hb dX0_format_52 rfl (lv_at hl 0 rfl) ?_
  refine lv_iconst (v := nI 0) hx hb dX0_format_53 (by decide) ?_
  refine lv_iconst (v := nI 4) hx hb dX0_format_54 (by decide) ?_
  refine lv_iconst (v := nI 1) hx hb dX0_format_55 (by decide) ?_
  have hFc := va_free (wc := [(h0, .inr (0, [.ref a])), (a, .inl (cI, 512, .inl (upd (upd (upd (upd (fun _ => 0) (8 * 0 + 0) (nI 7001)) (8 * 0 + 1) (nI 1)) (8 * 0 + 2) (nI size)) (8 * 0 + 3) (nI 3))))]) hD hS hA [0, 1] rfl
  refine va_callv (va_runV (As := [.int (nI 0), .int (nI 4), .int (nI 1)]) (rest := []) ⟨hx, hb, hml, hown, hts⟩ (k_X0_put l D cI cQ h0 a H.size (upd (upd (upd (upd (fun _ => 0) (8 * 0 + 0) (nI 7001)) (8 * 0 + 1) (nI 1)) (8 * 0 + 2) (nI size)) (8 * 0 + 3) (nI 3)) 0 4 (nI 1) (by decide) (by omega)) (cwV (maxL := 4) (bytes := cX0_put) 3 hts (goodA (goodG (by decide +kernel)) (wsM_good (mi := 6) (mj := 2) (by decide))) rfl rfl rfl (by decide +kernel) ⟨Nat.le_of_ble_eq_true rfl, Nat.le_of_ble_eq_true rfl⟩) ⟨fun a U g mk q => by obtain ⟨q0, q1, qP, qK, qD⟩ := q; exact ⟨q0, q1, qP, va_K.moved (u := U) (U := U.calling g mk a) (Vm.Alike.refl U.vm) qK, qD⟩, va_recv hK hP (ci := 0) (q0 := 0) rfl rfl, fun U hU hW => ⟨rfl, by rw [hU], by rw [hU]; exact hP, va_K.moved hW.alike hK, hD.weaken (fun _ _ _ _ => trivial)⟩⟩ rfl rfl hl.1 rfl (lv_room (Nat.le_of_ble_eq_true rfl)) dX0_format_56 ⟨Nat.le_of_ble_eq_true rfl, Nat.le_of_ble_eq_true rfl⟩) hS (fun q _ h => hFc q h) hFc (fun u t H1 locs ht hvm h5 hB hz1 hk1 hS => ?_)
  obtain ⟨hP1, hD1⟩ := hB
  rw [ht] at hP1
  obtain ⟨hP, hD⟩ := va_join (wr := []) (w1 := [(h0, .inr (0, [.ref a])), (a, .inl (cI, 512, .inl (upd (upd (upd (upd (upd (fun _ => 0) (8 * 0 + 0) (nI 7001)) (8 * 0 + 1) (nI 1)) (8 * 0 + 2) (nI size)) (8 * 0 + 3) (nI 3)) (8 * 0 + 4) (nI 1))))]) hP hD [0, 1] [] rfl rfl (by decide) (by decide) hk1 hFc hP1 hD1
  generalize H1 = H at hP hS ⊢
  have hP : va_P D vwCl [(h0, .inr (0, [.ref a])), (a, .inl (cI, 512, .inl (upd (upd (upd (upd (upd (fun _ => 0) (8 * 0 + 0) (nI 7001)) (8 * 0 + 1) (nI 1)) (8 * 0 + 2) (nI size)) (8 * 0 + 3) (nI 3)) (8 * 0 + 4) (nI 1))))] H := hP
  have hD : va_D A [(h0, .inr (0, [.ref a])), (a, .inl (cI, 512, .inl (upd (upd (upd (upd (upd (fun _ => 0) (8 * 0 + 0) (nI 7001)) (8 * 0 + 1) (nI 1)) (8 * 0 + 2) (nI size)) (8 * 0 + 3) (nI 3)) (8 * 0 + 4) (nI 1))))] := hD
  refine lv_aload_n hx hb dX0_format_59 rfl (lv_at hl 0 rfl) ?_
  refine lv_iconst (v := nI 1) hx hb dX0_format_60 (by decide) ?_
  refine lv_iconst (v := nI 0) hx hb dX0_format_61 (by decide) ?_
  refine lv_iconst (v := nI 2) hx hb dX0_format_62 (by decide) ?_
  have hFc := va_free (wc := [(h0, .inr (0, [.ref a])), (a, .inl (cI, 512, .inl (upd (upd (upd (upd (upd (fun _ => 0) (8 * 0 + 0) (nI 7001)) (8 * 0 + 1) (nI 1)) (8 * 0 + 2) (nI size)) (8 * 0 + 3) (nI 3)) (8 * 0 + 4) (nI 1))))]) hD hS hA [0, 1] rfl
  refine va_callv (va_runV (As := [.int (nI 1), .int (nI 0), .int (nI 2)]) (rest := []) ⟨hx, hb, hml, hown, hts⟩ (k_X0_put l D cI cQ h0 a H.size (upd (upd (upd (upd (upd (fun _ => 0) (8 * 0 + 0) (nI 7001)) (8 * 0 + 1) (nI 1)) (8 * 0 + 2) (nI size)) (8 * 0 + 3) (nI 3)) (8 * 0 + 4) (nI 1)) 1 0 (nI 2) (by decide) (by omega)) (cwV (maxL := 4) (bytes := cX0_put) 3 hts (goodA (goodG (by decide +kernel)) (wsM_good (mi := 6) (mj := 2) (by decide))) rfl rfl rfl (by decide +kernel) ⟨Nat.le_of_ble_eq_true rfl, Nat.le_of_ble_eq_true rfl⟩) ⟨fun a U g mk q => by obtain ⟨q0, q1, qP, qK, qD⟩ := q; exact ⟨q0, q1, qP, va_K.moved (u := U) (U := U.calling g mk a) (Vm.Alike.refl U.vm) qK, qD⟩, va_recv hK hP (ci := 0) (q0 := 0) rfl rfl, fun U hU hW => ⟨rfl, by rw [hU], by rw [hU]; exact hP, va_K.moved hW.alike hK, hD.weaken (fun _ _ _ _ => trivial)⟩⟩ rfl rfl hl.1 rfl (lv_room (Nat.le_of_ble_eq_true rfl)) dX0_format_63 ⟨Nat.le_of_ble_eq_true rfl, Nat.le_of_ble_eq_true rfl⟩) hS (fun q _ h => hFc q h) hFc (fun u t H1 locs ht hvm h5 hB hz1 hk1 hS => ?_)
  obtain ⟨hP1, hD1⟩ := hB
  rw [ht] at hP1
  obtain ⟨hP, hD⟩ := va_join (wr := []) (w1 := [(h0, .inr (0, [.ref a])), (a, .inl (cI, 512, .inl (upd (upd (upd (upd (upd (upd (fun _ => 0) (8 * 0 + 0) (nI 7001)) (8 * 0 + 1) (nI 1)) (8 * 0 + 2) (nI size)) (8 * 0 + 3) (nI 3)) (8 * 0 + 4) (nI 1)) (8 * 1 + 0) (nI 2))))]) hP hD [0, 1] [] rfl rfl (by decide) (by decide) hk1 hFc hP1 hD1
  generalize H1 = H at hP hS ⊢
  have hP : va_P D vwCl [(h0, .inr (0, [.ref a])), (a, .inl (cI, 512, .inl (upd (upd (upd (upd (upd (upd (fun _ => 0) (8 * 0 + 0) (nI 7001)) (8 * 0 + 1) (nI 1)) (8 * 0 + 2) (nI size)) (8 * 0 + 3) (nI 3)) (8 * 0 + 4) (nI 1)) (8 * 1 + 0) (nI 2))))] H := hP
  have hD : va_D A [(h0, .inr (0, [.ref a])), (a, .inl (cI, 512, .inl (upd (upd (upd (upd (upd (upd (fun _ => 0) (8 * 0 + 0) (nI 7001)) (8 * 0 + 1) (nI 1)) (8 * 0 + 2) (nI size)) (8 * 0 + 3) (nI 3)) (8 * 0 + 4) (nI 1)) (8 * 1 + 0) (nI 2))))] := hD
  rw [fmg_0] at hP hD
  refine lv_iconst (v := nI 0) hx hb dX0_format_66 (by decide) ?_
  refine lv_istore_n (lv' := [(2, .int (nI 0)), (0, .ref h0), (1, .int (nI size))]) hx hb dX0_format_67 rfl hl (by decide) rfl (fun ls hl => ?_)
  exact two _ _ _ hP hD hS hl
