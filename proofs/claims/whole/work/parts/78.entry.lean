/-! ===== the law's entry: classes, nest mates ===== -/
theorem int_cls {args : Array Value} {s : State} (h : (Cond.arrayClass .int).before args s = true) : ∃ cI, ArrOfT s cI .int ∧ va_RA s cI .int := by
  obtain ⟨cA, kA, comp, h1, h2, h3⟩ := Cond.arrayClass_spec h
  exact ⟨cA, fun n z => ⟨fun k h => (by cases h), kA, h2, comp, h3⟩, h1⟩
theorem ref_cls {C : String} {s : State} (h : va_AO C s) : ∃ cQ, ArrOfT s cQ (.object C) ∧ va_RA s cQ (.object C) := by
  obtain ⟨comp, c, k, h1, h2, h3, h4, h5⟩ := Cond.arrayOver_spec h
  exact ⟨c, fun n z => ⟨fun k h => (by cases h), k, h3, comp, h4⟩, k, comp, h3, h4, h1, h5⟩
theorem AO_in : (Cond.arrayOver (.object RX1)) ∈ lw_tbl := List.mem_of_elem_eq_true (by decide +kernel)
theorem nwl_in {w : Cond} (h : w ∈ nwl) : w ∈ lw_tbl := by
  have := List.all_eq_true.mp nwl_all w h
  simpa using this
theorem GW_tbl {w : Cond} (h : w ∈ GW) : w ∈ lw_tbl := (List.mem_filter.mp h).1
theorem entry_K {s : State} {b : Nat} (hts : ∀ w ∈ lw_tbl, w.before #[Value.ref b] s = true) : ∃ (D : va_G) (cI cQ : ClassId), va_K D vwCl (xtys cI cQ) s ∧ NW s ∧ va_AO RX1 s := by
  have hin : ∀ {c : Nat}, c < 5 → ∀ w ∈ u_ws (cn c) (cT c) (nfld c), w ∈ lw_tbl := fun h w hw => GW_tbl (lays_in h w hw)
  have ho : ∀ w, okW w = true → w.before #[Value.ref b] s = true := fun w h => hts w (GW_tbl (okW_in h))
  obtain ⟨c0, s0, k0⟩ := u_known (C := RX0) (T := TX0) (N := 1) (n := 1) hts (hin (c := 0) (by decide)) (ho (.instantiable RX0 1) (by decide +kernel))
  obtain ⟨c1, s1, k1⟩ := u_known (C := RX1) (T := TX1) (N := 2) (n := 2) hts (hin (c := 1) (by decide)) (ho (.instantiable RX1 2) (by decide +kernel))
  obtain ⟨c2, s2, k2⟩ := u_known (C := RX2) (T := TX2) (N := 2) (n := 2) hts (hin (c := 2) (by decide)) (ho (.instantiable RX2 2) (by decide +kernel))
  obtain ⟨c3, s3, k3⟩ := u_known (C := RX3) (T := TX3) (N := 4) (n := 4) hts (hin (c := 3) (by decide)) (ho (.instantiable RX3 4) (by decide +kernel))
  obtain ⟨c4, s4, k4⟩ := u_known (C := RX4) (T := TX4) (N := 7) (n := 7) hts (hin (c := 4) (by decide)) (ho (.instantiable RX4 7) (by decide +kernel))
  have hAO : va_AO RX1 s := va_AO.of (hts _ AO_in)
  obtain ⟨cI, a1, a2⟩ := int_cls (ho (.arrayClass .int) (by decide +kernel))
  obtain ⟨cQ, b1, b2⟩ := ref_cls hAO
  refine ⟨(fun k => if k = 0 then c0 else if k = 1 then c1 else if k = 2 then c2 else if k = 3 then c3 else c4, fun k => if k = 0 then s0 else if k = 1 then s1 else if k = 2 then s2 else if k = 3 then s3 else s4), cI, cQ, ⟨fun k q hq => ?_, fun k q hq => ?_⟩, fun w hw => ?_, hAO⟩
  · match k, hq with
    | 0, hq => cases hq; exact k0
    | 1, hq => cases hq; exact k1
    | 2, hq => cases hq; exact k2
    | 3, hq => cases hq; exact k3
    | 4, hq => cases hq; exact k4
    | k + 5, hq => simp [vwCl] at hq
  · match k, hq with
    | 0, hq => cases hq; exact ⟨a1, a2⟩
    | 1, hq => cases hq; exact ⟨b1, b2⟩
    | k + 2, hq => simp [xtys] at hq
  · have h1 := hts w (nwl_in hw)
    rcases List.mem_append.mp hw with h2 | h2
    · obtain ⟨q, -, rfl⟩ := List.mem_map.mp h2
      exact va_Nw.of rfl h1
    · obtain ⟨q, -, rfl⟩ := List.mem_map.mp h2
      exact va_Nw.of rfl h1
