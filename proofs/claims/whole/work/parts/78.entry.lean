/-! ===== the law's entry: classes, nest mates ===== -/
theorem int_cls {args : Array Value} {s : State} (h : (Cond.arrayClass .int).before args s = true) : ∃ cI, ArrOfT s cI .int ∧ va_RA s cI .int := by
  obtain ⟨cA, kA, comp, h1, h2, h3⟩ := Cond.arrayClass_spec h
  exact ⟨cA, fun n z => ⟨fun k h => (by cases h), kA, h2, comp, h3⟩, h1⟩
theorem ref_cls {C : String} {s : State} (h : va_AO C s) : ∃ cQ, ArrOfT s cQ (.object C) ∧ va_RA s cQ (.object C) := by
  obtain ⟨comp, c, k, h1, h2, h3, h4, h5⟩ := Cond.arrayOver_spec h
  exact ⟨c, fun n z => ⟨fun k h => (by cases h), k, h3, comp, h4⟩, k, comp, h3, h4, h1, h5⟩
theorem AO_in : (Cond.arrayOver (.object RX1)) ∈ lw_tbl := List.mem_of_elem_eq_true (by decide +kernel)
theorem nwl_in {w : Cond} (h : w ∈ nwl) : w ∈ lw_tbl := by
  have := List.all_eq_true.mp nwl_all w h
  simpa using this
theorem GW_tbl {w : Cond} (h : w ∈ GW) : w ∈ lw_tbl := (List.mem_filter.mp h).1
