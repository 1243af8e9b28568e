/-! ===== the law's words ===== -/
theorem goodL1 {ws : List Cond} (h : ws.all okW = true) : GoodIn lw_tbl ws := fun w hw => ⟨GW_tbl (okW_in (List.all_eq_true.mp h w hw)), good_of_word (GW_good (okW_in (List.all_eq_true.mp h w hw)))⟩
theorem goodL2 {mj : Nat} (hj : mj < 135) : GoodIn lw_tbl (wsM mj) := by
  intro w hw
  have hg : w ∈ GW := by
    rcases List.mem_cons.mp hw with rfl | h
    · exact cw_all mj hj
    · exact h
  exact ⟨GW_tbl hg, good_of_word (GW_good hg)⟩
theorem rcv3 {s : State} {H : Heap} {D : va_G} {ad : xP → Nat} {cI cQ : ClassId} {h : xH} (hK : va_K D vwCl (xtys cI cQ) s) (hP : va_P D vwCl (cells ad cI cQ h) H) : ∃ cell : Cell, H[ad (3, 0)]? = some cell ∧ cell.vm.isStatics = false ∧ s.vm.findClass RX3 = some cell.cls := va_recv hK hP (ci := 3) (q0 := 8) rfl rfl
theorem rcv4 {s : State} {H : Heap} {D : va_G} {ad : xP → Nat} {cI cQ : ClassId} {h : xH} (hK : va_K D vwCl (xtys cI cQ) s) (hP : va_P D vwCl (cells ad cI cQ h) H) : ∃ cell : Cell, H[ad (4, 0)]? = some cell ∧ cell.vm.isStatics = false ∧ s.vm.findClass RX4 = some cell.cls := va_recv hK hP (ci := 4) (q0 := 9) rfl rfl
theorem okS_int {q : xP} {as : List Int32} (hq : q ∈ allP) : okS (vR q :: as.map vI) := by
  intro w hw
  rcases List.mem_cons.mp hw with rfl | hw
  · exact hq
  · obtain ⟨x, -, rfl⟩ := List.mem_map.mp hw
    exact trivial
theorem nj_int {q : xP} {as : List Int32} : ∀ w ∈ vR q :: as.map vI, isJ w = false := by
  intro w hw
  rcases List.mem_cons.mp hw with rfl | hw
  · rfl
  · obtain ⟨x, -, rfl⟩ := List.mem_map.mp hw
    rfl
