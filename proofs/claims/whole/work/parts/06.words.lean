theorem opAt_lt0 : (List.range 9).all (fun k => decide ((nth2 tblT (k + 135)).isNone)) = true := by decide +kernel
theorem opAt_lt {mi : Nat} {t : List (List (Option Op))} (ht : nth2 tblT mi = some t) (h : mi < 144) : mi < 135 := by
  rcases Nat.lt_or_ge mi 135 with h1 | h1
  · exact h1
  · have h2 := List.all_eq_true.mp opAt_lt0 (mi - 135) (List.mem_range.mpr (by omega))
    rw [Nat.sub_add_cancel h1, ht] at h2
    simp at h2
theorem opAt_dec {mi pc : Nat} {o : Op} (h : opAt mi pc = some o) : ∃ ins len, decode (mC mi) pc = .ok (ins, len) ∧ ab mi pc ins len = some o := by
  unfold opAt at h
  cases ht : nth2 tblT mi with
  | none => rw [ht] at h; cases h
  | some t =>
    rw [ht] at h
    simp only at h
    cases ho : nth2 t pc with
    | none => rw [ho] at h; cases h
    | some q =>
      cases q with
      | none => rw [ho] at h; cases h
      | some o2 =>
        rw [ho] at h
        simp only [Option.some.injEq] at h
        subst h
        have hmi : mi < 144 := by
          unfold nth2 at ht
          split at ht
          · cases ht
          · next r hr =>
            have h1 := nth_lt hr
            have h2 : tblT.length = 9 := rfl
            omega
        have hpc : pc < 16 * t.length := by
          unfold nth2 at ho
          split at ho
          · cases ho
          · next r hr =>
            have h1 := nth_lt hr
            omega
        have h1 := tk_all mi (opAt_lt ht hmi)
        unfold tk at h1
        rw [ht] at h1
        have h2 := List.all_eq_true.mp h1 pc (List.mem_range.mpr hpc)
        rw [ho] at h2
        simp only [chk1] at h2
        split at h2
        · next ins len hd => exact ⟨ins, len, hd, of_decide_eq_true h2⟩
        · cases h2
/-! ===== the words of the tables ===== -/
def cT (c : Nat) : u_T := match c with
  | 0 => TX0
  | 1 => TX1
  | 2 => TX2
  | 3 => TX3
  | _ => TX4
def cTy (c : Nat) : Nat → FieldType := match c with
  | 0 => tyX0
  | 1 => tyX1
  | 2 => tyX2
  | 3 => tyX3
  | _ => tyX4
theorem lt5 {c : Nat} (h : c < 5) : c = 0 ∨ c = 1 ∨ c = 2 ∨ c = 3 ∨ c = 4 := by omega
theorem vw_at {c : Nat} (h : c < 5) : vwCl[c]? = some (cn c, cT c, nfld c) := by
  rcases lt5 h with rfl | rfl | rfl | rfl | rfl <;> rfl
theorem cTy_ok {c : Nat} (h : c < 5) : ∀ k, k < nfld c → parseFieldDescriptor (cT c k).2.2.1 = some (cTy c k) := by
  rcases lt5 h with rfl | rfl | rfl | rfl | rfl
  · exact tyX0_ok
  · exact tyX1_ok
  · exact tyX2_ok
  · exact tyX3_ok
  · exact tyX4_ok
theorem cNm {c : Nat} (h : c < 5) : ∀ a, a < nfld c → ∀ b, b < nfld c → a ≠ b → (cT c a).2.1 ≠ (cT c b).2.1 := by
  rcases lt5 h with rfl | rfl | rfl | rfl | rfl
  · exact nmX0
  · exact nmX1
  · exact nmX2
  · exact nmX3
  · exact nmX4
theorem cOwn {c k : Nat} (h : c < 5) (hk : k < nfld c) : (cT c k).1 = cn c := by
  rcases lt5 h with rfl | rfl | rfl | rfl | rfl <;> (unfold nfld at hk; simp only at hk)
  · rfl
  · rcases (show k = 0 ∨ k = 1 by omega) with rfl | rfl <;> rfl
  · rcases (show k = 0 ∨ k = 1 by omega) with rfl | rfl <;> rfl
  · rcases (show k = 0 ∨ k = 1 ∨ k = 2 ∨ k = 3 by omega) with rfl | rfl | rfl | rfl <;> rfl
  · rcases (show k = 0 ∨ k = 1 ∨ k = 2 ∨ k = 3 ∨ k = 4 ∨ k = 5 ∨ k = 6 by omega) with rfl | rfl | rfl | rfl | rfl | rfl | rfl <;> rfl
def okW (w : Cond) : Bool := goodWord w && decide (w ∈ lw_tbl)
theorem okW_in {w : Cond} (h : okW w = true) : w ∈ GW := by
  simp only [okW, Bool.and_eq_true, decide_eq_true_eq] at h
  exact List.mem_filter.mpr ⟨h.2, h.1⟩
theorem lays_all : (List.range 5).all (fun c => (u_ws (cn c) (cT c) (nfld c)).all okW) = true := by decide +kernel
theorem lays_in {c : Nat} (h : c < 5) : ∀ w ∈ u_ws (cn c) (cT c) (nfld c), w ∈ GW := fun w hw =>
  okW_in (List.all_eq_true.mp (List.all_eq_true.mp lays_all c (List.mem_range.mpr h)) w hw)
/-- a word at its place -/
def atW (i : Nat) (w : Cond) : Bool := goodWord w && decide (lw_tbl[i]? = some w)
theorem atW_in {i : Nat} {w : Cond} (h : atW i w = true) : w ∈ GW := by
  simp only [atW, Bool.and_eq_true, decide_eq_true_eq] at h
  exact inGW i h.2 h.1
theorem vl_all : vlinks.all (fun q => atW q.2.2.2 (.methodLink (cn q.1) q.2.1 (mY q.2.2.1)) && decide (q.2.2.1 < 135)) = true := by decide +kernel
theorem vl_in {own idx mj : Nat} (h : vl own idx = some mj) : Cond.methodLink (cn own) idx (mY mj) ∈ GW ∧ mj < 135 := by
  unfold vl at h
  cases hf : vlinks.find? (fun q => Nat.beq q.1 own && Nat.beq q.2.1 idx) with
  | none => rw [hf] at h; cases h
  | some q =>
    rw [hf] at h
    simp only [Option.map_some, Option.some.injEq] at h
    have h1 := List.find?_some hf
    have h2 := List.all_eq_true.mp vl_all q (List.mem_of_find?_eq_some hf)
    simp only [Bool.and_eq_true, decide_eq_true_eq, Nat.beq_eq] at h1 h2
    obtain ⟨rfl, rfl⟩ := h1
    subst h
    exact ⟨atW_in h2.1, h2.2⟩
theorem fl_all : flinks.all (fun q => atW q.2.2.2.2 (.fieldLink (cn q.1) q.2.1 (cn q.2.2.1) (cT q.2.2.1 q.2.2.2.1).2.1 (cT q.2.2.1 q.2.2.2.1).2.2.1) && decide (q.2.2.1 < 5) && decide (q.2.2.2.1 < nfld q.2.2.1)) = true := by decide +kernel
theorem fl_in {own idx c k : Nat} (h : fl own idx = some (c, k)) : Cond.fieldLink (cn own) idx (cn c) (cT c k).2.1 (cT c k).2.2.1 ∈ GW ∧ c < 5 ∧ k < nfld c := by
  unfold fl at h
  cases hf : flinks.find? (fun q => Nat.beq q.1 own && Nat.beq q.2.1 idx) with
  | none => rw [hf] at h; cases h
  | some q =>
    rw [hf] at h
    simp only [Option.map_some, Option.some.injEq, Prod.mk.injEq] at h
    have h1 := List.find?_some hf
    have h2 := List.all_eq_true.mp fl_all q (List.mem_of_find?_eq_some hf)
    simp only [Bool.and_eq_true, decide_eq_true_eq, Nat.beq_eq] at h1 h2
    obtain ⟨rfl, rfl⟩ := h1
    obtain ⟨rfl, rfl⟩ := h
    exact ⟨atW_in h2.1.1, h2.1.2, h2.2⟩
/-- the words on private members of nest mates -/
def nwl : List Cond := (nlinks.map fun q => Cond.methodLinkNest (cn q.1) q.2.1 (mY q.2.2.1) RX3) ++ (fnlinks.map fun q => Cond.fieldLinkNest (cn q.1) q.2.1 (cn q.2.2.1) (cT q.2.2.1 q.2.2.2.1).2.1 (cT q.2.2.1 q.2.2.2.1).2.2.1 RX3)
theorem nwl_all : nwl.all (fun w => decide (w ∈ lw_tbl)) = true := by decide +kernel
theorem nl_in {own idx mj : Nat} (h : nl own idx = some mj) : Cond.methodLinkNest (cn own) idx (mY mj) RX3 ∈ nwl ∧ mj < 135 := by
  have hb : nlinks.all (fun q => decide (q.2.2.1 < 135)) = true := by decide +kernel
  unfold nl at h
  cases hf : nlinks.find? (fun q => Nat.beq q.1 own && Nat.beq q.2.1 idx) with
  | none => rw [hf] at h; cases h
  | some q =>
    rw [hf] at h
    simp only [Option.map_some, Option.some.injEq] at h
    have h1 := List.find?_some hf
    have hm := List.mem_of_find?_eq_some hf
    have h2 := List.all_eq_true.mp hb q hm
    simp only [Bool.and_eq_true, decide_eq_true_eq, Nat.beq_eq] at h1 h2
    obtain ⟨rfl, rfl⟩ := h1
    subst h
    exact ⟨List.mem_append_left _ (List.mem_map.mpr ⟨q, hm, rfl⟩), h2⟩
theorem fnl_in {own idx c k : Nat} (h : fnl own idx = some (c, k)) : Cond.fieldLinkNest (cn own) idx (cn c) (cT c k).2.1 (cT c k).2.2.1 RX3 ∈ nwl ∧ c < 5 ∧ k < nfld c := by
  have hb : fnlinks.all (fun q => decide (q.2.2.1 < 5) && decide (q.2.2.2.1 < nfld q.2.2.1)) = true := by decide +kernel
  unfold fnl at h
  cases hf : fnlinks.find? (fun q => Nat.beq q.1 own && Nat.beq q.2.1 idx) with
  | none => rw [hf] at h; cases h
  | some q =>
    rw [hf] at h
    simp only [Option.map_some, Option.some.injEq, Prod.mk.injEq] at h
    have h1 := List.find?_some hf
    have hm := List.mem_of_find?_eq_some hf
    have h2 := List.all_eq_true.mp hb q hm
    simp only [Bool.and_eq_true, decide_eq_true_eq, Nat.beq_eq] at h1 h2
    obtain ⟨rfl, rfl⟩ := h1
    obtain ⟨rfl, rfl⟩ := h
    exact ⟨List.mem_append_right _ (List.mem_map.mpr ⟨q, hm, rfl⟩), h2.1, h2.2⟩
/-- a method's own words: its code, that it can be called, its class; its parameters -/
def okM (mi : Nat) : Bool := atW ((nth tplace (mOwn mi)).getD 0) (.initialized (cn (mOwn mi)))
  && (match mS mi with
    | true => atW ((nth iplace mi).getD 0) (.static (mY mi))
    | false => atW ((nth iplace mi).getD 0) (.instanceMethod (mY mi)) && ((mY mi).name == "<init>" || atW ((nth splace mi).getD 0) (.selects (mY mi).cls (mY mi) (mY mi))))
  && decide ((mY mi).cls = cn (mOwn mi)) && decide (mOwn mi < 5) && plainName (mY mi).cls && decide ((mY mi).cls ≠ "java/lang/invoke/MethodHandle") && decide ((mY mi).cls ≠ "java/lang/invoke/VarHandle")
  && decide ((parseMethodDescriptor (mY mi).desc).map (fun d => d.parameters.length) = some (mN mi)) && decide (mN mi + 1 ≤ mL mi + (if mS mi = true then 1 else 0)) && decide (mL mi ≤ 21) && decide (mN mi < 16)
theorem okM_0 : (List.range 15).all (fun k => okM (k + 0)) = true := by decide +kernel
theorem okM_1 : (List.range 15).all (fun k => okM (k + 15)) = true := by decide +kernel
theorem okM_2 : (List.range 15).all (fun k => okM (k + 30)) = true := by decide +kernel
theorem okM_3 : (List.range 15).all (fun k => okM (k + 45)) = true := by decide +kernel
theorem okM_4 : (List.range 15).all (fun k => okM (k + 60)) = true := by decide +kernel
theorem okM_5 : (List.range 15).all (fun k => okM (k + 75)) = true := by decide +kernel
theorem okM_6 : (List.range 15).all (fun k => okM (k + 90)) = true := by decide +kernel
theorem okM_7 : (List.range 15).all (fun k => okM (k + 105)) = true := by decide +kernel
theorem okM_8 : (List.range 15).all (fun k => okM (k + 120)) = true := by decide +kernel
theorem okM_all {mi : Nat} (h : mi < 135) : okM mi = true := by
  have go : ∀ (b : Nat), (List.range 15).all (fun k => okM (k + b)) = true → b ≤ mi → mi < b + 15 → okM mi = true := by
    intro b hb h1 h2
    have h3 := List.all_eq_true.mp hb (mi - b) (List.mem_range.mpr (by omega))
    rwa [Nat.sub_add_cancel h1] at h3
  by_cases h0 : mi < 15
  · exact go 0 okM_0 (by omega) (by omega)
  by_cases h1 : mi < 30
  · exact go 15 okM_1 (by omega) (by omega)
  by_cases h2 : mi < 45
  · exact go 30 okM_2 (by omega) (by omega)
  by_cases h3 : mi < 60
  · exact go 45 okM_3 (by omega) (by omega)
  by_cases h4 : mi < 75
  · exact go 60 okM_4 (by omega) (by omega)
  by_cases h5 : mi < 90
  · exact go 75 okM_5 (by omega) (by omega)
  by_cases h6 : mi < 105
  · exact go 90 okM_6 (by omega) (by omega)
  by_cases h7 : mi < 120
  · exact go 105 okM_7 (by omega) (by omega)
  exact go 120 okM_8 (by omega) (by omega)
theorem cl_in : okW (.constantLong (cn 3) 89 4294967296) = true ∧ okW (.constantLong (cn 4) 104 4294967296) = true := by decide +kernel
theorem ac_in : okW (.methodLink (cn 0) 15 arraycopyName) = true ∧ okW (.native arraycopyName) = true ∧ okW (.static arraycopyName) = true ∧ okW (.initialized "java/lang/System") = true := by decide +kernel
