/-! ===== the law's calls ===== -/
section LCL
variable {p : Program} {l : Launch} {e : Env} {R : Room} {s : State} {m : MethodId} {args : Array Value} {below : List Frame} {meth : Method} {c : Code} {H : Heap} {locs : List Loc} {cl sl : Nat} {Q : State → Prop}
variable {ad : xP → Nat} {cI cQ : ClassId} {D : va_G} {cc : ByteArray} {nL : Nat} {Ts : List Cond} {own C : String} {A : Nat → Prop} {h h1 : xH} {pc : Nat} {ls : Array Slot}
theorem lw_calli {mj n index maxL : Nat} {bytes : ByteArray} {ret : Option FieldType} {q : xP} {as : List xV} {r : Int32} {rest As : List Value} (S : CallFix p m c cc nL s args Ts own) (hIa : adI ad) (hj : mj < 135) (hlen : (vR q :: as).length = mN mj + (if mS mj = true then 0 else 1)) (hok : okS (vR q :: as)) (hnj : ∀ w ∈ vR q :: as, isJ w = false) (hc : Cl 8 mj (vR q :: as) h (some (vI r)) h1)
    (cw : CallW R s args own C index (mY mj) bytes maxL ret (wsM mj) (rmD 8) 0 0 n) (hrecv : ∃ cell : Cell, H[ad q]? = some cell ∧ cell.vm.isStatics = false ∧ s.vm.findClass C = some cell.cls) (hAs : As = as.map (conc ad)) (hn : As.length = n) (hsz : ls.size = nL) (hW : (rest.map fun v => v.category).sum ≤ 8) (hdg : decode cc pc = .ok (.invokevirtual index, 3)) (hcl : cl ≤ R.cells) (hsl : sl ≤ R.slots)
    (hK : va_K D vwCl (xtys cI cQ) s) (hN : NW s) (hP : va_P D vwCl (cells ad cI cQ h) H) (hD : va_D A (cells ad cI cQ h)) (hS : va_S A s.heap H locs) (hA : ∀ q, s.heap.size ≤ q → A q)
    (kk : ∀ (H1 : Heap) (locs1 : List Loc), va_P D vwCl (cells ad cI cQ h1) H1 → va_D A (cells ad cI cQ h1) → va_S A s.heap H1 locs1 → W p l e R s m args below meth c H1 locs1 cl sl Q (F0 m (pc + 3) ls (.int r :: rest))) : W p l e R s m args below meth c H locs cl sl Q (F0 m pc ls (As.reverse ++ .ref (ad q) :: rest)) := by
  subst hAs
  have hM := met_cl (l := l) (D := D) (ad := ad) (cI := cI) (cQ := cQ) hIa hj hlen hok hnj hc H.size
  have hF := AA_in hD hS hA
  refine va_calli (post := fun (x : Int32) (_ : Unit) => x = r) (B := fun _ t => va_P D vwCl (cells ad cI cQ h1) t.heap) (A1 := AA ad H.size) (a := #[]) (vaRun_mono (va_runV S hM cw ⟨Px_blind, hrecv, fun U hU hW => ⟨rfl, by rw [hU], by rw [hU]; exact hP, va_K.moved hW.alike hK, NW.warm hW hN⟩⟩ rfl hn hsz rfl (by show 2 * 0 + _ ≤ 8; omega) hdg ⟨hcl, hsl⟩) (fun st oc t q => ⟨⟨r, (), q.1, rfl, q.2.1⟩, q.2.2.1, q.2.2.2⟩)) hS (fun q _ h => hF q h) hF (fun x u t H1 locs ht hvm h5 hB hz1 hk1 hS => ?_)
  subst h5
  rw [ht] at hB
  exact kk _ _ hB (vaD_cells hD) hS
theorem lw_calll {mj n index maxL : Nat} {bytes : ByteArray} {ret : Option FieldType} {q : xP} {as : List xV} {r : Int64} {rest As : List Value} (S : CallFix p m c cc nL s args Ts own) (hIa : adI ad) (hj : mj < 135) (hlen : (vR q :: as).length = mN mj + (if mS mj = true then 0 else 1)) (hok : okS (vR q :: as)) (hnj : ∀ w ∈ vR q :: as, isJ w = false) (hc : Cl 8 mj (vR q :: as) h (some (vJ r)) h1)
    (cw : CallW R s args own C index (mY mj) bytes maxL ret (wsM mj) (rmD 8) 0 0 n) (hrecv : ∃ cell : Cell, H[ad q]? = some cell ∧ cell.vm.isStatics = false ∧ s.vm.findClass C = some cell.cls) (hAs : As = as.map (conc ad)) (hn : As.length = n) (hsz : ls.size = nL) (hW : (rest.map fun v => v.category).sum ≤ 8) (hdg : decode cc pc = .ok (.invokevirtual index, 3)) (hcl : cl ≤ R.cells) (hsl : sl ≤ R.slots)
    (hK : va_K D vwCl (xtys cI cQ) s) (hN : NW s) (hP : va_P D vwCl (cells ad cI cQ h) H) (hD : va_D A (cells ad cI cQ h)) (hS : va_S A s.heap H locs) (hA : ∀ q, s.heap.size ≤ q → A q)
    (kk : ∀ (H1 : Heap) (locs1 : List Loc), va_P D vwCl (cells ad cI cQ h1) H1 → va_D A (cells ad cI cQ h1) → va_S A s.heap H1 locs1 → W p l e R s m args below meth c H1 locs1 cl sl Q (F0 m (pc + 3) ls (.long r :: rest))) : W p l e R s m args below meth c H locs cl sl Q (F0 m pc ls (As.reverse ++ .ref (ad q) :: rest)) := by
  subst hAs
  have hM := met_cl (l := l) (D := D) (ad := ad) (cI := cI) (cQ := cQ) hIa hj hlen hok hnj hc H.size
  have hF := AA_in hD hS hA
  refine va_calll (post := fun (x : Int64) (_ : Unit) => x = r) (B := fun _ t => va_P D vwCl (cells ad cI cQ h1) t.heap) (A1 := AA ad H.size) (a := #[]) (vaRun_mono (va_runV S hM cw ⟨Px_blind, hrecv, fun U hU hW => ⟨rfl, by rw [hU], by rw [hU]; exact hP, va_K.moved hW.alike hK, NW.warm hW hN⟩⟩ rfl hn hsz rfl (by show 2 * 0 + _ ≤ 8; omega) hdg ⟨hcl, hsl⟩) (fun st oc t q => ⟨⟨r, (), q.1, rfl, q.2.1⟩, q.2.2.1, q.2.2.2⟩)) hS (fun q _ h => hF q h) hF (fun x u t H1 locs ht hvm h5 hB hz1 hk1 hS => ?_)
  subst h5
  rw [ht] at hB
  exact kk _ _ hB (vaD_cells hD) hS
end LCL
