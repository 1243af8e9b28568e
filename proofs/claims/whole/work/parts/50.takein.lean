/-! ===== takingsFor, takeIn ===== -/
def cmD (wu : Nat → Nat) (n : Nat) : Nat := sm n fun m => if awd wu m = 0 then 0 else 1
section TI
variable {d b k n : Nat} {h : xH} {wu w0 V u v w : Nat → Nat} {W U : Nat → Nat → Nat}
theorem jm_eq {a c : Nat} (ha : a < 1000) (hc : c < 1000) : jm a = nI c ↔ a = c + 1 := by
  cases a with
  | zero =>
    constructor
    · intro e
      exfalso
      have h1 : (-1 : Int32) < 0 := by decide
      have e : (-1 : Int32) = nI c := e
      rw [e] at h1
      exact nI_pos (by omega) h1
    · intro e; omega
  | succ a =>
    constructor
    · intro e
      have := (neq (by omega) (by omega)).mp (show nI a = nI c from e)
      omega
    · intro e
      rw [show a = c by omega]
      rfl
theorem cmK_mono {m : Nat} (hm : n ≤ m) : cmK b wu w0 n ≤ cmK b wu w0 m := by
  induction hm with
  | refl => exact Nat.le_refl _
  | step _ ih => rw [cmK]; omega
theorem JJ_upto {u0 : Nat → Nat} (hi : Inv w0 u0) (hsu : ∃ uu, Str wu uu) (h1 : w0 2 ≤ wu 2) (hWb : ∀ j p, W j p < 4294967296) (hub : ∀ p, wu p < 4294967296) : ∀ n, n ≤ 64 → cmK b wu w0 n ≤ rm w0 → ∃ u, JJ b wu w0 n (cmV b W wu w0 n) u := by
  intro n
  induction n with
  | zero =>
    intro _ _
    obtain ⟨uu, hs⟩ := hsu
    exact ⟨u0, JJ_base hi h1 hs.sz.2⟩
  | succ n ih =>
    intro hn hr
    have h2 := cmK_mono (b := b) (wu := wu) (w0 := w0) (n := n) (m := n + 1) (by omega)
    obtain ⟨u, J⟩ := ih (by omega) (by omega)
    have h3 := JJ_take J (by omega)
    have h4 := J.2.2.2.2.2
    exact JJ_step J hsu (by omega) (by omega) hWb hub
theorem awd_out {uu : Nat → Nat} (hs : Str wu uu) {m : Nat} (hm : m < 64) (h2 : wu 2 ≤ m) : awd wu m = 0 := by
  rcases hs.bok act_tb hm with e | ⟨e, -⟩
  · exact e
  · omega
theorem cm_tail {uu : Nat → Nat} (hs : Str wu uu) : ∀ i, wu 2 + i ≤ 64 → cmV b W wu w0 (wu 2 + i) = cmV b W wu w0 (wu 2) ∧ cmK b wu w0 (wu 2 + i) = cmK b wu w0 (wu 2) ∧ cmD wu (wu 2 + i) = cmD wu (wu 2) := by
  intro i
  induction i with
  | zero => intro _; exact ⟨rfl, rfl, rfl⟩
  | succ i ih =>
    intro hi
    obtain ⟨h1, h2, h3⟩ := ih (by omega)
    have h0 := awd_out hs (m := wu 2 + i) (by omega) (by omega)
    refine ⟨?_, ?_, ?_⟩
    · show cmS b W wu (cmV b W wu w0 (wu 2 + i)) (wu 2 + i) = _
      unfold cmS
      rw [h0, if_neg (by decide), if_neg (fun e => by have := e.1; omega)]
      exact h1
    · show cmK b wu w0 (wu 2 + i) + (if awd wu (wu 2 + i) / 4 ≠ 0 then nClus w0 (wu 2 + i) else 0) + (if cmC b wu w0 (wu 2 + i) = true ∧ cmL b wu w0 (wu 2 + i) ≠ (wu 2 + i) / 8 + 1 then nLeaf w0 (wu 2 + i) else 0) = _
      have hC : ¬ cmC b wu w0 (wu 2 + i) = true := fun z => by
        have z := of_decide_eq_true z
        rw [h0] at z
        rcases z with z | z
        · exact z rfl
        · have := z.1; omega
      rw [h0, if_neg (by decide), if_neg (fun z => hC z.1)]
      exact h2
    · show sm (wu 2 + i + 1) _ = _
      rw [sm_succ, if_pos h0]
      exact h3
theorem c_takingsFor {uu u0 : Nat → Nat} (hw : h (10, b) = E w0) (hi : Inv w0 u0) (hwu : h (10, k) = E wu) (hs : Str wu uu) : Cl (d + 4) MX1_takingsFor [vR (1, b), vR (1, k)] h (some (vI (nI (cmK b wu w0 64)))) h := by
  refine rnN 6 rfl ?_
  have go := lpN 64 (fun n => ∀ o5 o6 : Option xV, Rn (d + 4) MX1_takingsFor 7 [some (vR (1, b)), some (vR (1, k)), some (vI (nI (cmK b wu w0 n))), some (vI (jm (cmL b wu w0 n))), some (vI (nI n)), o5, o6] [] h (some (vI (nI (cmK b wu w0 64)))) h) (fun n hn K => ?_) ?_
  · exact go none none
  · intro o5 o6
    have hy := hs.bok act_tb hn
    have hyl : awd wu n < 256 := hy.lt
    have hLle := cmL_le (b := b) (wu := wu) (w0 := w0) n
    have hisl := hy.isLead
    have hisl : 2 < awd wu n ↔ awd wu n / 4 ≠ 0 := hisl
    rw [cmK] at K
    obtain ⟨A, hA⟩ : ∃ A, A = cmK b wu w0 n + (if awd wu n / 4 ≠ 0 then nClus w0 n else 0) := ⟨_, rfl⟩
    rw [← hA] at K
    -- behind the leaf's count
    have K98 : ∀ o6, ∀ z l, z = (if cmC b wu w0 n = true ∧ cmL b wu w0 n ≠ n / 8 + 1 then nLeaf w0 n else 0) → l = cmL b wu w0 (n + 1) → Rn (d + 4) MX1_takingsFor 98 [some (vR (1, b)), some (vR (1, k)), some (vI (nI (A + z))), some (vI (jm l)), some (vI (nI n)), some (vI (nI (awd wu n))), o6] [] h (some (vI (nI (cmK b wu w0 64)))) h := fun o6 z l hz hl => by
      rw [hz, hl]
      refine rnN 2 rfl ?_
      simp (disch := omega) only [nI_add, pk_mul, pk_sub, nd8, nd4, nsub8, nand63, nand7, nshr2, nI_clamp, E_at, hup_at, hup_hup]
      exact K _ _
    -- whether it changes is known
    have K67 : ∀ x, x = (if cmC b wu w0 n = true then 1 else 0) → Rn (d + 4) MX1_takingsFor 67 [some (vR (1, b)), some (vR (1, k)), some (vI (nI A)), some (vI (jm (cmL b wu w0 n))), some (vI (nI n)), some (vI (nI (awd wu n))), o6] [vI (nI x)] h (some (vI (nI (cmK b wu w0 64)))) h := fun x hx => by
      by_cases hC : cmC b wu w0 n = true
      · rw [if_pos hC] at hx
        have eL : cmL b wu w0 (n + 1) = n / 8 + 1 := by rw [cmL, if_pos hC]
        rw [hx]
        refine rnN 3 rfl ?_
        refine rnN 4 rfl ?_
        simp (disch := omega) only [nI_add, pk_mul, pk_sub, nd8, nd4, nsub8, nand63, nand7, nshr2, nI_clamp, E_at, hup_at, hup_hup]
        by_cases e : cmL b wu w0 n = n / 8 + 1
        · refine rnT (((jm_eq (by omega) (by omega)).mpr e)) rfl ?_
          have h9 := K98 (some (vI (nI 1))) 0 (cmL b wu w0 n) (by rw [if_neg (fun z => z.2 e)]) (by rw [eL, e])
          rw [Nat.add_zero] at h9
          exact h9
        · refine rnF ((fun z => e ((jm_eq (by omega) (by omega)).mp z))) rfl ?_
          refine rnN 3 rfl ?_
          refine rnK rfl (c_leavesFor hw hi hn) ?_
          refine rnN 6 rfl ?_
          simp (disch := omega) only [nI_add, pk_mul, pk_sub, nd8, nd4, nsub8, nand63, nand7, nshr2, nI_clamp, E_at, hup_at, hup_hup]
          exact K98 _ _ (n / 8 + 1) (by rw [if_pos ⟨hC, e⟩]) eL.symm
      · rw [if_neg hC] at hx
        have eL : cmL b wu w0 (n + 1) = cmL b wu w0 n := by rw [cmL, if_neg hC]
        rw [hx]
        refine rnN 3 rfl ?_
        have h9 := K98 (some (vI (nI 0))) 0 (cmL b wu w0 n) (by rw [if_neg (fun z => hC z.1)]) eL.symm
        rw [Nat.add_zero] at h9
        exact h9
    refine rnN 2 rfl ?_
    refine rnT (nI_lt hn (by decide)) rfl ?_
    refine rnN 2 rfl ?_
    refine rnK rfl (c_activeWord hwu hs hn) ?_
    refine rnN 2 rfl ?_
    refine rnK rfl (c_isLead (show awd wu n < 2147483648 by omega)) ?_
    by_cases hl : 2 < awd wu n
    · have h4 := hisl.mp hl
      rw [if_pos hl]
      refine rnN 4 rfl ?_
      refine rnK rfl (c_clustersFor hw hi hn) ?_
      refine rnN 2 rfl ?_
      simp (disch := omega) only [nI_add, pk_mul, pk_sub, nd8, nd4, nsub8, nand63, nand7, nshr2, nI_clamp, E_at, hup_at, hup_hup]
      refine rnN 1 rfl ?_
      refine rnK rfl (c_isLead (show awd wu n < 2147483648 by omega)) ?_
      rw [if_pos hl]
      refine rnN 3 rfl ?_
      have h9 := K67 1 (by rw [if_pos (show cmC b wu w0 n = true from decide_eq_true (Or.inl h4))])
      rw [if_pos h4] at hA
      rw [hA] at h9
      exact h9
    · have h4 : awd wu n / 4 = 0 := Classical.byContradiction fun e => hl (hisl.mpr e)
      rw [if_neg (fun e => e h4), Nat.add_zero] at hA
      rw [if_neg hl]
      refine rnN 1 rfl ?_
      refine rnN 1 rfl ?_
      refine rnK rfl (c_isLead (show awd wu n < 2147483648 by omega)) ?_
      rw [if_neg hl]
      refine rnN 3 rfl ?_
      rw [hA] at K67
      have h0l : awd wu n < 2147483648 := by omega
      by_cases h2 : awd wu n = 2
      · refine rnT ((show nI (awd wu n) = nI 2 by rw [h2])) rfl ?_
        refine rnN 2 rfl ?_
        refine rnK rfl (c_dropChanges hw hi.1 hn) ?_
        by_cases hd : dch b (awd w0 n) = true
        · rw [if_pos hd]
          refine rnN 3 rfl ?_
          exact K67 1 (by rw [if_pos (show cmC b wu w0 n = true from decide_eq_true (Or.inr ⟨h2, hd⟩))])
        · rw [if_neg hd]
          refine rnN 2 rfl ?_
          exact K67 0 (by rw [if_neg (show ¬ cmC b wu w0 n = true from fun z => (of_decide_eq_true z).elim (fun z => z h4) (fun z => hd z.2))])
      · refine rnF ((fun e => h2 ((neq h0l (by decide)).mp e))) rfl ?_
        refine rnN 1 rfl ?_
        exact K67 0 (by rw [if_neg (show ¬ cmC b wu w0 n = true from fun z => (of_decide_eq_true z).elim (fun z => z h4) (fun z => h2 z.1))])
  · intro o5 o6
    refine rnN 3 rfl ?_
    refine rnN 1 rfl ?_
    exact rnR rfl
theorem shB_congr {W W' : Nat → Nat → Nat} : ∀ n, (∀ j, j < n → W' j = W j) → ∀ b k, shB W' n b k = shB W n b k := by
  intro n
  induction n with
  | zero => intro _ b k; rfl
  | succ n ih =>
    intro h b k
    rw [shB, shB, h n (by omega), ih (fun j hj => h j (by omega))]
theorem c_takeInF {uu u0 : Nat → Nat} (hw : h (10, b) = E w0) (hi : Inv w0 u0) (hwu : h (10, k) = E wu) (hs : Str wu uu) (hr : ¬ cmK b wu w0 64 ≤ rm w0) (hK : cmK b wu w0 64 < 2147483648) : Cl (d + 5) MX1_takeIn [vR (1, b), vR (1, k)] h (some (vI (-2))) h := by
  refine rnN 2 rfl ?_
  refine rnK rfl (c_room hw hi.cg) ?_
  refine rnN 2 rfl ?_
  refine rnK rfl (c_takingsFor hw hi hwu hs) ?_
  refine rnT (nI_lt (show 64 - inUse w0 - noKeep w0 < cmK b wu w0 64 from Nat.lt_of_not_le hr) hK) rfl ?_
  refine rnN 1 rfl ?_
  exact rnR rfl
/-- the class's step of a commit -/
theorem c_takeIn {uu : Nat → Nat} (hh : ∀ j, j ≤ b → h (10, j) = E (W j) ∧ Inv (W j) (U j)) (hk : b < k) (hwu : h (10, k) = E wu) (hs : Str wu uu) (h1 : W b 2 ≤ wu 2) (hWb : ∀ j p, W j p < 4294967296) (hub : ∀ p, wu p < 4294967296) (hr : cmK b wu (W b) 64 ≤ rm (W b)) {u : Nat → Nat} (hu : Inv (cmV b W wu (W b) 64) u) :
    Cl (d + 5) MX1_takeIn [vR (1, b), vR (1, k)] h (some (vI (nI (cmD wu 64)))) (hup h (10, b) (E (flg (cmV b W wu (W b) 64) u))) := by
  obtain ⟨hw, hi⟩ := hh b (Nat.le_refl b)
  have hrm : rm (W b) ≤ 64 := by unfold rm; omega
  have hkb : ((10, k) : xP) ≠ (10, b) := fun e => by injection e with e1 e2; omega
  refine rnN 2 rfl ?_
  refine rnK rfl (c_room hw hi.cg) ?_
  refine rnN 2 rfl ?_
  refine rnK rfl (c_takingsFor hw hi hwu hs) ?_
  refine rnF (nI_nlt (show cmK b wu (W b) 64 ≤ 64 - inUse (W b) - noKeep (W b) from hr) (by unfold rm at hrm; omega)) rfl ?_
  refine rnN 5 rfl ?_
  refine rnK rfl (c_blocks hwu) ?_
  refine rnK rfl (c_hput hw (show 2 < 8 by decide)) ?_
  refine rnN 4 rfl ?_
  have go := lpN 64 (fun n => ∀ o4 : Option xV, Rn (d + 5) MX1_takeIn 35 [some (vR (1, b)), some (vR (1, k)), some (vI (nI (cmD wu n))), some (vI (nI n)), o4] [] (hup h (10, b) (E (cmV b W wu (W b) n))) (some (vI (nI (cmD wu 64)))) (hup h (10, b) (E (flg (cmV b W wu (W b) 64) u)))) (fun n hn K => ?_) ?_
  · exact go none
  · intro o4
    have hKn := cmK_mono (b := b) (wu := wu) (w0 := W b) (n := n + 1) (m := 64) (by omega)
    have hKn0 := cmK_mono (b := b) (wu := wu) (w0 := W b) (n := n) (m := n + 1) (by omega)
    obtain ⟨un, J⟩ := JJ_upto (b := b) (W := W) hi ⟨uu, hs⟩ h1 hWb hub n (by omega) (by omega)
    have hT := JJ_take J hn
    have hJr := J.2.2.2.2.2
    have hJ2 := J.2.2.1
    have hiV := J.1
    obtain ⟨V, hV⟩ : ∃ V, V = cmV b W wu (W b) n := ⟨_, rfl⟩
    have hVs : cmV b W wu (W b) (n + 1) = cmS b W wu V n := by rw [hV]; rfl
    rw [hVs] at K
    rw [← hV] at hT hJr hJ2 hiV ⊢
    have hy := hs.bok act_tb hn
    have hyl : awd wu n < 256 := hy.lt
    have hisl : 2 < awd wu n ↔ awd wu n / 4 ≠ 0 := hy.isLead
    have hup_k : hup h (10, b) (E V) (10, k) = E wu := by rw [hup_ne hkb]; exact hwu
    -- the end of a round
    have K109 : ∀ w', w' = cmS b W wu V n → Rn (d + 5) MX1_takeIn 109 [some (vR (1, b)), some (vR (1, k)), some (vI (nI (cmD wu n))), some (vI (nI n)), some (vI (nI (awd wu n)))] [] (hup h (10, b) (E w')) (some (vI (nI (cmD wu 64)))) (hup h (10, b) (E (flg (cmV b W wu (W b) 64) u))) := fun w' hw' => by
      rw [hw']
      have eD : cmD wu (n + 1) = cmD wu n + if awd wu n = 0 then 0 else 1 := rfl
      rw [eD] at K
      by_cases h0 : awd wu n = 0
      · rw [if_pos h0] at K
        rw [h0]
        refine rnN 5 rfl ?_
        refine rnN 4 rfl ?_
        simp (disch := omega) only [nI_add, pk_mul, pk_sub, nd8, nd4, nsub8, nand63, nand7, nshr2, nI_clamp, E_at, hup_at, hup_hup]
        exact K _
      · rw [if_neg h0] at K
        refine rnN 2 rfl ?_
        refine rnF (nI_ne0 (Nat.pos_of_ne_zero h0) (by omega)) rfl ?_
        refine rnN 1 rfl ?_
        refine rnN 4 rfl ?_
        simp (disch := omega) only [nI_add, pk_mul, pk_sub, nd8, nd4, nsub8, nand63, nand7, nshr2, nI_clamp, E_at, hup_at, hup_hup]
        exact K _
    refine rnN 2 rfl ?_
    refine rnT (nI_lt hn (by decide)) rfl ?_
    refine rnN 2 rfl ?_
    refine rnK rfl (c_activeWord hup_k hs hn) ?_
    refine rnN 2 rfl ?_
    refine rnK rfl (c_isLead (show awd wu n < 2147483648 by omega)) ?_
    by_cases hl : 2 < awd wu n
    · have h4 := hisl.mp hl
      have hlp : awd wu n / 4 < 64 := (hy.lead h4).1.pos.2
      have hns : n < V 2 := by
        rw [hJ2]
        have := (hy.lead h4).2.1
        omega
      have eT : cmT b wu V n = nLeaf V n + nClus V n := by unfold cmT; rw [if_pos h4]
      have eS : cmS b W wu V n = cpc (gC (gL V n) n (datm (gL V n) W b n)) wu (awd wu n / 4) (gCc (gL V n) n) := by unfold cmS; rw [if_pos h4]
      obtain ⟨u1, hI1, hu1, ho1, hrm1, haw1, hT1, hH1, hO1⟩ := gL_spec hiV hns (by omega)
      have hcl := gL_clus hiV hns (by omega)
      have hdl := datm_lt (V := gL V n) (W := W) hI1.2.2.2.2 hWb b n
      obtain ⟨u2, hI2, hu2, hc2, hc3, hc4, hc5, hc6, hH2, hA2, hrm2⟩ := gC_spec (dat := datm (gL V n) W b n) hI1 (by rw [hH1 2 (by decide)]; exact hns) ho1 (by omega) hdl
      have hh2 : ∀ j, j ≤ b → hup h (10, b) (E (gL V n)) (10, j) = E (setW W b (gL V n) j) ∧ Inv (setW W b (gL V n) j) (setW U b u1 j) := fun j hj => by
        by_cases e : j = b
        · rw [e, setW_at, setW_at, hup_at]
          exact ⟨rfl, hI1⟩
        · rw [setW_ne e, setW_ne e, hup_ne (fun e2 => by injection e2 with e1 e2; omega)]
          exact hh j hj
      have hgl := c_giveLeaf (d := d) (h := hup h (10, b) (E V)) (k := b) (b := n) hup_at hiV hns (by omega)
      rw [hup_hup] at hgl
      have hgc := c_giveCluster (d := d) (h := hup h (10, b) (E (gL V n))) (k := b) (W := setW W b (gL V n)) (U := setW U b u1) (b := n) hh2 (by rw [setW_at, hH1 2 (by decide)]; exact hns) (by rw [setW_at]; exact ho1) (by rw [setW_at]; omega)
      rw [setW_at, hup_hup] at hgc
      have hdat : gC (gL V n) n (fun j => sh (setW W b (gL V n)) b (awd (gL V n) n) (8 * n + j)) = gC (gL V n) n (datm (gL V n) W b n) := gC_congr fun i hi8 => by
        rw [sh_B, ix_div hi8, ix_mod hi8, setW_at, shB_congr (W := W) (W' := setW W b (gL V n)) b (fun j hj => setW_ne (by omega))]
        rfl
      rw [hdat] at hgc
      have hco := c_copyOther (d := d + 3) (h := hup h (10, b) (E (gC (gL V n) n (datm (gL V n) W b n)))) (k := b) (k2 := k) (a := awd wu n / 4) (b := gCc (gL V n) n) hup_at (by rw [hup_ne hkb]; exact hwu) hlp hc4 (by omega)
      rw [hup_hup] at hco
      rw [if_pos hl]
      refine rnN 3 rfl ?_
      refine rnK rfl (hgl) ?_
      refine rnN 5 rfl ?_
      refine rnK rfl (c_clusterOf (show awd wu n < 2147483648 by omega)) ?_
      refine rnN 2 rfl ?_
      refine rnK rfl (hgc) ?_
      refine rnK rfl (hco) ?_
      refine rnN 1 rfl ?_
      exact K109 _ eS.symm
    · have h4 : awd wu n / 4 = 0 := Classical.byContradiction fun e => hl (hisl.mpr e)
      rw [if_neg hl]
      refine rnN 3 rfl ?_
      by_cases h2 : awd wu n = 2
      · have hns : n < V 2 := by
          rw [hJ2]
          rcases hy with e | ⟨e, -⟩
          · have e : awd wu n = 0 := e
            omega
          · omega
        refine rnT ((show nI (awd wu n) = nI 2 by rw [h2])) rfl ?_
        refine rnN 2 rfl ?_
        refine rnK rfl (c_dropChanges hup_at hiV.1 hn) ?_
        by_cases hd : dch b (awd V n) = true
        · have eT : cmT b wu V n = nLeaf V n := by unfold cmT; rw [if_neg (fun e => e h4), if_pos ⟨h2, hd⟩]
          have eS : cmS b W wu V n = mzF (gL V n) n := by unfold cmS; rw [if_neg (fun e => e h4), if_pos ⟨h2, hd⟩]
          obtain ⟨u1, hI1, hu1, ho1, hrm1, haw1, hT1, hH1, hO1⟩ := gL_spec hiV hns (by omega)
          have hgl := c_giveLeaf (d := d) (h := hup h (10, b) (E V)) (k := b) (b := n) hup_at hiV hns (by omega)
          rw [hup_hup] at hgl
          have hmz := c_makeZero (d := d) (h := hup h (10, b) (E (gL V n))) (k := b) (b := n) hup_at hI1 (by rw [hH1 2 (by decide)]; exact hns) ho1
          rw [hup_hup] at hmz
          rw [if_pos hd]
          refine rnN 3 rfl ?_
          refine rnK rfl (hgl) ?_
          refine rnN 2 rfl ?_
          refine rnK rfl (hmz) ?_
          exact K109 _ eS.symm
        · have eS : cmS b W wu V n = V := by unfold cmS; rw [if_neg (fun e => e h4), if_neg (fun z => hd z.2)]
          rw [if_neg hd]
          refine rnN 1 rfl ?_
          exact K109 _ eS.symm
      · have eS : cmS b W wu V n = V := by unfold cmS; rw [if_neg (fun e => e h4), if_neg (fun z => h2 z.1)]
        refine rnF ((fun e => h2 ((neq (by omega) (by decide)).mp e))) rfl ?_
        exact K109 _ eS.symm
  · intro o4
    have ht := c_tellFlags (d := d) (h := hup h (10, b) (E (cmV b W wu (W b) 64))) (k := b) hup_at hu
    rw [hup_hup] at ht
    refine rnN 3 rfl ?_
    refine rnN 1 rfl ?_
    refine rnK rfl (ht) ?_
    refine rnN 1 rfl ?_
    exact rnR rfl
end TI
