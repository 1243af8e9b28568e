/-! ===== the reference: settle ===== -/
/-- the reference's file and counts -/
def mh (h : xH) (f : Nat → Int32) (N : Nat → Nat) : xH := hup (hup h (14, 0) f) (12, 0) (E N)
/-- counts told and free clusters wiped, below n -/
def cB (w u : Nat → Nat) (n : Nat) : Nat → Nat := fun p => if p / 8 < n ∧ T w (p / 8) = 0 then 0 else if p / 8 ≠ 0 ∧ 16 ≤ u (p / 8) ∧ u (p / 8) < 24 ∧ w (8 * w 4 + (u (p / 8) - 16)) = p / 8 ∧ 8 * (u (p / 8) - 16) + p % 8 < n then T w (8 * (u (p / 8) - 16) + p % 8) else w p
/-- the words of P marked anew -/
def fP (P : Nat → Bool) (w y : Nat → Nat) : Nat → Nat := fun p => if P p = true then mk w (y p) else y p
def Pa (P : Nat → Bool) (q : Nat) : Nat → Bool := fun p => P p || Nat.beq p q
def POK (u : Nat → Nat) (P : Nat → Bool) : Prop := ∀ p, P p = true → 1 ≤ p / 8 ∧ p / 8 < 64 ∧ TL u (p / 8)
def Cv (w : Nat → Nat) (P : Nat → Bool) (n i : Nat) : Prop := P (8 * tbn w n + i) = true ∧ (w (8 * tbn w n + i) / 4 ≠ 0 → ∀ j, j < 8 → P (8 * (w (8 * tbn w n + i) / 4) + j) = true)
section SE
variable {d g : Nat} {h : xH} {M N w v u a y : Nat → Nat} {f : Nat → Int32} {P : Nat → Bool}
theorem mh_12 : mh h f N (12, 0) = E N := hup_at
theorem mh_14 : mh h f N (14, 0) = f := by
  unfold mh
  rw [h14_12]
  exact hup_at
theorem mh_mh {f' : Nat → Int32} {N' : Nat → Nat} : mh (mh h f N) f' N' = mh h f' N' := by
  funext q
  unfold mh hup
  by_cases h1 : q = (12, 0)
  · simp only [if_pos h1]
  · by_cases h2 : q = (14, 0)
    · simp only [if_neg h1, if_pos h2]
    · simp only [if_neg h1, if_neg h2]
theorem mh_o {q : xP} (h1 : q ≠ (12, 0)) (h2 : q ≠ (14, 0)) : mh h f N q = h q := by
  unfold mh
  rw [hup_ne h1, hup_ne h2]
theorem mh_12u {N' : Nat → Nat} : hup (mh h f N) (12, 0) (E N') = mh h f N' := hup_hup
theorem mh_14u {f' : Nat → Int32} : hup (mh h f N) (14, 0) f' = mh h f' N := by
  funext q
  unfold mh hup
  by_cases h1 : q = (12, 0)
  · subst h1
    rfl
  · by_cases h2 : q = (14, 0)
    · simp only [if_neg h1, if_pos h2]
    · simp only [if_neg h1, if_neg h2]
theorem mh_eq (e : h (12, 0) = E N) : hup h (14, 0) f = mh h f N := by
  funext q
  unfold mh hup
  by_cases h1 : q = (12, 0)
  · subst h1
    exact e
  · simp only [if_neg h1]
theorem mhpt {i x : Nat} : hpt (mh h f N) (12, 0) i (nI x) = mh h f (up N i x) := by
  rw [hpt_E mh_12, mh_12u]
theorem Pa_at {q : Nat} : Pa P q q = true := by
  unfold Pa
  simp [Nat.beq_refl]
theorem Pa_ne {q p : Nat} (e : p ≠ q) : Pa P q p = P p := by
  unfold Pa
  have e2 : Nat.beq p q = false := by
    cases hb : Nat.beq p q with
    | false => rfl
    | true => exact absurd (Nat.eq_of_beq_eq_true hb) e
  rw [e2, Bool.or_false]
theorem fP_step {q : Nat} : up (fP P w y) q (mk w (fP P w y q)) = fP (Pa P q) w y := by
  funext p
  simp only [up, fP]
  by_cases e : p = q
  · subst e
    rw [if_pos rfl, if_pos Pa_at]
    split
    · exact mk_mk _ _
    · rfl
  · rw [if_neg e, Pa_ne e]
theorem Pa_mono {q p : Nat} (h1 : P p = true) : Pa P q p = true := by
  unfold Pa
  rw [h1, Bool.true_or]
theorem POK.add {q : Nat} (hP : POK u P) (h1 : 1 ≤ q / 8 ∧ q / 8 < 64 ∧ TL u (q / 8)) : POK u (Pa P q) := fun p hp => by
  unfold Pa at hp
  rcases Bool.or_eq_true _ _ ▸ hp with h | h
  · exact hP p h
  · rw [Nat.eq_of_beq_eq_true h]; exact h1
theorem fP_agr (hs : Str w u) (hP : POK u P) : Agr (fP P w (clo w u)) w u := fun p hT hu => by
  unfold fP
  rw [clo_out hs hT hu]
  by_cases e : P p = true
  · have h1 := hP p e
    rw [if_pos e]
    by_cases h0 : w p / 4 = 0
    · exact Or.inl (mk_flat h0)
    · exact Or.inr ⟨h1.1, h1.2.2, h0, mk_div _ _, mk_mod h0⟩
  · rw [if_neg e]
    exact Or.inl rfl
theorem Agr.etbn {v w u : Nat → Nat} (ha : Agr v w u) (hs : Str w u) {n : Nat} (hn : n ≤ w 5) : tbn v n = tbn w n := by
  cases n with
  | zero => exact ha.hdr (by decide)
  | succ n => exact ha.etab hs (by omega)
theorem mk_lt {x : Nat} (h : x < 256) : mk w x < 256 := by
  unfold mk
  split
  · exact h
  · split <;> omega
theorem mk_z {x : Nat} : mk w x = 0 ↔ x = 0 := by
  unfold mk
  split
  · exact Iff.rfl
  · next h0 => constructor <;> intro e <;> omega
theorem cB_0 : cB w u 0 = w := by
  funext p
  unfold cB
  rw [if_neg (by omega), if_neg (by omega)]
theorem cB_64 (hs : Str w u) : cB w u 64 = clo w u := by
  funext p
  unfold cB clo cW
  by_cases e : p / 8 < 64 ∧ T w (p / 8) = 0
  · rw [if_pos e, if_pos (decide_eq_true e)]
  · rw [if_neg e, if_neg (fun z => e (of_decide_eq_true z))]
    by_cases e2 : p / 8 ≠ 0 ∧ 16 ≤ u (p / 8) ∧ u (p / 8) < 24 ∧ w (8 * w 4 + (u (p / 8) - 16)) = p / 8
    · rw [if_pos e2, if_pos (by omega)]
    · rw [if_neg e2, if_neg (fun z => e2 ⟨z.1, z.2.1, z.2.2.1, z.2.2.2.1⟩)]
theorem cB_out (hs : Str w u) {n p : Nat} (hT : T w (p / 8) ≠ 0) (hu : p / 8 = 0 ∨ u (p / 8) < 16 ∨ 24 ≤ u (p / 8)) : cB w u n p = w p := by
  unfold cB
  rw [if_neg (fun e => hT e.2), if_neg (by omega)]
/-- the count of cluster n is told -/
def cB1 (w u : Nat → Nat) (n : Nat) : Nat → Nat := if w (8 * w 4 + n / 8) = 0 then cB w u n else up (cB w u n) (cpl w n) (T w n)
theorem cB_step (hs : Str w u) {n p : Nat} (hn : n < 64) : cB w u (n + 1) p = if p / 8 = n ∧ T w n = 0 then 0 else cB1 w u n p := by
  unfold cB1
  by_cases hz : p / 8 = n ∧ T w n = 0
  · rw [if_pos hz]
    unfold cB
    rw [if_pos (by rw [hz.1]; exact ⟨by omega, hz.2⟩)]
  · rw [if_neg hz]
    by_cases hk : w (8 * w 4 + n / 8) = 0
    · rw [if_pos hk]
      unfold cB
      by_cases e : p / 8 < n ∧ T w (p / 8) = 0
      · rw [if_pos e, if_pos ⟨by omega, e.2⟩]
      · rw [if_neg e, if_neg (fun z => by
          by_cases e3 : p / 8 = n
          · exact hz ⟨e3, by rw [← e3]; exact z.2⟩
          · exact e ⟨by omega, z.2⟩)]
        by_cases e2 : p / 8 ≠ 0 ∧ 16 ≤ u (p / 8) ∧ u (p / 8) < 24 ∧ w (8 * w 4 + (u (p / 8) - 16)) = p / 8 ∧ 8 * (u (p / 8) - 16) + p % 8 < n
        · rw [if_pos e2, if_pos ⟨e2.1, e2.2.1, e2.2.2.1, e2.2.2.2.1, by omega⟩]
        · rw [if_neg e2, if_neg (fun z => by
            by_cases e3 : 8 * (u (p / 8) - 16) + p % 8 = n
            · have e4 : n / 8 = u (p / 8) - 16 := by omega
              rw [e4] at hk
              exact z.1 (z.2.2.2.1.symm.trans hk)
            · exact e2 ⟨z.1, z.2.1, z.2.2.1, z.2.2.2.1, by omega⟩)]
    · rw [if_neg hk]
      have hin := cpl_in hs hn hk
      have hkp := hs.keep (show n / 8 < 8 by omega) hk
      have h8 : cpl w n / 8 = w (8 * w 4 + n / 8) := by unfold cpl; omega
      have h9 : cpl w n % 8 = n % 8 := by unfold cpl; omega
      by_cases ep : p = cpl w n
      · rw [ep, up_at]
        unfold cB
        rw [if_neg (fun z => hin.2.2.1 z.2), if_pos]
        · congr 1
          rw [h8, h9, hkp.2]
          omega
        · rw [h8, h9, hkp.2]
          refine ⟨hk, by omega, by omega, ?_, by omega⟩
          rw [show 16 + n / 8 - 16 = n / 8 by omega]
      · rw [up_ne ep]
        unfold cB
        by_cases e : p / 8 < n ∧ T w (p / 8) = 0
        · rw [if_pos e, if_pos ⟨by omega, e.2⟩]
        · rw [if_neg e, if_neg (fun z => by
            by_cases e3 : p / 8 = n
            · exact hz ⟨e3, by rw [← e3]; exact z.2⟩
            · exact e ⟨by omega, z.2⟩)]
          by_cases e2 : p / 8 ≠ 0 ∧ 16 ≤ u (p / 8) ∧ u (p / 8) < 24 ∧ w (8 * w 4 + (u (p / 8) - 16)) = p / 8 ∧ 8 * (u (p / 8) - 16) + p % 8 < n
          · rw [if_pos e2, if_pos ⟨e2.1, e2.2.1, e2.2.2.1, e2.2.2.2.1, by omega⟩]
          · rw [if_neg e2, if_neg (fun z => by
              by_cases e3 : 8 * (u (p / 8) - 16) + p % 8 = n
              · apply ep
                unfold cpl
                rw [show n / 8 = u (p / 8) - 16 by omega, z.2.2.2.1]
                omega
              · exact e2 ⟨z.1, z.2.1, z.2.2.1, z.2.2.2.1, by omega⟩)]
/-- settling, from its marks on -/
theorem st_marks (hg : g < 4) (hs : Str w u) {o2 : Option xV} : ∀ o3 o4 o5 o6 : Option xV, Rn (d + 3) MX4_settle 122 [some (vR (4, 0)), some (vI (nI g)), o2, some (vI (jm 0)), o3, o4, o5, o6] [] (mh h (cf f (T w)) (pf M g (clo w u))) none (mh h (cf f (T w)) (pf M g (stl w u))) := by
  have hns := hs.ns
  have hy : ∀ t i, TB w t → i < 8 → clo w u (8 * t + i) = w (8 * t + i) := fun t i ht hi => clo_out hs (by rw [ix_div hi]; have := T_tab ht; omega) (by rw [ix_div hi]; have := (hs.tb ht).2.2; omega)
  have hyl : ∀ t i j, TB w t → i < 8 → j < 8 → w (8 * t + i) / 4 ≠ 0 → clo w u (8 * (w (8 * t + i) / 4) + j) = w (8 * (w (8 * t + i) / 4) + j) := fun t i j ht hi hj h0 => clo_out hs (by rw [ix_div hj]; have := T_leaf ht hi h0; omega) (by rw [ix_div hj]; have := ((hs.tw ht hi).lead h0).2.2.1; omega)
  have hfin : ∀ P, POK u P → (∀ n, n < w 5 + 1 → ∀ i, i < 8 → Cv w P n i) → fP P w (clo w u) = stl w u := by
    intro P hP hC
    funext p
    unfold stl fP
    have hTc := fun X => (clo_agr hs).eT hs X
    by_cases e : P p = true
    · rw [if_pos e, flg_in (hP p e), mk_congr hTc]
    · rw [if_neg e]
      by_cases e2 : 1 ≤ p / 8 ∧ p / 8 < 64 ∧ TL u (p / 8)
      · rw [flg_in e2]
        by_cases hT : T w (p / 8) = 0
        · rw [clo_free (by omega) hT]
          rfl
        · exfalso
          rcases TL_role hs e2.1 e2.2.2 hT with h4 | ⟨t, i, ht, h5, h6, h7⟩
          · obtain ⟨n, hn, hne⟩ : ∃ n, n < w 5 + 1 ∧ p / 8 = tbn w n := by
              rcases h4 with h4 | ⟨j, hj, h4⟩
              · exact ⟨0, by omega, h4⟩
              · exact ⟨j + 1, by omega, h4⟩
            have h8 := (hC n hn (p % 8) (by omega)).1
            rw [← hne, show 8 * (p / 8) + p % 8 = p by omega] at h8
            exact e h8
          · obtain ⟨n, hn, hne⟩ : ∃ n, n < w 5 + 1 ∧ t = tbn w n := by
              rcases ht with ht | ⟨j, hj, ht⟩
              · exact ⟨0, by omega, ht⟩
              · exact ⟨j + 1, by omega, ht⟩
            rw [hne] at h6 h7
            have h8 := (hC n hn i h5).2 h6 (p % 8) (by omega)
            rw [← h7, show 8 * (p / 8) + p % 8 = p by omega] at h8
            exact e h8
      · rw [flg_out e2]
  have go := lpN (w 5 + 1) (fun n => ∀ P, POK u P → (∀ m, m < n → ∀ i, i < 8 → Cv w P m i) → ∀ o3 o4 o5 o6 : Option xV, Rn (d + 3) MX4_settle 122 [some (vR (4, 0)), some (vI (nI g)), o2, some (vI (jm n)), o3, o4, o5, o6] [] (mh h (cf f (T w)) (pf M g (fP P w (clo w u)))) none (mh h (cf f (T w)) (pf M g (stl w u)))) (fun n hn K => ?_) ?_
  · intro o3 o4 o5 o6
    have h0 := go (fun _ => false) (fun p hp => by cases hp) (fun m hm => by omega) o3 o4 o5 o6
    have e : fP (fun _ => false) w (clo w u) = clo w u := by
      funext p
      unfold fP
      exact if_neg (fun e => by cases e)
    rw [e] at h0
    exact h0
  · intro P hP hC o3 o4 o5 o6
    have ha := fP_agr hs hP
    have htb := tbn_tb (w := w) (n := n) (by omega)
    have ht := hs.tb htb
    have hTLt : ∀ i, i < 8 → 1 ≤ (8 * tbn w n + i) / 8 ∧ (8 * tbn w n + i) / 8 < 64 ∧ TL u ((8 * tbn w n + i) / 8) := fun i hi => by rw [ix_div hi]; exact ⟨ht.1, ht.2.1, by unfold TL; omega⟩
    refine rnN 3 rfl ?_
    refine rnK rfl (m_snapshots mh_12 hg) ?_
    rw [ha.hdr (by decide)]
    refine rnT (jm_lt hn (by omega)) rfl ?_
    refine rnN 3 rfl ?_
    refine rnK rfl (m_table mh_12 hg (by rw [ha.hdr (by decide)]; exact hs.l6) (show n ≤ 4 by omega)) ?_
    rw [ha.etbn hs (by omega)]
    refine rnN 3 rfl ?_
    have lp := lpN 8 (fun i => ∀ P, POK u P → (∀ m, m < n → ∀ i, i < 8 → Cv w P m i) → (∀ l, l < i → Cv w P n l) → ∀ o5 o6 : Option xV, Rn (d + 3) MX4_settle 142 [some (vR (4, 0)), some (vI (nI g)), o2, some (vI (jm n)), some (vI (nI (512 * g + 8 * tbn w n))), some (vI (nI i)), o5, o6] [] (mh h (cf f (T w)) (pf M g (fP P w (clo w u)))) none (mh h (cf f (T w)) (pf M g (stl w u)))) (fun i hi K2 => ?_) ?_
    · exact lp P hP hC (fun l hl => by omega) _ _
    · intro P hP hC hC2 o5 o6
      have ha := fP_agr hs hP
      have hL := hs.tw htb hi
      have hLb := hL.lt
      obtain ⟨x, hx⟩ : ∃ x, x = fP P w (clo w u) (8 * tbn w n + i) := ⟨_, rfl⟩
      have hxw : x = w (8 * tbn w n + i) ∨ x = mk w (w (8 * tbn w n + i)) := by
        rw [hx]
        unfold fP
        rw [hy _ i htb hi]
        split
        · exact Or.inr rfl
        · exact Or.inl rfl
      have hxb : x < 256 := by
        rcases hxw with e | e
        · rw [e]; exact hLb
        · rw [e]; exact mk_lt hLb
      have hx4 : x / 4 = w (8 * tbn w n + i) / 4 := by
        rcases hxw with e | e
        · rw [e]
        · rw [e, mk_div]
      have hxz : x = 0 ↔ w (8 * tbn w n + i) = 0 := by
        rcases hxw with e | e
        · rw [e]
        · rw [e, mk_z]
      refine rnN 2 rfl ?_
      refine rnT (nI_lt hi (by decide)) rfl ?_
      refine rnN 6 rfl ?_
      simp (disch := omega) only [nI_add, pk_mul, pk_sub, nd8, nd4, nsub8, nand63, nand7, nshr2, nI_clamp, E_at, hup_at, hup_hup, hpt_def, pf_at, pf_at2, cf_at, h12_14, h14_12, h12_15, h15_12, h14_15, h15_14]
      refine rnC (inN (show 512 * g + 8 * tbn w n + i < 2048 by omega) (by decide)) rfl ?_
      simp (disch := omega) only [nI_add, pk_mul, pk_sub, nd8, nd4, nsub8, nand63, nand7, nshr2, nI_clamp, E_at, hup_at, hup_hup, hpt_def, pf_at, pf_at2, cf_at, h12_14, h14_12, h12_15, h15_12, h14_15, h15_14, mh_12]
      rw [← hx]
      refine rnN 2 rfl ?_
      simp (disch := omega) only [nI_add, pk_mul, pk_sub, nd8, nd4, nsub8, nand63, nand7, nshr2, nI_clamp, E_at, hup_at, hup_hup, hpt_def, pf_at, pf_at2, cf_at, h12_14, h14_12, h12_15, h15_12, h14_15, h15_14]
      refine rnK rfl (m_at) ?_
      refine rnN 12 rfl ?_
      simp (disch := omega) only [nI_add, pk_mul, pk_sub, nd8, nd4, nsub8, nand63, nand7, nshr2, nI_clamp, E_at, hup_at, hup_hup, hpt_def, pf_at, pf_at2, cf_at, h12_14, h14_12, h12_15, h15_12, h14_15, h15_14]
      refine rnC (inN (show 512 * g + 8 * tbn w n + i < 2048 by omega) (by decide)) rfl ?_
      simp (disch := omega) only [nI_add, pk_mul, pk_sub, nd8, nd4, nsub8, nand63, nand7, nshr2, nI_clamp, E_at, hup_at, hup_hup, hpt_def, pf_at, pf_at2, cf_at, h12_14, h14_12, h12_15, h15_12, h14_15, h15_14, mh_12]
      rw [← hx]
      refine rnK rfl (m_marked (w := w) mh_14 (by omega) hxb) ?_
      refine rnC (inN (show 512 * g + 8 * tbn w n + i < 2048 by omega) (by decide)) rfl ?_
      simp (disch := omega) only [nI_clamp, mhpt]
      rw [show 512 * g + 8 * tbn w n + i = 512 * g + (8 * tbn w n + i) by omega, pf_up (show 8 * tbn w n + i < 512 by omega), hx, fP_step]
      rw [hx] at hx4
      rw [hx4]
      refine rnN 2 rfl ?_
      have hP1 := hP.add (hTLt i hi)
      by_cases hw0 : w (8 * tbn w n + i) = 0
      · -- no leaf
        have hq : fP (Pa P (8 * tbn w n + i)) w (clo w u) (8 * tbn w n + i) = 0 := by
          unfold fP
          rw [if_pos Pa_at, hy _ i htb hi, hw0]
          rfl
        refine rnN 3 rfl ?_
        refine rnN 5 rfl ?_
        simp (disch := omega) only [nI_add, pk_mul, pk_sub, nd8, nd4, nsub8, nand63, nand7, nshr2, nI_clamp, E_at, hup_at, hup_hup, hpt_def, pf_at, pf_at2, cf_at, h12_14, h14_12, h12_15, h15_12, h14_15, h15_14]
        refine rnC (inN (show 512 * g + 8 * tbn w n + i < 2048 by omega) (by decide)) rfl ?_
        simp (disch := omega) only [nI_add, pk_mul, pk_sub, nd8, nd4, nsub8, nand63, nand7, nshr2, nI_clamp, E_at, hup_at, hup_hup, hpt_def, pf_at, pf_at2, cf_at, h12_14, h14_12, h12_15, h15_12, h14_15, h15_14, mh_12]
        rw [hq]
        refine rnN 3 rfl ?_
        simp (disch := omega) only [nI_add, pk_mul, pk_sub, nd8, nd4, nsub8, nand63, nand7, nshr2, nI_clamp, E_at, hup_at, hup_hup, hpt_def, pf_at, pf_at2, cf_at, h12_14, h14_12, h12_15, h15_12, h14_15, h15_14]
        refine K2 _ hP1 (fun m hm l hl => ⟨Pa_mono (hC m hm l hl).1, fun h0 j hj => Pa_mono ((hC m hm l hl).2 h0 j hj)⟩) (fun l hl => ?_) _ _
        by_cases e : l = i
        · subst e
          exact ⟨Pa_at, fun h0 => absurd (by rw [hw0]) h0⟩
        · have := hC2 l (by omega)
          exact ⟨Pa_mono this.1, fun h0 j hj => Pa_mono (this.2 h0 j hj)⟩
      · have h0 : w (8 * tbn w n + i) / 4 ≠ 0 := fun e => hw0 (hL.zero e)
        have hl := hL.lead h0
        have hlp := hl.1.pos
        obtain ⟨l, hld⟩ : ∃ l, l = w (8 * tbn w n + i) / 4 := ⟨_, rfl⟩
        have hTLl : ∀ j, j < 8 → 1 ≤ (8 * l + j) / 8 ∧ (8 * l + j) / 8 < 64 ∧ TL u ((8 * l + j) / 8) := fun j hj => by rw [ix_div hj, hld]; exact ⟨hlp.1, hlp.2, by unfold TL; omega⟩
        rw [← hld]
        have lp2 := lpN 8 (fun k => ∀ P2, POK u P2 → (∀ p, Pa P (8 * tbn w n + i) p = true → P2 p = true) → (∀ j, j < k → P2 (8 * l + j) = true) → Rn (d + 3) MX4_settle 194 [some (vR (4, 0)), some (vI (nI g)), o2, some (vI (jm n)), some (vI (nI (512 * g + 8 * tbn w n))), some (vI (nI i)), some (vI (nI (512 * g + 8 * l))), some (vI (nI k))] [] (mh h (cf f (T w)) (pf M g (fP P2 w (clo w u)))) none (mh h (cf f (T w)) (pf M g (stl w u)))) (fun k hk K3 => ?_) ?_
        · exact lp2 _ hP1 (fun p hp => hp) (fun j hj => by omega)
        · intro P2 hP2 hsub hdn
          have hxn : fP P2 w (clo w u) (8 * tbn w n + i) ≠ 0 := by
            unfold fP
            rw [hy _ i htb hi]
            split
            · exact fun e => hw0 (mk_z.mp e)
            · exact hw0
          have hxl : fP P2 w (clo w u) (8 * tbn w n + i) < 256 := by
            unfold fP
            rw [hy _ i htb hi]
            split
            · exact mk_lt hLb
            · exact hLb
          have hBl := (hl.2.2.2 k hk).lt
          have hzl : fP P2 w (clo w u) (8 * l + k) < 256 := by
            unfold fP
            rw [hld, hyl _ i k htb hi hk h0]
            split
            · exact mk_lt hBl
            · exact hBl
          refine rnN 2 rfl ?_
          refine rnT (nI_lt hk (by decide)) rfl ?_
          refine rnN 5 rfl ?_
          simp (disch := omega) only [nI_add, pk_mul, pk_sub, nd8, nd4, nsub8, nand63, nand7, nshr2, nI_clamp, E_at, hup_at, hup_hup, hpt_def, pf_at, pf_at2, cf_at, h12_14, h14_12, h12_15, h15_12, h14_15, h15_14]
          refine rnC (inN (show 512 * g + 8 * tbn w n + i < 2048 by omega) (by decide)) rfl ?_
          simp (disch := omega) only [nI_add, pk_mul, pk_sub, nd8, nd4, nsub8, nand63, nand7, nshr2, nI_clamp, E_at, hup_at, hup_hup, hpt_def, pf_at, pf_at2, cf_at, h12_14, h14_12, h12_15, h15_12, h14_15, h15_14, mh_12]
          refine rnF (nI_ne0 (Nat.pos_of_ne_zero hxn) (by omega)) rfl ?_
          refine rnN 11 rfl ?_
          simp (disch := omega) only [nI_add, pk_mul, pk_sub, nd8, nd4, nsub8, nand63, nand7, nshr2, nI_clamp, E_at, hup_at, hup_hup, hpt_def, pf_at, pf_at2, cf_at, h12_14, h14_12, h12_15, h15_12, h14_15, h15_14]
          refine rnC (inN (show 512 * g + 8 * l + k < 2048 by omega) (by decide)) rfl ?_
          simp (disch := omega) only [nI_add, pk_mul, pk_sub, nd8, nd4, nsub8, nand63, nand7, nshr2, nI_clamp, E_at, hup_at, hup_hup, hpt_def, pf_at, pf_at2, cf_at, h12_14, h14_12, h12_15, h15_12, h14_15, h15_14, mh_12]
          refine rnK rfl (m_marked (w := w) mh_14 (by omega) hzl) ?_
          refine rnC (inN (show 512 * g + 8 * l + k < 2048 by omega) (by decide)) rfl ?_
          simp (disch := omega) only [nI_clamp, mhpt]
          rw [show 512 * g + 8 * l + k = 512 * g + (8 * l + k) by omega, pf_up (show 8 * l + k < 512 by omega), fP_step]
          refine rnN 2 rfl ?_
          simp (disch := omega) only [nI_add, pk_mul, pk_sub, nd8, nd4, nsub8, nand63, nand7, nshr2, nI_clamp, E_at, hup_at, hup_hup, hpt_def, pf_at, pf_at2, cf_at, h12_14, h14_12, h12_15, h15_12, h14_15, h15_14]
          refine K3 _ (hP2.add (hTLl k hk)) (fun p hp => Pa_mono (hsub p hp)) (fun j hj => ?_)
          by_cases e : j = k
          · rw [e]; exact Pa_at
          · exact Pa_mono (hdn j (by omega))
        · intro P2 hP2 hsub hdn
          refine rnN 3 rfl ?_
          refine rnN 2 rfl ?_
          simp (disch := omega) only [nI_add, pk_mul, pk_sub, nd8, nd4, nsub8, nand63, nand7, nshr2, nI_clamp, E_at, hup_at, hup_hup, hpt_def, pf_at, pf_at2, cf_at, h12_14, h14_12, h12_15, h15_12, h14_15, h15_14]
          refine K2 _ hP2 (fun m hm q hq => ⟨hsub _ (Pa_mono (hC m hm q hq).1), fun h0 j hj => hsub _ (Pa_mono ((hC m hm q hq).2 h0 j hj))⟩) (fun q hq => ?_) _ _
          by_cases e : q = i
          · subst e
            exact ⟨hsub _ Pa_at, fun _ j hj => by rw [← hld]; exact hdn j hj⟩
          · have := hC2 q (by omega)
            exact ⟨hsub _ (Pa_mono this.1), fun h0 j hj => hsub _ (Pa_mono (this.2 h0 j hj))⟩
    · intro P hP hC hC2 o5 o6
      refine rnN 3 rfl ?_
      refine rnN 2 rfl ?_
      rw [jm_succ]
      refine K _ hP (fun m hm i hi => ?_) _ _ _ _
      by_cases e : m = n
      · rw [e]; exact hC2 i hi
      · exact hC m (by omega) i hi
  · intro P hP hC o3 o4 o5 o6
    have ha := fP_agr hs hP
    refine rnN 3 rfl ?_
    refine rnK rfl (m_snapshots mh_12 hg) ?_
    rw [ha.hdr (by decide)]
    refine rnF (jm_nlt (by omega)) rfl ?_
    rw [← hfin P hP hC]
    exact rnR rfl
end SE
section SE2
variable {d g : Nat} {h : xH} {M N w v u a y : Nat → Nat} {f : Nat → Int32} {P : Nat → Bool}
theorem m_settle (hw : h (12, 0) = E (pf M g w)) (hg : g < 4) (hs : Str w u) : Cl (d + 3) MX4_settle [vR (4, 0), vI (nI g)] h none (mh h (cf (h (14, 0)) (T w)) (pf M g (stl w u))) := by
  have hns := hs.ns
  have hct := hs.ct
  obtain ⟨f, hf⟩ : ∃ f, f = h (14, 0) := ⟨_, rfl⟩
  rw [← hf]
  have hrc := m_recount (d := d) (M := M) hw hg hs
  rw [← hf, mh_eq hw] at hrc
  have hckt : ∀ n k, k < 8 → cB w u n (8 * w 4 + k) = w (8 * w 4 + k) := fun n k hk => cB_out hs (by rw [ix_div hk]; have := T_ct (w := w); omega) (by rw [ix_div hk]; omega)
  refine rnN 2 rfl ?_
  refine rnK rfl (hrc) ?_
  refine rnN 8 rfl ?_
  simp (disch := omega) only [nI_add, pk_mul, pk_sub, nd8, nd4, nsub8, nand63, nand7, nshr2, nI_clamp, E_at, hup_at, hup_hup, hpt_def, pf_at, pf_at2, cf_at, h12_14, h14_12, h12_15, h15_12, h14_15, h15_14]
  refine rnC (inN (show 512 * g + 4 < 2048 by omega) (by decide)) rfl ?_
  simp (disch := omega) only [nI_add, pk_mul, pk_sub, nd8, nd4, nsub8, nand63, nand7, nshr2, nI_clamp, E_at, hup_at, hup_hup, hpt_def, pf_at, pf_at2, cf_at, h12_14, h14_12, h12_15, h15_12, h14_15, h15_14, mh_12]
  refine rnK rfl (m_at) ?_
  refine rnN 3 rfl ?_
  rw [show pf M g w = pf M g (cB w u 0) by rw [cB_0]]
  have go := lpN 64 (fun n => ∀ o4 o5 o6 o7 : Option xV, Rn (d + 3) MX4_settle 24 [some (vR (4, 0)), some (vI (nI g)), some (vI (nI (512 * g + 8 * w 4))), some (vI (nI n)), o4, o5, o6, o7] [] (mh h (cf f (T w)) (pf M g (cB w u n))) none (mh h (cf f (T w)) (pf M g (stl w u)))) (fun n hn K => ?_) ?_
  · exact go none none none none
  · intro o4 o5 o6 o7
    have hTn := T_le (w := w) hns.1 n
    have hkl := hs.keepLt (k := n / 8) (by omega)
    -- the wiping
    have hz : ∀ o4, Rn (d + 3) MX4_settle 75 [some (vR (4, 0)), some (vI (nI g)), some (vI (nI (512 * g + 8 * w 4))), some (vI (nI n)), o4, o5, o6, o7] [] (mh h (cf f (T w)) (pf M g (cB1 w u n))) none (mh h (cf f (T w)) (pf M g (stl w u))) := by
      intro o4
      have hK : Rn (d + 3) MX4_settle 24 [some (vR (4, 0)), some (vI (nI g)), some (vI (nI (512 * g + 8 * w 4))), some (vI (nI (n + 1))), some (vI (nI 8)), o5, o6, o7] [] (mh h (cf f (T w)) (pf M g (cB w u (n + 1)))) none (mh h (cf f (T w)) (pf M g (stl w u))) := K _ _ _ _
      by_cases h0 : T w n = 0
      · refine rnN 2 rfl ?_
        have e0 : pf M g (cB1 w u n) = pf M g fun p => if p / 8 = n ∧ p % 8 < 0 then 0 else cB1 w u n p := pf_congr fun p _ => by rw [if_neg (by omega)]
        rw [e0]
        refine lpN 8 (fun k => Rn (d + 3) MX4_settle 78 [some (vR (4, 0)), some (vI (nI g)), some (vI (nI (512 * g + 8 * w 4))), some (vI (nI n)), some (vI (nI k)), o5, o6, o7] [] (mh h (cf f (T w)) (pf M g fun p => if p / 8 = n ∧ p % 8 < k then 0 else cB1 w u n p)) none (mh h (cf f (T w)) (pf M g (stl w u)))) (fun k hk K2 => ?_) ?_
        · refine rnN 2 rfl ?_
          refine rnT (nI_lt hk (by decide)) rfl ?_
          refine rnN 3 rfl ?_
          refine rnC (inN hn (by decide)) rfl ?_
          simp (disch := omega) only [nI_add, pk_mul, pk_sub, nd8, nd4, nsub8, nand63, nand7, nshr2, nI_clamp, E_at, hup_at, hup_hup, hpt_def, pf_at, pf_at2, cf_at, h12_14, h14_12, h12_15, h15_12, h14_15, h15_14, mh_14]
          rw [h0]
          refine rnN 5 rfl ?_
          refine rnK rfl (m_at) ?_
          refine rnN 3 rfl ?_
          simp (disch := omega) only [nI_add, pk_mul, pk_sub, nd8, nd4, nsub8, nand63, nand7, nshr2, nI_clamp, E_at, hup_at, hup_hup, hpt_def, pf_at, pf_at2, cf_at, h12_14, h14_12, h12_15, h15_12, h14_15, h15_14]
          refine rnC (inN (show 512 * g + 8 * n + k < 2048 by omega) (by decide)) rfl ?_
          simp (disch := omega) only [nI_clamp, mhpt]
          rw [show 512 * g + 8 * n + k = 512 * g + (8 * n + k) by omega, pf_up (show 8 * n + k < 512 by omega)]
          refine rnN 2 rfl ?_
          simp (disch := omega) only [nI_add, pk_mul, pk_sub, nd8, nd4, nsub8, nand63, nand7, nshr2, nI_clamp, E_at, hup_at, hup_hup, hpt_def, pf_at, pf_at2, cf_at, h12_14, h14_12, h12_15, h15_12, h14_15, h15_14]
          refine rnH ?_ K2
          congr 2
          funext p
          simp only [up]
          by_cases e : p = 8 * n + k
          · rw [if_pos e, if_pos (by omega)]
          · rw [if_neg e]
            by_cases e2 : p / 8 = n ∧ p % 8 < k
            · rw [if_pos e2, if_pos (by omega)]
            · rw [if_neg e2, if_neg (by omega)]
        · refine rnN 3 rfl ?_
          refine rnN 2 rfl ?_
          simp (disch := omega) only [nI_add, pk_mul, pk_sub, nd8, nd4, nsub8, nand63, nand7, nshr2, nI_clamp, E_at, hup_at, hup_hup, hpt_def, pf_at, pf_at2, cf_at, h12_14, h14_12, h12_15, h15_12, h14_15, h15_14]
          refine rnH ?_ hK
          congr 1
          refine pf_congr fun p hp => ?_
          rw [cB_step hs hn]
          by_cases e : p / 8 = n
          · rw [if_pos (show p / 8 = n ∧ p % 8 < 8 by omega), if_pos ⟨e, h0⟩]
          · rw [if_neg (by omega), if_neg (fun z => e z.1)]
      · have hK0 : Rn (d + 3) MX4_settle 24 [some (vR (4, 0)), some (vI (nI g)), some (vI (nI (512 * g + 8 * w 4))), some (vI (nI (n + 1))), some (vI (nI 0)), o5, o6, o7] [] (mh h (cf f (T w)) (pf M g (cB w u (n + 1)))) none (mh h (cf f (T w)) (pf M g (stl w u))) := K _ _ _ _
        refine rnN 8 rfl ?_
        refine rnC (inN hn (by decide)) rfl ?_
        simp (disch := omega) only [nI_add, pk_mul, pk_sub, nd8, nd4, nsub8, nand63, nand7, nshr2, nI_clamp, E_at, hup_at, hup_hup, hpt_def, pf_at, pf_at2, cf_at, h12_14, h14_12, h12_15, h15_12, h14_15, h15_14, mh_14]
        refine rnF (nI_ne0 (show 0 < T w n by omega) (by omega)) rfl ?_
        refine rnN 2 rfl ?_
        simp (disch := omega) only [nI_add, pk_mul, pk_sub, nd8, nd4, nsub8, nand63, nand7, nshr2, nI_clamp, E_at, hup_at, hup_hup, hpt_def, pf_at, pf_at2, cf_at, h12_14, h14_12, h12_15, h15_12, h14_15, h15_14]
        refine rnH ?_ hK0
        congr 1
        refine pf_congr fun p hp => ?_
        rw [cB_step hs hn, if_neg (fun z => h0 z.2)]
    refine rnN 2 rfl ?_
    refine rnT (nI_lt hn (by decide)) rfl ?_
    refine rnN 7 rfl ?_
    simp (disch := omega) only [nI_add, pk_mul, pk_sub, nd8, nd4, nsub8, nand63, nand7, nshr2, nI_clamp, E_at, hup_at, hup_hup, hpt_def, pf_at, pf_at2, cf_at, h12_14, h14_12, h12_15, h15_12, h14_15, h15_14]
    refine rnC (inN (show 512 * g + 8 * w 4 + n / 8 < 2048 by omega) (by decide)) rfl ?_
    simp (disch := omega) only [nI_add, pk_mul, pk_sub, nd8, nd4, nsub8, nand63, nand7, nshr2, nI_clamp, E_at, hup_at, hup_hup, hpt_def, pf_at, pf_at2, cf_at, h12_14, h14_12, h12_15, h15_12, h14_15, h15_14, mh_12]
    rw [hckt n _ (by omega)]
    by_cases hk : w (8 * w 4 + n / 8) = 0
    · rw [hk]
      refine rnN 1 rfl ?_
      have e1 : cB w u n = cB1 w u n := by unfold cB1; rw [if_pos hk]
      rw [e1]
      exact hz _
    · refine rnF (nI_ne0 (show 0 < w (8 * w 4 + n / 8) by omega) (by omega)) rfl ?_
      refine rnN 10 rfl ?_
      simp (disch := omega) only [nI_add, pk_mul, pk_sub, nd8, nd4, nsub8, nand63, nand7, nshr2, nI_clamp, E_at, hup_at, hup_hup, hpt_def, pf_at, pf_at2, cf_at, h12_14, h14_12, h12_15, h15_12, h14_15, h15_14]
      refine rnC (inN (show 512 * g + 8 * w 4 + n / 8 < 2048 by omega) (by decide)) rfl ?_
      simp (disch := omega) only [nI_add, pk_mul, pk_sub, nd8, nd4, nsub8, nand63, nand7, nshr2, nI_clamp, E_at, hup_at, hup_hup, hpt_def, pf_at, pf_at2, cf_at, h12_14, h14_12, h12_15, h15_12, h14_15, h15_14, mh_12]
      rw [hckt n _ (by omega)]
      refine rnK rfl (m_at) ?_
      refine rnN 7 rfl ?_
      simp (disch := omega) only [nI_add, pk_mul, pk_sub, nd8, nd4, nsub8, nand63, nand7, nshr2, nI_clamp, E_at, hup_at, hup_hup, hpt_def, pf_at, pf_at2, cf_at, h12_14, h14_12, h12_15, h15_12, h14_15, h15_14]
      refine rnC (inN hn (by decide)) rfl ?_
      simp (disch := omega) only [nI_add, pk_mul, pk_sub, nd8, nd4, nsub8, nand63, nand7, nshr2, nI_clamp, E_at, hup_at, hup_hup, hpt_def, pf_at, pf_at2, cf_at, h12_14, h14_12, h12_15, h15_12, h14_15, h15_14, mh_14]
      refine rnC (inN (show 512 * g + 8 * w (8 * w 4 + n / 8) + n % 8 < 2048 by omega) (by decide)) rfl ?_
      simp (disch := omega) only [nI_clamp, mhpt]
      rw [show 512 * g + 8 * w (8 * w 4 + n / 8) + n % 8 = 512 * g + cpl w n by unfold cpl; omega, pf_up (show cpl w n < 512 by unfold cpl; omega)]
      have e1 : up (cB w u n) (cpl w n) (T w n) = cB1 w u n := by unfold cB1; rw [if_neg hk]
      rw [e1]
      exact hz _
  · intro o4 o5 o6 o7
    refine rnN 3 rfl ?_
    refine rnN 2 rfl ?_
    rw [cB_64 hs]
    exact st_marks hg hs _ _ _ _
end SE2
