/-! ===== commit ===== -/
section OC
variable {d b k n : Nat} {h H : xH} {M N wu w0 V u v w : Nat → Nat} {W U : Nat → Nat → Nat} {f s : Nat → Int32}
theorem first_over {g : Nat → Nat} {fr : Nat} (h0 : g 0 ≤ fr) : ∀ m, fr < g m → ∃ n, n < m ∧ g n ≤ fr ∧ fr < g (n + 1) := by
  intro m
  induction m with
  | zero => intro h; omega
  | succ m ih =>
    intro h
    by_cases e : g m ≤ fr
    · exact ⟨m, by omega, e, h⟩
    · obtain ⟨n, h1, h2, h3⟩ := ih (by omega)
      exact ⟨n, by omega, h2, h3⟩
theorem nI_ne_m2 {n : Nat} (hn : n < 2147483648) : ¬ nI n = -2 := fun e => by
  have h1 : (-2 : Int32) < 0 := by decide
  rw [← e] at h1
  exact nI_pos hn h1
/-- the side rows of the reference don't count -/
theorem SI_side {x : Nat → Nat} (S : SI k W U h) (hM : ∀ j p, j ≤ k → p < 512 → M (512 * j + p) = W j p) : SI k W U (mh (hup h (15, 0) s) f (pf M 3 x)) := by
  obtain ⟨a1, a2, a3, a4, a5, a6, -, a8⟩ := S
  have hne : ∀ q : xP, q ≠ (12, 0) → q ≠ (14, 0) → q ≠ (15, 0) → mh (hup h (15, 0) s) f (pf M 3 x) q = h q := fun q q1 q2 q3 => by rw [mh_o q1 q2, hup_ne q3]
  refine ⟨a1, fun j hj => ?_, a3, a4, ?_, ?_, ⟨pf M 3 x, mh_12, fun j p hj hp => ?_⟩, fun p hp => ?_⟩
  · rw [hne _ (fun e => by injection e with e1 e2; omega) (fun e => by injection e with e1 e2; omega) (fun e => by injection e with e1 e2; omega)]
    exact a2 j hj
  · rw [hne _ (by decide) (by decide) (by decide)]; exact a5
  · rw [hne _ (by decide) (by decide) (by decide)]; exact a6
  · rw [pf_ne hp (by omega)]; exact hM j p hj hp
  · rw [hne _ (by decide) (by decide) (by decide), hne _ (by decide) (by decide) (by decide)]
    exact a8 p hp
/-- the top image goes into the one below -/
theorem SI_pop {w' u' x : Nat → Nat} {A C : Nat → Int32} (S : SI (b + 1) W U h) (hI : Inv w' u') (hf : flg w' u' = w') (h60 : w' 5 = 0 → w' 6 = 0) (h2 : W b 2 ≤ w' 2) (hM : ∀ j p, j ≤ b + 1 → p < 512 → M (512 * j + p) = W j p) (hA : A 1 = nI (b + 1)) (hC : C 2 = nI (b + 1)) (hx : ∀ p, p < 512 → x p = w' p) :
    SI b (setW W b w') (setW U b u') (hup (mh (hup (hup (hup h (10, b) (E w')) (3, 0) A) (15, 0) s) f (pf (pf M 3 x) b x)) (4, 0) C) := by
  obtain ⟨a1, a2, a3, a4, a5, a6, -, a8⟩ := S
  have hne : ∀ q : xP, q ≠ (12, 0) → q ≠ (14, 0) → q ≠ (15, 0) → q ≠ (4, 0) → q ≠ (3, 0) → q ≠ (10, b) → hup (mh (hup (hup (hup h (10, b) (E w')) (3, 0) A) (15, 0) s) f (pf (pf M 3 x) b x)) (4, 0) C q = h q := fun q q1 q2 q3 q4 q5 q6 => by
    rw [hup_ne q4, mh_o q1 q2, hup_ne q3, hup_ne q5, hup_ne q6]
  refine ⟨by omega, fun j hj => ?_, fun j hj => ?_, fun j p => ?_, ?_, ?_, ⟨pf (pf M 3 x) b x, ?_, fun j p hj hp => ?_⟩, fun p hp => ?_⟩
  · by_cases e : j = b
    · rw [e, setW_at, setW_at, hup_ne (fun e2 => by injection e2 with e1 e2; omega), mh_o (fun e2 => by injection e2 with e1 e2; omega) (fun e2 => by injection e2 with e1 e2; omega), hup_ne (fun e2 => by injection e2 with e1 e2; omega), hup_ne (fun e2 => by injection e2 with e1 e2; omega), hup_at]
      exact ⟨rfl, hI, hf, h60⟩
    · rw [setW_ne e, setW_ne e, hne _ (fun e2 => by injection e2 with e1 e2; omega) (fun e2 => by injection e2 with e1 e2; omega) (fun e2 => by injection e2 with e1 e2; omega) (fun e2 => by injection e2 with e1 e2; omega) (fun e2 => by injection e2 with e1 e2; omega) (fun e2 => by injection e2 with e1 e2; omega)]
      exact a2 j (by omega)
  · by_cases e : j + 1 = b
    · rw [e, setW_at, setW_ne (by omega)]
      have := a3 j (by omega)
      rw [e] at this
      omega
    · rw [setW_ne (by omega), setW_ne e]
      exact a3 j (by omega)
  · unfold setW
    split
    · exact hI.2.2.2.2 p
    · exact a4 j p
  · rw [hup_ne (by decide), mh_o (by decide) (by decide), hup_ne (by decide), hup_at]
    exact hA
  · rw [hup_at]
    exact hC
  · rw [hup_ne (by decide), mh_12]
  · by_cases e : j = b
    · rw [e, setW_at, pf_at hp]
      exact hx p hp
    · rw [setW_ne e, pf_ne hp e, pf_ne hp (by omega)]
      exact hM j p (by omega) hp
  · rw [hne (10, 3) (by decide) (by decide) (by decide) (by decide) (by decide) (fun e2 => by injection e2 with e1 e2; omega), hne (13, 0) (by decide) (by decide) (by decide) (by decide) (by decide) (fun e2 => by injection e2 with e1 e2; omega)]
    exact a8 p hp
/-- the reference's commit, up to its loop -/
theorem mcm_start {r : Option xV} {P : xH → Prop} {u0 uu : Nat → Nat} (hM : H (12, 0) = E M) (hn : H (4, 0) 2 = nI (k + 1)) (hk1 : k = b + 1) (hk : k < 3) (hi0 : Inv (W b) u0) (hf0 : flg (W b) u0 = W b) (hs : Str wu uu) (hMb : ∀ p, p < 512 → M (512 * b + p) = W b p) (hMk : ∀ p, p < 512 → M (512 * k + p) = wu p) (h1 : W b 2 ≤ wu 2) (h5 : wu 5 = 0)
    (K : mcR k b W wu M H 0 r P) : ∃ hf, Cl 8 MX4_commit [vR (4, 0)] H r hf ∧ P hf := by
  have hsz := hs.sz
  obtain ⟨g1, g2, g3⟩ := grow_inv hi0 h1 hsz.2
  have g2 := g2 hf0
  have hMk2 : pf M k wu = M := pf_self fun p hp => hMk p hp
  have hH : H = mh H (H (14, 0)) M := by
    unfold mh
    rw [hup_self (p := (14, 0)) rfl, hup_self hM]
  have hcf := m_copyFile (d := 7) (h := H) (f := H (14, 0)) (N := M) (i := b) (j := 3) (x := W b) hMb (by omega) (by decide) (by omega)
  rw [← hH] at hcf
  have hrm := m_room (d := 4) (h := mh H (H (14, 0)) (pf M 3 (W b))) (M := M) (g := 3) mh_12 (by decide) hi0
  rw [mh_mh, mh_14] at hrm
  obtain ⟨f1, hf1⟩ : ∃ f1, f1 = cf (H (14, 0)) (T (W b)) := ⟨_, rfl⟩
  rw [← hf1] at hrm
  have hk12 : ∀ x, mh H f1 (pf M 3 x) (12, 0) = E (pf (pf M 3 x) k wu) := fun x => by
    rw [mh_12, pf_self (N := pf M 3 x) (j := k) (v := wu) (fun p hp => by rw [pf_ne hp (by omega)]; exact hMk p hp)]
  obtain ⟨hf, hR, hP⟩ := K u0 f1 (H (15, 0)) none none none g1
  rw [show cmV b W wu (W b) 0 = up (W b) 2 (wu 2) from rfl, g2, hup_self rfl] at hR
  refine ⟨hf, ?_, hP⟩
  refine rnN 3 rfl ?_
  rw [hn]
  refine rnF ((show ¬ nI (k + 1) = nI 1 from fun e => by have := (neq (by omega) (by decide)).mp e; omega)) rfl ?_
  refine rnN 5 rfl ?_
  rw [m_top hn]
  refine rnN 2 rfl ?_
  refine rnK rfl (m_snapshots (w := wu) (M := M) (by rw [hM, hMk2]) (show k < 4 by omega)) ?_
  rw [h5]
  refine rnN 5 rfl ?_
  rw [show nI k - nI 1 = nI b by rw [hk1, pk_sub (by omega)]; congr 1]
  refine rnN 1 rfl ?_
  refine rnK rfl (hcf) ?_
  refine rnN 2 rfl ?_
  refine rnK rfl (hrm) ?_
  refine rnN 6 rfl ?_
  refine rnK rfl (m_sizeOf (hk12 (W b)) (show k < 4 by omega)) ?_
  refine rnC (inN (show 1538 < 2048 by decide) (by decide)) rfl ?_
  simp (disch := omega) only [nI_clamp, mhpt]
  rw [show 1538 = 512 * 3 + 2 from rfl, pf_up (show 2 < 512 by decide)]
  refine rnN 3 rfl ?_
  refine rnK rfl (m_table (n := 0) (hk12 (up (W b) 2 (wu 2))) (show k < 4 by omega) hs.l6 (by decide)) ?_
  rw [show tbn wu 0 = wu 3 from rfl]
  refine rnN 7 rfl ?_
  exact hR
/-- its end, when all went in -/
theorem mcm_end {uu : Nat → Nat} (hn : H (4, 0) 2 = nI (k + 1)) (hk1 : k = b + 1) (hk : k < 3) (hs : Str wu uu) (hMk : ∀ p, p < 512 → M (512 * k + p) = wu p) (hr : cmK b wu (W b) (wu 2) ≤ rm (W b)) :
    mcR k b W wu M H (wu 2) (some (vI (nI (cmD wu (wu 2))))) fun hf => ∃ s f u, Inv (cmV b W wu (W b) (wu 2)) u ∧ hf = hup (mh (hup H (15, 0) s) f (pf (pf M 3 (flg (cmV b W wu (W b) (wu 2)) u)) b (flg (cmV b W wu (W b) (wu 2)) u))) (4, 0) (upd (H (4, 0)) 2 (nI (b + 1))) := by
  intro u f s o7 o8 o9 hu
  have hsz := hs.sz
  have hrml : rm (W b) ≤ 64 := by unfold rm; omega
  obtain ⟨x, hx⟩ : ∃ x, x = flg (cmV b W wu (W b) (wu 2)) u := ⟨_, rfl⟩
  rw [← hx]
  have hH12 : mh (hup H (15, 0) s) f (pf M 3 x) (12, 0) = E (pf (pf M 3 x) k wu) := by
    rw [mh_12, pf_self (N := pf M 3 x) (j := k) (v := wu) (fun p hp => by rw [pf_ne hp (by omega)]; exact hMk p hp)]
  have hcf := m_copyFile (d := 7) (h := hup H (15, 0) s) (f := f) (N := pf M 3 x) (i := 3) (j := b) (x := x) (fun p hp => pf_at hp) (by decide) (by omega) (by omega)
  have h4 : mh (hup H (15, 0) s) f (pf (pf M 3 x) b x) (4, 0) = H (4, 0) := by rw [mh_o (by decide) (by decide), hup_ne (by decide)]
  refine ⟨hup (mh (hup H (15, 0) s) f (pf (pf M 3 x) b x)) (4, 0) (upd (H (4, 0)) 2 (nI (b + 1))), ?_, s, f, u, hu, by rw [hx]⟩
  refine rnN 3 rfl ?_
  refine rnK rfl (m_sizeOf hH12 (show k < 4 by omega)) ?_
  refine rnF (nI_nlt (Nat.le_refl _) (by omega)) rfl ?_
  refine rnN 2 rfl ?_
  refine rnF (nI_nlt hr (by omega)) rfl ?_
  refine rnN 5 rfl ?_
  rw [show nI k - nI 1 = nI b by rw [hk1, pk_sub (by omega)]; congr 1]
  refine rnK rfl (hcf) ?_
  refine rnN 4 rfl ?_
  rw [h4, hn]
  refine rnN 1 rfl ?_
  rw [show nI (k + 1) - nI 1 = nI (b + 1) by rw [hk1, pk_sub (by omega)]; congr 1]
  refine rnN 2 rfl ?_
  have e9 : hpt (mh (hup H (15, 0) s) f (pf (pf M 3 x) b x)) (4, 0) 2 (nI (b + 1)) = hup (mh (hup H (15, 0) s) f (pf (pf M 3 x) b x)) (4, 0) (upd (H (4, 0)) 2 (nI (b + 1))) := by
    unfold hpt
    rw [h4]
  rw [e9]
  exact rnR rfl
theorem op_commit (S : SI k W U h) : OpOK MX3_commit MX4_commit [] h := by
  obtain ⟨M, hM, hMw, hMp⟩ := S.mem
  have hk := S.1
  have hi := S.inv (Nat.le_refl k)
  have hw := S.file (Nat.le_refl k)
  have hs := hi.1
  have hns := hs.ns
  have hg : k < 4 := by omega
  have hw12 : h (12, 0) = E (pf M k (W k)) := by rw [hM, hMp k (Nat.le_refl k)]
  have hn3 := S.2.2.2.2.1
  have hn4 := S.2.2.2.2.2.1
  have hWb := S.2.2.2.1
  by_cases hk0 : k = 0
  · subst hk0
    refine ⟨(-1), h, h, 0, W, U, Cl_deep (n := 4) (by decide) ?_, Cl_deep (n := 4) (by decide) ?_, S⟩
    · refine rnN 1 rfl ?_
      refine rnK rfl (c_top hn3 hk) ?_
      refine rnN 7 rfl ?_
      exact rnR rfl
    · refine rnN 3 rfl ?_
      rw [hn4]
      refine rnN 2 rfl ?_
      exact rnR rfl
  · obtain ⟨b, hk1⟩ : ∃ b, k = b + 1 := ⟨k - 1, by omega⟩
    subst hk1
    by_cases h5 : W (b + 1) 5 = 0
    · have hib := S.inv (show b ≤ b + 1 by omega)
      have hfb := S.fl (show b ≤ b + 1 by omega)
      have hsz := S.2.2.1 b (by omega)
      have hsu := hs.sz
      have hKl := cmK_le (b := b) (wu := W (b + 1)) (w0 := W b) 64
      have htail := cm_tail (b := b) (W := W) (w0 := W b) hs (64 - W (b + 1) 2) (by omega)
      rw [show W (b + 1) 2 + (64 - W (b + 1) 2) = 64 by omega] at htail
      obtain ⟨t1, t2, t3⟩ := htail
      have hNW : ∀ j, j < b → j ≠ 3 ∧ Str (W j) (U j) ∧ ∀ p, p < 512 → M (512 * j + p) = W j p := fun j hj => ⟨by omega, (S.inv (by omega)).1, fun p hp => hMw j p (by omega) hp⟩
      by_cases hr : cmK b (W (b + 1)) (W b) 64 ≤ rm (W b)
      · obtain ⟨u, J⟩ := JJ_upto (b := b) (W := W) hib ⟨U (b + 1), hs⟩ hsz hWb (hWb (b + 1)) 64 (Nat.le_refl _) hr
        have hu := J.1
        obtain ⟨hF1, hF2, hF3⟩ := flg_inv hu
        have hHd : ∀ p, p < 8 → p ≠ 2 → flg (cmV b W (W (b + 1)) (W b) 64) u p = W b p := fun p hp hp2 => by rw [(flg_agr _ _).hdr hp]; exact J.2.1 p hp hp2
        have hH2 : flg (cmV b W (W (b + 1)) (W b) 64) u 2 = W (b + 1) 2 := by rw [(flg_agr _ _).hdr (by decide)]; exact J.2.2.1
        obtain ⟨w', hw'⟩ : ∃ w', w' = flg (cmV b W (W (b + 1)) (W b) 64) u := ⟨_, rfl⟩
        rw [← hw'] at hF1 hF3 hHd hH2
        obtain ⟨A, hA⟩ : ∃ A, A = upd (h (3, 0)) 1 (nI (b + 1)) := ⟨_, rfl⟩
        have hA1 : A 1 = nI (b + 1) := by rw [hA]; exact if_pos rfl
        obtain ⟨h1, hh1⟩ : ∃ h1, h1 = hup (hup h (10, b) (E w')) (3, 0) A := ⟨_, rfl⟩
        have n1 : ∀ q : xP, q ≠ (10, b) → q ≠ (3, 0) → h1 q = h q := fun q hq hq2 => by rw [hh1, hup_ne hq2, hup_ne hq]
        have q12 : h1 (12, 0) = E M := by rw [n1 _ (fun e => by injection e with e1 e2; omega) (by decide)]; exact hM
        have q4e : h1 (4, 0) = h (4, 0) := n1 _ (fun e => by injection e with e1 e2; omega) (by decide)
        have q4 : h1 (4, 0) 2 = nI (b + 1 + 1) := by rw [q4e]; exact hn4
        have hend := mcm_end (H := h1) (M := M) (W := W) q4 rfl hk hs (fun p hp => hMw _ p (Nat.le_refl _) hp) (by rw [← t2]; exact hr)
        have hst : mcR (b + 1) b W (W (b + 1)) M h1 0 _ _ := lpN (W (b + 1) 2) (fun n => mcR (b + 1) b W (W (b + 1)) M h1 n _ _) (fun n hn K => mc_step rfl hk hib hs (fun p hp => hMw _ p (Nat.le_refl _) hp) hNW hsz hWb (hWb (b + 1)) hn (by have := cmK_mono (b := b) (wu := W (b + 1)) (w0 := W b) (n := n + 1) (m := 64) (by omega); omega) K) hend
        obtain ⟨hf, hC, s, f, u', hu', rfl⟩ := mcm_start q12 q4 rfl hk hib hfb hs (fun p hp => hMw b p (by omega) hp) (fun p hp => hMw _ p (Nat.le_refl _) hp) hsz h5 hst
        have hx : flg (cmV b W (W (b + 1)) (W b) (W (b + 1) 2)) u' = w' := by
          rw [← t1] at hu' ⊢
          rw [hw']
          exact flg_u hu' hu
        rw [hx, ← t3] at hC
        have h9 := SI_pop (s := s) (f := f) (x := w') (A := A) (C := upd (h1 (4, 0)) 2 (nI (b + 1))) S hF1 hF3 (fun e => by rw [hHd 5 (by decide) (by decide)] at e; rw [hHd 6 (by decide) (by decide)]; exact (S.2.1 b (by omega)).2.2.2 e) (by rw [hH2]; exact hsz) hMw hA1 (if_pos rfl) (fun p _ => rfl)
        rw [← hh1] at h9
        refine ⟨(nI (cmD (W (b + 1)) 64)), h1, _, b, _, _, Cl_deep (n := 6) (by decide) ?_, hC, h9⟩
        have hDl := cmD_le (W (b + 1)) 64
        rw [hh1]
        refine rnN 1 rfl ?_
        refine rnK rfl (c_top hn3 hk) ?_
        refine rnN 7 rfl ?_
        refine rnK rfl (c_snapshotCount hw) ?_
        rw [h5]
        refine rnN 3 rfl ?_
        have hti := c_takeIn (d := 0) (b := b) (k := b + 1) (W := W) (U := U) (fun j hj => ⟨S.file (by omega), S.inv (by omega)⟩) (by omega) hw hs hsz hWb (hWb (b + 1)) hr hu
        rw [← hw'] at hti
        refine rnK rfl (hti) ?_
        refine rnN 3 rfl ?_
        refine rnF (nI_ne_m2 (by omega)) rfl ?_
        refine rnN 4 rfl ?_
        have h3 : hup h (10, b) (E w') (3, 0) = h (3, 0) := hup_ne (fun e => by injection e with e1 e2; omega)
        rw [h3, hn3]
        refine rnN 1 rfl ?_
        rw [show nI (b + 1 + 1) - nI 1 = nI (b + 1) by rw [pk_sub (by omega)]; congr 1]
        refine rnN 2 rfl ?_
        have e9 : hpt (hup h (10, b) (E w')) (3, 0) 1 (nI (b + 1)) = hup (hup h (10, b) (E w')) (3, 0) A := by
          unfold hpt
          rw [h3, hA]
        rw [e9]
        exact rnR rfl
      · obtain ⟨n, hn1, hn2, hn3'⟩ := first_over (g := cmK b (W (b + 1)) (W b)) (fr := rm (W b)) (Nat.zero_le _) (W (b + 1) 2) (by rw [← t2]; omega)
        have hend := mc_fail (H := h) (N := M) (n := n) rfl hk hib hs (fun p hp => hMw _ p (Nat.le_refl _) hp) hNW hsz hWb (hWb (b + 1)) hn1 hn2 hn3'
        have hst : mcR (b + 1) b W (W (b + 1)) M h 0 _ _ := lpN n (fun n => mcR (b + 1) b W (W (b + 1)) M h n _ _) (fun m hm K => mc_step rfl hk hib hs (fun p hp => hMw _ p (Nat.le_refl _) hp) hNW hsz hWb (hWb (b + 1)) (by omega) (by have := cmK_mono (b := b) (wu := W (b + 1)) (w0 := W b) (n := m + 1) (m := n) (by omega); omega) K) hend
        obtain ⟨hf, hC, s, f, x, rfl⟩ := mcm_start hM hn4 rfl hk hib hfb hs (fun p hp => hMw b p (by omega) hp) (fun p hp => hMw _ p (Nat.le_refl _) hp) hsz h5 hst
        refine ⟨(-2), h, _, b + 1, W, U, Cl_deep (n := 6) (by decide) ?_, hC, SI_side S hMw⟩
        refine rnN 1 rfl ?_
        refine rnK rfl (c_top hn3 hk) ?_
        refine rnN 7 rfl ?_
        refine rnK rfl (c_snapshotCount hw) ?_
        rw [h5]
        refine rnN 3 rfl ?_
        refine rnK rfl (c_takeInF (S.file (show b ≤ b + 1 by omega)) hib hw hs hr (by omega)) ?_
        refine rnN 4 rfl ?_
        refine rnN 1 rfl ?_
        exact rnR rfl
    · refine ⟨(-4), h, h, b + 1, W, U, Cl_deep (n := 4) (by decide) ?_, Cl_deep (n := 4) (by decide) ?_, S⟩
      · refine rnN 1 rfl ?_
        refine rnK rfl (c_top hn3 hk) ?_
        refine rnN 7 rfl ?_
        refine rnK rfl (c_snapshotCount hw) ?_
        refine rnT ((n0lt (show W (b + 1) 5 < 2147483648 by omega)).mpr (by omega)) rfl ?_
        refine rnN 1 rfl ?_
        exact rnR rfl
      · refine rnN 3 rfl ?_
        rw [hn4]
        refine rnF ((show ¬ nI (b + 1 + 1) = nI 1 from fun e => by have := (neq (by omega) (by decide)).mp e; omega)) rfl ?_
        refine rnN 5 rfl ?_
        rw [m_top hn4]
        refine rnN 2 rfl ?_
        refine rnK rfl (m_snapshots hw12 hg) ?_
        refine rnT ((n0lt (show W (b + 1) 5 < 2147483648 by omega)).mpr (by omega)) rfl ?_
        refine rnN 1 rfl ?_
        exact rnR rfl
end OC
