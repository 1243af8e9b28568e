/-! ===== the reference's load ===== -/
section MLd
variable {d k : Nat} {h : xH} {w M us : Nat → Nat} {f : Nat → Int32}
theorem FR_tabs {u v : Nat → Nat} (hs : Str w u) (h0 : u 0 = 0) (hz : ∀ c, 1 ≤ c → (u c = 0 ↔ T w c = 0)) (hs2 : Str w v) (h02 : v 0 = 0) (hz2 : ∀ c, 1 ≤ c → (v c = 0 ↔ T w c = 0)) : FR w u ↔ FR w v := (FR_iff hs h0 hz).symm.trans (FR_iff hs2 h02 hz2)
theorem wrongN_det {n m : Nat} (p : wrongN w n) (q : wrongN w m) : n = m := by
  rcases p with ⟨p1, p2⟩ | ⟨p1, p2, p3⟩ | ⟨p1, p2, p3, u, p4, p5, p6, p7⟩
  · rcases q with ⟨q1, q2⟩ | ⟨q1, q2, q3⟩ | ⟨q1, q2, q3, v, q4, q5, q6, q7⟩
    · omega
    · exact absurd q2 p2
    · exact absurd q3 p2
  · rcases q with ⟨q1, q2⟩ | ⟨q1, q2, q3⟩ | ⟨q1, q2, q3, v, q4, q5, q6, q7⟩
    · exact absurd p2 q2
    · omega
    · exact absurd ⟨v, q4⟩ p3
  · rcases q with ⟨q1, q2⟩ | ⟨q1, q2, q3⟩ | ⟨q1, q2, q3, v, q4, q5, q6, q7⟩
    · exact absurd p3 q2
    · exact absurd ⟨u, p4⟩ q3
    · have hF := FR_tabs p4 p7 p6 q4 q7 q6
      rcases p5 with ⟨a1, a2⟩ | ⟨a1, a2, a3⟩ | ⟨a1, a2, a3, a4⟩ | ⟨a1, a2, a3, a4, a5⟩ | ⟨a1, a2, a3, a4, a5⟩ <;>
      rcases q5 with ⟨b1, b2⟩ | ⟨b1, b2, b3⟩ | ⟨b1, b2, b3, b4⟩ | ⟨b1, b2, b3, b4, b5⟩ | ⟨b1, b2, b3, b4, b5⟩ <;>
      first
      | omega
      | exact absurd b2 a2
      | exact absurd a2 b2
      | exact absurd b3 a3
      | exact absurd a3 b3
      | exact absurd (hF.mpr b4) a4
      | exact absurd (hF.mp a4) b4
      | exact absurd b5 a5
      | exact absurd a5 b5
/-- the heap after the reference's load: its rows of counts and uses, whether all fits, its file 3; and, if all is right, its image 0 and the number of images -/
def LdOK (h H : xH) (M w : Nat → Nat) (n : Nat) : Prop := (∀ q, q ≠ (12, 0) → q ≠ (14, 0) → q ≠ (14, 1) → q ≠ (4, 0) → H q = h q) ∧ H (4, 0) 2 = (if n = 0 then nI 1 else h (4, 0) 2) ∧ H (12, 0) = E (if n = 0 then pf (pf M 3 w) 0 w else pf M 3 w)
theorem m_load (hM : h (12, 0) = E M) (hst : ∀ p, p < 512 → h (13, 0) p = nI (w p)) (hb : ∀ p, w p < 4294967296) : ∃ n H, n ≤ 6 ∧ wrongN w n ∧ Cl (d + 4) MX4_load [vR (4, 0)] h (some (vI (nI n))) H ∧ LdOK h H M w n := by
  obtain ⟨h3, hh3⟩ : ∃ h3, h3 = hup h (12, 0) (E (pf M 3 w)) := ⟨_, rfl⟩
  have hw3 : h3 (12, 0) = E (pf M 3 w) := by rw [hh3, hup_at]
  have ho3 : ∀ q, q ≠ (12, 0) → h3 q = h q := fun q hq => by rw [hh3, hup_ne hq]
  -- the stage goes into file 3
  have cpy : ∀ r H, Rn (d + 4) MX4_load 31 [some (vR (4, 0)), some (vI (nI 512))] [] h3 r H → Cl (d + 4) MX4_load [vR (4, 0)] h r H := fun r H kk => by
    refine rnN 2 rfl ?_
    have e0 : h = hup h (12, 0) (E (pf M 3 fun p => if p < 0 then w p else M (512 * 3 + p))) := by
      rw [show pf M 3 (fun p => if p < 0 then w p else M (512 * 3 + p)) = M from pf_self fun p _ => (if_neg (by omega)).symm, hup_self hM]
    refine rnH e0 ?_
    refine lpN 512 (fun i => Rn (d + 4) MX4_load 2 [some (vR (4, 0)), some (vI (nI i))] [] (hup h (12, 0) (E (pf M 3 fun p => if p < i then w p else M (512 * 3 + p)))) r H) (fun i hi K => ?_) ?_
    · refine rnN 2 rfl ?_
      refine rnT (nI_lt hi (by decide)) rfl ?_
      refine rnN 8 rfl ?_
      simp (disch := omega) only [nI_add, pk_mul, pk_sub, nd8, nd4, nsub8, nand63, nand7, nshr2, nI_clamp, E_at, hup_at, hup_hup]
      refine rnC (inN (show i < 512 by omega) (by decide)) rfl ?_
      simp (disch := omega) only [nI_clamp]
      rw [hup_ne (p := (12, 0)) (q := (13, 0)) (by decide), hst i hi]
      refine rnC (inN (show 1536 + i < 2048 by omega) (by decide)) rfl ?_
      simp (disch := omega) only [nI_clamp]
      have e1 : hpt (hup h (12, 0) (E (pf M 3 fun p => if p < i then w p else M (512 * 3 + p)))) (12, 0) (1536 + i) (nI (w i)) = hup h (12, 0) (E (pf M 3 fun p => if p < i + 1 then w p else M (512 * 3 + p))) := by
        rw [hpt_E hup_at, hup_hup, show 1536 + i = 512 * 3 + i from rfl, pf_up hi]
        congr 2
        refine pf_congr fun p hp => ?_
        unfold up
        by_cases e : p = i
        · rw [if_pos e, if_pos (by omega), e]
        · rw [if_neg e]
          show (if p < i then w p else M (512 * 3 + p)) = _
          by_cases e2 : p < i
          · rw [if_pos e2, if_pos (by omega)]
          · rw [if_neg e2, if_neg (by omega)]
      rw [e1]
      refine rnN 2 rfl ?_
      simp (disch := omega) only [nI_add, pk_mul, pk_sub, nd8, nd4, nsub8, nand63, nand7, nshr2, nI_clamp, E_at, hup_at, hup_hup]
      exact K
    · rw [show pf M 3 (fun p => if p < 512 then w p else M (512 * 3 + p)) = pf M 3 w from pf_congr fun p hp => if_pos hp, ← hh3]
      refine rnN 3 rfl ?_
      exact kk
  obtain ⟨r1, a1, a2, a3⟩ := m_headerRight (d := d + 3) hw3 hb
  by_cases hr1 : r1 = 1
  · have hH := a3.mp hr1
    obtain ⟨F, us, b1, b2, b3, b4⟩ := m_usesRight (d := d) hw3 hb hH
    obtain ⟨H4, hH4⟩ : ∃ H4, H4 = lh h3 (h3 (14, 1)) us F := ⟨_, rfl⟩
    rw [← hH4] at b2
    have o4 : ∀ q, q ≠ (14, 1) → q ≠ (4, 0) → H4 q = h3 q := fun q q1 q2 => by rw [hH4, lh_o q1 q2]
    have n4 : H4 (4, 0) 2 = h (4, 0) 2 := by
      rw [hH4]
      unfold lh
      rw [hup_at]
      show (if 2 = 5 then _ else h3 (4, 0) 2) = _
      rw [if_neg (by decide), ho3 _ (by decide)]
    have w4 : H4 (12, 0) = E (pf M 3 w) := by rw [o4 _ (by decide) (by decide)]; exact hw3
    have hd4 : ∀ x H, Rn (d + 4) MX4_load 44 [some (vR (4, 0)), some (vI (nI 512))] [vI (nI F)] H4 x H → Cl (d + 4) MX4_load [vR (4, 0)] h x H := fun x H kk => by
      refine cpy _ _ ?_
      refine rnN 1 rfl ?_
      refine rnK rfl (a2) ?_
      rw [hr1]
      refine rnN 2 rfl ?_
      refine rnK rfl (b2) ?_
      exact kk
    have L4 : ∀ n, n ≠ 0 → LdOK h H4 M w n := fun n hn => ⟨fun q q1 q2 q3 q4 => by rw [o4 q q3 q4, ho3 q q1], by rw [if_neg hn]; exact n4, by rw [if_neg hn]; exact w4⟩
    by_cases hF : F = 1
    · obtain ⟨hs, hz, hu88, hu0⟩ := b3 hF
      have h6 := hs.l6
      obtain ⟨r3, c1, c2, c3⟩ := m_listRight (d := d + 2) (h := H4) w4 hb hs.ns.1 (fun _ => h6)
      have hd5 : ∀ x H, Rn (d + 4) MX4_load 53 [some (vR (4, 0)), some (vI (nI 512))] [vI (nI r3)] H4 x H → Cl (d + 4) MX4_load [vR (4, 0)] h x H := fun x H kk => by
        refine hd4 _ _ ?_
        rw [hF]
        refine rnN 2 rfl ?_
        refine rnK rfl (c2) ?_
        exact kk
      by_cases hr3 : r3 = 1
      · obtain ⟨r4, d1, d2, d3⟩ := m_countsRight (d := d) (h := H4) w4 hb hs
        obtain ⟨H5, hH5⟩ : ∃ H5, H5 = hup H4 (14, 0) (cf (H4 (14, 0)) (T w)) := ⟨_, rfl⟩
        rw [← hH5] at d2
        have o5 : ∀ q, q ≠ (14, 0) → H5 q = H4 q := fun q q1 => by rw [hH5, hup_ne q1]
        have w5 : H5 (12, 0) = E (pf M 3 w) := by rw [o5 _ (by decide)]; exact w4
        have c5 : H5 (14, 0) = cf (H4 (14, 0)) (T w) := by rw [hH5, hup_at]
        have u5 : H5 (14, 1) = cf (h3 (14, 1)) fun c => mu (us c) := by rw [o5 _ (by decide), hH4, lh_14]
        have L5 : ∀ n, n ≠ 0 → LdOK h H5 M w n := fun n hn => ⟨fun q q1 q2 q3 q4 => by rw [o5 q q2]; exact (L4 n hn).1 q q1 q2 q3 q4, by rw [o5 _ (by decide)]; exact (L4 n hn).2.1, by rw [o5 _ (by decide)]; exact (L4 n hn).2.2⟩
        obtain ⟨r5, e1, e2, e3⟩ := m_marksRight (d := d + 1) (h := H5) w5 c5 hs hu0 hz
        obtain ⟨r6, f1, f2, f3⟩ := m_restRight (d := d + 3) (h := H5) w5 hb u5 hu88 hz
        have hd6 : ∀ x H, Rn (d + 4) MX4_load 62 [some (vR (4, 0)), some (vI (nI 512))] [vI (nI r4)] H5 x H → Cl (d + 4) MX4_load [vR (4, 0)] h x H := fun x H kk => by
          refine hd5 _ _ ?_
          rw [hr3]
          refine rnN 2 rfl ?_
          refine rnK rfl (d2) ?_
          exact kk
        by_cases hr4 : r4 = 1
        · by_cases hr5 : r5 = 1
          · by_cases hr6 : r6 = 1
            · have hcf := m_copyFile (d := d + 3) (h := H5) (f := H5 (14, 0)) (N := pf M 3 w) (i := 3) (j := 0) (x := w) (fun p hp => pf_at hp) (by decide) (by decide) (by decide)
              have hself : mh H5 (H5 (14, 0)) (pf M 3 w) = H5 := by
                unfold mh
                rw [hup_self (p := (14, 0)) rfl, hup_self w5]
              rw [hself] at hcf
              refine ⟨0, hpt (mh H5 (H5 (14, 0)) (pf (pf M 3 w) 0 w)) (4, 0) 2 (nI 1), by decide, Or.inr (Or.inr ⟨by decide, by decide, hH, us, hs, Or.inr (Or.inr (Or.inr (Or.inr ⟨rfl, c3.mp hr3, d3.mp hr4, e3.mp hr5, f3.mp hr6⟩))), hz, hu0⟩), hd6 _ _ ?_, fun q q1 q2 q3 q4 => ?_, ?_, ?_⟩
              · rw [hr4]
                refine rnN 2 rfl ?_
                refine rnK rfl (e2) ?_
                rw [hr5]
                refine rnN 2 rfl ?_
                refine rnK rfl (f2) ?_
                rw [hr6]
                refine rnN 1 rfl ?_
                refine rnN 3 rfl ?_
                refine rnK rfl (hcf) ?_
                refine rnN 4 rfl ?_
                exact rnR rfl
              · rw [hpt_def, hup_ne q4, mh_o q1 q2]
                exact (L5 1 (by decide)).1 q q1 q2 q3 q4
              · rw [hpt_def, hup_at]
                rfl
              · rw [hpt_def, hup_ne (by decide), mh_12, if_pos rfl]
            · refine ⟨6, H5, by decide, Or.inr (Or.inr ⟨by decide, by decide, hH, us, hs, Or.inr (Or.inr (Or.inr (Or.inl ⟨rfl, c3.mp hr3, d3.mp hr4, e3.mp hr5, fun z => hr6 (f3.mpr z)⟩))), hz, hu0⟩), hd6 _ _ ?_, L5 6 (by decide)⟩
              rw [hr4]
              refine rnN 2 rfl ?_
              refine rnK rfl (e2) ?_
              rw [hr5]
              refine rnN 2 rfl ?_
              refine rnK rfl (f2) ?_
              rw [show r6 = 0 by omega]
              refine rnN 2 rfl ?_
              exact rnR rfl
          · refine ⟨5, H5, by decide, Or.inr (Or.inr ⟨by decide, by decide, hH, us, hs, Or.inr (Or.inr (Or.inl ⟨rfl, c3.mp hr3, d3.mp hr4, fun z => hr5 (e3.mpr z)⟩)), hz, hu0⟩), hd6 _ _ ?_, L5 5 (by decide)⟩
            rw [hr4]
            refine rnN 2 rfl ?_
            refine rnK rfl (e2) ?_
            rw [show r5 = 0 by omega]
            refine rnN 2 rfl ?_
            exact rnR rfl
        · refine ⟨4, H5, by decide, Or.inr (Or.inr ⟨by decide, by decide, hH, us, hs, Or.inr (Or.inl ⟨rfl, c3.mp hr3, fun z => hr4 (d3.mpr z)⟩), hz, hu0⟩), hd6 _ _ ?_, L5 4 (by decide)⟩
          rw [show r4 = 0 by omega]
          refine rnN 2 rfl ?_
          exact rnR rfl
      · refine ⟨3, H4, by decide, Or.inr (Or.inr ⟨by decide, by decide, hH, us, hs, Or.inl ⟨rfl, fun z => hr3 (c3.mpr z)⟩, hz, hu0⟩), hd5 _ _ ?_, L4 3 (by decide)⟩
        rw [show r3 = 0 by omega]
        refine rnN 2 rfl ?_
        exact rnR rfl
    · refine ⟨2, H4, by decide, Or.inr (Or.inl ⟨rfl, hH, fun e => hF (b4 e)⟩), hd4 _ _ ?_, L4 2 (by decide)⟩
      rw [show F = 0 by omega]
      refine rnN 2 rfl ?_
      exact rnR rfl
  · refine ⟨1, h3, by decide, Or.inl ⟨rfl, fun e => hr1 (a3.mpr e)⟩, cpy _ _ ?_, fun q q1 q2 q3 q4 => ho3 q q1, by rw [if_neg (by decide), ho3 _ (by decide)], by rw [if_neg (by decide)]; exact hw3⟩
    refine rnN 1 rfl ?_
    refine rnK rfl (a2) ?_
    rw [show r1 = 0 by omega]
    refine rnN 2 rfl ?_
    exact rnR rfl
end MLd
