/-! ===== the reference: recount, marked, leastFree ===== -/
section RC
variable {d g : Nat} {h : xH} {M w v u a : Nat → Nat} {f : Nat → Int32}
theorem m_recount (hw : h (12, 0) = E (pf M g w)) (hg : g < 4) (hs : Str w u) : Cl (d + 2) MX4_recount [vR (4, 0), vI (nI g)] h none (hup h (14, 0) (cf (h (14, 0)) (T w))) := by
  have h6 := hs.l6
  have hct := hs.ct
  have hact := hs.act
  have hns := hs.ns
  obtain ⟨f, hf⟩ : ∃ f, f = h (14, 0) := ⟨_, rfl⟩
  rw [← hf]
  refine rnN 2 rfl ?_
  refine rnH (hup_self (f := fun c => if c < 0 then nI 0 else f c) (by rw [← hf]; funext c; rw [if_neg (by omega)])).symm ?_
  refine lpN 64 (fun i => Rn (d + 2) MX4_recount 2 [some (vR (4, 0)), some (vI (nI g)), some (vI (nI i)), none, none, none, none] [] (hup h (14, 0) fun c => if c < i then nI 0 else f c) none (hup h (14, 0) (cf f (T w)))) (fun i hi K => ?_) ?_
  · refine rnN 2 rfl ?_
    refine rnT (nI_lt hi (by decide)) rfl ?_
    refine rnN 4 rfl ?_
    refine rnC (inN (show i < 64 by omega) (by decide)) rfl ?_
    simp (disch := omega) only [nI_add, pk_mul, pk_sub, nd8, nd4, nsub8, nand63, nand7, nshr2, nI_clamp, E_at, hup_at, hup_hup, hpt_def, pf_at, pf_at2, cf_at, h12_14, h14_12, h12_15, h15_12, h14_15, h15_14]
    refine rnN 2 rfl ?_
    simp (disch := omega) only [nI_add, pk_mul, pk_sub, nd8, nd4, nsub8, nand63, nand7, nshr2, nI_clamp, E_at, hup_at, hup_hup, hpt_def, pf_at, pf_at2, cf_at, h12_14, h14_12, h12_15, h15_12, h14_15, h15_14]
    refine rnH ?_ K
    congr 1
    funext c
    simp only [upd]
    by_cases e : c = i
    · rw [if_pos e, if_pos (by omega)]
    · rw [if_neg e]
      by_cases e2 : c < i
      · rw [if_pos e2, if_pos (by omega)]
      · rw [if_neg e2, if_neg (by omega)]
  refine rnN 3 rfl ?_
  have e0 : (fun c => if c < 64 then nI 0 else f c) = cf f fun _ => 0 := rfl
  rw [e0]
  refine rnN 4 rfl ?_
  refine rnC (inN (show 0 < 64 by omega) (by decide)) rfl ?_
  simp (disch := omega) only [nI_add, pk_mul, pk_sub, nd8, nd4, nsub8, nand63, nand7, nshr2, nI_clamp, E_at, hup_at, hup_hup, hpt_def, pf_at, pf_at2, cf_at, h12_14, h14_12, h12_15, h15_12, h14_15, h15_14]
  have e1 : upd (cf f fun _ => 0) 0 (nI 1) = cf f fun X => iv X 0 := by
    have h1 := cf_inc (f := f) (a := fun _ => 0) (X := 0) (by decide)
    rw [show (0 : Nat) + 1 = 1 from rfl] at h1
    rw [h1]
    refine cf_congr fun X _ => ?_
    show 0 + iv 0 X = iv X 0
    unfold iv
    by_cases e : X = 0
    · rw [if_pos e, if_pos e.symm]
    · rw [if_neg e, if_neg (fun e2 => e e2.symm)]
  rw [e1]
  refine rnN 7 rfl ?_
  simp (disch := omega) only [nI_add, pk_mul, pk_sub, nd8, nd4, nsub8, nand63, nand7, nshr2, nI_clamp, E_at, hup_at, hup_hup, hpt_def, pf_at, pf_at2, cf_at, h12_14, h14_12, h12_15, h15_12, h14_15, h15_14]
  refine rnC (inN (show 512 * g + 4 < 2048 by omega) (by decide)) rfl ?_
  simp (disch := omega) only [nI_add, pk_mul, pk_sub, nd8, nd4, nsub8, nand63, nand7, nshr2, nI_clamp, E_at, hup_at, hup_hup, hpt_def, pf_at, pf_at2, cf_at, h12_14, h14_12, h12_15, h15_12, h14_15, h15_14, hw]
  refine rnN 5 rfl ?_
  refine rnC (inN (show w 4 < 64 by omega) (by decide)) rfl ?_
  simp (disch := omega) only [nI_add, pk_mul, pk_sub, nd8, nd4, nsub8, nand63, nand7, nshr2, nI_clamp, E_at, hup_at, hup_hup, hpt_def, pf_at, pf_at2, cf_at, h12_14, h14_12, h12_15, h15_12, h14_15, h15_14]
  refine rnN 2 rfl ?_
  simp (disch := omega) only [nI_add, pk_mul, pk_sub, nd8, nd4, nsub8, nand63, nand7, nshr2, nI_clamp, E_at, hup_at, hup_hup, hpt_def, pf_at, pf_at2, cf_at, h12_14, h14_12, h12_15, h15_12, h14_15, h15_14]
  refine rnC (inN (show w 4 < 64 by omega) (by decide)) rfl ?_
  simp (disch := omega) only [nI_add, pk_mul, pk_sub, nd8, nd4, nsub8, nand63, nand7, nshr2, nI_clamp, E_at, hup_at, hup_hup, hpt_def, pf_at, pf_at2, cf_at, h12_14, h14_12, h12_15, h15_12, h14_15, h15_14]
  rw [cf_inc (show w 4 < 64 by omega)]
  refine rnN 2 rfl ?_
  -- the count table
  have lp1 := lpN 8 (fun i => ∀ o4 : Option xV, Rn (d + 2) MX4_recount 53 [some (vR (4, 0)), some (vI (nI g)), some (vI (nI (w 4))), some (vI (nI i)), o4, none, none] [] (hup h (14, 0) (cf f fun X => iv X 0 + iv (w 4) X + sm i fun k => if w (8 * w 4 + k) = 0 then 0 else iv (w (8 * w 4 + k)) X)) none (hup h (14, 0) (cf f (T w)))) (fun i hi K => ?_) ?_
  · exact lp1 none
  · intro o4
    have hk := hs.keepLt hi
    refine rnN 2 rfl ?_
    refine rnT (nI_lt hi (by decide)) rfl ?_
    refine rnN 4 rfl ?_
    refine rnK rfl (m_at) ?_
    refine rnN 2 rfl ?_
    simp (disch := omega) only [nI_add, pk_mul, pk_sub, nd8, nd4, nsub8, nand63, nand7, nshr2, nI_clamp, E_at, hup_at, hup_hup, hpt_def, pf_at, pf_at2, cf_at, h12_14, h14_12, h12_15, h15_12, h14_15, h15_14]
    refine rnC (inN (show 512 * g + 8 * w 4 + i < 2048 by omega) (by decide)) rfl ?_
    simp (disch := omega) only [nI_add, pk_mul, pk_sub, nd8, nd4, nsub8, nand63, nand7, nshr2, nI_clamp, E_at, hup_at, hup_hup, hpt_def, pf_at, pf_at2, cf_at, h12_14, h14_12, h12_15, h15_12, h14_15, h15_14, hw]
    refine rnN 2 rfl ?_
    by_cases h0 : w (8 * w 4 + i) = 0
    · rw [h0]
      refine rnN 3 rfl ?_
      simp (disch := omega) only [nI_add, pk_mul, pk_sub, nd8, nd4, nsub8, nand63, nand7, nshr2, nI_clamp, E_at, hup_at, hup_hup, hpt_def, pf_at, pf_at2, cf_at, h12_14, h14_12, h12_15, h15_12, h14_15, h15_14]
      refine rnH ?_ (K _)
      congr 2
      funext X
      rw [sm_succ, if_pos h0]
      rfl
    · refine rnF (nI_ne0 (show 0 < w (8 * w 4 + i) by omega) (by omega)) rfl ?_
      refine rnN 4 rfl ?_
      refine rnC (inN hk (by decide)) rfl ?_
      simp (disch := omega) only [nI_add, pk_mul, pk_sub, nd8, nd4, nsub8, nand63, nand7, nshr2, nI_clamp, E_at, hup_at, hup_hup, hpt_def, pf_at, pf_at2, cf_at, h12_14, h14_12, h12_15, h15_12, h14_15, h15_14]
      refine rnN 2 rfl ?_
      simp (disch := omega) only [nI_add, pk_mul, pk_sub, nd8, nd4, nsub8, nand63, nand7, nshr2, nI_clamp, E_at, hup_at, hup_hup, hpt_def, pf_at, pf_at2, cf_at, h12_14, h14_12, h12_15, h15_12, h14_15, h15_14]
      refine rnC (inN hk (by decide)) rfl ?_
      simp (disch := omega) only [nI_add, pk_mul, pk_sub, nd8, nd4, nsub8, nand63, nand7, nshr2, nI_clamp, E_at, hup_at, hup_hup, hpt_def, pf_at, pf_at2, cf_at, h12_14, h14_12, h12_15, h15_12, h14_15, h15_14]
      rw [cf_inc hk]
      refine rnN 2 rfl ?_
      simp (disch := omega) only [nI_add, pk_mul, pk_sub, nd8, nd4, nsub8, nand63, nand7, nshr2, nI_clamp, E_at, hup_at, hup_hup, hpt_def, pf_at, pf_at2, cf_at, h12_14, h14_12, h12_15, h15_12, h14_15, h15_14]
      refine rnH ?_ (K _)
      congr 2
      funext X
      rw [sm_succ, if_neg h0]
      omega
  intro o4
  refine rnN 3 rfl ?_
  have ekc : (fun X => iv X 0 + iv (w 4) X + sm 8 fun k => if w (8 * w 4 + k) = 0 then 0 else iv (w (8 * w 4 + k)) X) = fun X => iv X 0 + iv (w 4) X + kc w X := rfl
  rw [ekc]
  refine rnN 7 rfl ?_
  simp (disch := omega) only [nI_add, pk_mul, pk_sub, nd8, nd4, nsub8, nand63, nand7, nshr2, nI_clamp, E_at, hup_at, hup_hup, hpt_def, pf_at, pf_at2, cf_at, h12_14, h14_12, h12_15, h15_12, h14_15, h15_14]
  refine rnC (inN (show 512 * g + 6 < 2048 by omega) (by decide)) rfl ?_
  simp (disch := omega) only [nI_add, pk_mul, pk_sub, nd8, nd4, nsub8, nand63, nand7, nshr2, nI_clamp, E_at, hup_at, hup_hup, hpt_def, pf_at, pf_at2, cf_at, h12_14, h14_12, h12_15, h15_12, h14_15, h15_14, hw]
  -- the tables
  have lp2 : ∀ n, n ≤ w 5 + 1 → (Rn (d + 2) MX4_recount 135 [some (vR (4, 0)), some (vI (nI g)), some (vI (nI (w 4))), some (vI (jm n)), o4, none, none] [] (hup h (14, 0) (cf f fun X => (iv X 0 + iv (w 4) X + kc w X + if w 6 = 0 then 0 else iv (w 6) X) + sm n fun n => tc w X (tbn w n))) none (hup h (14, 0) (cf f (T w)))) → True := fun _ _ _ => trivial
  have lp3 := lpN (w 5 + 1) (fun n => ∀ o4 o5 o6 : Option xV, Rn (d + 2) MX4_recount 135 [some (vR (4, 0)), some (vI (nI g)), some (vI (nI (w 4))), some (vI (jm n)), o4, o5, o6] [] (hup h (14, 0) (cf f fun X => (iv X 0 + iv (w 4) X + kc w X + if w 6 = 0 then 0 else iv (w 6) X) + sm n fun n => tc w X (tbn w n))) none (hup h (14, 0) (cf f (T w)))) (fun n hn K => ?_) ?_
  · have lst : (fun X => (iv X 0 + iv (w 4) X + kc w X + if w 6 = 0 then 0 else iv (w 6) X) + sm 0 fun n => tc w X (tbn w n)) = fun X => iv X 0 + iv (w 4) X + kc w X + if w 6 = 0 then 0 else iv (w 6) X := rfl
    have lp4 := lp3 o4 none none
    rw [lst] at lp4
    by_cases h0 : w 6 = 0
    · rw [h0]
      refine rnN 3 rfl ?_
      refine rnH ?_ lp4
      congr 2
      funext X
      rw [if_pos h0]
      rfl
    · refine rnF (nI_ne0 (show 0 < w 6 by omega) (by omega)) rfl ?_
      refine rnN 9 rfl ?_
      simp (disch := omega) only [nI_add, pk_mul, pk_sub, nd8, nd4, nsub8, nand63, nand7, nshr2, nI_clamp, E_at, hup_at, hup_hup, hpt_def, pf_at, pf_at2, cf_at, h12_14, h14_12, h12_15, h15_12, h14_15, h15_14]
      refine rnC (inN (show 512 * g + 6 < 2048 by omega) (by decide)) rfl ?_
      simp (disch := omega) only [nI_add, pk_mul, pk_sub, nd8, nd4, nsub8, nand63, nand7, nshr2, nI_clamp, E_at, hup_at, hup_hup, hpt_def, pf_at, pf_at2, cf_at, h12_14, h14_12, h12_15, h15_12, h14_15, h15_14, hw]
      refine rnN 1 rfl ?_
      refine rnC (inN h6 (by decide)) rfl ?_
      simp (disch := omega) only [nI_add, pk_mul, pk_sub, nd8, nd4, nsub8, nand63, nand7, nshr2, nI_clamp, E_at, hup_at, hup_hup, hpt_def, pf_at, pf_at2, cf_at, h12_14, h14_12, h12_15, h15_12, h14_15, h15_14]
      refine rnN 2 rfl ?_
      simp (disch := omega) only [nI_add, pk_mul, pk_sub, nd8, nd4, nsub8, nand63, nand7, nshr2, nI_clamp, E_at, hup_at, hup_hup, hpt_def, pf_at, pf_at2, cf_at, h12_14, h14_12, h12_15, h15_12, h14_15, h15_14]
      refine rnC (inN h6 (by decide)) rfl ?_
      simp (disch := omega) only [nI_add, pk_mul, pk_sub, nd8, nd4, nsub8, nand63, nand7, nshr2, nI_clamp, E_at, hup_at, hup_hup, hpt_def, pf_at, pf_at2, cf_at, h12_14, h14_12, h12_15, h15_12, h14_15, h15_14]
      rw [cf_inc h6]
      refine rnN 2 rfl ?_
      refine rnH ?_ lp4
      congr 2
      funext X
      rw [if_neg h0]
  · intro o4 o5 o6
    have htb := tbn_tb (w := w) (n := n) (by omega)
    have ht := hs.tb htb
    refine rnN 3 rfl ?_
    refine rnK rfl (m_snapshots ((h12_14).trans hw) hg) ?_
    refine rnT (jm_lt hn (by omega)) rfl ?_
    refine rnN 3 rfl ?_
    refine rnK rfl (m_table ((h12_14).trans hw) hg h6 (show n ≤ 4 by omega)) ?_
    refine rnN 11 rfl ?_
    simp (disch := omega) only [nI_add, pk_mul, pk_sub, nd8, nd4, nsub8, nand63, nand7, nshr2, nI_clamp, E_at, hup_at, hup_hup, hpt_def, pf_at, pf_at2, cf_at, h12_14, h14_12, h12_15, h15_12, h14_15, h15_14]
    rw [show (512 * g + 8 * tbn w n - 512 * g) / 8 = tbn w n by omega]
    refine rnC (inN ht.2.1 (by decide)) rfl ?_
    simp (disch := omega) only [nI_add, pk_mul, pk_sub, nd8, nd4, nsub8, nand63, nand7, nshr2, nI_clamp, E_at, hup_at, hup_hup, hpt_def, pf_at, pf_at2, cf_at, h12_14, h14_12, h12_15, h15_12, h14_15, h15_14]
    refine rnN 2 rfl ?_
    simp (disch := omega) only [nI_add, pk_mul, pk_sub, nd8, nd4, nsub8, nand63, nand7, nshr2, nI_clamp, E_at, hup_at, hup_hup, hpt_def, pf_at, pf_at2, cf_at, h12_14, h14_12, h12_15, h15_12, h14_15, h15_14]
    refine rnC (inN ht.2.1 (by decide)) rfl ?_
    simp (disch := omega) only [nI_add, pk_mul, pk_sub, nd8, nd4, nsub8, nand63, nand7, nshr2, nI_clamp, E_at, hup_at, hup_hup, hpt_def, pf_at, pf_at2, cf_at, h12_14, h14_12, h12_15, h15_12, h14_15, h15_14]
    rw [cf_inc ht.2.1]
    refine rnN 2 rfl ?_
    have lp5 := lpN 8 (fun i => ∀ o6 : Option xV, Rn (d + 2) MX4_recount 175 [some (vR (4, 0)), some (vI (nI g)), some (vI (nI (w 4))), some (vI (jm n)), some (vI (nI (512 * g + 8 * tbn w n))), some (vI (nI i)), o6] [] (hup h (14, 0) (cf f fun X => ((iv X 0 + iv (w 4) X + kc w X + if w 6 = 0 then 0 else iv (w 6) X) + sm n fun n => tc w X (tbn w n)) + iv (tbn w n) X + sm i fun i => lc w X (w (8 * tbn w n + i)))) none (hup h (14, 0) (cf f (T w)))) (fun i hi K2 => ?_) ?_
    · exact lp5 _
    · intro o6
      have hL := hs.tw htb hi
      have hlt := hL.lt
      refine rnN 2 rfl ?_
      refine rnT (nI_lt hi (by decide)) rfl ?_
      refine rnN 5 rfl ?_
      simp (disch := omega) only [nI_add, pk_mul, pk_sub, nd8, nd4, nsub8, nand63, nand7, nshr2, nI_clamp, E_at, hup_at, hup_hup, hpt_def, pf_at, pf_at2, cf_at, h12_14, h14_12, h12_15, h15_12, h14_15, h15_14]
      refine rnC (inN (show 512 * g + 8 * tbn w n + i < 2048 by omega) (by decide)) rfl ?_
      simp (disch := omega) only [nI_add, pk_mul, pk_sub, nd8, nd4, nsub8, nand63, nand7, nshr2, nI_clamp, E_at, hup_at, hup_hup, hpt_def, pf_at, pf_at2, cf_at, h12_14, h14_12, h12_15, h15_12, h14_15, h15_14, hw]
      refine rnN 4 rfl ?_
      simp (disch := omega) only [nI_add, pk_mul, pk_sub, nd8, nd4, nsub8, nand63, nand7, nshr2, nI_clamp, E_at, hup_at, hup_hup, hpt_def, pf_at, pf_at2, cf_at, h12_14, h14_12, h12_15, h15_12, h14_15, h15_14]
      by_cases h0 : w (8 * tbn w n + i) / 4 = 0
      · rw [h0]
        refine rnN 3 rfl ?_
        simp (disch := omega) only [nI_add, pk_mul, pk_sub, nd8, nd4, nsub8, nand63, nand7, nshr2, nI_clamp, E_at, hup_at, hup_hup, hpt_def, pf_at, pf_at2, cf_at, h12_14, h14_12, h12_15, h15_12, h14_15, h15_14]
        refine rnH ?_ (K2 _)
        congr 2
        funext X
        rw [sm_succ]
        have e2 : lc w X (w (8 * tbn w n + i)) = 0 := by unfold lc; rw [if_pos h0]
        rw [e2]
        rfl
      · have hl := (hL.lead h0).1.pos
        refine rnT ((n0lt (show w (8 * tbn w n + i) / 4 < 2147483648 by omega)).mpr (by omega)) rfl ?_
        refine rnN 4 rfl ?_
        refine rnC (inN hl.2 (by decide)) rfl ?_
        simp (disch := omega) only [nI_add, pk_mul, pk_sub, nd8, nd4, nsub8, nand63, nand7, nshr2, nI_clamp, E_at, hup_at, hup_hup, hpt_def, pf_at, pf_at2, cf_at, h12_14, h14_12, h12_15, h15_12, h14_15, h15_14]
        refine rnN 2 rfl ?_
        simp (disch := omega) only [nI_add, pk_mul, pk_sub, nd8, nd4, nsub8, nand63, nand7, nshr2, nI_clamp, E_at, hup_at, hup_hup, hpt_def, pf_at, pf_at2, cf_at, h12_14, h14_12, h12_15, h15_12, h14_15, h15_14]
        refine rnC (inN hl.2 (by decide)) rfl ?_
        simp (disch := omega) only [nI_add, pk_mul, pk_sub, nd8, nd4, nsub8, nand63, nand7, nshr2, nI_clamp, E_at, hup_at, hup_hup, hpt_def, pf_at, pf_at2, cf_at, h12_14, h14_12, h12_15, h15_12, h14_15, h15_14]
        rw [cf_inc hl.2]
        refine rnN 3 rfl ?_
        refine rnK rfl (m_at) ?_
        have hcl := m_countLeaf (d := d + 1) (h := hup h (14, 0) (cf f fun Y => (((iv Y 0 + iv (w 4) Y + kc w Y + if w 6 = 0 then 0 else iv (w 6) Y) + sm n fun n => tc w Y (tbn w n)) + iv (tbn w n) Y + sm i fun i => lc w Y (w (8 * tbn w n + i))) + iv (w (8 * tbn w n + i) / 4) Y)) (M := M) (w := w) (l := w (8 * tbn w n + i) / 4) ((h12_14).trans hw) hup_at hg hl.2 (fun j hj => ((hL.lead h0).2.2.2 j hj).lt)
        rw [hup_hup] at hcl
        refine rnK rfl (hcl) ?_
        refine rnN 2 rfl ?_
        simp (disch := omega) only [nI_add, pk_mul, pk_sub, nd8, nd4, nsub8, nand63, nand7, nshr2, nI_clamp, E_at, hup_at, hup_hup, hpt_def, pf_at, pf_at2, cf_at, h12_14, h14_12, h12_15, h15_12, h14_15, h15_14]
        refine rnH ?_ (K2 _)
        congr 2
        funext X
        rw [sm_succ (n := i)]
        have e2 : lc w X (w (8 * tbn w n + i)) = iv (w (8 * tbn w n + i) / 4) X + sm 8 fun j => bc X (w (8 * (w (8 * tbn w n + i) / 4) + j)) := by unfold lc; rw [if_neg h0]
        rw [e2]
        omega
    · intro o6
      refine rnN 3 rfl ?_
      refine rnN 2 rfl ?_
      rw [jm_succ]
      refine rnH ?_ (K _ _ _)
      congr 2
      funext X
      rw [sm_succ (n := n)]
      have e3 : tc w X (tbn w n) = iv (tbn w n) X + sm 8 fun i => lc w X (w (8 * tbn w n + i)) := rfl
      rw [e3]
      omega
  · intro o4 o5 o6
    refine rnN 3 rfl ?_
    refine rnK rfl (m_snapshots ((h12_14).trans hw) hg) ?_
    refine rnF (jm_nlt (by omega)) rfl ?_
    refine rnH ?_ (rnR rfl)
    congr 2
    funext X
    exact (T_rows w X).symm
theorem m_marked {x : Nat} (hc : h (14, 0) = cf f (T w)) (h5 : w 5 ≤ 4) (hx : x < 256) : Cl d MX4_marked [vR (4, 0), vI (nI x)] h (some (vI (nI (mk w x)))) h := by
  refine rnN 5 rfl ?_
  simp (disch := omega) only [nI_add, pk_mul, pk_sub, nd8, nd4, nsub8, nand63, nand7, nshr2, nI_clamp, E_at, hup_at, hup_hup, hpt_def, pf_at, pf_at2, cf_at, h12_14, h14_12, h12_15, h15_12, h14_15, h15_14]
  by_cases h0 : x / 4 = 0
  · rw [h0]
    refine rnN 3 rfl ?_
    rw [mk_flat h0]
    exact rnR rfl
  · refine rnF (nI_ne0 (show 0 < x / 4 by omega) (by omega)) rfl ?_
    refine rnN 6 rfl ?_
    simp (disch := omega) only [nI_add, pk_mul, pk_sub, nd8, nd4, nsub8, nand63, nand7, nshr2, nI_clamp, E_at, hup_at, hup_hup, hpt_def, pf_at, pf_at2, cf_at, h12_14, h14_12, h12_15, h15_12, h14_15, h15_14]
    refine rnC (inN (show x / 4 < 64 by omega) (by decide)) rfl ?_
    simp (disch := omega) only [nI_add, pk_mul, pk_sub, nd8, nd4, nsub8, nand63, nand7, nshr2, nI_clamp, E_at, hup_at, hup_hup, hpt_def, pf_at, pf_at2, cf_at, h12_14, h14_12, h12_15, h15_12, h14_15, h15_14, hc]
    refine rnN 1 rfl ?_
    rw [mk_lead h0]
    have hT := T_le (w := w) h5 (x / 4)
    by_cases h1 : T w (x / 4) = 1
    · rw [h1, if_pos rfl]
      refine rnN 4 rfl ?_
      simp (disch := omega) only [nI_add, pk_mul, pk_sub, nd8, nd4, nsub8, nand63, nand7, nshr2, nI_clamp, E_at, hup_at, hup_hup, hpt_def, pf_at, pf_at2, cf_at, h12_14, h14_12, h12_15, h15_12, h14_15, h15_14]
      exact rnR rfl
    · rw [if_neg h1]
      refine rnF ((show ¬ nI (T w (x / 4)) = nI 1 from fun e => h1 ((neq (by omega) (by decide)).mp e))) rfl ?_
      refine rnN 2 rfl ?_
      simp (disch := omega) only [nI_add, pk_mul, pk_sub, nd8, nd4, nsub8, nand63, nand7, nshr2, nI_clamp, E_at, hup_at, hup_hup, hpt_def, pf_at, pf_at2, cf_at, h12_14, h14_12, h12_15, h15_12, h14_15, h15_14]
      exact rnR rfl
theorem m_leastFreeT {c : Nat} (hc : h (14, 0) = cf f (T w)) (h5 : w 5 ≤ 4) (h1 : c < 64) (h2 : T w c = 0) (h3 : ∀ x, x < c → T w x ≠ 0) : Cl d MX4_leastFree [vR (4, 0)] h (some (vI (nI c))) h := by
  refine rnN 2 rfl ?_
  refine lpN c (fun i => Rn d MX4_leastFree 2 [some (vR (4, 0)), some (vI (nI i))] [] h (some (vI (nI c))) h) (fun i hi K => ?_) ?_
  · have hT := T_le (w := w) h5 i
    refine rnN 2 rfl ?_
    refine rnT (nI_lt (show i < 64 by omega) (by decide)) rfl ?_
    refine rnN 3 rfl ?_
    refine rnC (inN (show i < 64 by omega) (by decide)) rfl ?_
    simp (disch := omega) only [nI_add, pk_mul, pk_sub, nd8, nd4, nsub8, nand63, nand7, nshr2, nI_clamp, E_at, hup_at, hup_hup, hpt_def, pf_at, pf_at2, cf_at, h12_14, h14_12, h12_15, h15_12, h14_15, h15_14, hc]
    refine rnF (nI_ne0 (show 0 < T w i by have := h3 i hi; omega) (by omega)) rfl ?_
    refine rnN 2 rfl ?_
    simp (disch := omega) only [nI_add, pk_mul, pk_sub, nd8, nd4, nsub8, nand63, nand7, nshr2, nI_clamp, E_at, hup_at, hup_hup, hpt_def, pf_at, pf_at2, cf_at, h12_14, h14_12, h12_15, h15_12, h14_15, h15_14]
    exact K
  · refine rnN 2 rfl ?_
    refine rnT (nI_lt h1 (by decide)) rfl ?_
    refine rnN 3 rfl ?_
    refine rnC (inN h1 (by decide)) rfl ?_
    simp (disch := omega) only [nI_add, pk_mul, pk_sub, nd8, nd4, nsub8, nand63, nand7, nshr2, nI_clamp, E_at, hup_at, hup_hup, hpt_def, pf_at, pf_at2, cf_at, h12_14, h14_12, h12_15, h15_12, h14_15, h15_14, hc]
    rw [h2]
    refine rnN 2 rfl ?_
    exact rnR rfl
theorem m_leastFreeF (hc : h (14, 0) = cf f (T w)) (h5 : w 5 ≤ 4) (h3 : ∀ x, x < 64 → T w x ≠ 0) : Cl d MX4_leastFree [vR (4, 0)] h (some (vI (-1))) h := by
  refine rnN 2 rfl ?_
  refine lpN 64 (fun i => Rn d MX4_leastFree 2 [some (vR (4, 0)), some (vI (nI i))] [] h (some (vI (-1))) h) (fun i hi K => ?_) ?_
  · have hT := T_le (w := w) h5 i
    refine rnN 2 rfl ?_
    refine rnT (nI_lt hi (by decide)) rfl ?_
    refine rnN 3 rfl ?_
    refine rnC (inN hi (by decide)) rfl ?_
    simp (disch := omega) only [nI_add, pk_mul, pk_sub, nd8, nd4, nsub8, nand63, nand7, nshr2, nI_clamp, E_at, hup_at, hup_hup, hpt_def, pf_at, pf_at2, cf_at, h12_14, h14_12, h12_15, h15_12, h14_15, h15_14, hc]
    refine rnF (nI_ne0 (show 0 < T w i by have := h3 i hi; omega) (by omega)) rfl ?_
    refine rnN 2 rfl ?_
    simp (disch := omega) only [nI_add, pk_mul, pk_sub, nd8, nd4, nsub8, nand63, nand7, nshr2, nI_clamp, E_at, hup_at, hup_hup, hpt_def, pf_at, pf_at2, cf_at, h12_14, h14_12, h12_15, h15_12, h14_15, h15_14]
    exact K
  · refine rnN 4 rfl ?_
    exact rnR rfl
end RC
