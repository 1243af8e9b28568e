/-! ===== write, discard ===== -/
section OPW
variable {d k : Nat} {h : xH} {M : Nat → Nat} {W U : Nat → Nat → Nat} {f s : Nat → Int32}
theorem dat_sh {V : Nat → Nat} {u : Nat → Nat} (hi : Inv V u) (hV : V = W k) {b i : Nat} (hb : b < V 2) (hr : nLeaf V b ≤ rm V) (hi8 : i < 8) : datm (gL V b) W k b i = sh W k (awd V b) (8 * b + i) := by
  obtain ⟨u', hI, hu, ho, hrm, ha, hT, hH, hO⟩ := gL_spec hi hb hr
  have hs := hi.1
  have hb64 := hs.sz.2
  rw [sh_B, ix_div hi8, ix_mod hi8]
  unfold datm
  rw [ha]
  split
  · rfl
  · next h0 =>
    have h1 := T_bw (w := V) act_tb (show b < 64 by omega) h0
    have h1 : 1 ≤ T V (awd V b / 4) := h1
    have h2 := ((hs.bok act_tb (show b < 64 by omega)).lead h0).2.2
    have h3 : u (awd V b / 4) = 24 + (8 * (b / 8) + b % 8) := h2
    rw [hO _ (by rw [ix_div hi8]; omega) (by rw [ix_div hi8]; omega), hV]
/-- the reference's write, up to its test of the room -/
theorem mw_headE {a x : Nat} (hw : h (12, 0) = E (pf M k (flg (W k) (U k)))) (hn : h (4, 0) 2 = nI (k + 1)) (hk : k < 3) (hi : Inv (W k) (U k)) (ha : a < 8 * W k 2) :
    ∃ f', ∀ (r : Option xV) (hf : xH), Rn (d + 7) MX4_write 61 [some (vR (4, 0)), some (vI (nI a)), some (vI (nI x)), some (vI (nI k)), some (vI (nI (a / 8))), some (vI (nI (nLeaf (W k) (a / 8) + nClus (W k) (a / 8)))), none, none] [vI (nI (rm (W k)))] (mh h f' (pf M k (flg (W k) (U k)))) r hf → Cl (d + 7) MX4_write [vR (4, 0), vI (nI a), vI (nI x)] h r hf := by
  have hsf := (flg_inv hi).1
  have h2 := hi.1.sz.2
  have e2 : flg (W k) (U k) 2 = W k 2 := (flg_agr _ _).hdr (by decide)
  have hg : k < 4 := by omega
  have hll := m_lacksLeaf (d := d + 3) (M := M) hw hg hsf.1 (show a / 8 < 64 by omega)
  rw [fl_nLeaf hi (by omega)] at hll
  obtain ⟨f1, hf1⟩ : ∃ f1, f1 = cf (h (14, 0)) (T (flg (W k) (U k))) := ⟨_, rfl⟩
  rw [← hf1] at hll
  have hlc := m_lacksCluster (d := d + 3) (h := mh h f1 (pf M k (flg (W k) (U k)))) (M := M) mh_12 hg hsf.1 (show a / 8 < 64 by omega)
  rw [fl_nClus hi (by omega), mh_mh, mh_14] at hlc
  obtain ⟨f2, hf2⟩ : ∃ f2, f2 = cf f1 (T (flg (W k) (U k))) := ⟨_, rfl⟩
  rw [← hf2] at hlc
  have hrm := m_room (d := d + 3) (h := mh h f2 (pf M k (flg (W k) (U k)))) (M := M) mh_12 hg hsf
  rw [fl_rm hi, mh_mh, mh_14] at hrm
  have hl1 := nLeaf_le (W k) (a / 8)
  have hl2 := nClus_le (W k) (a / 8)
  refine ⟨cf f2 (T (flg (W k) (U k))), fun r hf K => ?_⟩
  have K2 : Rn (d + 7) MX4_write 53 [some (vR (4, 0)), some (vI (nI a)), some (vI (nI x)), some (vI (nI k)), some (vI (nI (a / 8))), none, none, none] [vI (nI (nClus (W k) (a / 8))), vI (nI (nLeaf (W k) (a / 8)))] (mh h f2 (pf M k (flg (W k) (U k)))) r hf := by
    refine rnN 4 rfl ?_
    simp (disch := omega) only [nI_add, pk_mul, pk_sub, nd8, nd4, nsub8, nand63, nand7, nshr2, nI_clamp, E_at, hup_at, hup_hup, hpt_def, pf_at, pf_at2, cf_at, h12_14, h14_12, h12_15, h15_12, h14_15, h15_14]
    refine rnK rfl (hrm) ?_
    exact K
  have K1 : Rn (d + 7) MX4_write 38 [some (vR (4, 0)), some (vI (nI a)), some (vI (nI x)), some (vI (nI k)), some (vI (nI (a / 8))), none, none, none] [vI (nI (nLeaf (W k) (a / 8)))] (mh h f1 (pf M k (flg (W k) (U k)))) r hf := by
    refine rnN 3 rfl ?_
    refine rnK rfl (hlc) ?_
    rcases (show nClus (W k) (a / 8) = 0 ∨ nClus (W k) (a / 8) = 1 by omega) with e | e
    · rw [e] at K2 ⊢
      refine rnN 2 rfl ?_
      exact K2
    · rw [e] at K2 ⊢
      refine rnN 3 rfl ?_
      exact K2
  refine rnN 5 rfl ?_
  rw [m_top hn]
  refine rnN 2 rfl ?_
  refine rnK rfl (m_isAddrT hw hn hk (by omega) (show a < 8 * flg (W k) (U k) 2 by omega)) ?_
  refine rnN 8 rfl ?_
  simp (disch := omega) only [nI_add, pk_mul, pk_sub, nd8, nd4, nsub8, nand63, nand7, nshr2, nI_clamp, E_at, hup_at, hup_hup, hpt_def, pf_at, pf_at2, cf_at, h12_14, h14_12, h12_15, h15_12, h14_15, h15_14]
  refine rnK rfl (hll) ?_
  rcases (show nLeaf (W k) (a / 8) = 0 ∨ nLeaf (W k) (a / 8) = 1 by omega) with e | e
  · rw [e] at K1 ⊢
    refine rnN 2 rfl ?_
    exact K1
  · rw [e] at K1 ⊢
    refine rnN 3 rfl ?_
    exact K1
theorem op_write (S : SI k W U h) (v vx : Int32) : OpOK MX3_write MX4_write [vI v, vI vx] h := by
  obtain ⟨M, hM, hMw, hMp⟩ := S.mem
  have hk := S.1
  have hi := S.inv (Nat.le_refl k)
  have hw := S.file (Nat.le_refl k)
  have hfl := S.fl (Nat.le_refl k)
  have hs := hi.1
  have h2 := hs.sz.2
  have hg : k < 4 := by omega
  have hw12 : h (12, 0) = E (pf M k (flg (W k) (U k))) := by rw [hM, hfl, hMp k (Nat.le_refl k)]
  have hw12' : h (12, 0) = E (pf M k (W k)) := by rw [hM, hMp k (Nat.le_refl k)]
  have hn3 := S.2.2.2.2.1
  have hn4 := S.2.2.2.2.2.1
  have hrml : rm (W k) ≤ 64 := by unfold rm; omega
  have hl1 := fun b => nLeaf_le (W k) b
  have hl2 := fun b => nClus_le (W k) b
  obtain ⟨x, hx, rfl⟩ : ∃ x, x < 4294967296 ∧ vx = nI x := ⟨tn vx, tn_lt _, (nI_tn vx).symm⟩
  rcases addr_cases h2 v with hv | ⟨a, ha, rfl⟩
  · refine ⟨(-1), h, h, k, W, U, Cl_deep (n := 4) (by decide) ?_, Cl_deep (n := 4) (by decide) ?_, S⟩
    · refine rnN 1 rfl ?_
      refine rnK rfl (c_top hn3 hk) ?_
      refine rnN 1 rfl ?_
      refine rnK rfl (c_hasAddrF hw hv) ?_
      refine rnN 2 rfl ?_
      exact rnR rfl
    · refine rnN 5 rfl ?_
      rw [m_top hn4]
      refine rnN 2 rfl ?_
      refine rnK rfl (m_isAddrF hw12' hn4 hk hv) ?_
      refine rnN 2 rfl ?_
      exact rnR rfl
  · have hb : a / 8 < W k 2 := by omega
    by_cases hr : nLeaf (W k) (a / 8) + nClus (W k) (a / 8) ≤ rm (W k)
    · obtain ⟨u1, hI1, hu1, ho1, hrm1, haw1, hT1, hH1, hO1⟩ := gL_spec hi hb (by omega)
      have hcl := gL_clus hi hb (by omega)
      have hr2 : nClus (W k) (a / 8) ≤ rm (gL (W k) (a / 8)) := by omega
      obtain ⟨u2, hI2, hu2, hc2, hc3, hc4, hc5, hc6, hH2, hA2, hrm2⟩ := gC_spec (dat := fun j => sh W k (awd (W k) (a / 8)) (8 * (a / 8) + j)) hI1 (by rw [hH1 2 (by decide)]; exact hb) ho1 (by omega) (fun j => sh_lt S.2.2.2.1 _ _ _)
      have e2 : gC (gL (W k) (a / 8)) (a / 8) (datm (gL (W k) (a / 8)) W k (a / 8)) = pW1 W k (a / 8) := gC_congr fun i hi8 => dat_sh hi rfl hb (by omega) hi8
      have hpw : pW1 W k (a / 8) = gC (gL (W k) (a / 8)) (a / 8) fun j => sh W k (awd (W k) (a / 8)) (8 * (a / 8) + j) := rfl
      rw [← hpw] at hI2 hc5 hc6 hH2
      obtain ⟨hI3, hfl3⟩ := flg_data hI2 (j := a % 8) (x := x) hc3 (by omega) (by omega) (by omega) hx
      have hpW : pW W k (a / 8) (a % 8) x = up (pW1 W k (a / 8)) (8 * gCc (gL (W k) (a / 8)) (a / 8) + a % 8) x := rfl
      rw [← hpW] at hI3 hfl3
      obtain ⟨hF1, hF2, hF3⟩ := flg_inv hI3
      obtain ⟨c, hc⟩ : ∃ c, c = gCc (gL (W k) (a / 8)) (a / 8) := ⟨_, rfl⟩
      rw [← hc] at hc2 hc3 hc4 hc5 hc6 hfl3
      have hH3 : ∀ p, p < 8 → flg (pW W k (a / 8) (a % 8) x) u2 p = W k p := fun p hp => by
        rw [hfl3, up_ne (by omega), (flg_agr _ _).hdr hp, hH2 p hp, hH1 p hp]
      obtain ⟨h1, hh1⟩ : ∃ h1, h1 = hup h (10, k) (E (flg (pW W k (a / 8) (a % 8) x) u2)) := ⟨_, rfl⟩
      have n1 : ∀ q : xP, q ≠ (10, k) → h1 q = h q := fun q hq => by rw [hh1, hup_ne hq]
      have q12 : h1 (12, 0) = E (pf M k (flg (W k) (U k))) := by rw [n1 _ (fun e => by injection e with e1 e2; omega)]; exact hw12
      have q4 : h1 (4, 0) 2 = nI (k + 1) := by rw [n1 _ (fun e => by injection e with e1 e2; omega)]; exact hn4
      have key : ∃ f' s', Cl 8 MX4_write [vR (4, 0), vI (nI a), vI (nI x)] h1 (some (vI (nI (nLeaf (W k) (a / 8) + nClus (W k) (a / 8))))) (mh (hup h1 (15, 0) s') f' (pf M k (flg (pW W k (a / 8) (a % 8) x) u2))) := by
        rw [← e2] at hI2 hfl3 hc5 hc6
        have hsf2 := (flg_inv hI2).1.1
        obtain ⟨V2, hV2⟩ : ∃ V2, V2 = gC (gL (W k) (a / 8)) (a / 8) (datm (gL (W k) (a / 8)) W k (a / 8)) := ⟨_, rfl⟩
        have hk1 : ∀ f0, ∃ f' s', Rn 8 MX4_write 61 [some (vR (4, 0)), some (vI (nI a)), some (vI (nI x)), some (vI (nI k)), some (vI (nI (a / 8))), some (vI (nI (nLeaf (W k) (a / 8) + nClus (W k) (a / 8)))), none, none] [vI (nI (rm (W k)))] (mh h1 f0 (pf M k (flg (W k) (U k)))) (some (vI (nI (nLeaf (W k) (a / 8) + nClus (W k) (a / 8))))) (mh (hup h1 (15, 0) s') f' (pf M k (flg (pW W k (a / 8) (a % 8) x) u2))) := by
          intro f0
          obtain ⟨f1, s1, hown⟩ := m_own (d := 1) (h := mh h1 f0 (pf M k (flg (W k) (U k)))) (M := M) (W := W) (U := U) (nb := k) mh_12 hg hi hb (by omega) hr2 (by omega) (S.hW hMw) S.2.2.2.1 hI2
          rw [mh_15, mh_mh] at hown
          refine ⟨f1, s1, ?_⟩
          rw [← hV2] at hown hI2 hsf2 hfl3 hc6
          have haw2 := (fl_aw hI2.1 (show a / 8 < 64 by omega)).1
          rw [hc6] at haw2
          refine rnN 1 rfl ?_
          refine rnF (nI_nlt hr (by omega)) rfl ?_
          refine rnN 5 rfl ?_
          rw [jm_top]
          refine rnN 1 rfl ?_
          refine rnK rfl (hown) ?_
          refine rnN 6 rfl ?_
          refine rnK rfl (m_table (n := 0) mh_12 hg hsf2.l6 (by decide)) ?_
          rw [show tbn (flg V2 u2) 0 = flg V2 u2 3 from rfl]
          refine rnN 1 rfl ?_
          refine rnK rfl (m_entry mh_12 hg hsf2 act_tb (show a / 8 < 64 by omega)) ?_
          rw [show bwd (flg V2 u2) (flg V2 u2 3) (a / 8) = awd (flg V2 u2) (a / 8) from rfl]
          have hawl : awd (flg V2 u2) (a / 8) < 256 := (hsf2.bok act_tb (show a / 8 < 64 by omega)).lt
          refine rnN 7 rfl ?_
          simp (disch := omega) only [nI_add, pk_mul, pk_sub, nd8, nd4, nsub8, nand63, nand7, nshr2, nI_clamp, E_at, hup_at, hup_hup, hpt_def, pf_at, pf_at2, cf_at, h12_14, h14_12, h12_15, h15_12, h14_15, h15_14]
          rw [haw2]
          refine rnK rfl (m_at) ?_
          refine rnN 5 rfl ?_
          simp (disch := omega) only [nI_add, pk_mul, pk_sub, nd8, nd4, nsub8, nand63, nand7, nshr2, nI_clamp, E_at, hup_at, hup_hup, hpt_def, pf_at, pf_at2, cf_at, h12_14, h14_12, h12_15, h15_12, h14_15, h15_14]
          refine rnC (inN (show 512 * k + 8 * c + a % 8 < 2048 by omega) (by decide)) rfl ?_
          simp (disch := omega) only [nI_clamp, mhpt]
          rw [show 512 * k + 8 * c + a % 8 = 512 * k + (8 * c + a % 8) by omega, pf_up (show 8 * c + a % 8 < 512 by omega), ← hfl3]
          refine rnN 1 rfl ?_
          exact rnR rfl
        obtain ⟨f1, hf1⟩ : ∃ f1 : (Nat → Int32) → Nat → Int32, ∀ f0, ∃ s', Rn 8 MX4_write 61 [some (vR (4, 0)), some (vI (nI a)), some (vI (nI x)), some (vI (nI k)), some (vI (nI (a / 8))), some (vI (nI (nLeaf (W k) (a / 8) + nClus (W k) (a / 8)))), none, none] [vI (nI (rm (W k)))] (mh h1 f0 (pf M k (flg (W k) (U k)))) (some (vI (nI (nLeaf (W k) (a / 8) + nClus (W k) (a / 8))))) (mh (hup h1 (15, 0) s') (f1 f0) (pf M k (flg (pW W k (a / 8) (a % 8) x) u2))) := ⟨fun f0 => Classical.choose (hk1 f0), fun f0 => Classical.choose_spec (hk1 f0)⟩
        obtain ⟨fE, hfE⟩ := mw_headE (d := 1) (x := x) q12 q4 hk hi ha
        obtain ⟨s', hs'⟩ := hf1 fE
        exact ⟨f1 fE, s', hfE _ _ hs'⟩
      obtain ⟨f', s', hm⟩ := key
      refine ⟨(nI (nLeaf (W k) (a / 8) + nClus (W k) (a / 8))), h1, mh (hup h1 (15, 0) s') f' (pf M k (flg (pW W k (a / 8) (a % 8) x) u2)), k, setW W k (flg (pW W k (a / 8) (a % 8) x) u2), setW U k u2, Cl_deep (n := 6) (by decide) ?_, hm, ?_⟩
      · rw [hh1]
        refine rnN 1 rfl ?_
        refine rnK rfl (c_top hn3 hk) ?_
        refine rnN 1 rfl ?_
        refine rnK rfl (c_hasAddrT hw h2 ha) ?_
        refine rnN 2 rfl ?_
        refine rnK rfl (c_top hn3 hk) ?_
        refine rnN 2 rfl ?_
        refine rnK rfl (c_putWord (fun j hj => ⟨S.file hj, S.inv hj⟩) ha hr hx hI3) ?_
        refine rnN 1 rfl ?_
        exact rnR rfl
      · rw [hh1]
        exact SI_upd S hF1 hF3 (fun e => by rw [hH3 5 (by decide)] at e; rw [hH3 6 (by decide)]; exact (S.2.1 k (Nat.le_refl k)).2.2.2 e) (by rw [hH3 2 (by decide)]; exact Nat.le_refl _) hMw
    · obtain ⟨fE, hfE⟩ := mw_headE (d := 1) (x := x) hw12 hn4 hk hi ha
      have e3 : pf M k (flg (W k) (U k)) = M := by rw [hfl, hMp k (Nat.le_refl k)]
      refine ⟨(-2), h, mh h fE M, k, W, U, Cl_deep (n := 6) (by decide) ?_, ?_, SI_cnt S hM⟩
      · refine rnN 1 rfl ?_
        refine rnK rfl (c_top hn3 hk) ?_
        refine rnN 1 rfl ?_
        refine rnK rfl (c_hasAddrT hw h2 ha) ?_
        refine rnN 2 rfl ?_
        refine rnK rfl (c_top hn3 hk) ?_
        refine rnN 2 rfl ?_
        refine rnK rfl (c_putWordF hw hi ha hr) ?_
        refine rnN 1 rfl ?_
        exact rnR rfl
      · refine hfE _ _ ?_
        rw [e3]
        have := hl1 (a / 8)
        have := hl2 (a / 8)
        refine rnN 1 rfl ?_
        refine rnT (nI_lt (Nat.lt_of_not_le hr) (by omega)) rfl ?_
        refine rnN 1 rfl ?_
        exact rnR rfl
/-- the reference's discard, up to its test of the room -/
theorem dis_head {b : Nat} {r : Option xV} {hf : xH} (hw : h (12, 0) = E (pf M k (flg (W k) (U k)))) (hn : h (4, 0) 2 = nI (k + 1)) (hk : k < 3) (hi : Inv (W k) (U k)) (hb : b < W k 2) (hd : dch k (awd (W k) b) = true)
    (K : Rn 8 MX4_discard 50 [some (vR (4, 0)), some (vI (nI b)), some (vI (nI k)), some (vI (nI (awd (flg (W k) (U k)) b)))] [] h r hf) : Cl 8 MX4_discard [vR (4, 0), vI (nI b)] h r hf := by
  have h2 := hi.1.sz.2
  have e2 : flg (W k) (U k) 2 = W k 2 := (flg_agr _ _).hdr (by decide)
  have hg : k < 4 := by omega
  have hsf := (flg_inv hi).1.1
  have hB := hi.1.bok act_tb (show b < 64 by omega)
  have hBf := (hsf.bok act_tb (show b < 64 by omega)).lt
  have hBf : awd (flg (W k) (U k)) b < 256 := hBf
  have hfa := fl_aw hi.1 (show b < 64 by omega)
  have hne := dch_ne hd (fun e => hB.flat e)
  have hn2 : awd (flg (W k) (U k)) b ≠ 2 := fun e => by
    have h4 : awd (W k) b / 4 = 0 := by omega
    rw [hfa.2 h4] at e
    exact hne.1 e
  refine rnN 5 rfl ?_
  rw [m_top hn]
  refine rnN 1 rfl ?_
  refine rnF (nI_pos (show b < 2147483648 by omega)) rfl ?_
  refine rnN 3 rfl ?_
  refine rnK rfl (m_sizeOf hw hg) ?_
  rw [e2]
  refine rnT (nI_lt hb (by omega)) rfl ?_
  refine rnN 5 rfl ?_
  refine rnK rfl (m_table (n := 0) hw hg hsf.l6 (by decide)) ?_
  rw [show tbn (flg (W k) (U k)) 0 = flg (W k) (U k) 3 from rfl]
  refine rnN 1 rfl ?_
  refine rnK rfl (m_entry hw hg hsf act_tb (show b < 64 by omega)) ?_
  rw [show bwd (flg (W k) (U k)) (flg (W k) (U k) 3) b = awd (flg (W k) (U k)) b from rfl]
  refine rnN 3 rfl ?_
  refine rnF ((show ¬ nI (awd (flg (W k) (U k)) b) = nI 2 from fun e => hn2 ((neq (by omega) (by decide)).mp e))) rfl ?_
  refine rnN 1 rfl ?_
  by_cases h0 : awd (flg (W k) (U k)) b = 0
  · have h4 : awd (W k) b / 4 = 0 := by omega
    have hv0 : awd (W k) b = 0 := by rw [← hfa.2 h4]; exact h0
    have hk0 := hne.2 hv0
    refine rnT ((show nI (awd (flg (W k) (U k)) b) = 0 by rw [h0]; rfl)) rfl ?_
    refine rnN 1 rfl ?_
    refine rnF (nI_ne0 (show 0 < k by omega) (by omega)) rfl ?_
    exact K
  · refine rnF (nI_ne0 (Nat.pos_of_ne_zero h0) (by omega)) rfl ?_
    exact K
theorem op_discard (S : SI k W U h) (v : Int32) : OpOK MX3_discard MX4_discard [vI v] h := by
  obtain ⟨M, hM, hMw, hMp⟩ := S.mem
  have hk := S.1
  have hi := S.inv (Nat.le_refl k)
  have hw := S.file (Nat.le_refl k)
  have hfl := S.fl (Nat.le_refl k)
  have hs := hi.1
  have h2 := hs.sz.2
  have hg : k < 4 := by omega
  have hw12 : h (12, 0) = E (pf M k (flg (W k) (U k))) := by rw [hM, hfl, hMp k (Nat.le_refl k)]
  have hw12' : h (12, 0) = E (pf M k (W k)) := by rw [hM, hMp k (Nat.le_refl k)]
  have e3 : pf M k (flg (W k) (U k)) = M := by rw [hfl, hMp k (Nat.le_refl k)]
  have hn3 := S.2.2.2.2.1
  have hn4 := S.2.2.2.2.2.1
  have hrml : rm (W k) ≤ 64 := by unfold rm; omega
  have hl1 := fun b => nLeaf_le (W k) b
  have hv3 : (v < 0 ∨ nI (W k 2) ≤ v) ∨ ∃ b, b < W k 2 ∧ v = nI b := by
    rcases pk_ix v (n := W k 2) (by omega) with h | h | h
    · exact Or.inl (Or.inl h)
    · exact Or.inl (Or.inr h)
    · exact Or.inr h
  rcases hv3 with hv | ⟨b, hb, rfl⟩
  · refine ⟨(-1), h, h, k, W, U, Cl_deep (n := 4) (by decide) ?_, Cl_deep (n := 4) (by decide) ?_, S⟩
    · refine rnN 1 rfl ?_
      refine rnK rfl (c_top hn3 hk) ?_
      refine rnN 1 rfl ?_
      refine rnK rfl (c_hasBlockF hw hv) ?_
      refine rnN 2 rfl ?_
      exact rnR rfl
    · refine rnN 5 rfl ?_
      rw [m_top hn4]
      refine rnN 1 rfl ?_
      by_cases h0 : v < 0
      · refine rnT (h0) rfl ?_
        refine rnN 1 rfl ?_
        exact rnR rfl
      · refine rnF (h0) rfl ?_
        refine rnN 3 rfl ?_
        refine rnK rfl (m_sizeOf hw12' hg) ?_
        refine rnF ((Int32.not_lt.mpr (hv.resolve_left h0))) rfl ?_
        refine rnN 1 rfl ?_
        exact rnR rfl
  · by_cases hd : dch k (awd (W k) b) = true
    · have hll := fun (h1 : xH) (q12 : h1 (12, 0) = E (pf M k (flg (W k) (U k)))) => by
        have h9 := m_lacksLeaf (d := 4) (h := h1) (M := M) q12 hg (flg_inv hi).1.1 (show b < 64 by omega)
        rw [fl_nLeaf hi (by omega)] at h9
        exact h9
      have hbe := hl1 b
      by_cases hr : nLeaf (W k) b ≤ rm (W k)
      · obtain ⟨u3, hI3, hH3⟩ := dB_spec hi hb hr
        obtain ⟨hF1, hF2, hF3⟩ := flg_inv hI3
        have hH4 : ∀ p, p < 8 → flg (dB (W k) b) u3 p = W k p := fun p hp => by rw [(flg_agr _ _).hdr hp, hH3 p hp]
        obtain ⟨h1, hh1⟩ : ∃ h1, h1 = hup h (10, k) (E (flg (dB (W k) b) u3)) := ⟨_, rfl⟩
        have n1 : ∀ q : xP, q ≠ (10, k) → h1 q = h q := fun q hq => by rw [hh1, hup_ne hq]
        have q12 : h1 (12, 0) = E (pf M k (flg (W k) (U k))) := by rw [n1 _ (fun e => by injection e with e1 e2; omega)]; exact hw12
        have q4 : h1 (4, 0) 2 = nI (k + 1) := by rw [n1 _ (fun e => by injection e with e1 e2; omega)]; exact hn4
        have hl := hll h1 q12
        obtain ⟨f1, hf1⟩ : ∃ f1, f1 = cf (h1 (14, 0)) (T (flg (W k) (U k))) := ⟨_, rfl⟩
        rw [← hf1] at hl
        have hrmM := m_room (d := 4) (h := mh h1 f1 (pf M k (flg (W k) (U k)))) (M := M) mh_12 hg (flg_inv hi).1
        rw [fl_rm hi, mh_mh, mh_14] at hrmM
        have hdr := fun f0 => m_drop (d := 1) (h := mh h1 f0 (pf M k (flg (W k) (U k)))) (M := M) (nb := k) mh_12 hg hi hb (by omega) hd hr hI3
        have key : ∃ f', Cl 8 MX4_discard [vR (4, 0), vI (nI b)] h1 (some (vI (nI (nLeaf (W k) b)))) (mh h1 f' (pf M k (flg (dB (W k) b) u3))) := by
          rcases (show nLeaf (W k) b = 0 ∨ nLeaf (W k) b = 1 by omega) with e | e
          · obtain ⟨f', hc⟩ := hdr f1
            rw [mh_mh] at hc
            refine ⟨f', dis_head q12 q4 hk hi hb hd ?_⟩
            rw [e] at hl hc ⊢
            refine rnN 3 rfl ?_
            refine rnK rfl (hl) ?_
            refine rnN 6 rfl ?_
            rw [jm_top]
            refine rnN 1 rfl ?_
            refine rnK rfl (hc) ?_
            exact rnR rfl
          · obtain ⟨f', hc⟩ := hdr (cf f1 (T (flg (W k) (U k))))
            rw [mh_mh] at hc
            refine ⟨f', dis_head q12 q4 hk hi hb hd ?_⟩
            rw [e] at hl hc hr ⊢
            refine rnN 3 rfl ?_
            refine rnK rfl (hl) ?_
            refine rnN 3 rfl ?_
            refine rnK rfl (hrmM) ?_
            refine rnN 1 rfl ?_
            refine rnF (nI_nlt hr (by omega)) rfl ?_
            refine rnN 5 rfl ?_
            rw [jm_top]
            refine rnN 1 rfl ?_
            refine rnK rfl (hc) ?_
            exact rnR rfl
        obtain ⟨f', hm⟩ := key
        refine ⟨(nI (nLeaf (W k) b)), h1, mh h1 f' (pf M k (flg (dB (W k) b) u3)), k, setW W k (flg (dB (W k) b) u3), setW U k u3, Cl_deep (n := 6) (by decide) ?_, hm, ?_⟩
        · rw [hh1]
          refine rnN 1 rfl ?_
          refine rnK rfl (c_top hn3 hk) ?_
          refine rnN 1 rfl ?_
          refine rnK rfl (c_hasBlockT hw h2 hb) ?_
          refine rnN 2 rfl ?_
          refine rnK rfl (c_top hn3 hk) ?_
          refine rnN 1 rfl ?_
          refine rnK rfl (c_dropBlock hw hi hb hd hr hI3) ?_
          refine rnN 1 rfl ?_
          exact rnR rfl
        · have h9 := SI_upd (s := h1 (15, 0)) (f := f') S hF1 hF3 (fun e => by rw [hH4 5 (by decide)] at e; rw [hH4 6 (by decide)]; exact (S.2.1 k (Nat.le_refl k)).2.2.2 e) (by rw [hH4 2 (by decide)]; exact Nat.le_refl _) hMw
          rw [← hh1, hup_self rfl] at h9
          exact h9
      · have e1 : nLeaf (W k) b = 1 := by omega
        have hl := hll h hw12
        rw [e1] at hl
        obtain ⟨f1, hf1⟩ : ∃ f1, f1 = cf (h (14, 0)) (T (flg (W k) (U k))) := ⟨_, rfl⟩
        rw [← hf1] at hl
        have hrmM := m_room (d := 4) (h := mh h f1 (pf M k (flg (W k) (U k)))) (M := M) mh_12 hg (flg_inv hi).1
        rw [fl_rm hi, mh_mh, mh_14] at hrmM
        refine ⟨(-2), h, mh h (cf f1 (T (flg (W k) (U k)))) M, k, W, U, Cl_deep (n := 6) (by decide) ?_, ?_, SI_cnt S hM⟩
        · refine rnN 1 rfl ?_
          refine rnK rfl (c_top hn3 hk) ?_
          refine rnN 1 rfl ?_
          refine rnK rfl (c_hasBlockT hw h2 hb) ?_
          refine rnN 2 rfl ?_
          refine rnK rfl (c_top hn3 hk) ?_
          refine rnN 1 rfl ?_
          refine rnK rfl (c_dropBlockF hw hi hb hd hr) ?_
          refine rnN 1 rfl ?_
          exact rnR rfl
        · refine dis_head hw12 hn4 hk hi hb hd ?_
          refine rnN 3 rfl ?_
          refine rnK rfl (hl) ?_
          refine rnN 3 rfl ?_
          refine rnK rfl (hrmM) ?_
          refine rnN 1 rfl ?_
          refine rnT (nI_lt (show rm (W k) < 1 by omega) (by decide)) rfl ?_
          refine rnN 1 rfl ?_
          rw [e3]
          exact rnR rfl
    · have hB := hi.1.bok act_tb (show b < 64 by omega)
      have h4 : awd (W k) b / 4 = 0 := Classical.byContradiction fun e => hd (decide_eq_true (Or.inl e))
      refine ⟨(nI 0), h, h, k, W, U, Cl_deep (n := 6) (by decide) ?_, ?_, S⟩
      · refine rnN 1 rfl ?_
        refine rnK rfl (c_top hn3 hk) ?_
        refine rnN 1 rfl ?_
        refine rnK rfl (c_hasBlockT hw h2 hb) ?_
        refine rnN 2 rfl ?_
        refine rnK rfl (c_top hn3 hk) ?_
        refine rnN 1 rfl ?_
        refine rnK rfl (c_dropBlock0 hw hi hb hd) ?_
        refine rnN 1 rfl ?_
        exact rnR rfl
      · refine rnN 5 rfl ?_
        rw [m_top hn4]
        refine rnN 1 rfl ?_
        refine rnF (nI_pos (show b < 2147483648 by omega)) rfl ?_
        refine rnN 3 rfl ?_
        refine rnK rfl (m_sizeOf hw12' hg) ?_
        refine rnT (nI_lt hb (by omega)) rfl ?_
        refine rnN 5 rfl ?_
        refine rnK rfl (m_table (n := 0) hw12' hg hs.l6 (by decide)) ?_
        rw [show tbn (W k) 0 = W k 3 from rfl]
        refine rnN 1 rfl ?_
        refine rnK rfl (m_entry hw12' hg hs act_tb (show b < 64 by omega)) ?_
        rw [show bwd (W k) (W k 3) b = awd (W k) b from rfl]
        refine rnN 3 rfl ?_
        rcases hB.flat h4 with e | e
        · have e : awd (W k) b = 0 := e
          have en : k = 0 := Classical.byContradiction fun e2 => hd (decide_eq_true (Or.inr ⟨e, e2⟩))
          rw [e, en]
          refine rnN 6 rfl ?_
          exact rnR rfl
        · have e : awd (W k) b = 2 := e
          rw [e]
          refine rnN 2 rfl ?_
          exact rnR rfl
end OPW
