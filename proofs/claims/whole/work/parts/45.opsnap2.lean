/-! ===== snapshot ===== -/
section OPS2
variable {d k : Nat} {h : xH} {M : Nat → Nat} {W U : Nat → Nat → Nat} {f s : Nat → Int32}
theorem lg_agr {w u1 u2 : Nat → Nat} (ha : Inv (tkW w) u1) (hS : Str (lgR w) u2) (hz : T (tkW w) (tkC w) = 0) (h1 : 1 ≤ tkC w) (h2 : tkC w < 64) (hT : ∀ X, T (lgR w) X = T (tkW w) X + iv (tkC w) X) (hu : ∀ X, T (tkW w) X ≠ 0 → u2 X = u1 X) (hO : ∀ p, p ≠ 6 → lgR w p = tkW w p) :
    Agr (up (flg (tkW w) u1) 6 (tkC w)) (lgR w) u2 := by
  intro p hTp hup2
  by_cases e : p = 6
  · left
    rw [e, up_at]
    exact up_at.symm
  · rw [up_ne e, hO p e]
    by_cases e2 : p / 8 = tkC w
    · left
      have h3 := ha.2.2.1 (p / 8) (by omega) (by rw [e2]; exact hz) (p % 8) (by omega)
      rw [show 8 * (p / 8) + p % 8 = p by omega] at h3
      by_cases e3 : 1 ≤ p / 8 ∧ p / 8 < 64 ∧ TL u1 (p / 8)
      · rw [flg_in e3, h3]
        rfl
      · rw [flg_out e3]
    · rw [hT, iv_ne (fun z => e2 z.symm), Nat.add_zero] at hTp
      rw [hu _ hTp] at hup2
      rcases flg_agr (tkW w) u1 p hTp hup2 with q | ⟨q1, q2, q3⟩
      · exact Or.inl q
      · refine Or.inr ⟨q1, ?_, q3⟩
        unfold TL
        rw [hu _ hTp]
        exact q2
theorem sn_agr {v u1 u3 : Nat → Nat} {c n name : Nat} (ha : Inv v u1) (hS : Str (snR v c n name) u3) (h6 : v 6 ≠ 0) (hz : T v c = 0) (h1 : 1 ≤ c) (h2 : c < 64) (hn : n < 4) (hT : ∀ X, T (snR v c n name) X = T v X + iv c X + tl v X (v 3)) (hu : ∀ X, T v X ≠ 0 → u3 X = u1 X) (huc : u3 c = 4 + n) :
    Agr (snR (flg v u1) c n name) (snR v c n name) u3 := by
  have hs := ha.1
  have hact := hs.act
  have hne6 : v 6 ≠ c := ne_fresh hz (T_list h6)
  have e6 : flg v u1 6 = v 6 := (flg_agr v u1).hdr (by decide)
  have e3 : flg v u1 3 = v 3 := (flg_agr v u1).hdr (by decide)
  have f6 : 1 ≤ flg v u1 6 := by omega
  have r1 := snR_l (v := v) (c := c) (n := n) (name := name) (by omega)
  have r2 := snR_l (v := flg v u1) (c := c) (n := n) (name := name) f6
  rw [e6] at r2
  intro p hTp hup
  by_cases p5 : p = 5
  · left; rw [p5, snR_5, snR_5]
  · by_cases p1 : p = 8 * v 6 + 2 * n
    · left; rw [p1, r1.1, r2.1]
    · by_cases p2 : p = 8 * v 6 + (2 * n + 1)
      · left; rw [p2, r1.2, r2.2]
      · by_cases pc : p / 8 = c
        · obtain ⟨i, hi8, rfl⟩ : ∃ i, i < 8 ∧ p = 8 * c + i := ⟨p % 8, by omega, by omega⟩
          rw [snR_c hne6 h1 hn hi8, snR_c (by rw [e6]; exact hne6) h1 hn hi8, e3]
          rcases (flg_agr v u1).tbw hs act_tb hi8 with q | ⟨q1, q2, q3⟩
          · exact Or.inl q
          · refine Or.inr ⟨by omega, ?_, q1, q2, q3⟩
            unfold TL
            rw [pc, huc]
            omega
        · rw [snR_o p5 p1 p2 pc, snR_o p5 (by rw [e6]; exact p1) (by rw [e6]; exact p2) pc]
          have hTv : T v (p / 8) ≠ 0 := fun e => by
            have h3 := hT (p / 8)
            have h4 := T_tc (w := v) (X := p / 8) act_tb
            rw [tc_tl] at h4
            rw [e, iv_ne (fun z => pc z.symm)] at h3
            omega
          rw [hu _ hTv] at hup
          rcases flg_agr v u1 p hTv hup with q | ⟨q1, q2, q3⟩
          · exact Or.inl q
          · refine Or.inr ⟨q1, ?_, q3⟩
            unfold TL
            rw [hu _ hTv]
            exact q2
/-- the reference's snapshot, from the taking of the table on -/
theorem ms_tail {y uy : Nat → Nat} {n name : Nat} {o4 o5 o6 : Option xV} (hw : h (12, 0) = E (pf M k (flg y uy))) (hk : k < 3) (hi : Inv y uy) (h6 : y 6 ≠ 0) (h5 : y 5 = n) (hn : n < 4) (hr : 1 ≤ rm y) (hb : name < 4294967296) (hnm : ∀ i, i < y 5 → y (8 * y 6 + (2 * i + 1)) ≠ name)
    {u3 : Nat → Nat} (hS : Str (snR (tkW y) (tkC y) (y 5) name) u3) (hI : Inv (clo (snR (tkW y) (tkC y) (y 5) name) u3) u3) :
    ∃ f', Rn (d + 5) MX4_snapshot 83 [some (vR (4, 0)), some (vI (nI name)), some (vI (nI k)), some (vI (nI n)), o4, o5, o6] [] h (some (vI (nI 0))) (mh h f' (pf M k (stl (snR (tkW y) (tkC y) (y 5) name) u3))) := by
  have hg : k < 4 := by omega
  obtain ⟨u1, u3', ha, hS', hI', hT, hu, huc, hC1, hC2, hC3, hC4, hH⟩ := sn_spec hi h6 (by omega) hr hb hnm
  have hst0 : stl (snR (tkW y) (tkC y) (y 5) name) u3 = stl (snR (tkW y) (tkC y) (y 5) name) u3' := by
    unfold stl
    have e1 : clo (snR (tkW y) (tkC y) (y 5) name) u3 = clo (snR (tkW y) (tkC y) (y 5) name) u3' := by
      refine eq_clo hS' (fun X hX h0 => clo_cpl hS hX h0) (fun p hp h0 => clo_free hp h0) (fun p hp hk2 => ?_)
      unfold clo cW
      rw [if_neg (fun z => by have := of_decide_eq_true z; omega), if_neg]
      rintro ⟨a1, a2, a3, a4⟩
      exact hk2 ⟨u3 (p / 8) - 16, by omega, by rw [a4]; exact a1, a4.symm⟩
    rw [e1] at hI ⊢
    exact flg_u hI hI'
  rw [hst0]
  obtain ⟨f1, ht⟩ := m_takeT (d := d) (M := M) hw hg hi hr ha
  obtain ⟨v, hv⟩ : ∃ v, v = tkW y := ⟨_, rfl⟩
  obtain ⟨c, hc⟩ : ∃ c, c = tkC y := ⟨_, rfl⟩
  rw [h5] at hS' hI' hT huc ⊢
  simp only [← hv, ← hc] at ha hS' hI' hT hu huc hC1 hC2 hC3 hH ht ⊢
  have hs := ha.1
  have hsf := (flg_inv ha).1.1
  have e6 : v 6 = y 6 := hH 6 (by decide)
  have e6f : flg v u1 6 = v 6 := (flg_agr v u1).hdr (by decide)
  have e3f : flg v u1 3 = v 3 := (flg_agr v u1).hdr (by decide)
  have h6v : v 6 ≠ 0 := by rw [e6]; exact h6
  have hls := hs.list h6v
  have hact := hs.act
  have hne6 : v 6 ≠ c := ne_fresh hC3 (T_list h6v)
  have hne3 : v 3 ≠ c := ne_fresh hC3 T_act
  have hne36 : v 3 ≠ v 6 := fun e => by rw [e] at hact; omega
  have hag := sn_agr ha hS' h6v hC3 hC1 hC2 hn hT hu huc
  have hag2 := hag.clo hS'
  have hsR := hag.eS hS'
  have hst := m_settle (d := d + 1) (h := mh h f1 (pf M k (snR (flg v u1) c n name))) (M := M) mh_12 hg hsR
  rw [mh_mh, mh_14, pf_congr (stl_agr hI' hag2)] at hst
  refine ⟨cf f1 (T (snR (flg v u1) c n name)), ?_⟩
  refine rnN 2 rfl ?_
  refine rnK rfl (ht) ?_
  refine rnN 9 rfl ?_
  simp (disch := omega) only [nI_add, pk_mul, pk_sub, nd8, nd4, nsub8, nand63, nand7, nshr2, nI_clamp, E_at, hup_at, hup_hup, hpt_def, pf_at, pf_at2, cf_at, h12_14, h14_12, h12_15, h15_12, h14_15, h15_14]
  refine rnC (inN (show 512 * k + 6 < 2048 by omega) (by decide)) rfl ?_
  simp (disch := omega) only [nI_add, pk_mul, pk_sub, nd8, nd4, nsub8, nand63, nand7, nshr2, nI_clamp, E_at, hup_at, hup_hup, hpt_def, pf_at, pf_at2, cf_at, h12_14, h14_12, h12_15, h15_12, h14_15, h15_14, mh_12]
  rw [e6f]
  refine rnK rfl (m_at) ?_
  refine rnN 9 rfl ?_
  simp (disch := omega) only [nI_add, pk_mul, pk_sub, nd8, nd4, nsub8, nand63, nand7, nshr2, nI_clamp, E_at, hup_at, hup_hup, hpt_def, pf_at, pf_at2, cf_at, h12_14, h14_12, h12_15, h15_12, h14_15, h15_14]
  rw [show 512 * k + 8 * v 6 + 2 * n = 512 * k + (8 * v 6 + 2 * n) by omega]
  refine rnC (inN (show 512 * k + (8 * v 6 + 2 * n) < 2048 by omega) (by decide)) rfl ?_
  simp (disch := omega) only [nI_clamp, mhpt]
  rw [pf_up (show 8 * v 6 + 2 * n < 512 by omega)]
  refine rnN 10 rfl ?_
  simp (disch := omega) only [nI_add, pk_mul, pk_sub, nd8, nd4, nsub8, nand63, nand7, nshr2, nI_clamp, E_at, hup_at, hup_hup, hpt_def, pf_at, pf_at2, cf_at, h12_14, h14_12, h12_15, h15_12, h14_15, h15_14]
  rw [show 512 * k + 8 * v 6 + 2 * n + 1 = 512 * k + (8 * v 6 + (2 * n + 1)) by omega]
  refine rnC (inN (show 512 * k + (8 * v 6 + (2 * n + 1)) < 2048 by omega) (by decide)) rfl ?_
  simp (disch := omega) only [nI_clamp, mhpt]
  rw [pf_up (show 8 * v 6 + (2 * n + 1) < 512 by omega)]
  refine rnN 2 rfl ?_
  obtain ⟨z, hz⟩ : ∃ z, z = up (up (flg v u1) (8 * v 6 + 2 * n) c) (8 * v 6 + (2 * n + 1)) name := ⟨_, rfl⟩
  rw [← hz]
  have hz3 : z 3 = v 3 := by rw [hz, up_ne (by omega), up_ne (by omega), e3f]
  have hz6 : z 6 = v 6 := by rw [hz, up_ne (by omega), up_ne (by omega), e6f]
  have hza : ∀ i, i < 8 → z (8 * v 3 + i) = flg v u1 (8 * v 3 + i) := fun i hi8 => by rw [hz, up_ne (by omega), up_ne (by omega)]
  have e0 : pf M k z = pf M k fun p => if p / 8 = c ∧ p % 8 < 0 then z (8 * v 3 + p % 8) else z p := pf_congr fun p _ => by rw [if_neg (by omega)]
  rw [e0]
  refine lpN 8 (fun i => Rn (d + 5) MX4_snapshot 139 [some (vR (4, 0)), some (vI (nI name)), some (vI (nI k)), some (vI (nI n)), some (vI (nI c)), some (vI (nI (512 * k + 8 * v 6))), some (vI (nI i))] [] (mh h f1 (pf M k fun p => if p / 8 = c ∧ p % 8 < i then z (8 * v 3 + p % 8) else z p)) (some (vI (nI 0))) (mh h (cf f1 (T (snR (flg v u1) c n name))) (pf M k (stl (snR v c n name) u3')))) (fun i hi8 K => ?_) ?_
  · have h3i : (if (3 : Nat) / 8 = c ∧ (3 : Nat) % 8 < i then z (8 * v 3 + 3 % 8) else z 3) = v 3 := by rw [if_neg (by omega)]; exact hz3
    have h6i : (if (6 : Nat) / 8 = c ∧ (6 : Nat) % 8 < i then z (8 * v 3 + 6 % 8) else z 6) = v 6 := by rw [if_neg (by omega)]; exact hz6
    refine rnN 2 rfl ?_
    refine rnT (nI_lt hi8 (by decide)) rfl ?_
    refine rnN 4 rfl ?_
    refine rnK rfl (m_at) ?_
    refine rnN 7 rfl ?_
    simp (disch := omega) only [nI_add, pk_mul, pk_sub, nd8, nd4, nsub8, nand63, nand7, nshr2, nI_clamp, E_at, hup_at, hup_hup, hpt_def, pf_at, pf_at2, cf_at, h12_14, h14_12, h12_15, h15_12, h14_15, h15_14]
    refine rnK rfl (m_table (n := 0) mh_12 hg (show (if (6 : Nat) / 8 = c ∧ (6 : Nat) % 8 < i then z (8 * v 3 + 6 % 8) else z 6) < 64 by rw [h6i]; exact hls.1) (by decide)) ?_
    rw [show tbn (fun p => if p / 8 = c ∧ p % 8 < i then z (8 * v 3 + p % 8) else z p) 0 = (if (3 : Nat) / 8 = c ∧ (3 : Nat) % 8 < i then z (8 * v 3 + 3 % 8) else z 3) from rfl, h3i]
    refine rnN 2 rfl ?_
    simp (disch := omega) only [nI_add, pk_mul, pk_sub, nd8, nd4, nsub8, nand63, nand7, nshr2, nI_clamp, E_at, hup_at, hup_hup, hpt_def, pf_at, pf_at2, cf_at, h12_14, h14_12, h12_15, h15_12, h14_15, h15_14]
    refine rnC (inN (show 512 * k + 8 * v 3 + i < 2048 by omega) (by decide)) rfl ?_
    simp (disch := omega) only [nI_add, pk_mul, pk_sub, nd8, nd4, nsub8, nand63, nand7, nshr2, nI_clamp, E_at, hup_at, hup_hup, hpt_def, pf_at, pf_at2, cf_at, h12_14, h14_12, h12_15, h15_12, h14_15, h15_14, mh_12]
    rw [if_neg (show ¬ ((8 * v 3 + i) / 8 = c ∧ (8 * v 3 + i) % 8 < i) by omega)]
    refine rnC (inN (show 512 * k + 8 * c + i < 2048 by omega) (by decide)) rfl ?_
    simp (disch := omega) only [nI_clamp, mhpt]
    rw [show 512 * k + 8 * c + i = 512 * k + (8 * c + i) by omega, pf_up (show 8 * c + i < 512 by omega)]
    refine rnN 2 rfl ?_
    simp (disch := omega) only [nI_add, pk_mul, pk_sub, nd8, nd4, nsub8, nand63, nand7, nshr2, nI_clamp, E_at, hup_at, hup_hup, hpt_def, pf_at, pf_at2, cf_at, h12_14, h14_12, h12_15, h15_12, h14_15, h15_14]
    refine rnH ?_ K
    congr 2
    funext p
    simp only [up]
    by_cases e : p = 8 * c + i
    · rw [if_pos e, if_pos (by omega), e, ix_mod hi8]
    · rw [if_neg e]
      by_cases e2 : p / 8 = c ∧ p % 8 < i
      · rw [if_pos e2, if_pos (show p / 8 = c ∧ p % 8 < i + 1 by omega)]
      · rw [if_neg e2, if_neg (show ¬ (p / 8 = c ∧ p % 8 < i + 1) by omega)]
  · refine rnN 3 rfl ?_
    refine rnN 10 rfl ?_
    simp (disch := omega) only [nI_add, pk_mul, pk_sub, nd8, nd4, nsub8, nand63, nand7, nshr2, nI_clamp, E_at, hup_at, hup_hup, hpt_def, pf_at, pf_at2, cf_at, h12_14, h14_12, h12_15, h15_12, h14_15, h15_14]
    refine rnC (inN (show 512 * k + 5 < 2048 by omega) (by decide)) rfl ?_
    simp (disch := omega) only [nI_clamp, mhpt]
    rw [pf_up (show 5 < 512 by omega)]
    have eR : pf M k (up (fun p => if p / 8 = c ∧ p % 8 < 8 then z (8 * v 3 + p % 8) else z p) 5 (n + 1)) = pf M k (snR (flg v u1) c n name) := pf_congr fun p _ => by
      simp only [up]
      by_cases p5 : p = 5
      · rw [if_pos p5, p5, snR_5]
      · rw [if_neg p5]
        have r2 := snR_l (v := flg v u1) (c := c) (n := n) (name := name) (by omega)
        rw [e6f] at r2
        by_cases p1 : p = 8 * v 6 + 2 * n
        · rw [if_neg (by omega), p1, r2.1, hz, up_ne (by omega), up_at]
        · by_cases p2 : p = 8 * v 6 + (2 * n + 1)
          · rw [if_neg (by omega), p2, r2.2, hz, up_at]
          · by_cases pc : p / 8 = c
            · obtain ⟨i, hi8, rfl⟩ : ∃ i, i < 8 ∧ p = 8 * c + i := ⟨p % 8, by omega, by omega⟩
              rw [if_pos ⟨pc, by omega⟩, ix_mod hi8, hza i hi8, snR_c (by rw [e6f]; exact hne6) hC1 hn hi8, e3f]
            · rw [if_neg (fun q => pc q.1), snR_o p5 (by rw [e6f]; exact p1) (by rw [e6f]; exact p2) pc, hz, up_ne p2, up_ne p1]
    rw [eR]
    refine rnN 2 rfl ?_
    refine rnK rfl (hst) ?_
    refine rnN 1 rfl ?_
    exact rnR rfl
theorem op_snapshot (S : SI k W U h) (v0 : Int32) : OpOK MX3_snapshot MX4_snapshot [vI v0] h := by
  obtain ⟨M, hM, hMw, hMp⟩ := S.mem
  have hk := S.1
  have hi := S.inv (Nat.le_refl k)
  have hw := S.file (Nat.le_refl k)
  have hfl := S.fl (Nat.le_refl k)
  have h60 := (S.2.1 k (Nat.le_refl k)).2.2.2
  have hs := hi.1
  have h6 := hs.l6
  have hns := hs.ns
  have hg : k < 4 := by omega
  have hw12 : h (12, 0) = E (pf M k (W k)) := by rw [hM, hMp k (Nat.le_refl k)]
  have hn3 := S.2.2.2.2.1
  have hn4 := S.2.2.2.2.2.1
  have hb := hi.2.2.2.2
  have hrml : rm (W k) ≤ 64 := by unfold rm; omega
  obtain ⟨n, hnn, rfl⟩ : ∃ n, n < 4294967296 ∧ v0 = nI n := ⟨tn v0, tn_lt _, (nI_tn v0).symm⟩
  rcases name_cases (W k) n with hl | ⟨j, hj, he, hl⟩
  · by_cases h4 : W k 5 = 4
    · refine ⟨(-3), h, h, k, W, U, Cl_deep (n := 6) (by decide) ?_, Cl_deep (n := 4) (by decide) ?_, S⟩
      · refine rnN 1 rfl ?_
        refine rnK rfl (c_top hn3 hk) ?_
        refine rnN 1 rfl ?_
        refine rnK rfl (c_addSnapM hw hi hnn h4 hl) ?_
        exact rnR rfl
      · refine rnN 5 rfl ?_
        rw [m_top hn4]
        refine rnN 2 rfl ?_
        refine rnK rfl (m_namedF hw12 hn4 hk h6 hns.1 hb hnn hl) ?_
        refine rnN 3 rfl ?_
        refine rnK rfl (m_snapshots hw12 hg) ?_
        rw [h4]
        refine rnN 5 rfl ?_
        exact rnR rfl
    · by_cases hr : snN (W k) ≤ rm (W k)
      · -- the words
        obtain ⟨uy, hy, hy6, hy5, hry, hyH, hyn⟩ : ∃ uy, Inv (lgW (W k)) uy ∧ lgW (W k) 6 ≠ 0 ∧ lgW (W k) 5 = W k 5 ∧ 1 ≤ rm (lgW (W k)) ∧ (∀ p, p < 8 → p ≠ 6 → lgW (W k) p = W k p) ∧ ∀ i, i < lgW (W k) 5 → lgW (W k) (8 * lgW (W k) 6 + (2 * i + 1)) ≠ n := by
          unfold snN at hr
          by_cases e0 : W k 5 = 0
          · rw [if_pos e0] at hr
            obtain ⟨u1, u2, ha, hS2, hV, hI2, hH, hC, hC1, hC2, hrm2, -⟩ := lg_spec hi h60 e0 (by omega)
            exact ⟨u2, hI2, by omega, hH 5 (by decide) (by decide), by omega, hH, fun i hi2 => by rw [hH 5 (by decide) (by decide), e0] at hi2; omega⟩
          · rw [if_neg e0] at hr
            have e : lgW (W k) = W k := by unfold lgW; rw [if_neg e0]
            rw [e]
            exact ⟨U k, hi, hns.2 e0, rfl, hr, fun _ _ _ => rfl, hl⟩
        obtain ⟨u1, u3, ha, hS, hI, hT, hu, huc, hC1, hC2, hC3, hC4, hH⟩ := sn_spec hy hy6 (show lgW (W k) 5 < 4 by omega) hry hnn hyn
        have hF : snF (W k) n = snR (tkW (lgW (W k))) (tkC (lgW (W k))) (lgW (W k) 5) n := rfl
        rw [← hF] at hS hI hT
        have hv6 : tkW (lgW (W k)) 6 ≠ 0 := by rw [hH 6 (by decide)]; exact hy6
        have hF2 : snF (W k) n 2 = W k 2 := by
          rw [hF, snR_o (by decide) (by omega) (by omega) (by omega), hH 2 (by decide), hyH 2 (by decide) (by decide)]
        refine op_settled (r := nI 0) S hS hI (fun e => by rw [hF, snR_5] at e; omega) (by rw [hF2]; exact Nat.le_refl _) hMw (Cl_deep (n := 6) (by decide) ?_) ?_
        · refine rnN 1 rfl ?_
          refine rnK rfl (c_top hn3 hk) ?_
          refine rnN 1 rfl ?_
          refine rnK rfl (c_addSnap hw hi h60 hnn h4 hl hr hS hI) ?_
          exact rnR rfl
        · obtain ⟨h1, hh1⟩ : ∃ h1, h1 = hup h (10, k) (E (stl (snF (W k) n) u3)) := ⟨_, rfl⟩
          rw [← hh1]
          have n1 : ∀ q : xP, q ≠ (10, k) → h1 q = h q := fun q hq => by rw [hh1, hup_ne hq]
          have q12 : h1 (12, 0) = E (pf M k (W k)) := by rw [n1 _ (fun e => by injection e with e1 e2; omega)]; exact hw12
          have q4 : h1 (4, 0) 2 = nI (k + 1) := by rw [n1 _ (fun e => by injection e with e1 e2; omega)]; exact hn4
          have hrm := m_room (d := 4) (h := h1) (M := M) q12 hg hi
          obtain ⟨f1, hf1⟩ : ∃ f1, f1 = cf (h1 (14, 0)) (T (W k)) := ⟨_, rfl⟩
          rw [← hf1] at hrm
          have key : ∃ f', Rn 8 MX4_snapshot 37 [some (vR (4, 0)), some (vI (nI n)), some (vI (nI k)), some (vI (nI (W k 5))), none, none, none] [vI (nI (rm (W k)))] (mh h1 f1 (pf M k (W k))) (some (vI (nI 0))) (mh h1 f' (pf M k (stl (snF (W k) n) u3))) := by
            unfold snN at hr
            by_cases e0 : W k 5 = 0
            · rw [if_pos e0] at hr
              obtain ⟨u1, u2, ha, hS2, hV, hI2, hH2, hC, hC1, hC2, hrm2, hO2, hT2, hu2, hz2⟩ := lg_spec hi h60 e0 (by omega)
              obtain ⟨f2, ht⟩ := m_takeT (d := 3) (h := mh h1 f1 (pf M k (flg (W k) (U k)))) (M := M) mh_12 hg hi (by omega) ha
              rw [mh_mh, hfl] at ht
              have hag := lg_agr ha hS2 hz2 hC1 hC2 hT2 hu2 hO2
              have hsR := hag.eS hS2
              have hst := m_settle (d := 4) (h := mh h1 f2 (pf M k (up (flg (tkW (W k)) u1) 6 (tkC (W k))))) (M := M) mh_12 hg hsR
              have hI3 := hI2
              rw [hV] at hI3
              rw [mh_mh, mh_14, pf_congr (stl_agr hI3 (hag.clo hS2)), ← hV] at hst
              obtain ⟨f3, hf3⟩ : ∃ f3, f3 = cf f2 (T (up (flg (tkW (W k)) u1) 6 (tkC (W k)))) := ⟨_, rfl⟩
              rw [← hf3] at hst
              have e5 : lgW (W k) 5 = 0 := by rw [hy5, e0]
              obtain ⟨f', htl⟩ := ms_tail (d := 3) (h := mh h1 f3 (pf M k (flg (lgW (W k)) u2))) (M := M) (k := k) (n := 0) (o4 := some (vI (nI (tkC (W k))))) (o5 := none) (o6 := none) mh_12 hk hI2 hy6 e5 (by decide) hry hnn hyn hS hI
              rw [mh_mh] at htl
              refine ⟨f', ?_⟩
              rw [e0]
              refine rnN 4 rfl ?_
              refine rnF ((nI_nlt (show 2 ≤ rm (W k) from hr) (by omega))) rfl ?_
              refine rnN 4 rfl ?_
              refine rnK rfl (ht) ?_
              refine rnN 9 rfl ?_
              simp (disch := omega) only [nI_add, pk_mul, pk_sub, nd8, nd4, nsub8, nand63, nand7, nshr2, nI_clamp, E_at, hup_at, hup_hup, hpt_def, pf_at, pf_at2, cf_at, h12_14, h14_12, h12_15, h15_12, h14_15, h15_14]
              refine rnC (inN (show 512 * k + 6 < 2048 by omega) (by decide)) rfl ?_
              simp (disch := omega) only [nI_clamp, mhpt]
              rw [pf_up (show 6 < 512 by omega)]
              refine rnN 2 rfl ?_
              refine rnK rfl (hst) ?_
              exact htl
            · rw [if_neg e0] at hr
              have e : lgW (W k) = W k := by unfold lgW; rw [if_neg e0]
              have hF4 : snF (W k) n = snR (tkW (W k)) (tkC (W k)) (W k 5) n := by unfold snF; rw [e]
              rw [hF4] at hS hI ⊢
              obtain ⟨f', htl⟩ := ms_tail (d := 3) (h := mh h1 f1 (pf M k (W k))) (M := M) (k := k) (n := W k 5) (o4 := none) (o5 := none) (o6 := none) (by rw [mh_12, hfl]) hk hi (hns.2 e0) rfl (by omega) hr hnn hl hS hI
              rw [mh_mh] at htl
              refine ⟨f', ?_⟩
              refine rnN 1 rfl ?_
              refine rnF (nI_ne0 (show 0 < W k 5 by omega) (by omega)) rfl ?_
              refine rnN 1 rfl ?_
              refine rnF ((nI_nlt (show 1 ≤ rm (W k) from hr) (by omega))) rfl ?_
              refine rnN 1 rfl ?_
              refine rnF (nI_ne0 (show 0 < W k 5 by omega) (by omega)) rfl ?_
              exact htl
          obtain ⟨f', hkey⟩ := key
          refine ⟨f', ?_⟩
          refine rnN 5 rfl ?_
          rw [m_top q4]
          refine rnN 2 rfl ?_
          refine rnK rfl (m_namedF q12 q4 hk h6 hns.1 hb hnn hl) ?_
          refine rnN 3 rfl ?_
          refine rnK rfl (m_snapshots q12 hg) ?_
          refine rnN 3 rfl ?_
          refine rnF ((show ¬ nI (W k 5) = nI 4 from fun e => h4 ((neq (by omega) (by decide)).mp e))) rfl ?_
          refine rnN 2 rfl ?_
          refine rnK rfl (hrm) ?_
          exact hkey
      · have hrm := m_room (d := 4) (h := h) (M := M) hw12 hg hi
        rw [hMp k (Nat.le_refl k)] at hrm
        refine ⟨(-2), h, mh h (cf (h (14, 0)) (T (W k))) M, k, W, U, Cl_deep (n := 6) (by decide) ?_, ?_, SI_cnt S hM⟩
        · refine rnN 1 rfl ?_
          refine rnK rfl (c_top hn3 hk) ?_
          refine rnN 1 rfl ?_
          refine rnK rfl (c_addSnapF hw hi hnn h6 h4 hl hr) ?_
          exact rnR rfl
        · refine rnN 5 rfl ?_
          rw [m_top hn4]
          refine rnN 2 rfl ?_
          refine rnK rfl (m_namedF hw12 hn4 hk h6 hns.1 hb hnn hl) ?_
          refine rnN 3 rfl ?_
          refine rnK rfl (m_snapshots hw12 hg) ?_
          refine rnN 3 rfl ?_
          refine rnF ((show ¬ nI (W k 5) = nI 4 from fun e => h4 ((neq (by omega) (by decide)).mp e))) rfl ?_
          refine rnN 2 rfl ?_
          refine rnK rfl (hrm) ?_
          unfold snN at hr
          by_cases e0 : W k 5 = 0
          · rw [if_pos e0] at hr
            rw [e0]
            refine rnN 4 rfl ?_
            refine rnT (nI_lt (Nat.lt_of_not_le hr) (by decide)) rfl ?_
            refine rnN 1 rfl ?_
            exact rnR rfl
          · rw [if_neg e0] at hr
            refine rnN 1 rfl ?_
            refine rnF (nI_ne0 (show 0 < W k 5 by omega) (by omega)) rfl ?_
            refine rnN 1 rfl ?_
            refine rnT (nI_lt (Nat.lt_of_not_le hr) (by decide)) rfl ?_
            refine rnN 1 rfl ?_
            exact rnR rfl
  · refine ⟨(-4), h, h, k, W, U, Cl_deep (n := 6) (by decide) ?_, Cl_deep (n := 4) (by decide) ?_, S⟩
    · refine rnN 1 rfl ?_
      refine rnK rfl (c_top hn3 hk) ?_
      refine rnN 1 rfl ?_
      refine rnK rfl (c_addSnapT hw hi hnn hj he hl) ?_
      exact rnR rfl
    · refine rnN 5 rfl ?_
      rw [m_top hn4]
      refine rnN 2 rfl ?_
      refine rnK rfl (m_namedT hw12 hn4 hk h6 hns.1 hj hb hnn he hl) ?_
      refine rnF (nI_pos (show j < 2147483648 by omega)) rfl ?_
      refine rnN 1 rfl ?_
      exact rnR rfl
end OPS2
