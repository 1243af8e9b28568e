/-! ===== the reference: what a table says of a block, what is shown; whether a leaf or a cluster is lacking ===== -/
/-- what n images below show of a block's word k -/
def shB (W : Nat → Nat → Nat) : Nat → Nat → Nat → Nat
  | 0, _, _ => 0
  | j + 1, b, k => if awd (W j) b / 4 = 0 then (if awd (W j) b = 0 then shB W j b k else 0) else W j (8 * (awd (W j) b / 4) + k)
section MR
variable {d g : Nat} {h : xH} {M N w V u u' : Nat → Nat} {f : Nat → Int32} {W U : Nat → Nat → Nat}
theorem sh_B (W : Nat → Nat → Nat) (k y a : Nat) : sh W k y a = if y / 4 = 0 then (if y = 0 then shB W k (a / 8) (a % 8) else 0) else W k (8 * (y / 4) + a % 8) := by
  have key : ∀ k y, sh W k y a = if y / 4 = 0 then (if y = 0 then shB W k (a / 8) (a % 8) else 0) else W k (8 * (y / 4) + a % 8) := by
    intro k
    induction k with
    | zero =>
      intro y
      simp only [sh, shB]
      split
      · split <;> rfl
      · rfl
    | succ k ih =>
      intro y
      rw [sh]
      split
      · split
        · rw [ih, shB]
        · rfl
      · rfl
  exact key k y
theorem pf_self {j : Nat} {v : Nat → Nat} (e : ∀ p, p < 512 → N (512 * j + p) = v p) : pf N j v = N := by
  funext q
  unfold pf
  split
  · next hq =>
    rw [← e _ (Nat.mod_lt _ (by decide))]
    congr 1
    omega
  · rfl
theorem m_slot {t b : Nat} (hw : h (12, 0) = E (pf M g w)) (hg : g < 4) (hs : Str w u) (ht : TB w t) (hb : b < 64) : Cl (d + 1) MX4_slot [vR (4, 0), vI (nI g), vI (nI (512 * g + 8 * t)), vI (nI b)] h (some (vI (if w (8 * t + b / 8) / 4 = 0 then -1 else nI (512 * g + 8 * (w (8 * t + b / 8) / 4) + b % 8)))) h := by
  have h1 := hs.tb ht
  have h2 := (hs.tw ht (show b / 8 < 8 by omega)).lt
  refine rnN 7 rfl ?_
  simp (disch := omega) only [nI_add, pk_mul, pk_sub, nd8, nd4, nsub8, nand63, nand7, nshr2, nI_clamp, E_at, hup_at, hup_hup, hpt_def, pf_at, pf_at2, cf_at, h12_14, h14_12, h12_15, h15_12, h14_15, h15_14]
  refine rnC (inN (show 512 * g + 8 * t + b / 8 < 2048 by omega) (by decide)) rfl ?_
  simp (disch := omega) only [nI_add, pk_mul, pk_sub, nd8, nd4, nsub8, nand63, nand7, nshr2, nI_clamp, E_at, hup_at, hup_hup, hpt_def, pf_at, pf_at2, cf_at, h12_14, h14_12, h12_15, h15_12, h14_15, h15_14, hw]
  refine rnN 4 rfl ?_
  simp (disch := omega) only [nI_add, pk_mul, pk_sub, nd8, nd4, nsub8, nand63, nand7, nshr2, nI_clamp, E_at, hup_at, hup_hup, hpt_def, pf_at, pf_at2, cf_at, h12_14, h14_12, h12_15, h15_12, h14_15, h15_14]
  by_cases h0 : w (8 * t + b / 8) / 4 = 0
  · rw [h0, if_pos rfl]
    refine rnN 3 rfl ?_
    exact rnR rfl
  · rw [if_neg h0]
    refine rnF (nI_ne0 (show 0 < w (8 * t + b / 8) / 4 by omega) (by omega)) rfl ?_
    refine rnN 2 rfl ?_
    refine rnK rfl (m_at) ?_
    refine rnN 4 rfl ?_
    simp (disch := omega) only [nI_add, pk_mul, pk_sub, nd8, nd4, nsub8, nand63, nand7, nshr2, nI_clamp, E_at, hup_at, hup_hup, hpt_def, pf_at, pf_at2, cf_at, h12_14, h14_12, h12_15, h15_12, h14_15, h15_14]
    exact rnR rfl
theorem m_entry {t b : Nat} (hw : h (12, 0) = E (pf M g w)) (hg : g < 4) (hs : Str w u) (ht : TB w t) (hb : b < 64) : Cl (d + 2) MX4_entry [vR (4, 0), vI (nI g), vI (nI (512 * g + 8 * t)), vI (nI b)] h (some (vI (nI (bwd w t b)))) h := by
  have h2 := hs.tw ht (show b / 8 < 8 by omega)
  refine rnN 4 rfl ?_
  refine rnK rfl (m_slot hw hg hs ht hb) ?_
  unfold bwd
  by_cases h0 : w (8 * t + b / 8) / 4 = 0
  · rw [if_pos h0, if_pos h0]
    refine rnN 5 rfl ?_
    exact rnR rfl
  · have hl := (h2.lead h0).1.pos
    rw [if_neg h0, if_neg h0]
    refine rnN 2 rfl ?_
    refine rnF (nI_pos (show 512 * g + 8 * (w (8 * t + b / 8) / 4) + b % 8 < 2147483648 by omega)) rfl ?_
    refine rnN 3 rfl ?_
    refine rnC (inN (show 512 * g + 8 * (w (8 * t + b / 8) / 4) + b % 8 < 2048 by omega) (by decide)) rfl ?_
    simp (disch := omega) only [nI_add, pk_mul, pk_sub, nd8, nd4, nsub8, nand63, nand7, nshr2, nI_clamp, E_at, hup_at, hup_hup, hpt_def, pf_at, pf_at2, cf_at, h12_14, h14_12, h12_15, h15_12, h14_15, h15_14, hw]
    exact rnR rfl
theorem jm_pred (n : Nat) : jm (n + 1) + (-1) = jm n := by
  cases n with
  | zero => rfl
  | succ n => exact pk_m1 n
theorem m_shows {t b k nb : Nat} (hw : h (12, 0) = E (pf M g w)) (hg : g < 4) (hs : Str w u) (ht : TB w t) (hb : b < 64) (hk : k < 8) (hnb : nb ≤ 3) (hW : ∀ j, j < nb → j ≠ g ∧ Str (W j) (U j) ∧ ∀ p, p < 512 → M (512 * j + p) = W j p) :
    Cl (d + 3) MX4_shows [vR (4, 0), vI (nI g), vI (nI (512 * g + 8 * t)), vI (jm nb), vI (nI b), vI (nI k)] h (some (vI (nI (if bwd w t b / 4 = 0 then (if bwd w t b = 0 then shB W nb b k else 0) else w (8 * (bwd w t b / 4) + k))))) h := by
  have hB := hs.bok ht hb
  have hBl := hB.lt
  -- the last part
  have last : ∀ (y : Nat) (o7 o8 : Option xV), y < 256 → Rn (d + 3) MX4_shows 83 [some (vR (4, 0)), some (vI (nI g)), some (vI (nI (512 * g + 8 * t))), some (vI (jm nb)), some (vI (nI b)), some (vI (nI k)), some (vI (nI y)), o7, o8] [] h (some (vI (nI (if y / 4 = 0 then 0 else w (8 * (y / 4) + k))))) h := by
    intro y o7 o8 hy
    refine rnN 3 rfl ?_
    simp (disch := omega) only [nI_add, pk_mul, pk_sub, nd8, nd4, nsub8, nand63, nand7, nshr2, nI_clamp, E_at, hup_at, hup_hup, hpt_def, pf_at, pf_at2, cf_at, h12_14, h14_12, h12_15, h15_12, h14_15, h15_14]
    by_cases h0 : y / 4 = 0
    · rw [h0, if_pos rfl]
      refine rnN 2 rfl ?_
      exact rnR rfl
    · rw [if_neg h0]
      refine rnT ((n0lt (show y / 4 < 2147483648 by omega)).mpr (by omega)) rfl ?_
      refine rnN 6 rfl ?_
      simp (disch := omega) only [nI_add, pk_mul, pk_sub, nd8, nd4, nsub8, nand63, nand7, nshr2, nI_clamp, E_at, hup_at, hup_hup, hpt_def, pf_at, pf_at2, cf_at, h12_14, h14_12, h12_15, h15_12, h14_15, h15_14]
      refine rnK rfl (m_at) ?_
      refine rnN 2 rfl ?_
      simp (disch := omega) only [nI_add, pk_mul, pk_sub, nd8, nd4, nsub8, nand63, nand7, nshr2, nI_clamp, E_at, hup_at, hup_hup, hpt_def, pf_at, pf_at2, cf_at, h12_14, h14_12, h12_15, h15_12, h14_15, h15_14]
      refine rnC (inN (show 512 * g + 8 * (y / 4) + k < 2048 by omega) (by decide)) rfl ?_
      simp (disch := omega) only [nI_add, pk_mul, pk_sub, nd8, nd4, nsub8, nand63, nand7, nshr2, nI_clamp, E_at, hup_at, hup_hup, hpt_def, pf_at, pf_at2, cf_at, h12_14, h14_12, h12_15, h15_12, h14_15, h15_14, hw]
      refine rnN 1 rfl ?_
      exact rnR rfl
  have loop : ∀ (n : Nat) (o8 : Option xV), n ≤ nb → Rn (d + 3) MX4_shows 13 [some (vR (4, 0)), some (vI (nI g)), some (vI (nI (512 * g + 8 * t))), some (vI (jm nb)), some (vI (nI b)), some (vI (nI k)), some (vI (nI 0)), some (vI (jm n)), o8] [] h (some (vI (nI (shB W n b k)))) h := by
    intro n
    induction n with
    | zero =>
      intro o8 _
      refine rnN 2 rfl ?_
      exact last 0 _ _ (by decide)
    | succ n ih =>
      intro o8 hn
      obtain ⟨hng, hsn, hMn⟩ := hW n (by omega)
      have hwn : h (12, 0) = E (pf (pf M g w) n (W n)) := by
        rw [hw, pf_self (N := pf M g w) (j := n) (v := W n) (fun p hp => by rw [pf_ne hp hng]; exact hMn p hp)]
      have hBn := hsn.bok act_tb hb
      have hBnl := hBn.lt
      refine rnN 1 rfl ?_
      rw [show jm (n + 1) = nI n from rfl]
      refine rnF (nI_pos (show n < 2147483648 by omega)) rfl ?_
      refine rnN 5 rfl ?_
      refine rnK rfl (m_table (n := 0) hwn (show n < 4 by omega) hsn.l6 (by decide)) ?_
      rw [show tbn (W n) 0 = W n 3 from rfl]
      refine rnN 5 rfl ?_
      refine rnK rfl (m_entry hwn (show n < 4 by omega) hsn act_tb hb) ?_
      rw [show bwd (W n) (W n 3) b = awd (W n) b from rfl]
      have hal : awd (W n) b < 256 := hBnl
      refine rnN 4 rfl ?_
      simp (disch := omega) only [nI_add, pk_mul, pk_sub, nd8, nd4, nsub8, nand63, nand7, nshr2, nI_clamp, E_at, hup_at, hup_hup, hpt_def, pf_at, pf_at2, cf_at, h12_14, h14_12, h12_15, h15_12, h14_15, h15_14]
      rw [shB]
      by_cases h0 : awd (W n) b / 4 = 0
      · rw [if_pos h0, h0]
        refine rnN 1 rfl ?_
        rcases hBn.flat h0 with e | e
        · have e : awd (W n) b = 0 := e
          rw [if_pos e, e]
          refine rnN 3 rfl ?_
          refine rnN 1 rfl ?_
          rw [show nI n + -1 = jm n from jm_pred n]
          refine rnN 1 rfl ?_
          exact ih _ (by omega)
        · have e : awd (W n) b = 2 := e
          rw [if_neg (by omega), e]
          refine rnN 4 rfl ?_
          exact rnR rfl
      · rw [if_neg h0]
        have hlp := (hBn.lead (show bwd (W n) (W n 3) b / 4 ≠ 0 from h0)).1.pos
        have hlp2 : awd (W n) b / 4 < 64 := hlp.2
        refine rnT ((n0lt (show awd (W n) b / 4 < 2147483648 by omega)).mpr (by omega)) rfl ?_
        refine rnN 6 rfl ?_
        simp (disch := omega) only [nI_add, pk_mul, pk_sub, nd8, nd4, nsub8, nand63, nand7, nshr2, nI_clamp, E_at, hup_at, hup_hup, hpt_def, pf_at, pf_at2, cf_at, h12_14, h14_12, h12_15, h15_12, h14_15, h15_14]
        refine rnK rfl (m_at) ?_
        refine rnN 2 rfl ?_
        simp (disch := omega) only [nI_add, pk_mul, pk_sub, nd8, nd4, nsub8, nand63, nand7, nshr2, nI_clamp, E_at, hup_at, hup_hup, hpt_def, pf_at, pf_at2, cf_at, h12_14, h14_12, h12_15, h15_12, h14_15, h15_14]
        refine rnC (inN (show 512 * n + 8 * (awd (W n) b / 4) + k < 2048 by omega) (by decide)) rfl ?_
        simp (disch := omega) only [nI_add, pk_mul, pk_sub, nd8, nd4, nsub8, nand63, nand7, nshr2, nI_clamp, E_at, hup_at, hup_hup, hpt_def, pf_at, pf_at2, cf_at, h12_14, h14_12, h12_15, h15_12, h14_15, h15_14, hwn]
        exact rnR rfl
  refine rnN 4 rfl ?_
  refine rnK rfl (m_entry hw hg hs ht hb) ?_
  refine rnN 3 rfl ?_
  by_cases h0 : bwd w t b = 0
  · rw [h0]
    exact loop nb _ (Nat.le_refl _)
  · have e1 : (if bwd w t b / 4 = 0 then (if bwd w t b = 0 then shB W nb b k else 0) else w (8 * (bwd w t b / 4) + k)) = if bwd w t b / 4 = 0 then 0 else w (8 * (bwd w t b / 4) + k) := by rw [if_neg h0]
    rw [e1]
    refine rnN 1 rfl ?_
    by_cases hn0 : nb = 0
    · subst hn0
      refine rnN 1 rfl ?_
      exact last _ _ _ hBl
    · obtain ⟨n, rfl⟩ : ∃ n, nb = n + 1 := ⟨nb - 1, by omega⟩
      refine rnF ((show ¬ jm (n + 1) < 0 from nI_pos (show n < 2147483648 by omega))) rfl ?_
      refine rnN 1 rfl ?_
      refine rnF (nI_ne0 (Nat.pos_of_ne_zero h0) (by omega)) rfl ?_
      exact last _ _ _ hBl
theorem nLeaf_le (w : Nat → Nat) (b : Nat) : nLeaf w b ≤ 1 := by unfold nLeaf; split <;> omega
theorem nClus_le (w : Nat → Nat) (b : Nat) : nClus w b ≤ 1 := by unfold nClus; split <;> omega
theorem m_lacksLeaf {b : Nat} (hw : h (12, 0) = E (pf M g w)) (hg : g < 4) (hs : Str w u) (hb : b < 64) : Cl (d + 3) MX4_lacksLeaf [vR (4, 0), vI (nI g), vI (nI b)] h (some (vI (nI (nLeaf w b)))) (mh h (cf (h (14, 0)) (T w)) (pf M g w)) := by
  have hrc := m_recount (d := d) (M := M) hw hg hs
  rw [mh_eq hw] at hrc
  have h2 := (hs.tw act_tb (show b / 8 < 8 by omega)).lt
  have hact := hs.act
  refine rnN 2 rfl ?_
  refine rnK rfl (hrc) ?_
  refine rnN 5 rfl ?_
  refine rnK rfl (m_table (n := 0) mh_12 hg hs.l6 (by decide)) ?_
  rw [show tbn w 0 = w 3 from rfl]
  refine rnN 4 rfl ?_
  simp (disch := omega) only [nI_add, pk_mul, pk_sub, nd8, nd4, nsub8, nand63, nand7, nshr2, nI_clamp, E_at, hup_at, hup_hup, hpt_def, pf_at, pf_at2, cf_at, h12_14, h14_12, h12_15, h15_12, h14_15, h15_14]
  refine rnC (inN (show 512 * g + 8 * w 3 + b / 8 < 2048 by omega) (by decide)) rfl ?_
  simp (disch := omega) only [nI_add, pk_mul, pk_sub, nd8, nd4, nsub8, nand63, nand7, nshr2, nI_clamp, E_at, hup_at, hup_hup, hpt_def, pf_at, pf_at2, cf_at, h12_14, h14_12, h12_15, h15_12, h14_15, h15_14, mh_12]
  refine rnN 4 rfl ?_
  simp (disch := omega) only [nI_add, pk_mul, pk_sub, nd8, nd4, nsub8, nand63, nand7, nshr2, nI_clamp, E_at, hup_at, hup_hup, hpt_def, pf_at, pf_at2, cf_at, h12_14, h14_12, h12_15, h15_12, h14_15, h15_14]
  unfold nLeaf
  by_cases h0 : w (8 * w 3 + b / 8) / 4 = 0
  · rw [h0, if_neg (fun e => (ow_iff.mp e).1 h0)]
    refine rnN 3 rfl ?_
    exact rnR rfl
  · have h1 := T_leaf act_tb (show b / 8 < 8 by omega) h0
    have hT := T_le (w := w) hs.ns.1 (w (8 * w 3 + b / 8) / 4)
    refine rnF (nI_ne0 (show 0 < w (8 * w 3 + b / 8) / 4 by omega) (by omega)) rfl ?_
    refine rnN 3 rfl ?_
    refine rnC (inN (show w (8 * w 3 + b / 8) / 4 < 64 by omega) (by decide)) rfl ?_
    simp (disch := omega) only [nI_add, pk_mul, pk_sub, nd8, nd4, nsub8, nand63, nand7, nshr2, nI_clamp, E_at, hup_at, hup_hup, hpt_def, pf_at, pf_at2, cf_at, h12_14, h14_12, h12_15, h15_12, h14_15, h15_14, mh_14]
    refine rnN 1 rfl ?_
    by_cases h3 : T w (w (8 * w 3 + b / 8) / 4) = 1
    · rw [if_pos (ow_iff.mpr ⟨h0, h3⟩), h3]
      refine rnN 2 rfl ?_
      exact rnR rfl
    · rw [if_neg (fun e => h3 (ow_iff.mp e).2)]
      refine rnT (nI_lt (show 1 < T w (w (8 * w 3 + b / 8) / 4) by omega) (by omega)) rfl ?_
      refine rnN 2 rfl ?_
      exact rnR rfl
theorem m_lacksCluster {b : Nat} (hw : h (12, 0) = E (pf M g w)) (hg : g < 4) (hs : Str w u) (hb : b < 64) : Cl (d + 3) MX4_lacksCluster [vR (4, 0), vI (nI g), vI (nI b)] h (some (vI (nI (nClus w b)))) (mh h (cf (h (14, 0)) (T w)) (pf M g w)) := by
  have hrc := m_recount (d := d) (M := M) hw hg hs
  rw [mh_eq hw] at hrc
  have h2 := (hs.bok act_tb hb).lt
  have h2 : awd w b < 256 := h2
  have hact := hs.act
  refine rnN 2 rfl ?_
  refine rnK rfl (hrc) ?_
  refine rnN 3 rfl ?_
  refine rnK rfl (m_table (n := 0) mh_12 hg hs.l6 (by decide)) ?_
  rw [show tbn w 0 = w 3 from rfl]
  refine rnN 5 rfl ?_
  refine rnK rfl (m_entry mh_12 hg hs act_tb hb) ?_
  rw [show bwd w (w 3) b = awd w b from rfl]
  refine rnN 4 rfl ?_
  simp (disch := omega) only [nI_add, pk_mul, pk_sub, nd8, nd4, nsub8, nand63, nand7, nshr2, nI_clamp, E_at, hup_at, hup_hup, hpt_def, pf_at, pf_at2, cf_at, h12_14, h14_12, h12_15, h15_12, h14_15, h15_14]
  unfold nClus
  by_cases h0 : awd w b / 4 = 0
  · rw [h0, if_neg (fun e => (ow_iff.mp e).1 h0)]
    refine rnN 3 rfl ?_
    exact rnR rfl
  · have h1 : 1 ≤ T w (awd w b / 4) := T_bw act_tb hb h0
    have hT := T_le (w := w) hs.ns.1 (awd w b / 4)
    refine rnF (nI_ne0 (show 0 < awd w b / 4 by omega) (by omega)) rfl ?_
    refine rnN 3 rfl ?_
    refine rnC (inN (show awd w b / 4 < 64 by omega) (by decide)) rfl ?_
    simp (disch := omega) only [nI_add, pk_mul, pk_sub, nd8, nd4, nsub8, nand63, nand7, nshr2, nI_clamp, E_at, hup_at, hup_hup, hpt_def, pf_at, pf_at2, cf_at, h12_14, h14_12, h12_15, h15_12, h14_15, h15_14, mh_14]
    refine rnN 1 rfl ?_
    by_cases h3 : T w (awd w b / 4) = 1
    · rw [if_pos (ow_iff.mpr ⟨h0, h3⟩), h3]
      refine rnN 2 rfl ?_
      exact rnR rfl
    · rw [if_neg (fun e => h3 (ow_iff.mp e).2)]
      refine rnT (nI_lt (show 1 < T w (awd w b / 4) by omega) (by omega)) rfl ?_
      refine rnN 2 rfl ?_
      exact rnR rfl
/-! a file and its settled words, read on -/
theorem fl_bw (hs : Str V u) {t b : Nat} (ht : TB V t) (hb : b < 64) : bwd (flg V u) t b / 4 = bwd V t b / 4 ∧ (bwd V t b / 4 = 0 → bwd (flg V u) t b = bwd V t b) := by
  have ha := flg_agr V u
  have e := ha.tb4 hs ht (show b / 8 < 8 by omega)
  unfold bwd
  rw [e]
  split
  · exact ⟨rfl, fun _ => rfl⟩
  · next h0 =>
    rcases ha.lfw hs ht (show b / 8 < 8 by omega) (show b % 8 < 8 by omega) h0 with e2 | ⟨e2, e3, e4⟩
    · rw [e2]; exact ⟨rfl, fun _ => rfl⟩
    · exact ⟨e3, fun e5 => absurd e5 e2⟩
theorem fl_aw (hs : Str V u) {b : Nat} (hb : b < 64) : awd (flg V u) b / 4 = awd V b / 4 ∧ (awd V b / 4 = 0 → awd (flg V u) b = awd V b) := by
  have h1 := fl_bw hs act_tb hb
  unfold awd
  rw [(flg_agr V u).hdr (p := 3) (by decide)]
  exact h1
theorem ow_4 {v w : Nat → Nat} {x y : Nat} (hT : ∀ X, T v X = T w X) (e : x / 4 = y / 4) : ow v x = ow w y := by
  unfold ow
  rw [e, hT]
theorem fl_nLeaf (hi : Inv V u) {b : Nat} (hb : b < 64) : nLeaf (flg V u) b = nLeaf V b := by
  have ha := flg_agr V u
  unfold nLeaf
  rw [ow_4 (flg_inv hi).2.1 (show flg V u (8 * flg V u 3 + b / 8) / 4 = V (8 * V 3 + b / 8) / 4 by rw [ha.hdr (p := 3) (by decide)]; exact ha.tb4 hi.1 act_tb (by omega))]
theorem fl_nClus (hi : Inv V u) {b : Nat} (hb : b < 64) : nClus (flg V u) b = nClus V b := by
  unfold nClus
  rw [ow_4 (flg_inv hi).2.1 (fl_aw hi.1 hb).1]
end MR
