/-! ===== the class's reader: header, all leads, list, counts, marks, the rest ===== -/
/-- what the header is to be -/
def HR (w : Nat → Nat) : Prop := w 0 = 7001 ∧ w 1 = 1 ∧ (1 ≤ w 2 ∧ w 2 ≤ 64) ∧ w 5 ≤ 4 ∧ w 7 = 0 ∧ (w 6 = 0 ↔ w 5 = 0)
/-- the reader's two rows -/
def rg (h : xH) (A B : Nat → Int32) : xH := hup (hup h (11, 0) A) (11, 1) B
section RF
theorem rg_p0 {h : xH} {A B : Nat → Int32} {i : Nat} {x : Int32} : hpt (rg h A B) (11, 0) i x = rg h (upd A i x) B := by
  have e : rg h A B (11, 0) = A := by
    unfold rg
    rw [hup_ne (by decide), hup_at]
  unfold hpt
  rw [e]
  funext q
  unfold rg hup
  by_cases h1 : q = (11, 0)
  · subst h1; rfl
  · simp only [if_neg h1]
theorem rg_p1 {h : xH} {A B : Nat → Int32} {i : Nat} {x : Int32} : hpt (rg h A B) (11, 1) i x = rg h A (upd B i x) := by
  have e : rg h A B (11, 1) = B := hup_at
  unfold hpt
  rw [e]
  unfold rg
  rw [hup_hup]
variable {d l t : Nat} {h : xH} {f0 f1 : Nat → Int32} {us ct us' ct' us0 ct0 cn cn2 u v w : Nat → Nat} {r : Nat}
theorem c_headerRight (hw : h (10, 3) = E w) (hb : ∀ p, w p < 4294967296) : ∃ r, r ≤ 1 ∧ Cl (d + 1) MX2_isHeaderRight [vR (0, 3)] h (some (vI (nI r))) h ∧ (r = 1 ↔ HR w) := by
  have go : ∀ r, r ≤ 1 → (r = 1 ↔ HR w) → Rn (d + 1) MX2_isHeaderRight 20 [some (vR (0, 3)), some (vI (nI (w 2))), some (vI (nI (w 5)))] [vI (nI (w 0))] h (some (vI (nI r))) h → Cl (d + 1) MX2_isHeaderRight [vR (0, 3)] h (some (vI (nI r))) h := fun r _ _ kk => by
    refine rnN 3 rfl ?_
    refine rnK rfl (c_hd hw (show 2 < 8 by decide)) ?_
    refine rnN 4 rfl ?_
    refine rnK rfl (c_hd hw (show 5 < 8 by decide)) ?_
    refine rnN 4 rfl ?_
    refine rnK rfl (c_hd hw (show 0 < 8 by decide)) ?_
    exact kk
  have bad : ∀ st : List xV, st = [] → Rn (d + 1) MX2_isHeaderRight 97 [some (vR (0, 3)), some (vI (nI (w 2))), some (vI (nI (w 5)))] st h (some (vI (nI 0))) h := fun st e => by
    rw [e]
    refine rnN 1 rfl ?_
    exact rnR rfl
  by_cases a0 : w 0 = 7001
  · by_cases a1 : w 1 = 1
    · by_cases a2 : 1 ≤ w 2 ∧ w 2 ≤ 64
      · by_cases a5 : w 5 ≤ 4
        · by_cases a7 : w 7 = 0
          · have K : ∀ r, (r = 1 ↔ (w 6 = 0 ↔ w 5 = 0)) → Rn (d + 1) MX2_isHeaderRight 73 [some (vR (0, 3)), some (vI (nI (w 2))), some (vI (nI (w 5)))] [vI (nI (w 6))] h (some (vI (nI r))) h → Cl (d + 1) MX2_isHeaderRight [vR (0, 3)] h (some (vI (nI r))) h := fun r hr kk => by
              refine rnN 3 rfl ?_
              refine rnK rfl (c_hd hw (show 2 < 8 by decide)) ?_
              refine rnN 4 rfl ?_
              refine rnK rfl (c_hd hw (show 5 < 8 by decide)) ?_
              refine rnN 4 rfl ?_
              refine rnK rfl (c_hd hw (show 0 < 8 by decide)) ?_
              rw [a0]
              refine rnN 5 rfl ?_
              refine rnK rfl (c_hd hw (show 1 < 8 by decide)) ?_
              rw [a1]
              refine rnN 4 rfl ?_
              refine rnF ((fun e => by have := (nltS (hb 2) (show 1 < 2147483648 by decide)).mp e; omega)) rfl ?_
              refine rnN 2 rfl ?_
              refine rnF ((fun e => by have := (ngtS (hb 2) (show 64 < 2147483648 by decide)).mp e; omega)) rfl ?_
              refine rnN 1 rfl ?_
              refine rnF ((fun e => by have := (nlt0S (hb 5)).mp e; omega)) rfl ?_
              refine rnN 2 rfl ?_
              refine rnF ((fun e => by have := (ngtS (hb 5) (show 4 < 2147483648 by decide)).mp e; omega)) rfl ?_
              refine rnN 3 rfl ?_
              refine rnK rfl (c_hd hw (show 7 < 8 by decide)) ?_
              rw [a7]
              refine rnN 4 rfl ?_
              refine rnK rfl (c_hd hw (show 6 < 8 by decide)) ?_
              exact kk
            by_cases b6 : w 6 = 0
            · by_cases b5 : w 5 = 0
              · refine ⟨1, by decide, K 1 ⟨fun _ => ⟨fun _ => b5, fun _ => b6⟩, fun _ => rfl⟩ ?_, ⟨fun _ => ⟨a0, a1, a2, a5, a7, ⟨fun _ => b5, fun _ => b6⟩⟩, fun _ => rfl⟩⟩
                rw [b6, b5]
                refine rnN 3 rfl ?_
                refine rnN 4 rfl ?_
                refine rnN 3 rfl ?_
                exact rnR rfl
              · have hno : ¬ (w 6 = 0 ↔ w 5 = 0) := fun e => b5 (e.mp b6)
                refine ⟨0, by decide, K 0 ⟨fun e => absurd e (by decide), fun e => absurd e hno⟩ ?_, ⟨fun e => absurd e (by decide), fun e => absurd e.2.2.2.2.2 hno⟩⟩
                rw [b6]
                refine rnN 3 rfl ?_
                refine rnN 1 rfl ?_
                refine rnF ((fun e => b5 ((neq0S (hb 5)).mp e))) rfl ?_
                refine rnN 1 rfl ?_
                refine rnN 1 rfl ?_
                exact bad _ rfl
            · by_cases b5 : w 5 = 0
              · have hno : ¬ (w 6 = 0 ↔ w 5 = 0) := fun e => b6 (e.mpr b5)
                refine ⟨0, by decide, K 0 ⟨fun e => absurd e (by decide), fun e => absurd e hno⟩ ?_, ⟨fun e => absurd e (by decide), fun e => absurd e.2.2.2.2.2 hno⟩⟩
                rw [b5]
                refine rnF ((fun e => b6 ((neq0S (hb 6)).mp e))) rfl ?_
                refine rnN 1 rfl ?_
                refine rnN 4 rfl ?_
                refine rnN 1 rfl ?_
                have hb2 := bad [] rfl
                rw [b5] at hb2
                exact hb2
              · refine ⟨1, by decide, K 1 ⟨fun _ => ⟨fun e => absurd e b6, fun e => absurd e b5⟩, fun _ => rfl⟩ ?_, ⟨fun _ => ⟨a0, a1, a2, a5, a7, ⟨fun e => absurd e b6, fun e => absurd e b5⟩⟩, fun _ => rfl⟩⟩
                refine rnF ((fun e => b6 ((neq0S (hb 6)).mp e))) rfl ?_
                refine rnN 1 rfl ?_
                refine rnN 1 rfl ?_
                refine rnF ((fun e => b5 ((neq0S (hb 5)).mp e))) rfl ?_
                refine rnN 1 rfl ?_
                refine rnN 3 rfl ?_
                exact rnR rfl
          · refine ⟨0, by decide, go 0 (by decide) ⟨fun e => absurd e (by decide), fun e => absurd e.2.2.2.2.1 a7⟩ ?_, ⟨fun e => absurd e (by decide), fun e => absurd e.2.2.2.2.1 a7⟩⟩
            rw [a0]
            refine rnN 5 rfl ?_
            refine rnK rfl (c_hd hw (show 1 < 8 by decide)) ?_
            rw [a1]
            refine rnN 4 rfl ?_
            refine rnF ((fun e => by have := (nltS (hb 2) (show 1 < 2147483648 by decide)).mp e; omega)) rfl ?_
            refine rnN 2 rfl ?_
            refine rnF ((fun e => by have := (ngtS (hb 2) (show 64 < 2147483648 by decide)).mp e; omega)) rfl ?_
            refine rnN 1 rfl ?_
            refine rnF ((fun e => by have := (nlt0S (hb 5)).mp e; omega)) rfl ?_
            refine rnN 2 rfl ?_
            refine rnF ((fun e => by have := (ngtS (hb 5) (show 4 < 2147483648 by decide)).mp e; omega)) rfl ?_
            refine rnN 3 rfl ?_
            refine rnK rfl (c_hd hw (show 7 < 8 by decide)) ?_
            refine rnF ((fun e => a7 ((neq0S (hb 7)).mp e))) rfl ?_
            exact bad _ rfl
        · refine ⟨0, by decide, go 0 (by decide) ⟨fun e => absurd e (by decide), fun e => absurd e.2.2.2.1 a5⟩ ?_, ⟨fun e => absurd e (by decide), fun e => absurd e.2.2.2.1 a5⟩⟩
          rw [a0]
          refine rnN 5 rfl ?_
          refine rnK rfl (c_hd hw (show 1 < 8 by decide)) ?_
          rw [a1]
          refine rnN 4 rfl ?_
          refine rnF ((fun e => by have := (nltS (hb 2) (show 1 < 2147483648 by decide)).mp e; omega)) rfl ?_
          refine rnN 2 rfl ?_
          refine rnF ((fun e => by have := (ngtS (hb 2) (show 64 < 2147483648 by decide)).mp e; omega)) rfl ?_
          refine rnN 1 rfl ?_
          by_cases c5 : 2147483648 ≤ w 5
          · refine rnT (((nlt0S (hb 5)).mpr c5)) rfl ?_
            exact bad _ rfl
          · refine rnF ((fun e => c5 ((nlt0S (hb 5)).mp e))) rfl ?_
            refine rnN 2 rfl ?_
            refine rnT (((ngtS (hb 5) (show 4 < 2147483648 by decide)).mpr (by omega))) rfl ?_
            exact bad _ rfl
      · refine ⟨0, by decide, go 0 (by decide) ⟨fun e => absurd e (by decide), fun e => absurd e.2.2.1 a2⟩ ?_, ⟨fun e => absurd e (by decide), fun e => absurd e.2.2.1 a2⟩⟩
        rw [a0]
        refine rnN 5 rfl ?_
        refine rnK rfl (c_hd hw (show 1 < 8 by decide)) ?_
        rw [a1]
        refine rnN 4 rfl ?_
        by_cases c2 : nI (w 2) < nI 1
        · refine rnT (c2) rfl ?_
          exact bad _ rfl
        · refine rnF (c2) rfl ?_
          have c3 : ¬ (w 2 < 1 ∨ 2147483648 ≤ w 2) := fun e => c2 ((nltS (hb 2) (show 1 < 2147483648 by decide)).mpr e)
          refine rnN 2 rfl ?_
          refine rnT (((ngtS (hb 2) (show 64 < 2147483648 by decide)).mpr (by omega))) rfl ?_
          exact bad _ rfl
    · refine ⟨0, by decide, go 0 (by decide) ⟨fun e => absurd e (by decide), fun e => absurd e.2.1 a1⟩ ?_, ⟨fun e => absurd e (by decide), fun e => absurd e.2.1 a1⟩⟩
      rw [a0]
      refine rnN 5 rfl ?_
      refine rnK rfl (c_hd hw (show 1 < 8 by decide)) ?_
      refine rnN 1 rfl ?_
      refine rnF ((fun e => a1 ((neqS (hb 1) (by decide)).mp e))) rfl ?_
      exact bad _ rfl
  · refine ⟨0, by decide, go 0 (by decide) ⟨fun e => absurd e (by decide), fun e => absurd e.1 a0⟩ ?_, ⟨fun e => absurd e (by decide), fun e => absurd e.1 a0⟩⟩
    refine rnN 1 rfl ?_
    refine rnF ((fun e => a0 ((neqS (hb 0) (by decide)).mp e))) rfl ?_
    exact bad _ rfl
/-- the leads are right just when there are roles that they keep to -/
theorem c_leadsRight (hw : h (10, 3) = E w) (hb : ∀ p, w p < 4294967296) (hH : HR w) :
    ∃ r us ct, r ≤ 1 ∧ Cl (d + 5) MX2_areLeadsRight [vR (2, 0), vR (0, 3)] h (some (vI (nI r))) (rh h (h (11, 0)) (h (11, 1)) us ct) ∧ (r = 1 → Str w us ∧ (∀ X, ct X = T w X) ∧ (∀ c, 1 ≤ c → (us c = 0 ↔ T w c = 0)) ∧ (∀ c, us c < 88) ∧ us 0 = 0) ∧ ((∃ u, Str w u) → r = 1) := by
  obtain ⟨g0, g1, g2, g5, g7, g6⟩ := hH
  have hw3 : ∀ us ct, rh h (h (11, 0)) (h (11, 1)) us ct (10, 3) = E w := fun us ct => by rw [rh_o (by decide) (by decide)]; exact hw
  have hg0 : gd (fun _ => 0) (fun X => iv X 0) := ⟨fun _ => (by decide : (0 : Nat) < 88), rfl, fun c hc => ⟨fun _ => iv_ne (by omega), fun _ => rfl⟩⟩
  have p0 : PW (fun _ => 0) (fun X => iv X 0) (fun _ => 0) (fun _ => True) (Str w) (fun _ => 0) (fun X => iv X 0) := PW.start hg0
  have strH : ∀ u, Str w u → okH w u := fun u hu => ⟨hu.act, hu.ct, fun e => ⟨by omega, hu.list e⟩⟩
  have strK : ∀ u, Str w u → okK w 8 u := fun u hu k hk h0 => ⟨by omega, hu.keep hk h0⟩
  have strS : ∀ u, Str w u → okSn w (w 5) u := fun u hu j hj => ⟨hu.tab hj, fun i hi => hu.tw (tab_tb hj) hi⟩
  have strT : ∀ u, Str w u → okTb w (w 3) 8 u := fun u hu i hi => hu.tw act_tb hi
  have moH : mo (okH w) := fun a b h1 h2 => ⟨mo_C (by decide) a b h1 h2.1, mo_C (by decide) a b h1 h2.2.1, fun e => mo_C (by decide) a b h1 (h2.2.2 e)⟩
  have moK : mo (okK w 8) := fun a b h1 h2 k hk h0 => mo_C (by omega) a b h1 (h2 k hk h0)
  have moS : mo (okSn w (w 5)) := fun a b h1 h2 j hj => ⟨mo_C (by omega) a b h1 (h2 j hj).1, mo_T a b h1 (h2 j hj).2⟩
  have init : ∀ x hf, Rn (d + 5) MX2_areLeadsRight 35 [some (vR (2, 0)), some (vR (0, 3)), some (vI (nI 64))] [] (rh h (h (11, 0)) (h (11, 1)) (fun _ => 0) (fun X => iv X 0)) x hf → Cl (d + 5) MX2_areLeadsRight [vR (2, 0), vR (0, 3)] h x hf := fun x hf kk => by
    refine rnN 2 rfl ?_
    have e0 : h = rg h (fun c => if c < 0 then nI 0 else h (11, 0) c) (fun c => if c < 0 then nI 0 else h (11, 1) c) := by
      have e1 : (fun c => if c < 0 then nI 0 else h (11, 0) c) = h (11, 0) := by funext c; rw [if_neg (by omega)]
      have e2 : (fun c => if c < 0 then nI 0 else h (11, 1) c) = h (11, 1) := by funext c; rw [if_neg (by omega)]
      rw [e1, e2]
      unfold rg
      rw [hup_self (p := (11, 0)) rfl, hup_self rfl]
    refine rnH e0 ?_
    refine lpN 64 (fun i => Rn (d + 5) MX2_areLeadsRight 2 [some (vR (2, 0)), some (vR (0, 3)), some (vI (nI i))] [] (rg h (fun c => if c < i then nI 0 else h (11, 0) c) (fun c => if c < i then nI 0 else h (11, 1) c)) x hf) (fun i hi K => ?_) ?_
    · have st : ∀ g : Nat → Int32, upd (fun c => if c < i then nI 0 else g c) i (nI 0) = fun c => if c < i + 1 then nI 0 else g c := fun g => by
        funext c
        simp only [upd]
        by_cases e : c = i
        · rw [if_pos e, if_pos (by omega)]
        · rw [if_neg e]
          by_cases e2 : c < i
          · rw [if_pos e2, if_pos (by omega)]
          · rw [if_neg e2, if_neg (by omega)]
      refine rnN 2 rfl ?_
      refine rnT (nI_lt hi (by decide)) rfl ?_
      refine rnN 4 rfl ?_
      refine rnC (inN hi (by decide)) rfl ?_
      simp (disch := omega) only [nI_clamp, rg_p0, st]
      refine rnN 4 rfl ?_
      refine rnC (inN hi (by decide)) rfl ?_
      simp (disch := omega) only [nI_clamp, rg_p1, st]
      refine rnN 2 rfl ?_
      simp (disch := omega) only [nI_add, pk_mul, pk_sub, nd8, nd4, nsub8, nand63, nand7, nshr2, nI_clamp, E_at, hup_at, hup_hup]
      exact K
    · have e3 : rg h (fun c => if c < 64 then nI 0 else h (11, 0) c) (fun c => if c < 64 then nI 0 else h (11, 1) c) = rh h (h (11, 0)) (h (11, 1)) (fun _ => 0) (fun _ => 0) := rfl
      rw [e3]
      refine rnN 3 rfl ?_
      refine rnN 4 rfl ?_
      refine rnC (inN (show 0 < 64 by decide) (by decide)) rfl ?_
      simp (disch := omega) only [nI_clamp, rhpt1]
      have e4 : rh h (h (11, 0)) (h (11, 1)) (fun _ => 0) (up (fun _ => 0) 0 1) = rh h (h (11, 0)) (h (11, 1)) (fun _ => 0) (fun X => iv X 0) := by
        unfold rh
        congr 1
      rw [e4]
      exact kk
  obtain ⟨r1, us1, ct1, a1, a2⟩ := c_headLeads (d := d + 3) (h := h) (f0 := h (11, 0)) (f1 := h (11, 1)) hw hb hg0
  have noStr : ∀ {r : Nat} {us ct cn : Nat → Nat}, PO (fun _ => 0) (fun X => iv X 0) cn (Str w) 0 us ct → (∃ u, Str w u) → (0 : Nat) = 1 := fun q ⟨u, hu⟩ => (q.2.2.2.2 u (fun c hc => absurd rfl hc) hu).1
  by_cases hr1 : r1 = 1
  · have p1 := p0.seq a2 (fun _ _ _ _ => trivial) strH hr1
    have h4l : w 4 < 64 := p1.2.2.1.2.2.1.2.1
    obtain ⟨r2, us2, ct2, b1, b2⟩ := c_countLeads (d := d + 3) (h := h) (f0 := h (11, 0)) (f1 := h (11, 1)) hw hb h4l p1.1
    by_cases hr2 : r2 = 1
    · have p2 := p1.seq b2 (fun a b h1 h2 => ⟨trivial, moH a b h1 h2.2⟩) strK hr2
      obtain ⟨r3, us3, ct3, c1, c2⟩ := c_listLeads (d := d) (h := h) (f0 := h (11, 0)) (f1 := h (11, 1)) hw hb g2.2 g5 (fun e => (p1.2.2.1.2.2.2 (fun e2 => e (g6.mp e2))).2.1) p2.1
      by_cases hr3 : r3 = 1
      · have p3 := p2.seq c2 (fun a b h1 h2 => ⟨⟨trivial, moH a b h1 h2.1.2⟩, moK a b h1 h2.2⟩) strS hr3
        have h3l : w 3 < 64 := p1.2.2.1.2.1.2.1
        obtain ⟨r4, us4, ct4, e1, e2⟩ := c_tableLeads (d := d + 1) (h := h) (f0 := h (11, 0)) (f1 := h (11, 1)) hw hb g2.2 h3l p3.1
        have head : ∀ x, Rn (d + 5) MX2_areLeadsRight 70 [some (vR (2, 0)), some (vR (0, 3)), some (vI (nI 64))] [vI (nI r4)] (rh h (h (11, 0)) (h (11, 1)) us4 ct4) x (rh h (h (11, 0)) (h (11, 1)) us4 ct4) → Cl (d + 5) MX2_areLeadsRight [vR (2, 0), vR (0, 3)] h x (rh h (h (11, 0)) (h (11, 1)) us4 ct4) := fun x kk => by
          refine init _ _ ?_
          refine rnN 2 rfl ?_
          refine rnK rfl (a1) ?_
          rw [hr1]
          refine rnN 3 rfl ?_
          refine rnK rfl (b1) ?_
          rw [hr2]
          refine rnN 3 rfl ?_
          refine rnK rfl (c1) ?_
          rw [hr3]
          refine rnN 6 rfl ?_
          refine rnK rfl (c_hd (hw3 us3 ct3) (show 3 < 8 by decide)) ?_
          refine rnK rfl (e1) ?_
          exact kk
        by_cases hr4 : r4 = 1
        · have p4 := p3.seq e2 (fun a b h1 h2 => ⟨⟨⟨trivial, moH a b h1 h2.1.1.2⟩, moK a b h1 h2.1.2⟩, moS a b h1 h2.2⟩) strT hr4
          obtain ⟨⟨⟨⟨-, oH⟩, oK⟩, oS⟩, oT⟩ := p4.2.2.1
          have hS : Str w us4 := by
            refine ⟨g2, oH.1, oH.2.1, ⟨g5, fun e e2 => e (g6.mp e2)⟩, fun e => (oH.2.2 e).2, fun k hk h0 => (oK k hk h0).2, fun j hj => (oS j hj).1, fun t ht i hi => ?_⟩
            rcases ht with rfl | ⟨j, hj, rfl⟩
            · exact oT i hi
            · exact (oS j hj).2 i hi
          have hT : ∀ X, ct4 X = T w X := fun X => by
            have e9 : ct4 X = iv X 0 + (0 + (iv (w 3) X + iv (w 4) X + if w 6 = 0 then 0 else iv (w 6) X) + kc w X + (sm (w 5) fun j => tc w X (tab w j)) + tl w X (w 3)) := p4.2.2.2.1 X
            unfold T
            rw [e9, tc_tl w X (w 3)]
            omega
          refine ⟨1, us4, ct4, by decide, head _ ?_, fun _ => ⟨hS, hT, fun c hc => by rw [← hT]; exact p4.1.2.2 c hc, p4.1.1, p4.1.2.1⟩, fun _ => rfl⟩
          rw [hr4]
          refine rnN 3 rfl ?_
          exact rnR rfl
        · have hr0 : r4 = 0 := by have := e2.le1; omega
          refine ⟨0, us4, ct4, by decide, head _ ?_, fun e => absurd e (by decide), noStr (r := 0) (p3.seqF e2 strT hr0 (cn' := fun _ => 0))⟩
          rw [hr0]
          refine rnN 2 rfl ?_
          exact rnR rfl
      · have hr0 : r3 = 0 := by have := c2.le1; omega
        refine ⟨0, us3, ct3, by decide, init _ _ ?_, fun e => absurd e (by decide), noStr (r := 0) (p2.seqF c2 strS hr0 (cn' := fun _ => 0))⟩
        refine rnN 2 rfl ?_
        refine rnK rfl (a1) ?_
        rw [hr1]
        refine rnN 3 rfl ?_
        refine rnK rfl (b1) ?_
        rw [hr2]
        refine rnN 3 rfl ?_
        refine rnK rfl (c1) ?_
        rw [hr0]
        refine rnN 2 rfl ?_
        exact rnR rfl
    · have hr0 : r2 = 0 := by have := b2.le1; omega
      refine ⟨0, us2, ct2, by decide, init _ _ ?_, fun e => absurd e (by decide), noStr (r := 0) (p1.seqF b2 strK hr0 (cn' := fun _ => 0))⟩
      refine rnN 2 rfl ?_
      refine rnK rfl (a1) ?_
      rw [hr1]
      refine rnN 3 rfl ?_
      refine rnK rfl (b1) ?_
      rw [hr0]
      refine rnN 2 rfl ?_
      exact rnR rfl
  · have hr0 : r1 = 0 := by have := a2.le1; omega
    refine ⟨0, us1, ct1, by decide, init _ _ ?_, fun e => absurd e (by decide), noStr (r := 0) (p0.seqF a2 strH hr0 (cn' := fun _ => 0))⟩
    refine rnN 2 rfl ?_
    refine rnK rfl (a1) ?_
    rw [hr0]
    refine rnN 2 rfl ?_
    exact rnR rfl
end RF
