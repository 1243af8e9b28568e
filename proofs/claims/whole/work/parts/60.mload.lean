/-! ===== the reference's reader: leads ===== -/
/-- the reference's uses and whether all fits -/
def lh (h : xH) (f : Nat → Int32) (us : Nat → Nat) (F : Nat) : xH := hup (hup h (14, 1) (cf f fun c => mu (us c))) (4, 0) (upd (h (4, 0)) 5 (nI F))
/-- a walk that goes on: F tells whether all fits so far -/
def QW (us0 ct0 : Nat → Nat) (F0 : Nat) (cn : Nat → Nat) (okn ok : (Nat → Nat) → Prop) (F : Nat) (us ct : Nat → Nat) : Prop := gd us ct ∧ le us0 us ∧ F ≤ 1 ∧ (F = 1 → F0 = 1 ∧ okn us ∧ ∀ X, ct X = ct0 X + cn X) ∧ ∀ u, F0 = 1 → le us0 u → ok u → F = 1 ∧ le us u
def okF (y a : Nat) (u : Nat → Nat) : Prop := LD y ∧ u (y / 4) = a
section ML
variable {d l t F F' F0 : Nat} {h : xH} {f : Nat → Int32} {us ct us' ct' us0 ct0 cn cn2 u v w M : Nat → Nat} {okn ok ok2 : (Nat → Nat) → Prop} {r : Nat}
theorem lh_14 : lh h f us F (14, 1) = cf f fun c => mu (us c) := by
  unfold lh
  rw [hup_ne (by decide), hup_at]
theorem lh_F : lh h f us F (4, 0) 5 = nI F := by
  unfold lh
  rw [hup_at]
  exact if_pos rfl
theorem lh_o {q : xP} (h1 : q ≠ (14, 1)) (h2 : q ≠ (4, 0)) : lh h f us F q = h q := by
  unfold lh
  rw [hup_ne h2, hup_ne h1]
theorem lhpt {c a : Nat} (hc : c < 64) : hpt (lh h f us F) (14, 1) c (nI (mu a)) = lh h f (up us c a) F := by
  unfold hpt
  rw [lh_14]
  have e : upd (cf f fun c => mu (us c)) c (nI (mu a)) = cf f fun x => mu (up us c a x) := by
    funext x
    simp only [upd, cf, up]
    by_cases e : x = c
    · rw [if_pos e, if_pos (by omega), if_pos e]
    · rw [if_neg e, if_neg e]
  rw [e]
  funext q
  unfold lh hup
  by_cases h1 : q = (14, 1)
  · subst h1; rfl
  · simp only [if_neg h1]
theorem lhptF {F' : Nat} : hpt (lh h f us F) (4, 0) 5 (nI F') = lh h f us F' := by
  unfold hpt lh
  rw [hup_at, hup_hup]
  congr 1
  funext i
  simp only [upd]
  split <;> rfl
theorem QW.start (hg : gd us ct) (hF : F ≤ 1) : QW us ct F (fun _ => 0) (fun _ => True) ok F us ct := ⟨hg, le_refl' _, hF, fun e => ⟨e, trivial, fun X => rfl⟩, fun u e h _ => ⟨e, h⟩⟩
theorem QW.seq (p : QW us0 ct0 F0 cn okn ok F us ct) (q : QW us ct F cn2 ok2 ok2 F' us' ct') (hm : mo okn) (h2 : ∀ u, ok u → ok2 u) : QW us0 ct0 F0 (fun X => cn X + cn2 X) (fun u => okn u ∧ ok2 u) ok F' us' ct' := by
  obtain ⟨p1, p2, p3, p4, p5⟩ := p
  obtain ⟨q1, q2, q3, q4, q5⟩ := q
  refine ⟨q1, le_trans' p2 q2, q3, fun e => ?_, fun u e1 e2 e3 => ?_⟩
  · obtain ⟨a1, a2, a3⟩ := q4 e
    obtain ⟨b1, b2, b3⟩ := p4 a1
    refine ⟨b1, ⟨hm _ _ q2 b2, a2⟩, fun X => ?_⟩
    have := a3 X
    have := b3 X
    show ct' X = ct0 X + (cn X + cn2 X)
    omega
  · obtain ⟨a1, a2⟩ := p5 u e1 e2 e3
    exact q5 u a1 a2 (h2 u e3)
/-- a test joins in -/
theorem QW.test {c : Prop} [Decidable c] (p : QW us0 ct0 F0 cn okn ok F us ct) (h2 : ∀ u, ok u → c) : QW us0 ct0 F0 cn (fun u => okn u ∧ c) ok (if F = 1 ∧ c then 1 else 0) us ct := by
  obtain ⟨p1, p2, p3, p4, p5⟩ := p
  refine ⟨p1, p2, by split <;> decide, fun e => ?_, fun u e1 e2 e3 => ?_⟩
  · by_cases z : F = 1 ∧ c
    · obtain ⟨b1, b2, b3⟩ := p4 z.1
      exact ⟨b1, ⟨b2, z.2⟩, b3⟩
    · rw [if_neg z] at e
      exact absurd e (by decide)
  · obtain ⟨a1, a2⟩ := p5 u e1 e2 e3
    exact ⟨if_pos ⟨a1, h2 u e3⟩, a2⟩
theorem QW.chg {okn' : (Nat → Nat) → Prop} (p : QW us0 ct0 F0 cn okn ok F us ct) (e : ∀ X, cn X = cn2 X) (ho : ∀ u, okn u → okn' u) : QW us0 ct0 F0 cn2 okn' ok F us ct := by
  have e2 : cn = cn2 := funext e
  rw [← e2]
  exact ⟨p.1, p.2.1, p.2.2.1, fun z => ⟨(p.2.2.2.1 z).1, ho _ (p.2.2.2.1 z).2.1, (p.2.2.2.1 z).2.2⟩, p.2.2.2.2⟩
theorem m_lead {x a : Nat} {v0 : Int32} (hx : x < 4294967296) (hv : v0 = nI x) (hg : gd us ct) (hF : F ≤ 1) (ha : a < 88) (ha0 : a ≠ 0) : ∃ r F' us' ct', r ≤ 1 ∧ Cl d MX4_lead [vR (4, 0), vI v0, vI (nI (mu a))] (lh h f us F) (some (vI (nI r))) (lh h f us' F') ∧ QW us ct F (fun X => iv x X) (okC x a) (okC x a) F' us' ct' ∧ (r = 1 → 1 ≤ x ∧ x < 64) ∧ (r = 0 → F' = 0) := by
  rw [hv]
  have hma := mu_lt ha
  have bad : ∀ x0 : Nat, Rn d MX4_lead 30 [some (vR (4, 0)), some (vI (nI x)), some (vI (nI (mu a)))] [] (lh h f us F) (some (vI (nI 0))) (lh h f us 0) := fun _ => by
    refine rnN 3 rfl ?_
    simp only [lhptF]
    refine rnN 1 rfl ?_
    exact rnR rfl
  have badQ : (¬ (1 ≤ x ∧ x < 64) ∨ (us x ≠ 0 ∧ us x ≠ a)) → QW us ct F (fun X => iv x X) (okC x a) (okC x a) 0 us ct := fun z => by
    refine ⟨hg, le_refl' _, by decide, fun e => absurd e (by decide), fun u e1 e2 e3 => ?_⟩
    exfalso
    rcases z with z | z
    · exact z ⟨e3.1, e3.2.1⟩
    · have := e2 x z.1
      have := e3.2.2
      omega
  by_cases h1 : nI x < nI 1
  · have h1' := (nltS hx (by decide)).mp h1
    refine ⟨0, 0, us, ct, by decide, ?_, badQ (Or.inl (by omega)), fun e => absurd e (by decide), fun _ => rfl⟩
    refine rnN 2 rfl ?_
    refine rnT (h1) rfl ?_
    exact bad 0
  · have h1' : ¬ (x < 1 ∨ 2147483648 ≤ x) := fun e => h1 ((nltS hx (by decide)).mpr e)
    by_cases h2 : nI 63 < nI x
    · have h2' := (ngtS hx (by decide)).mp h2
      refine ⟨0, 0, us, ct, by decide, ?_, badQ (Or.inl (by omega)), fun e => absurd e (by decide), fun _ => rfl⟩
      refine rnN 2 rfl ?_
      refine rnF (h1) rfl ?_
      refine rnN 2 rfl ?_
      refine rnT (h2) rfl ?_
      exact bad 0
    · have hx64 : x < 64 := by
        refine Classical.byContradiction fun e => h2 ((ngtS hx (by decide)).mpr (by omega))
      have hx1 : 1 ≤ x := by omega
      have hub := hg.1 x
      have hml := mu_lt hub
      have good : (us x = 0 ∨ us x = a) → QW us ct F (fun X => iv x X) (okC x a) (okC x a) F (up us x a) (fun X => ct X + iv x X) := fun z => by
        obtain ⟨g1, g2, g3⟩ := gd_claim hg hx1 ha ha0 z
        exact ⟨g1, g2, hF, fun e => ⟨e, ⟨hx1, hx64, up_at⟩, fun X => rfl⟩, fun u e1 e2 e3 => ⟨e1, g3 u e2 e3.2.2⟩⟩
      have tail : Rn d MX4_lead 37 [some (vR (4, 0)), some (vI (nI x)), some (vI (nI (mu a)))] [] (lh h f us F) (some (vI (nI 1))) (lh h f (up us x a) F) := by
        refine rnN 4 rfl ?_
        refine rnC (inN hx64 (by decide)) rfl ?_
        simp (disch := omega) only [nI_clamp, lhpt]
        refine rnN 1 rfl ?_
        exact rnR rfl
      by_cases h3 : us x = 0
      · refine ⟨1, F, _, _, by decide, ?_, good (Or.inl h3), fun _ => ⟨hx1, hx64⟩, fun e => absurd e (by decide)⟩
        refine rnN 2 rfl ?_
        refine rnF (h1) rfl ?_
        refine rnN 2 rfl ?_
        refine rnF (h2) rfl ?_
        refine rnN 3 rfl ?_
        refine rnC (inN hx64 (by decide)) rfl ?_
        simp (disch := omega) only [nI_clamp, lh_14, cf_at]
        rw [h3, show mu 0 = 0 from rfl]
        refine rnN 1 rfl ?_
        exact tail
      · have h3m : ¬ mu (us x) = 0 := fun e => h3 ((mu_0 hub).mp e)
        by_cases h4 : us x = a
        · refine ⟨1, F, _, _, by decide, ?_, good (Or.inr h4), fun _ => ⟨hx1, hx64⟩, fun e => absurd e (by decide)⟩
          refine rnN 2 rfl ?_
          refine rnF (h1) rfl ?_
          refine rnN 2 rfl ?_
          refine rnF (h2) rfl ?_
          refine rnN 3 rfl ?_
          refine rnC (inN hx64 (by decide)) rfl ?_
          simp (disch := omega) only [nI_clamp, lh_14, cf_at]
          refine rnF (nI_ne0 (Nat.pos_of_ne_zero h3m) (by omega)) rfl ?_
          refine rnN 3 rfl ?_
          refine rnC (inN hx64 (by decide)) rfl ?_
          simp (disch := omega) only [nI_clamp, lh_14, cf_at]
          refine rnN 1 rfl ?_
          refine rnT ((show nI (mu (us x)) = nI (mu a) by rw [h4])) rfl ?_
          exact tail
        · refine ⟨0, 0, us, ct, by decide, ?_, badQ (Or.inr ⟨h3, h4⟩), fun e => absurd e (by decide), fun _ => rfl⟩
          refine rnN 2 rfl ?_
          refine rnF (h1) rfl ?_
          refine rnN 2 rfl ?_
          refine rnF (h2) rfl ?_
          refine rnN 3 rfl ?_
          refine rnC (inN hx64 (by decide)) rfl ?_
          simp (disch := omega) only [nI_clamp, lh_14, cf_at]
          refine rnF (nI_ne0 (Nat.pos_of_ne_zero h3m) (by omega)) rfl ?_
          refine rnN 3 rfl ?_
          refine rnC (inN hx64 (by decide)) rfl ?_
          simp (disch := omega) only [nI_clamp, lh_14, cf_at]
          refine rnN 1 rfl ?_
          refine rnF ((fun e => h4 (mu_inj hub ha ((neq (by omega) (by omega)).mp e)))) rfl ?_
          exact bad 0
theorem m_follow {y a : Nat} (hy : y < 4294967296) (hg : gd us ct) (hF : F ≤ 1) (ha : a < 88) (ha0 : a ≠ 0) : ∃ r F' us' ct', r ≤ 1 ∧ Cl (d + 1) MX4_follow [vR (4, 0), vI (nI y), vI (nI (mu a))] (lh h f us F) (some (vI (nI r))) (lh h f us' F') ∧ QW us ct F (fun X => iv (y / 4) X) (okF y a) (okF y a) F' us' ct' ∧ (r = 1 → LD y) ∧ (r = 0 → F' = 0) := by
  by_cases hm : y % 4 ≤ 1
  · obtain ⟨v0, e1, e2, e3⟩ := nshrS hy
    obtain ⟨x, hx, hxv, hxy⟩ : ∃ x, x < 4294967296 ∧ v0 = nI x ∧ ((x = y / 4 ∧ y < 2147483648) ∨ (2147483648 ≤ x ∧ 2147483648 ≤ y)) := by
      by_cases hyl : y < 2147483648
      · exact ⟨y / 4, by omega, e2 hyl, Or.inl ⟨rfl, hyl⟩⟩
      · refine ⟨tn v0, tn_lt _, (nI_tn v0).symm, Or.inr ⟨?_, by omega⟩⟩
        have h1 := e3 (by omega)
        rw [← nI_tn v0] at h1
        exact (nlt0S (tn_lt _)).mp h1
    obtain ⟨r, F', us', ct', a1, a2, a3, a4, a5⟩ := m_lead (d := d) (h := h) (f := f) hx hxv hg hF ha ha0
    have hLD : 1 ≤ x ∧ x < 64 → LD y ∧ x = y / 4 := fun z => by
      rcases hxy with ⟨q1, q2⟩ | ⟨q1, q2⟩
      · exact ⟨by unfold LD; omega, q1⟩
      · omega
    refine ⟨r, F', us', ct', a1, ?_, ⟨a3.1, a3.2.1, a3.2.2.1, fun e => ?_, fun u e1 e2 e3 => ?_⟩, fun e => (hLD (a4 e)).1, a5⟩
    · refine rnN 3 rfl ?_
      rw [nand3 hy]
      refine rnN 1 rfl ?_
      refine rnF (nI_nlt hm (by decide)) rfl ?_
      refine rnN 4 rfl ?_
      rw [e1]
      refine rnN 1 rfl ?_
      refine rnK rfl (a2) ?_
      rcases (show r = 0 ∨ r = 1 by omega) with e | e
      · rw [e]
        exact rnR rfl
      · rw [e]
        exact rnR rfl
    · obtain ⟨b1, b2, b3⟩ := a3.2.2.2.1 e
      obtain ⟨c1, c2⟩ := hLD ⟨b2.1, b2.2.1⟩
      rw [c2] at b2 b3
      exact ⟨b1, ⟨c1, b2.2.2⟩, b3⟩
    · have hp := e3.1.pos
      have hxe : x = y / 4 := by
        rcases hxy with ⟨q1, -⟩ | ⟨q1, q2⟩
        · exact q1
        · have := e3.1
          unfold LD at this
          omega
      exact a3.2.2.2.2 u e1 e2 (by rw [hxe]; exact ⟨hp.1, hp.2, e3.2⟩)
  · refine ⟨0, 0, us, ct, by decide, ?_, ⟨hg, le_refl' _, by decide, fun e => absurd e (by decide), fun u e1 e2 e3 => ?_⟩, fun e => absurd e (by decide), fun _ => rfl⟩
    · refine rnN 3 rfl ?_
      rw [nand3 hy]
      refine rnN 1 rfl ?_
      refine rnT (nI_lt (show 1 < y % 4 by omega) (by omega)) rfl ?_
      refine rnN 3 rfl ?_
      simp only [lhptF]
      refine rnN 1 rfl ?_
      exact rnR rfl
    · have := e3.1
      unfold LD at this
      omega
theorem mu_16 {k : Nat} (hk : k < 8) : mu (16 + k) = 10 + k := by
  unfold mu
  repeat' split
  all_goals omega
theorem mu_4 {j : Nat} (hj : j < 4) : mu (4 + j) = 20 + j := by
  unfold mu
  repeat' split
  all_goals omega
theorem mu_8 {i : Nat} (hi : i < 8) : mu (8 + i) = 100 + i := by
  unfold mu
  repeat' split
  all_goals omega
theorem mu_24 {b : Nat} (_ : b < 64) : mu (24 + b) = 200 + b := by
  unfold mu
  repeat' split
  all_goals omega
end ML
