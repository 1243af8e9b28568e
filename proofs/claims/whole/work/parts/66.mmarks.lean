/-! ===== the reference's reader: marks, the rest ===== -/
section MMk
variable {d : Nat} {h : xH} {w M us : Nat → Nat} {f : Nat → Int32}
def MW (w : Nat → Nat) (t i : Nat) : Prop := mk w (w (8 * t + i)) = w (8 * t + i) ∧ (w (8 * t + i) ≠ 0 → ∀ j, j < 8 → mk w (w (8 * (w (8 * t + i) / 4) + j)) = w (8 * (w (8 * t + i) / 4) + j))
def MT (w : Nat → Nat) (t : Nat) : Prop := ∀ i, i < 8 → MW w t i
theorem tb_tbn {t : Nat} (ht : TB w t) : ∃ n, n ≤ w 5 ∧ t = tbn w n := by
  rcases ht with e | ⟨j, hj, e⟩
  · exact ⟨0, Nat.zero_le _, e⟩
  · exact ⟨j + 1, hj, e⟩
theorem FR_iff (hs : Str w us) (h0 : us 0 = 0) (hz : ∀ c, 1 ≤ c → (us c = 0 ↔ T w c = 0)) : (∀ m, m < w 5 + 1 → MT w (tbn w m)) ↔ FR w us := by
  constructor
  · intro q c hc hT j hj
    have hc1 : 1 ≤ c := by
      refine Classical.byContradiction fun e => ?_
      have e2 : c = 0 := by omega
      rw [e2] at hT
      unfold TL at hT
      omega
    have hTc : T w c ≠ 0 := fun e => by
      have := (hz c hc1).mpr e
      unfold TL at hT
      omega
    rcases TL_role hs hc1 hT hTc with z | ⟨t, i, z1, z2, z3, z4⟩
    · obtain ⟨n, hn, e⟩ := tb_tbn z
      have := (q n (by omega) j hj).1
      rwa [← e] at this
    · obtain ⟨n, hn, e⟩ := tb_tbn z1
      have := (q n (by omega) i z2).2
      rw [← e] at this
      rw [z4]
      exact this (by omega) j hj
  · intro q m hm i hi
    have ht := tbn_tb (w := w) (n := m) (by omega)
    have h1 := hs.tb ht
    refine ⟨q _ h1.2.1 (by unfold TL; omega) i hi, fun hx j hj => ?_⟩
    have h2 := (hs.tw ht hi).resolve_left hx
    have hp := h2.1.pos
    exact q _ hp.2 (by unfold TL; omega) j hj
theorem z01 {a : Nat} {C : Prop} (h : a ≤ 1) (e : a = 1 ↔ C) (n : ¬ C) : a = 0 := by
  have : a ≠ 1 := fun q => n (e.mp q)
  omega
theorem m_marksRight (hw : h (12, 0) = E (pf M 3 w)) (hc : h (14, 0) = cf f (T w)) (hs : Str w us) (h0 : us 0 = 0) (hz : ∀ c, 1 ≤ c → (us c = 0 ↔ T w c = 0)) : ∃ r, r ≤ 1 ∧ Cl (d + 2) MX4_marksRight [vR (4, 0)] h (some (vI (nI r))) h ∧ (r = 1 ↔ FR w us) := by
  have h6 := hs.l6
  have h5 := hs.ns.1
  -- one word's test
  have wd : ∀ (x k g : Nat), x < 256 → g ≤ 1 → ∃ g', g' ≤ 1 ∧ (g' = 1 ↔ (g = 1 ∧ mk w x = x)) := fun x k g hx hg => ⟨if g = 1 ∧ mk w x = x then 1 else 0, by split <;> decide, by split <;> simp_all⟩
  have go := lpN (w 5 + 1) (fun n => ∀ g (o3 o4 o5 o6 o7 : Option xV), g ≤ 1 → (g = 1 ↔ ∀ m, m < n → MT w (tbn w m)) → ∃ r, r ≤ 1 ∧ Rn (d + 2) MX4_marksRight 4 [some (vR (4, 0)), some (vI (nI g)), some (vI (jm n)), o3, o4, o5, o6, o7] [] h (some (vI (nI r))) h ∧ (r = 1 ↔ FR w us)) (fun n hn K => ?_) ?_
  · obtain ⟨r, q1, q2, q3⟩ := go 1 none none none none none (by decide) ⟨fun _ c hc => by omega, fun _ => rfl⟩
    refine ⟨r, q1, ?_, q3⟩
    refine rnN 4 rfl ?_
    exact q2
  · intro g o3 o4 o5 o6 o7 hg hgi
    obtain ⟨t, htd⟩ : ∃ t, t = tbn w n := ⟨_, rfl⟩
    have ht : TB w t := by rw [htd]; exact tbn_tb (by omega)
    have ht1 := hs.tb ht
    have go2 := lpN 8 (fun i => ∀ g (o5 o6 o7 : Option xV), g ≤ 1 → (g = 1 ↔ ((∀ m, m < n → MT w (tbn w m)) ∧ ∀ i', i' < i → MW w t i')) → ∃ r, r ≤ 1 ∧ Rn (d + 2) MX4_marksRight 23 [some (vR (4, 0)), some (vI (nI g)), some (vI (jm n)), some (vI (nI (512 * 3 + 8 * t))), some (vI (nI i)), o5, o6, o7] [] h (some (vI (nI r))) h ∧ (r = 1 ↔ FR w us)) (fun i hi K2 => ?_) ?_
    · obtain ⟨r, q1, q2, q3⟩ := go2 g o5 o6 o7 hg ⟨fun e => ⟨hgi.mp e, fun i' hi' => by omega⟩, fun e => hgi.mpr e.1⟩
      refine ⟨r, q1, ?_, q3⟩
      refine rnN 3 rfl ?_
      refine rnK rfl (m_snapshots hw (by decide)) ?_
      refine rnT (jm_lt hn (by omega)) rfl ?_
      refine rnN 3 rfl ?_
      refine rnK rfl (m_table hw (by decide) h6 (by omega)) ?_
      rw [← htd]
      refine rnN 3 rfl ?_
      exact q2
    · intro g o5 o6 o7 hg hgi
      obtain ⟨x, hxd⟩ : ∃ x, x = w (8 * t + i) := ⟨_, rfl⟩
      have hxl := hs.tw ht hi
      rw [← hxd] at hxl
      have hx : x < 256 := hxl.lt
      have hmx := mk_lt (w := w) hx
      obtain ⟨g', hg1, hg2⟩ := wd x 0 g hx hg
      have pre : ∀ r, Rn (d + 2) MX4_marksRight 65 [some (vR (4, 0)), some (vI (nI g')), some (vI (jm n)), some (vI (nI (512 * 3 + 8 * t))), some (vI (nI i)), some (vI (nI x)), some (vI (nI 0)), o7] [] h (some (vI (nI r))) h → Rn (d + 2) MX4_marksRight 23 [some (vR (4, 0)), some (vI (nI g)), some (vI (jm n)), some (vI (nI (512 * 3 + 8 * t))), some (vI (nI i)), o5, o6, o7] [] h (some (vI (nI r))) h := fun r kk => by
        refine rnN 2 rfl ?_
        refine rnT (nI_lt hi (by decide)) rfl ?_
        refine rnN 5 rfl ?_
        simp (disch := omega) only [nI_add, pk_mul, pk_sub, nd8, nd4, nsub8, nand63, nand7, nshr2, nI_clamp, E_at, hup_at, hup_hup]
        refine rnC (inN (show 512 * 3 + 8 * t + i < 2048 by omega) (by decide)) rfl ?_
        simp (disch := omega) only [nI_add, pk_mul, pk_sub, nd8, nd4, nsub8, nand63, nand7, nshr2, nI_clamp, E_at, hup_at, hup_hup]
        rw [h_rd hw (show 8 * t + i < 512 by omega) (by omega), ← hxd]
        refine rnN 2 rfl ?_
        rcases (show g = 0 ∨ g = 1 by omega) with e | e
        · rw [z01 hg1 hg2 (fun q => by omega)] at kk
          rw [e]
          refine rnN 1 rfl ?_
          refine rnN 1 rfl ?_
          refine rnN 3 rfl ?_
          exact kk
        · rw [e]
          refine rnN 1 rfl ?_
          refine rnN 3 rfl ?_
          refine rnK rfl (m_marked hc h5 hx) ?_
          by_cases e2 : mk w x = x
          · rw [hg2.mpr ⟨e, e2⟩] at kk
            refine rnT ((show nI x = nI (mk w x) by rw [e2])) rfl ?_
            refine rnN 2 rfl ?_
            refine rnN 3 rfl ?_
            exact kk
          · rw [show g' = 0 by have : g' ≠ 1 := fun q => e2 (hg2.mp q).2; omega] at kk
            refine rnF ((fun q => e2 ((neqS (by omega) (by omega)).mp q).symm)) rfl ?_
            refine rnN 1 rfl ?_
            refine rnN 3 rfl ?_
            exact kk
      by_cases x0 : x = 0
      · obtain ⟨r, q1, q2, q3⟩ := K2 g' (some (vI (nI x))) (some (vI (nI 0))) o7 hg1 (hg2.trans ⟨fun q => ⟨(hgi.mp q.1).1, fun i' hi' => by
          by_cases e : i' = i
          · rw [e]
            unfold MW
            rw [← hxd]
            exact ⟨q.2, fun e => absurd x0 e⟩
          · exact (hgi.mp q.1).2 i' (by omega)⟩, fun q => ⟨hgi.mpr ⟨q.1, fun i' hi' => q.2 i' (by omega)⟩, by have := (q.2 i (by omega)).1; rwa [← hxd] at this⟩⟩)
        refine ⟨r, q1, pre r ?_, q3⟩
        refine rnN 3 rfl ?_
        refine rnN 1 rfl ?_
        refine rnT ((show nI x = 0 by rw [x0]; rfl)) rfl ?_
        refine rnN 2 rfl ?_
        simp (disch := omega) only [nI_add, pk_mul, pk_sub, nd8, nd4, nsub8, nand63, nand7, nshr2, nI_clamp, E_at, hup_at, hup_hup]
        exact q2
      · have hL := (hxl.resolve_left x0).1
        have hLp := hL.pos
        have go3 := lpN 8 (fun j => ∀ y (o7 : Option xV), y ≤ 1 → (y = 1 ↔ (g' = 1 ∧ ∀ j', j' < j → mk w (w (8 * (x / 4) + j')) = w (8 * (x / 4) + j'))) → ∃ r, r ≤ 1 ∧ Rn (d + 2) MX4_marksRight 65 [some (vR (4, 0)), some (vI (nI y)), some (vI (jm n)), some (vI (nI (512 * 3 + 8 * t))), some (vI (nI i)), some (vI (nI x)), some (vI (nI j)), o7] [] h (some (vI (nI r))) h ∧ (r = 1 ↔ FR w us)) (fun j hj K3 => ?_) ?_
        · obtain ⟨r, q1, q2, q3⟩ := go3 g' o7 hg1 ⟨fun e => ⟨e, fun j' hj' => by omega⟩, fun e => e.1⟩
          exact ⟨r, q1, pre r q2, q3⟩
        · intro y o7 hy hyi
          obtain ⟨z, hzd⟩ : ∃ z, z = w (8 * (x / 4) + j) := ⟨_, rfl⟩
          have hz256 : z < 256 := by
            have := (hs.lOK ht hi (by rw [← hxd]; omega) j hj).1
            rw [← hxd] at this
            omega
          have hmz := mk_lt (w := w) hz256
          obtain ⟨y', hy1, hy2⟩ := wd z 0 y hz256 hy
          obtain ⟨r, q1, q2, q3⟩ := K3 y' (some (vI (nI z))) hy1 (hy2.trans ⟨fun q => ⟨(hyi.mp q.1).1, fun j' hj' => by
            by_cases e : j' = j
            · rw [e, ← hzd]; exact q.2
            · exact (hyi.mp q.1).2 j' (by omega)⟩, fun q => ⟨hyi.mpr ⟨q.1, fun j' hj' => q.2 j' (by omega)⟩, by have := q.2 j (by omega); rwa [← hzd] at this⟩⟩)
          refine ⟨r, q1, ?_, q3⟩
          refine rnN 2 rfl ?_
          refine rnT (nI_lt hj (by decide)) rfl ?_
          refine rnN 1 rfl ?_
          refine rnF ((fun q => x0 ((neq0S (by omega)).mp q))) rfl ?_
          refine rnN 6 rfl ?_
          simp (disch := omega) only [nI_add, pk_mul, pk_sub, nd8, nd4, nsub8, nand63, nand7, nshr2, nI_clamp, E_at, hup_at, hup_hup]
          refine rnK rfl (m_at) ?_
          refine rnN 2 rfl ?_
          simp (disch := omega) only [nI_add, pk_mul, pk_sub, nd8, nd4, nsub8, nand63, nand7, nshr2, nI_clamp, E_at, hup_at, hup_hup]
          refine rnC (inN (show 512 * 3 + 8 * (x / 4) + j < 2048 by omega) (by decide)) rfl ?_
          simp (disch := omega) only [nI_add, pk_mul, pk_sub, nd8, nd4, nsub8, nand63, nand7, nshr2, nI_clamp, E_at, hup_at, hup_hup]
          rw [h_rd hw (show 8 * (x / 4) + j < 512 by omega) (by omega), ← hzd]
          refine rnN 2 rfl ?_
          rcases (show y = 0 ∨ y = 1 by omega) with e | e
          · rw [z01 hy1 hy2 (fun q => by omega)] at q2
            rw [e]
            refine rnN 1 rfl ?_
            refine rnN 1 rfl ?_
            refine rnN 3 rfl ?_
            simp (disch := omega) only [nI_add, pk_mul, pk_sub, nd8, nd4, nsub8, nand63, nand7, nshr2, nI_clamp, E_at, hup_at, hup_hup]
            exact q2
          · rw [e]
            refine rnN 1 rfl ?_
            refine rnN 3 rfl ?_
            refine rnK rfl (m_marked hc h5 hz256) ?_
            by_cases e2 : mk w z = z
            · rw [hy2.mpr ⟨e, e2⟩] at q2
              refine rnT ((show nI z = nI (mk w z) by rw [e2])) rfl ?_
              refine rnN 2 rfl ?_
              refine rnN 3 rfl ?_
              simp (disch := omega) only [nI_add, pk_mul, pk_sub, nd8, nd4, nsub8, nand63, nand7, nshr2, nI_clamp, E_at, hup_at, hup_hup]
              exact q2
            · rw [show y' = 0 by have : y' ≠ 1 := fun q => e2 (hy2.mp q).2; omega] at q2
              refine rnF ((fun q => e2 ((neqS (by omega) (by omega)).mp q).symm)) rfl ?_
              refine rnN 1 rfl ?_
              refine rnN 3 rfl ?_
              simp (disch := omega) only [nI_add, pk_mul, pk_sub, nd8, nd4, nsub8, nand63, nand7, nshr2, nI_clamp, E_at, hup_at, hup_hup]
              exact q2
        · intro y o7 hy hyi
          obtain ⟨r, q1, q2, q3⟩ := K2 y (some (vI (nI x))) (some (vI (nI 8))) o7 hy (hyi.trans ⟨fun q => ⟨(hgi.mp (hg2.mp q.1).1).1, fun i' hi' => by
            by_cases e : i' = i
            · rw [e]
              unfold MW
              rw [← hxd]
              exact ⟨(hg2.mp q.1).2, fun _ => q.2⟩
            · exact (hgi.mp (hg2.mp q.1).1).2 i' (by omega)⟩, fun q => by
              have z := q.2 i (by omega)
              unfold MW at z
              rw [← hxd] at z
              exact ⟨hg2.mpr ⟨hgi.mpr ⟨q.1, fun i' hi' => q.2 i' (by omega)⟩, z.1⟩, z.2 x0⟩⟩)
          refine ⟨r, q1, ?_, q3⟩
          refine rnN 3 rfl ?_
          refine rnN 2 rfl ?_
          simp (disch := omega) only [nI_add, pk_mul, pk_sub, nd8, nd4, nsub8, nand63, nand7, nshr2, nI_clamp, E_at, hup_at, hup_hup]
          exact q2
    · intro g o5 o6 o7 hg hgi
      obtain ⟨r, q1, q2, q3⟩ := K g (some (vI (nI (512 * 3 + 8 * t)))) (some (vI (nI 8))) o5 o6 o7 hg (hgi.trans ⟨fun q m hm => by
        by_cases e : m = n
        · rw [e, ← htd]; exact q.2
        · exact q.1 m (by omega), fun q => ⟨fun m hm => q m (by omega), by have := q n (by omega); rwa [← htd] at this⟩⟩)
      refine ⟨r, q1, ?_, q3⟩
      refine rnN 3 rfl ?_
      refine rnN 2 rfl ?_
      simp only [jm_succ]
      exact q2
  · intro g o3 o4 o5 o6 o7 hg hgi
    refine ⟨g, hg, ?_, hgi.trans (FR_iff hs h0 hz)⟩
    refine rnN 3 rfl ?_
    refine rnK rfl (m_snapshots hw (by decide)) ?_
    refine rnF (jm_nlt (by omega)) rfl ?_
    rcases (show g = 0 ∨ g = 1 by omega) with e | e
    · rw [e]
      refine rnN 1 rfl ?_
      exact rnR rfl
    · rw [e]
      refine rnN 1 rfl ?_
      exact rnR rfl
theorem m_restRight (hw : h (12, 0) = E (pf M 3 w)) (hb : ∀ p, w p < 4294967296) (hu : h (14, 1) = cf f fun c => mu (us c)) (hu88 : ∀ c, us c < 88) (hz : ∀ c, 1 ≤ c → (us c = 0 ↔ T w c = 0)) : ∃ r, r ≤ 1 ∧ Cl d MX4_restRight [vR (4, 0)] h (some (vI (nI r))) h ∧ (r = 1 ↔ BR w) := by
  have go := lpN 504 (fun n => ∀ g, g ≤ 1 → (g = 1 ↔ ∀ p, p < n → (us ((8 + p) / 8) ≠ 0 ∨ w (8 + p) = 0)) → ∃ r, r ≤ 1 ∧ Rn d MX4_restRight 5 [some (vR (4, 0)), some (vI (nI g)), some (vI (nI (8 + n)))] [] h (some (vI (nI r))) h ∧ (r = 1 ↔ BR w)) (fun n hn K => ?_) ?_
  · obtain ⟨r, q1, q2, q3⟩ := go 1 (by decide) ⟨fun _ c hc => by omega, fun _ => rfl⟩
    refine ⟨r, q1, ?_, q3⟩
    refine rnN 4 rfl ?_
    exact q2
  · intro g hg hgi
    obtain ⟨c, hcd⟩ : ∃ c, c = (8 + n) / 8 := ⟨_, rfl⟩
    have hc64 : c < 64 := by omega
    have hm0 := mu_0 (hu88 c)
    have hml := mu_lt (hu88 c)
    obtain ⟨g', hg1, hg2⟩ : ∃ g', g' ≤ 1 ∧ (g' = 1 ↔ (g = 1 ∧ (us c ≠ 0 ∨ w (8 + n) = 0))) := ⟨if g = 1 ∧ (us c ≠ 0 ∨ w (8 + n) = 0) then 1 else 0, by split <;> decide, by split <;> simp_all⟩
    obtain ⟨r, q1, q2, q3⟩ := K g' hg1 (hg2.trans ⟨fun q p hp => by
      by_cases e : p = n
      · rw [e, ← hcd]; exact q.2
      · exact hgi.mp q.1 p (by omega), fun q => ⟨hgi.mpr fun p hp => q p (by omega), by have := q n (by omega); rwa [← hcd] at this⟩⟩)
    refine ⟨r, q1, ?_, q3⟩
    refine rnN 2 rfl ?_
    refine rnT (nI_lt (show 8 + n < 512 by omega) (by decide)) rfl ?_
    rcases (show g = 0 ∨ g = 1 by omega) with e | e
    · rw [z01 hg1 hg2 (fun q => by omega)] at q2
      rw [e]
      refine rnN 2 rfl ?_
      refine rnN 1 rfl ?_
      refine rnN 3 rfl ?_
      simp (disch := omega) only [nI_add, pk_mul, pk_sub, nd8, nd4, nsub8, nand63, nand7, nshr2, nI_clamp, E_at, hup_at, hup_hup]
      exact q2
    · rw [e]
      refine rnN 2 rfl ?_
      refine rnN 5 rfl ?_
      simp (disch := omega) only [nI_add, pk_mul, pk_sub, nd8, nd4, nsub8, nand63, nand7, nshr2, nI_clamp, E_at, hup_at, hup_hup]
      rw [← hcd]
      refine rnC (inN hc64 (by decide)) rfl ?_
      simp (disch := omega) only [nI_clamp, hu, cf_at]
      by_cases e2 : us c = 0
      · have e3 := hm0.mpr e2
        refine rnT ((show nI (mu (us c)) = 0 by rw [e3]; rfl)) rfl ?_
        refine rnN 5 rfl ?_
        simp (disch := omega) only [nI_add, pk_mul, pk_sub, nd8, nd4, nsub8, nand63, nand7, nshr2, nI_clamp, E_at, hup_at, hup_hup]
        refine rnC (inN (show 1536 + (8 + n) < 2048 by omega) (by decide)) rfl ?_
        simp (disch := omega) only [nI_add, pk_mul, pk_sub, nd8, nd4, nsub8, nand63, nand7, nshr2, nI_clamp, E_at, hup_at, hup_hup]
        rw [h_rd hw (show 8 + n < 512 by omega) (by omega)]
        by_cases e4 : w (8 + n) = 0
        · rw [hg2.mpr ⟨e, Or.inr e4⟩] at q2
          refine rnT ((show nI (w (8 + n)) = 0 by rw [e4]; rfl)) rfl ?_
          refine rnN 2 rfl ?_
          refine rnN 3 rfl ?_
          simp (disch := omega) only [nI_add, pk_mul, pk_sub, nd8, nd4, nsub8, nand63, nand7, nshr2, nI_clamp, E_at, hup_at, hup_hup]
          exact q2
        · rw [z01 hg1 hg2 (fun q => q.2.elim (fun z => z e2) e4)] at q2
          refine rnF ((fun q => e4 ((neq0S (hb _)).mp q))) rfl ?_
          refine rnN 1 rfl ?_
          refine rnN 3 rfl ?_
          simp (disch := omega) only [nI_add, pk_mul, pk_sub, nd8, nd4, nsub8, nand63, nand7, nshr2, nI_clamp, E_at, hup_at, hup_hup]
          exact q2
      · rw [hg2.mpr ⟨e, Or.inl e2⟩] at q2
        refine rnF (nI_ne0 (Nat.pos_of_ne_zero fun q => e2 (hm0.mp q)) (by omega)) rfl ?_
        refine rnN 2 rfl ?_
        refine rnN 3 rfl ?_
        simp (disch := omega) only [nI_add, pk_mul, pk_sub, nd8, nd4, nsub8, nand63, nand7, nshr2, nI_clamp, E_at, hup_at, hup_hup]
        exact q2
  · intro g hg hgi
    refine ⟨g, hg, ?_, hgi.trans ⟨fun q c hc1 hc2 hT j hj => ?_, fun q p hp => ?_⟩⟩
    · refine rnN 3 rfl ?_
      rcases (show g = 0 ∨ g = 1 by omega) with e | e
      · rw [e]
        refine rnN 1 rfl ?_
        exact rnR rfl
      · rw [e]
        refine rnN 1 rfl ?_
        exact rnR rfl
    · have z := q (8 * c + j - 8) (by omega)
      rw [show 8 + (8 * c + j - 8) = 8 * c + j by omega, show (8 * c + j) / 8 = c by omega] at z
      exact z.resolve_left fun e => e ((hz c hc1).mpr hT)
    · by_cases e : us ((8 + p) / 8) = 0
      · have z := q ((8 + p) / 8) (by omega) (by omega) ((hz _ (by omega)).mp e) ((8 + p) % 8) (by omega)
        rw [show 8 * ((8 + p) / 8) + (8 + p) % 8 = 8 + p by omega] at z
        exact Or.inr z
      · exact Or.inl e
end MMk
