/-! ===== the start: both side by side ===== -/
theorem SI_0 {n : Nat} {f : Nat → Int32} (h1 : 1 ≤ n) (h2 : n ≤ 64) : SI 0 (fun _ => newF n) (fun _ => fmU) (mh (hI0 n) f (pf (fun _ => 0) 0 (newF n))) := by
  have ef : fmW (fun _ => 0) n = newF n := by
    funext p
    unfold fmW
    by_cases e : p < 512
    · rw [if_pos e]
    · rw [if_neg e, newF_0 (by omega)]
  obtain ⟨hI, hfl⟩ := fm_inv (w := fun _ => 0) h1 h2 (fun _ => by decide)
  rw [ef] at hI hfl
  refine ⟨by decide, fun j hj => ?_, fun j hj => by omega, fun j p => ?_, ?_, ?_, ⟨_, mh_12, fun j p hj hp => ?_⟩, fun p hp => ?_⟩
  · rw [show j = 0 by omega, mh_o (by decide) (by decide)]
    exact ⟨rfl, hI, hfl, fun _ => rfl⟩
  · rcases newF_cases n p with e | e
    · show newF n p < _
      omega
    · show newF n p < _
      omega
  · rw [mh_o (by decide) (by decide)]
    rfl
  · rw [mh_o (by decide) (by decide)]
    rfl
  · rw [show j = 0 by omega, pf_at hp]
  · rw [mh_o (by decide) (by decide), mh_o (by decide) (by decide)]
    rfl
