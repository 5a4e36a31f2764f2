section YU
variable {ζ : Nat → Nat} {σ : gS}
/-! one of the law's rows is written -/
theorem bw_up {K v b : Nat} (h : ∀ j, j < 4 → K ≠ 6 + 5 * b + j) : bw (upN ζ K v) b = bw ζ b := by
  unfold bw bd
  rw [upN_ne (Ne.symm (h 0 (by decide))), upN_ne (Ne.symm (h 1 (by decide))), upN_ne (Ne.symm (h 2 (by decide))), upN_ne (Ne.symm (h 3 (by decide)))]
theorem yU_t (h : yL ζ σ) {k v : Nat} (hk : k < 4) : yL (upN ζ k v) (up2 σ 306 k (nI v)) := by
  obtain ⟨h1, h2, h3, h4⟩ := h
  unfold yL
  rw [upN_ne (show 4 ≠ k by omega), upN_ne (show 5 ≠ k by omega)]
  refine ⟨fun i hi => ?_, fun b hb => ?_, fun g hg j hj => ?_, fun s hs j hj => ?_⟩
  · by_cases e : i = k
    · subst e
      rw [up2_eq, upN_eq]
    · rw [up2_k e, upN_ne e, h1 i hi]
  · rw [up2_c (by decide), up2_c (by decide), bw_up (fun j hj => by omega)]
    unfold bd
    rw [upN_ne (by omega)]
    exact h2 b hb
  · rw [up2_c (by decide)]
    unfold gh
    rw [upN_ne (by omega)]
    exact h3 g hg j hj
  · rw [up2_c (by decide)]
    unfold sl
    rw [upN_ne (by omega)]
    exact h4 s hs j hj
theorem yU_c (hI : zI ζ) (h : yL ζ σ) {b v : Nat} (hb : b < 20) : yL (upN ζ (6 + 5 * b + 4) v) (up2 σ 303 b (nI v)) := by
  have hn := hI.nb
  obtain ⟨h1, h2, h3, h4⟩ := h
  unfold yL
  rw [upN_ne (show 4 ≠ 6 + 5 * b + 4 by omega), upN_ne (show 5 ≠ 6 + 5 * b + 4 by omega)]
  refine ⟨fun i hi => ?_, fun b' hb' => ?_, fun g hg j hj => ?_, fun s hs j hj => ?_⟩
  · rw [up2_c (by decide), upN_ne (by omega), h1 i hi]
  · rw [up2_c (by decide), bw_up (fun j hj => by omega)]
    refine ⟨(h2 b' hb').1, ?_⟩
    unfold bd
    by_cases e : b' = b
    · subst e
      rw [up2_eq, upN_eq]
    · rw [up2_k e, upN_ne (by omega)]
      exact (h2 b' hb').2
  · rw [up2_c (by decide)]
    unfold gh
    rw [upN_ne (by omega)]
    exact h3 g hg j hj
  · rw [up2_c (by decide)]
    unfold sl
    rw [upN_ne (by omega)]
    exact h4 s hs j hj
theorem yU_g (hI : zI ζ) (h : yL ζ σ) {g j v i : Nat} (hg : g < 4) (hj : j < 3) (hi : i = g + 4 * j) : yL (upN ζ (106 + 3 * g + j) v) (up2 σ 304 i (nI v)) := by
  have hn := hI.nb
  subst hi
  obtain ⟨h1, h2, h3, h4⟩ := h
  unfold yL
  rw [upN_ne (show 4 ≠ 106 + 3 * g + j by omega), upN_ne (show 5 ≠ 106 + 3 * g + j by omega)]
  refine ⟨fun i hi => ?_, fun b' hb' => ?_, fun g' hg' j' hj' => ?_, fun s hs j' hj' => ?_⟩
  · rw [up2_c (by decide), upN_ne (by omega), h1 i hi]
  · rw [up2_c (by decide), up2_c (by decide), bw_up (fun j hj => by omega)]
    unfold bd
    rw [upN_ne (by omega)]
    exact h2 b' hb'
  · unfold gh
    by_cases e : g' = g ∧ j' = j
    · obtain ⟨rfl, rfl⟩ := e
      rw [up2_eq, upN_eq]
    · rw [up2_k (by omega), upN_ne (by omega)]
      exact h3 g' hg' j' hj'
  · rw [up2_c (by decide)]
    unfold sl
    rw [upN_ne (by omega)]
    exact h4 s hs j' hj'
theorem yU_s (hI : zI ζ) (h : yL ζ σ) {s j v i : Nat} (hs : s < 5) (hj : j < 4) (hi : i = s + 5 * j) : yL (upN ζ (118 + 4 * s + j) v) (up2 σ 305 i (nI v)) := by
  have hn := hI.nb
  have hns := hI.ns
  subst hi
  obtain ⟨h1, h2, h3, h4⟩ := h
  unfold yL
  rw [upN_ne (show 4 ≠ 118 + 4 * s + j by omega), upN_ne (show 5 ≠ 118 + 4 * s + j by omega)]
  refine ⟨fun i hi => ?_, fun b' hb' => ?_, fun g' hg' j' hj' => ?_, fun s' hs' j' hj' => ?_⟩
  · rw [up2_c (by decide), upN_ne (by omega), h1 i hi]
  · rw [up2_c (by decide), up2_c (by decide), bw_up (fun j hj => by omega)]
    unfold bd
    rw [upN_ne (by omega)]
    exact h2 b' hb'
  · rw [up2_c (by decide)]
    unfold gh
    rw [upN_ne (by omega)]
    exact h3 g' hg' j' hj'
  · unfold sl
    by_cases e : s' = s ∧ j' = j
    · obtain ⟨rfl, rfl⟩ := e
      rw [up2_eq, upN_eq]
    · rw [up2_k (by omega), upN_ne (by omega)]
      exact h4 s' hs' j' hj'
end YU
