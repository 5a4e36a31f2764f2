theorem i10 : ¬ (1 : Int32) = 0 := by decide
section QY
variable {ζ : Nat → Nat} {x m : gS}
theorem eqX.rf : eqX x x := fun _ _ => rfl
/-- is there such a board, such a sleeper -/
theorem within_less (p : Int32) {n : Nat} (hn : n < 2 ^ 31) (x : gS) : (f_X10_isWithin p 0 (nI n - 1) x = some (0, x) ∧ (p < 0 ∨ nI n ≤ p)) ∨ ∃ k, k < n ∧ p = nI k ∧ f_X10_isWithin p 0 (nI n - 1) x = some (1, x) := by
  unfold f_X10_isWithin
  rcases pk_ix p hn with h | h | ⟨k, hk, rfl⟩
  · rw [if_pos h]; exact Or.inl ⟨rfl, Or.inl h⟩
  · refine Or.inl ⟨?_, Or.inr h⟩
    by_cases h0 : p < 0
    · rw [if_pos h0]
    · rw [if_neg h0, if_pos]
      obtain ⟨j, hj, rfl⟩ := nI_of h0
      rw [n_le hn hj] at h
      by_cases hn0 : n = 0
      · subst hn0
        have : nI 0 - 1 < 0 := by decide
        exact Int32.lt_of_lt_of_le this (nI_pos' hj)
      · rw [show (1 : Int32) = nI 1 from rfl, pk_sub (by omega)]
        exact nI_lt (by omega) hj
  · refine Or.inr ⟨k, hk, rfl, ?_⟩
    rw [if_neg (nI_pos (by omega)), show (1 : Int32) = nI 1 from rfl, pk_sub (by omega), if_neg (nI_nlt (by omega) (by omega))]
end QY
