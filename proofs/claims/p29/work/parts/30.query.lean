theorem i10 : ¬ (1 : Int32) = 0 := by decide
section QY
variable {ζ : Nat → Nat} {x m : gS}
theorem eqX.rf : eqX x x := fun _ _ => rfl
/-- is there such a board, such a sleeper -/
theorem within_less (p : Int32) {n : Nat} (hn : n < 2 ^ 31) (x : gS) : (f_X10_isWithin p 0 (nI n - 1) x = some (0, x) ∧ (p < 0 ∨ nI n ≤ p)) ∨ ∃ k, k < n ∧ p = nI k ∧ f_X10_isWithin p 0 (nI n - 1) x = some (1, x) := by
  unfold f_X10_isWithin
  rcases pk_ix p hn with h | h | ⟨k, hk, rfl⟩
  · rw [if_pos h]; exact Or.inl ⟨rfl, Or.inl h⟩
  · refine Or.inl ⟨?_, Or.inr h⟩
    by_cases h0 : p < 0
    · rw [if_pos h0]
    · rw [if_neg h0, if_pos]
      obtain ⟨j, hj, rfl⟩ := nI_of h0
      rw [n_le hn hj] at h
      by_cases hn0 : n = 0
      · subst hn0
        have : nI 0 - 1 < 0 := by decide
        exact Int32.lt_of_lt_of_le this (nI_pos' hj)
      · rw [show (1 : Int32) = nI 1 from rfl, pk_sub (by omega)]
        exact nI_lt (by omega) hj
  · refine Or.inr ⟨k, hk, rfl, ?_⟩
    rw [if_neg (nI_pos (by omega)), show (1 : Int32) = nI 1 from rfl, pk_sub (by omega), if_neg (nI_nlt (by omega) (by omega))]
/-- an argument that is in its range -/
theorem x_in {k lo hi : Nat} (h1 : lo ≤ k) (h2 : k ≤ hi) (hh : hi < 2 ^ 31) (x : gS) : f_X10_isWithin (nI k) (nI lo) (nI hi) x = some (1, x) := by
  unfold f_X10_isWithin
  rw [if_neg (nI_nlt h1 (by omega)), if_neg (nI_nlt h2 hh)]
theorem x_room {r : Nat} (hr : r < 10) (x : gS) : f_X10_isRoom (nI r) x = some (1, x) := by
  unfold f_X10_isRoom
  rw [show (0 : Int32) = nI 0 from rfl, show (9 : Int32) = nI 9 from rfl, x_in (Nat.zero_le _) (by omega) (by decide), ob_some]
  rfl
theorem x_ghost {g : Nat} (hg : g < 4) (x : gS) : f_X10_isGhost (nI g) x = some (1, x) := by
  unfold f_X10_isGhost
  rw [show (0 : Int32) = nI 0 from rfl, show (3 : Int32) = nI 3 from rfl, x_in (Nat.zero_le _) (by omega) (by decide), ob_some]
  rfl
theorem x_has (hx : cX ζ x 1) (hI : zI ζ) {b : Nat} (hb : b < ζ 4) : f_X1_has (nI b) x = some (1, x) := by
  have hn := hI.nb
  unfold f_X1_has
  rw [x_nb hx, show (0 : Int32) = nI 0 from rfl, show (1 : Int32) = nI 1 from rfl, pk_sub (by omega), x_in (Nat.zero_le _) (by omega) (by omega), ob_some]
  rfl
theorem x_hasno (hx : cX ζ x 1) (hI : zI ζ) : f_X1_has (nI (ζ 4)) x = some (0, x) := by
  have hn := hI.nb
  unfold f_X1_has
  rw [x_nb hx]
  rcases within_less (nI (ζ 4)) (n := ζ 4) (by omega) x with ⟨h, -⟩ | ⟨k, hk, h, -⟩
  · rw [h, ob_some]
    rfl
  · exact absurd ((nI_eq (by omega) (by omega)).mp h) (by omega)
theorem x_hasS (hx : cX ζ x 1) (hI : zI ζ) {s : Nat} (hs : s < ζ 5) : f_X7_has (nI s) x = some (1, x) := by
  have hn := hI.ns
  unfold f_X7_has
  rw [x_ns hx, show (0 : Int32) = nI 0 from rfl, show (1 : Int32) = nI 1 from rfl, pk_sub (by omega), x_in (Nat.zero_le _) (by omega) (by omega), ob_some]
  rfl
end QY
