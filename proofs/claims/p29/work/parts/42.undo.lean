section UN
variable {ζ : Nat → Nat} {x m : gS} {B : Nat}
/-- the attic is kept at cell b of the class -/
theorem x_keep35 (hI : zI ζ) (hx : cX ζ x 1) {N : Nat} (hN : N < 6) : ∃ x', f_X6_keep_37 (nI N) x = some x' ∧ (∀ j, (j < 39 + 32 * N ∨ 39 + 32 * N + 32 ≤ j) → x' j = x j) ∧ cX ζ x' (39 + 32 * N) := by
  obtain ⟨x', h1, h2, h3⟩ := x_copy (b := 39 + 32 * N) (b2 := 1) (by omega) x
  refine ⟨x', ?_, h2, h3 ζ hI hx⟩
  unfold f_X6_keep_37 f_X6_has_37
  rw [if_neg (nI_pos (by omega)), if_neg (show ¬ (6 : Int32) ≤ nI N from nI_ge (b := 6) hN (by decide)), gin_nI hN (by decide), gGd_t, ob_some]
  dsimp only
  rw [if_neg i10, gGd_t, gil_nI (by omega), h1]
  rfl
theorem x_keep217 (hI : zI ζ) (hx : cX ζ x 1) {N : Nat} (hN : N < 2) : ∃ x', f_X6_keep_231 (nI N) x = some x' ∧ (∀ j, (j < 233 + 32 * N ∨ 233 + 32 * N + 32 ≤ j) → x' j = x j) ∧ cX ζ x' (233 + 32 * N) := by
  obtain ⟨x', h1, h2, h3⟩ := x_copy (b := 233 + 32 * N) (b2 := 1) (by omega) x
  refine ⟨x', ?_, h2, h3 ζ hI hx⟩
  unfold f_X6_keep_231 f_X6_has_231
  rw [if_neg (nI_pos (by omega)), if_neg (show ¬ (2 : Int32) ≤ nI N from nI_ge (b := 2) hN (by decide)), gin_nI hN (by decide), gGd_t, ob_some]
  dsimp only
  rw [if_neg i10, gGd_t, gil_nI (by omega), h1]
  rfl
end UN
