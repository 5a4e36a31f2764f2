section GP
variable {ζ : Nat → Nat} {x m : gS}
theorem qui_bit {k b : Nat} : (qui ζ k).testBit b = (decide (b < ζ 4) && decide (bd ζ b 2 ≤ k)) := mk_bit
theorem rea_none {E r t : Nat} (hr : r < 10) (hE : ∀ b, b < ζ 4 → ¬ E.testBit b = true) : (rea ζ E r).testBit t = true ↔ t = r := by
  constructor
  · intro h
    exact cn_in (P := fun v => v = r) rfl (fun b x y he hp => absurd he.2.1 (hE b he.1)) t h
  · rintro rfl
    exact cn_rf hr
end GP
