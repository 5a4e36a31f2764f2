section GL
variable {ζ : Nat → Nat} {x m : gS} {B : Nat}
theorem paZ_b {t b j : Nat} (hI : zI ζ) (hb : b < ζ 4) (hj : j < 5) : bd (paZ ζ t) b j = bd ζ b j := by
  have := hI.nb
  unfold bd
  exact paZ_o (by omega) (by omega) (by omega) (by omega)
theorem fat_bit (hI : zI ζ) {g b : Nat} (hb : b < ζ 4) : (fat ζ g).testBit b = (frB ζ g b && atB ζ b (gh ζ g 0)) := by
  unfold fat
  rw [touch_one hb, fre_frB, decide_eq_true hb, Bool.true_and]
end GL
