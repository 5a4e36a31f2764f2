section GO
variable {ζ : Nat → Nat} {x m : gS} {B : Nat}
theorem frB_fat (hI : zI ζ) {g b r : Nat} (hb : b < ζ 4) (hr : gh ζ g 0 = r) (ha : atB ζ b r = true) : (fat ζ g).testBit b = frB ζ g b := by
  rw [fat_bit hI hb, hr, ha, Bool.and_true]
end GO
