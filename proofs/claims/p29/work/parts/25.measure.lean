section MS2
variable {ζ : Nat → Nat} {σ : gS}
/-- how far a room is from t, by the boards of E, with the cost of kind w -/
def dst (ζ : Nat → Nat) (E w t r : Nat) : Nat := gD (ζ 4) (fun b => E.testBit b) (zlo ζ) (zhi ζ) (cst ζ w) t 9 r
theorem dst_le (ζ : Nat → Nat) (E w t r : Nat) : dst ζ E w t r ≤ gINF := gD_le 9 r
/-- how loud a board is to somebody in a room -/
def ldn (ζ : Nat → Nat) (b t : Nat) : Nat := bd ζ b 2 - min (dst ζ (2 ^ ζ 4 - 1) 0 t (bd ζ b 0)) (dst ζ (2 ^ ζ 4 - 1) 0 t (bd ζ b 1))
/-- the rooms that come to -/
def rea (ζ : Nat → Nat) (E t : Nat) : Nat := mk (fun r => decide (dst ζ E 0 t r < gINF)) 10
end MS2
