/-- the history of the class may be written further -/
def hX (x : gS) : Prop := ∃ K N : Nat, K ≤ 6 ∧ N < 6 ∧ x 36 2 = nI K ∧ x 36 1 = nI N
