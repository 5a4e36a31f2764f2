section CR
variable {ζ : Nat → Nat} {x m : gS} {B : Nat}
/-- only what a creak may change -/
def crZ (ζ ξ : Nat → Nat) : Prop := (∀ K, K < 118 → (∀ b, K ≠ 6 + 5 * b + 4) → ξ K = ζ K) ∧ (∀ K, 106 ≤ K → K < 118 → ξ K = ζ K) ∧ ∀ s, s < 5 → sl ξ s 0 = sl ζ s 0 ∧ sl ξ s 1 = sl ζ s 1
theorem upN_same {K : Nat} : upN ζ K (ζ K) = ζ := by
  funext L
  unfold upN
  by_cases h : L = K
  · rw [if_pos h, h]
  · rw [if_neg h]
theorem cX_up {K v r i : Nat} (hI : zI ζ) (hI' : zI (upN ζ K v)) (hx : cX ζ x 1) (hK : K < 138) (h4 : K ≠ 4) (h5 : K ≠ 5) (hr : r = 1 + locR K) (hi : i = locI K) (hb : ∀ k, k < 20 → K ≠ 6 + 5 * k ∧ K ≠ 6 + 5 * k + 1) : cX (upN ζ K v) (up2 x r i (nI v)) 1 :=
  cP_to hI' (cP_up (cP_of hI hx) hK hr hi) (fun L hL hl => Or.inl (by rwa [upN_ne (Ne.symm h4), upN_ne (Ne.symm h5)] at hl)) (eL_up hI (cX_eL hx) h4 hb (by have := loc_ne9 K hK; omega))
end CR
