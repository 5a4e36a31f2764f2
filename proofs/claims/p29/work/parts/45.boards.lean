section BO
variable {ζ : Nat → Nat} {x m : gS} {B : Nat}
def loN (a b : Nat) : Nat := if b < a then b else a
def hiN (a b : Nat) : Nat := if a < b then b else a
/-- one board more -/
def layZ (ζ : Nat → Nat) (a b c d : Nat) : Nat → Nat := upN (upN (upN (upN (upN (upN ζ (6 + 5 * ζ 4) (loN a b)) (6 + 5 * ζ 4 + 1) (hiN a b)) (6 + 5 * ζ 4 + 2) c) (6 + 5 * ζ 4 + 3) d) (6 + 5 * ζ 4 + 4) 0) 4 (ζ 4 + 1)
theorem layZ_n {a b c d K : Nat} (h1 : K ≠ 4) (h2 : K < 6 + 5 * ζ 4 ∨ 6 + 5 * ζ 4 + 5 ≤ K) : layZ ζ a b c d K = ζ K := by
  unfold layZ
  rw [upN_ne h1, upN_ne (by omega), upN_ne (by omega), upN_ne (by omega), upN_ne (by omega), upN_ne (by omega)]
theorem layZ_4 {a b c d : Nat} : layZ ζ a b c d 4 = ζ 4 + 1 := upN_eq
theorem layZ_I (hI : zI ζ) (h4 : ζ 4 < 20) {a b c d : Nat} (ha : a < 10) (hb : b < 10) (hab : a ≠ b) (hc : 1 ≤ c ∧ c ≤ 9) (hd : 1 ≤ d ∧ d ≤ 9) : zI (layZ ζ a b c d) := by
  obtain ⟨i1, i2, i3, i4, i5, i6, i7⟩ := hI
  refine ⟨by rw [layZ_4]; omega, by rw [layZ_n (by decide) (by omega)]; exact i2, by rw [layZ_n (by decide) (by omega)]; exact i3, by rw [layZ_n (by decide) (by omega)]; exact i4, fun k hk => ?_, fun g hg => ?_, fun s hs => ?_⟩
  · rw [layZ_4] at hk
    unfold bd
    by_cases hq : k = ζ 4
    · subst hq
      have q0 : layZ ζ a b c d (6 + 5 * ζ 4 + 0) = loN a b := by
        unfold layZ
        rw [upN_ne (by omega), upN_ne (by omega), upN_ne (by omega), upN_ne (by omega), upN_ne (by omega)]
        exact upN_eq
      have q1 : layZ ζ a b c d (6 + 5 * ζ 4 + 1) = hiN a b := by
        unfold layZ
        rw [upN_ne (by omega), upN_ne (by omega), upN_ne (by omega), upN_ne (by omega)]
        exact upN_eq
      have q2 : layZ ζ a b c d (6 + 5 * ζ 4 + 2) = c := by
        unfold layZ
        rw [upN_ne (by omega), upN_ne (by omega), upN_ne (by omega)]
        exact upN_eq
      have q3 : layZ ζ a b c d (6 + 5 * ζ 4 + 3) = d := by
        unfold layZ
        rw [upN_ne (by omega), upN_ne (by omega)]
        exact upN_eq
      rw [q0, q1, q2, q3]
      unfold loN hiN
      by_cases h : a < b
      · rw [if_pos h, if_neg (by omega)]
        exact ⟨h, hb, hc, hd⟩
      · rw [if_neg h, if_pos (by omega)]
        exact ⟨by omega, ha, hc, hd⟩
    · have := i5 k (by omega)
      unfold bd at this
      rw [layZ_n (by omega) (by omega), layZ_n (by omega) (by omega), layZ_n (by omega) (by omega), layZ_n (by omega) (by omega)]
      exact this
  · have := i6 g hg
    unfold gh at this ⊢
    rw [layZ_4, layZ_n (by omega) (by omega), layZ_n (by omega) (by omega)]
    exact ⟨this.1, Nat.lt_of_lt_of_le this.2 (Nat.pow_le_pow_right (by decide) (by omega))⟩
  · rw [layZ_n (by decide) (by omega)] at hs
    have := i7 s hs
    unfold sl at this ⊢
    rw [layZ_n (by omega) (by omega), layZ_n (by omega) (by omega), layZ_n (by omega) (by omega)]
    exact this
/-- the row of both rooms is none of the places -/
theorem cP_skip {P : Nat → Prop} (h : cP P ζ x) {i : Nat} {w : Int32} : cP P ζ (up2 x (9 + 1) i w) := by
  intro L hL hP
  rw [up2_c (show 1 + locR L ≠ 9 + 1 by have := loc_ne9 L hL; omega)]
  exact h L hL hP
theorem layZ_r {a b c d : Nat} : layZ ζ a b c d (6 + 5 * ζ 4 + 0) = loN a b ∧ layZ ζ a b c d (6 + 5 * ζ 4 + 1) = hiN a b := by
  unfold layZ
  constructor
  · rw [upN_ne (by omega), upN_ne (by omega), upN_ne (by omega), upN_ne (by omega), upN_ne (by omega)]
    exact upN_eq
  · rw [upN_ne (by omega), upN_ne (by omega), upN_ne (by omega), upN_ne (by omega)]
    exact upN_eq
theorem ends_lay {a b c d : Nat} : ends (layZ ζ a b c d) (ζ 4) = 2 ^ a ||| 2 ^ b := by
  unfold ends bd
  rw [layZ_r.1, layZ_r.2]
  unfold loN hiN
  by_cases h : a < b
  · rw [if_neg (by omega), if_pos h]
  · by_cases h2 : b < a
    · rw [if_pos h2, if_neg h, Nat.or_comm]
    · rw [if_neg h2, if_neg h, show a = b by omega]
theorem x_app1 (hI : zI ζ) (hx : cX ζ x 1) (h4 : ζ 4 < 20) {a b c d : Nat} (ha : a < 10) (hb : b < 10) (hab : a ≠ b) (hc : 1 ≤ c ∧ c ≤ 9) (hd : 1 ≤ d ∧ d ≤ 9) : ∃ x', f_X1_append (nI a) (nI b) (nI c) (nI d) x = some x' ∧ cX (layZ ζ a b c d) x' 1 ∧ atX x x' := by
  have hl : ∀ j, j < 5 → locR (6 + 5 * ζ 4 + j) = 5 + 2 * j + 2 * ((j + 2) / 4) ∧ locI (6 + 5 * ζ 4 + j) = ζ 4 := fun j hj => loc_b _ h4 j hj
  have e4 : x 4 0 = nI (ζ 4) := x_nb hx
  have elo : (if nI b < nI a then nI b else nI a) = nI (loN a b) := by
    unfold loN
    by_cases h : b < a
    · rw [if_pos h, if_pos (nI_lt h (by omega))]
    · rw [if_neg h, if_neg (nI_nlt (by omega) (by omega))]
  have ehi : (if nI a < nI b then nI b else nI a) = nI (hiN a b) := by
    unfold hiN
    by_cases h : a < b
    · rw [if_pos h, if_pos (nI_lt h (by omega))]
    · rw [if_neg h, if_neg (nI_nlt (by omega) (by omega))]
  have een : ((1 : Int32) <<< (nI a &&& 31)) ||| ((1 : Int32) <<< (nI b &&& 31)) = nI (2 ^ a ||| 2 ^ b) := by rw [shl1 a (by omega), shl1 b (by omega), n_or]
  unfold f_X1_append
  rw [if_pos (show x 4 0 < 20 by rw [e4]; exact nI_lt (b := 20) h4 (by decide)), elo, ehi, een, e4, store_nI h4 (by decide), ob_some, up2_c (show 4 ≠ 5 + 1 by decide), e4, store_nI h4 (by decide), ob_some, up2_c (show 4 ≠ 7 + 1 by decide), up2_c (show 4 ≠ 5 + 1 by decide), e4, store_nI h4 (by decide), ob_some, up2_c (show 4 ≠ 9 + 1 by decide), up2_c (show 4 ≠ 7 + 1 by decide), up2_c (show 4 ≠ 5 + 1 by decide), e4, store_nI h4 (by decide), ob_some, up2_c (show 4 ≠ 11 + 1 by decide), up2_c (show 4 ≠ 9 + 1 by decide), up2_c (show 4 ≠ 7 + 1 by decide), up2_c (show 4 ≠ 5 + 1 by decide), e4, store_nI h4 (by decide), ob_some, up2_c (show 4 ≠ 13 + 1 by decide), up2_c (show 4 ≠ 11 + 1 by decide), up2_c (show 4 ≠ 9 + 1 by decide), up2_c (show 4 ≠ 7 + 1 by decide), up2_c (show 4 ≠ 5 + 1 by decide), e4, store_nI h4 (by decide), ob_some, gLet_eq, up2_c (show 4 ≠ 15 + 1 by decide), up2_c (show 4 ≠ 13 + 1 by decide), up2_c (show 4 ≠ 11 + 1 by decide), up2_c (show 4 ≠ 9 + 1 by decide), up2_c (show 4 ≠ 7 + 1 by decide), up2_c (show 4 ≠ 5 + 1 by decide), e4, nI_1]
  have c1 := cP_up (cP_of hI hx) (K := 6 + 5 * ζ 4) (v := loN a b) (r := 5 + 1) (i := ζ 4) (by omega) (by have := (hl 0 (by decide)).1; rw [Nat.add_zero] at this; rw [this]) (by have := (hl 0 (by decide)).2; rw [Nat.add_zero] at this; rw [this])
  have c2 := cP_up c1 (K := 6 + 5 * ζ 4 + 1) (v := hiN a b) (r := 7 + 1) (i := ζ 4) (by omega) (by rw [(hl 1 (by decide)).1]) (by rw [(hl 1 (by decide)).2])
  have c2 := cP_skip c2 (i := ζ 4) (w := nI (2 ^ a ||| 2 ^ b))
  have c3 := cP_up c2 (K := 6 + 5 * ζ 4 + 2) (v := c) (r := 11 + 1) (i := ζ 4) (by omega) (by rw [(hl 2 (by decide)).1]) (by rw [(hl 2 (by decide)).2])
  have c4 := cP_up c3 (K := 6 + 5 * ζ 4 + 3) (v := d) (r := 13 + 1) (i := ζ 4) (by omega) (by rw [(hl 3 (by decide)).1]) (by rw [(hl 3 (by decide)).2])
  have c5 := cP_up c4 (K := 6 + 5 * ζ 4 + 4) (v := 0) (r := 15 + 1) (i := ζ 4) (by omega) (by rw [(hl 4 (by decide)).1]) (by rw [(hl 4 (by decide)).2])
  have c6 := cP_up c5 (K := 4) (v := ζ 4 + 1) (r := 4) (i := 0) (by decide) (by rfl) (by rfl)
  have hz5 : layZ ζ a b c d 5 = ζ 5 := layZ_n (by decide) (by omega)
  refine ⟨_, rfl, cP_to (layZ_I hI h4 ha hb hab hc hd) c6 (fun K hK hlv => ?_) (fun k hk => ?_), ((((((atX_up (by decide) (by decide)).tr (atX_up (by decide) (by decide))).tr (atX_up (by decide) (by decide))).tr (atX_up (by decide) (by decide))).tr (atX_up (by decide) (by decide))).tr (atX_up (by decide) (by decide))).tr (atX_up (by decide) (by decide))⟩
  · rw [layZ_4, hz5] at hlv
    unfold liv at hlv ⊢
    omega
  · rw [layZ_4] at hk
    rw [up2_c (show 1 + 9 ≠ 4 by decide), up2_c (show 1 + 9 ≠ 15 + 1 by decide), up2_c (show 1 + 9 ≠ 13 + 1 by decide), up2_c (show 1 + 9 ≠ 11 + 1 by decide)]
    by_cases hq : k = ζ 4
    · subst hq
      rw [ends_lay]
      exact up2_eq
    · have e9 := cX_eL hx k (by omega)
      have e10 : ends (layZ ζ a b c d) k = ends ζ k := by
        unfold ends bd
        rw [layZ_n (by omega) (by omega), layZ_n (by omega) (by omega)]
      rw [e10, ← e9]
      refine (up2_k hq).trans ?_
      rw [up2_c (show 9 + 1 ≠ 7 + 1 by decide), up2_c (show 9 + 1 ≠ 5 + 1 by decide)]
end BO
