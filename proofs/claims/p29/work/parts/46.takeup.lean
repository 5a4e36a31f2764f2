section TU
variable {ζ : Nat → Nat} {x m : gS} {B : Nat}
/-- boards crossed, behind the taking up of board b -/
def fgt (c b : Nat) : Nat := (c &&& (2 ^ b - 1)) ||| ((c >>> (b + 1)) <<< b)
theorem fgt_bit {c b i : Nat} : (fgt c b).testBit i = if i < b then c.testBit i else c.testBit (i + 1) := by
  unfold fgt
  rw [Nat.testBit_or, Nat.testBit_and, Nat.testBit_two_pow_sub_one, Nat.testBit_shiftLeft, Nat.testBit_shiftRight]
  by_cases h : i < b
  · rw [if_pos h, decide_eq_true h, decide_eq_false (show ¬ i ≥ b by omega)]
    simp
  · rw [if_neg h, decide_eq_false h, decide_eq_true (show i ≥ b by omega), show b + 1 + (i - b) = i + 1 by omega]
    simp
theorem fgt_lt {c b n : Nat} (hc : c < 2 ^ n) (hb : b < n) : fgt c b < 2 ^ (n - 1) := by
  apply Nat.lt_pow_two_of_testBit
  intro i hi
  rw [fgt_bit, if_neg (by omega)]
  exact bit_big hc (by omega)
theorem low_n {b : Nat} (hb : b < 31) : ((1 : Int32) <<< (nI b &&& 31)) - 1 = nI (2 ^ b - 1) := by rw [shl1 b (by omega), show (1 : Int32) = nI 1 from rfl, pk_sub (Nat.two_pow_pos b)]
theorem fgt_x {c b : Nat} (hc : c < 2 ^ 20) (hb : b < 20) : (nI c &&& nI (2 ^ b - 1)) ||| ((nI c >>> ((1 : Int32) &&& 31)) &&& (nI (2 ^ b - 1) ^^^ (-1))) = nI (fgt c b) := by
  have h2 : nI c >>> ((1 : Int32) &&& 31) = nI (c / 2 ^ 1) := pk_shrN (lt31 hc (by decide)) _ 1 (by decide)
  have hlt : c / 2 ^ 1 < 2 ^ 31 := Nat.lt_of_le_of_lt (Nat.div_le_self _ _) (lt31 hc (by decide))
  rw [h2, n_and, n_dif, n_or]
  congr 1
  apply bit_ext
  intro i
  rw [fgt_bit, Nat.testBit_or, Nat.testBit_and, Nat.testBit_two_pow_sub_one, dif_bit hlt, Nat.testBit_two_pow_sub_one, ← Nat.shiftRight_eq_div_pow, Nat.testBit_shiftRight, Nat.add_comm 1 i]
  by_cases h : i < b
  · rw [if_pos h, decide_eq_true h]
    simp
  · rw [if_neg h, decide_eq_false h]
    simp
theorem fgt_m {c b : Nat} (hc : c < 2 ^ 20) (hb : b < 20) : (nI c &&& nI (2 ^ b - 1)) ||| ((nI c >>> ((nI b + 1) &&& 31)) <<< (nI b &&& 31)) = nI (fgt c b) := by
  have hc31 := lt31 hc (by decide)
  have h2 : nI c >>> ((nI b + 1) &&& 31) = nI (c / 2 ^ (b + 1)) := by
    rw [nI_1]
    exact pk_shrN hc31 _ (b + 1) (sm31 _ (by omega))
  have hlt : c / 2 ^ (b + 1) * 2 ^ b < 2 ^ 32 := by
    have : c / 2 ^ (b + 1) * 2 ^ b ≤ c / 2 ^ (b + 1) * 2 ^ (b + 1) := Nat.mul_le_mul_left _ (Nat.pow_le_pow_right (by decide) (by omega))
    have h3 := Nat.div_mul_le_self c (2 ^ (b + 1))
    omega
  rw [h2, pk_shlN _ b (sm31 _ (by omega)) hlt, n_and, n_or]
  unfold fgt
  rw [Nat.shiftRight_eq_div_pow, Nat.shiftLeft_eq]
/-- the attic without board b -/
def tkZ (ζ : Nat → Nat) (b : Nat) : Nat → Nat := fun K => if K = 4 then ζ 4 - 1 else if 6 + 5 * b ≤ K ∧ K < 6 + 5 * (ζ 4 - 1) then ζ (K + 5) else if 106 ≤ K ∧ K < 118 ∧ (K - 106) % 3 = 1 then fgt (ζ K) b else ζ K
theorem tkZ_4 {b : Nat} : tkZ ζ b 4 = ζ 4 - 1 := if_pos rfl
theorem tkZ_o {b K : Nat} (h4 : K ≠ 4) (h1 : ¬ (6 + 5 * b ≤ K ∧ K < 6 + 5 * (ζ 4 - 1))) (h2 : ¬ (106 ≤ K ∧ K < 118 ∧ (K - 106) % 3 = 1)) : tkZ ζ b K = ζ K := by
  unfold tkZ
  rw [if_neg h4, if_neg h1, if_neg h2]
theorem tkZ_b (hI : zI ζ) {b k j : Nat} (hk : k < ζ 4 - 1) (hj : j < 5) : tkZ ζ b (6 + 5 * k + j) = if b ≤ k then bd ζ (k + 1) j else bd ζ k j := by
  have := hI.nb
  unfold tkZ
  rw [if_neg (by omega)]
  by_cases h : b ≤ k
  · rw [if_pos h, if_pos (by omega)]
    unfold bd
    congr 1
    omega
  · rw [if_neg h, if_neg (by omega), if_neg (by omega)]
theorem tkZ_g (hI : zI ζ) {b g : Nat} (hg : g < 4) : tkZ ζ b (106 + 3 * g + 1) = fgt (gh ζ g 1) b := by
  have := hI.nb
  unfold tkZ
  rw [if_neg (by omega), if_neg (by omega), if_pos (by omega)]
theorem tkZ_I (hI : zI ζ) {b : Nat} (hb : b < ζ 4) : zI (tkZ ζ b) := by
  have hIb := hI
  obtain ⟨i1, i2, i3, i4, i5, i6, i7⟩ := hI
  refine ⟨by rw [tkZ_4]; omega, by rw [tkZ_o (by decide) (by omega) (by omega)]; exact i2, by rw [tkZ_o (by decide) (by omega) (by omega)]; exact i3, by rw [tkZ_o (by decide) (by omega) (by omega)]; exact i4, fun k hk => ?_, fun g hg => ?_, fun s hs => ?_⟩
  · rw [tkZ_4] at hk
    unfold bd
    rw [tkZ_b hIb hk (by decide), tkZ_b hIb hk (by decide), tkZ_b hIb hk (by decide), tkZ_b hIb hk (by decide)]
    by_cases h : b ≤ k
    · simp only [if_pos h]
      exact i5 (k + 1) (by omega)
    · simp only [if_neg h]
      exact i5 k (by omega)
  · have := i6 g hg
    unfold gh
    rw [tkZ_4, tkZ_g hIb hg, tkZ_o (by omega) (by omega) (by omega)]
    exact ⟨this.1, fgt_lt this.2 hb⟩
  · rw [tkZ_o (by decide) (by omega) (by omega)] at hs
    have := i7 s hs
    unfold sl at this ⊢
    rw [tkZ_o (by omega) (by omega) (by omega), tkZ_o (by omega) (by omega) (by omega), tkZ_o (by omega) (by omega) (by omega)]
    exact this
/-- a row moved up behind b -/
def mvR (σ : gS) (r b : Nat) : gS := gU σ r (fun k => if b ≤ k ∧ k < 19 then σ r (k + 1) else σ r k)
theorem mvR_row {σ : gS} {r b j : Nat} (h : j ≠ r) : mvR σ r b j = σ j := gU_row h
theorem mvR_at {σ : gS} {r b k : Nat} (hk : k < 19) : mvR σ r b r k = if b ≤ k then σ r (k + 1) else σ r k := by
  unfold mvR
  rw [gU_eq]
  by_cases h : b ≤ k
  · rw [if_pos h, if_pos ⟨h, hk⟩]
  · rw [if_neg h, if_neg (fun z => h z.1)]
theorem x_mv {σ : gS} {r b : Nat} (hb : b < 20) : f_X5_moveUpBehind r 20 (nI b) σ = some (mvR σ (r + 1) b) := by
  unfold f_X5_moveUpBehind
  rw [if_neg (nI_pos (by omega)), gLet_eq]
  have := lp0 (fun n i => f_X5_moveUpBehind_L6 r 20 n (nI (b + i)) (gU σ (r + 1) (fun k => if b ≤ k ∧ k < b + i then σ (r + 1) (k + 1) else σ (r + 1) k))) (19 - b) (some (mvR σ (r + 1) b)) (by omega) (fun n i hi => ?_) (fun n => ?_)
  · refine Eq.trans ?_ this
    try dsimp only
    rw [Nat.add_zero]
    congr 1
    funext j k
    by_cases hj : j = r + 1
    · subst hj
      rw [gU_eq, if_neg (by omega)]
    · rw [gU_row hj]
  · rw [f_X5_moveUpBehind_L6_s, if_neg (show ¬ (Int32.ofNat 20) - 1 ≤ nI (b + i) from nI_ge (b := 19) (by omega) (by decide)), nI_1, gin_nI (by omega) (by decide), gin_nI (by omega) (by decide), gGd_t, gGd_t, gLet_eq, gil_nI (by omega), gil_nI (by omega), gU_eq]
    congr 1
    funext j k
    by_cases hj : j = r + 1
    · subst hj
      by_cases hk : k = b + i
      · subst hk
        rw [up2_eq, gU_eq, if_neg (by omega), if_pos (by omega)]
      · rw [up2_k hk, gU_eq, gU_eq]
        by_cases h1 : b ≤ k ∧ k < b + i
        · rw [if_pos h1, if_pos (by omega)]
        · rw [if_neg h1, if_neg (by omega)]
    · rw [up2_c hj, gU_row hj, gU_row hj]
  · rw [f_X5_moveUpBehind_L6_s, show b + (19 - b) = 19 by omega, if_pos (show (Int32.ofNat 20) - 1 ≤ nI 19 from Int32.le_refl _)]
    rfl
theorem x_forget {c : Nat → Nat} (hc : ∀ g, g < 4 → x 21 g = nI (c g) ∧ c g < 2 ^ 20) {b : Nat} (hb : b < 20) : ∃ x', f_X2_forgetBoard (nI b) x = some x' ∧ (∀ g, g < 4 → x' 21 g = nI (fgt (c g) b)) ∧ ∀ j, j ≠ 21 → x' j = x j := by
  unfold f_X2_forgetBoard
  rw [low_n (by omega), gLet_eq]
  refine ⟨gU x 21 (fun g => if g < 4 then nI (fgt (c g) b) else x 21 g), ?_, fun g hg => by rw [gU_eq, if_pos hg], fun j hj => gU_row hj⟩
  refine lp0 (fun n i => f_X2_forgetBoard_L8 (nI (2 ^ b - 1)) n (nI i) (gU x 21 (fun g => if g < i then nI (fgt (c g) b) else x 21 g))) 4 _ (by decide) (fun n i hi => ?_) (fun n => ?_) |> Eq.trans (by
    congr 1
    funext j k
    by_cases hj : j = 21
    · subst hj
      rw [gU_eq, if_neg (Nat.not_lt_zero _)]
    · rw [gU_row hj])
  · rw [f_X2_forgetBoard_L8_s, if_neg (show ¬ (4 : Int32) ≤ nI i from nI_ge (b := 4) hi (by decide)), at_nI hi (by decide), ob_some, gU_eq, if_neg (Nat.lt_irrefl _), (hc i hi).1]
    dsimp only
    rw [fgt_x (hc i hi).2 hb, store_nI hi (by decide), ob_some, nI_1]
    congr 1
    funext j k
    by_cases hj : j = 21
    · subst hj
      by_cases hk : k = i
      · subst hk
        rw [gU_eq, if_pos (by omega)]
        exact up2_eq
      · rw [gU_eq]
        refine (up2_k hk).trans ?_
        rw [gU_eq]
        by_cases h1 : k < i
        · rw [if_pos h1, if_pos (by omega)]
        · rw [if_neg h1, if_neg (by omega)]
    · rw [gU_row hj]
      exact (up2_c hj).trans (by rw [gU_row hj])
  · rw [f_X2_forgetBoard_L8_s, if_pos (show (4 : Int32) ≤ nI 4 from Int32.le_refl _)]
theorem x_remove (hI : zI ζ) (hx : cX ζ x 1) {b : Nat} (hb : b < ζ 4) : ∃ x', f_X1_remove (nI b) x = some x' ∧ x' 4 0 = nI (ζ 4 - 1) ∧ (∀ r, r = 6 ∨ r = 8 ∨ r = 10 ∨ r = 12 ∨ r = 14 ∨ r = 16 → ∀ k, k < 19 → x' r k = if b ≤ k then x r (k + 1) else x r k) ∧ ∀ j, j ≠ 4 → j ≠ 6 → j ≠ 8 → j ≠ 10 → j ≠ 12 → j ≠ 14 → j ≠ 16 → x' j = x j := by
  have hn := hI.nb
  have hh := x_has hx hI hb
  unfold f_X1_remove
  rw [hh, ob_some]
  dsimp only
  rw [if_neg i10, x_mv (by omega), ob_some, x_mv (by omega), ob_some, x_mv (by omega), ob_some, x_mv (by omega), ob_some, x_mv (by omega), ob_some, x_mv (by omega), ob_some, gLet_eq]
  have e4 : mvR (mvR (mvR (mvR (mvR (mvR x (5 + 1) b) (7 + 1) b) (9 + 1) b) (11 + 1) b) (13 + 1) b) (15 + 1) b 4 0 - 1 = nI (ζ 4 - 1) := by
    rw [mvR_row (by decide), mvR_row (by decide), mvR_row (by decide), mvR_row (by decide), mvR_row (by decide), mvR_row (by decide), x_nb hx, show (1 : Int32) = nI 1 from rfl, pk_sub (by omega)]
  rw [e4]
  refine ⟨_, rfl, up2_eq, fun r hr k hk => ?_, fun j h4 h6 h8 h10 h12 h14 h16 => ?_⟩
  · rcases hr with rfl | rfl | rfl | rfl | rfl | rfl
    · rw [up2_c (by decide), mvR_row (by decide), mvR_row (by decide), mvR_row (by decide), mvR_row (by decide), mvR_row (by decide)]
      exact mvR_at hk
    · rw [up2_c (by decide), mvR_row (by decide), mvR_row (by decide), mvR_row (by decide), mvR_row (by decide)]
      exact (mvR_at hk).trans (by rw [mvR_row (by decide)])
    · rw [up2_c (by decide), mvR_row (by decide), mvR_row (by decide), mvR_row (by decide)]
      exact (mvR_at hk).trans (by rw [mvR_row (by decide), mvR_row (by decide)])
    · rw [up2_c (by decide), mvR_row (by decide), mvR_row (by decide)]
      exact (mvR_at hk).trans (by rw [mvR_row (by decide), mvR_row (by decide), mvR_row (by decide)])
    · rw [up2_c (by decide), mvR_row (by decide)]
      exact (mvR_at hk).trans (by rw [mvR_row (by decide), mvR_row (by decide), mvR_row (by decide), mvR_row (by decide)])
    · rw [up2_c (by decide)]
      exact (mvR_at hk).trans (by rw [mvR_row (by decide), mvR_row (by decide), mvR_row (by decide), mvR_row (by decide), mvR_row (by decide)])
  · rw [up2_row h4, mvR_row h16, mvR_row h14, mvR_row h12, mvR_row h10, mvR_row h8, mvR_row h6]
theorem x_take (hI : zI ζ) (hx : cX ζ x 1) {b : Nat} (hb : b < ζ 4) : ∃ x1 x2, f_X1_remove (nI b) x = some x1 ∧ f_X2_forgetBoard (nI b) x1 = some x2 ∧ cX (tkZ ζ b) x2 1 ∧ atX x x2 := by
  have hn := hI.nb
  obtain ⟨x1, h1, h2, h3, h4⟩ := x_remove hI hx hb
  obtain ⟨x2, k1, k2, k3⟩ := x_forget (x := x1) (c := fun g => gh ζ g 1) (fun g hg => ⟨by rw [h4 21 (by decide) (by decide) (by decide) (by decide) (by decide) (by decide) (by decide)]; exact (hx.2.2.1 g hg).2.1, hI.cr hg⟩) (show b < 20 by omega)
  have keep : ∀ j, (j ≠ 4 ∧ j ≠ 6 ∧ j ≠ 8 ∧ j ≠ 10 ∧ j ≠ 12 ∧ j ≠ 14 ∧ j ≠ 16 ∧ j ≠ 21) → x2 j = x j := fun j ⟨a, b, c, d, e, f, g, h⟩ => by rw [k3 j h, h4 j a b c d e f g]
  obtain ⟨⟨c2, c3, c0, c1, c4, c5⟩, cb, cg, cs⟩ := hx
  refine ⟨x1, x2, h1, k1, ⟨⟨?_, ?_, ?_, ?_, ?_, ?_⟩, fun k hk => ?_, fun g hg => ?_, fun s hs => ?_⟩, fun j hj => keep j (by omega)⟩
  · rw [tkZ_o (by decide) (by omega) (by omega), keep 1 (by decide)]; exact c2
  · rw [tkZ_o (by decide) (by omega) (by omega), keep 1 (by decide)]; exact c3
  · rw [tkZ_o (by decide) (by omega) (by omega), keep 3 (by decide)]; exact c0
  · rw [tkZ_o (by decide) (by omega) (by omega), keep 3 (by decide)]; exact c1
  · rw [tkZ_4, k3 4 (by decide)]; exact h2
  · rw [tkZ_o (by decide) (by omega) (by omega), keep 24 (by decide)]; exact c5
  · rw [tkZ_4] at hk
    have row : ∀ r j, (r = 6 ∨ r = 8 ∨ r = 10 ∨ r = 12 ∨ r = 14 ∨ r = 16) → j < 5 → (∀ k, k < ζ 4 → x r k = nI (bd ζ k j)) → x2 r k = nI (tkZ ζ b (6 + 5 * k + j)) := by
      intro r j hr hj hrow
      rw [k3 r (by omega), h3 r hr k (by omega), tkZ_b hI hk hj]
      by_cases h : b ≤ k
      · rw [if_pos h, if_pos h, hrow (k + 1) (by omega)]
      · rw [if_neg h, if_neg h, hrow k (by omega)]
    have rowE : x2 10 k = nI (ends (tkZ ζ b) k) := by
      have e0 := tkZ_b hI (b := b) hk (show 0 < 5 by decide)
      have e1 := tkZ_b hI (b := b) hk (show 1 < 5 by decide)
      rw [k3 10 (by decide), h3 10 (by decide) k (by omega)]
      unfold ends
      rw [show bd (tkZ ζ b) k 0 = _ from e0, show bd (tkZ ζ b) k 1 = _ from e1]
      by_cases h : b ≤ k
      · rw [if_pos h, if_pos h, if_pos h]
        exact (cb (k + 1) (by omega)).2.2.2.2.2
      · rw [if_neg h, if_neg h, if_neg h]
        exact (cb k (by omega)).2.2.2.2.2
    exact ⟨row 6 0 (by decide) (by decide) fun k hk => (cb k hk).1, row 8 1 (by decide) (by decide) fun k hk => (cb k hk).2.1, row 12 2 (by decide) (by decide) fun k hk => (cb k hk).2.2.1, row 14 3 (by decide) (by decide) fun k hk => (cb k hk).2.2.2.1, row 16 4 (by decide) (by decide) fun k hk => (cb k hk).2.2.2.2.1, rowE⟩
  · unfold gh
    rw [tkZ_g hI hg, tkZ_o (by omega) (by omega) (by omega), tkZ_o (by omega) (by omega) (by omega), keep 19 (by decide), keep 23 (by decide)]
    exact ⟨(cg g hg).1, k2 g hg, (cg g hg).2.2⟩
  · rw [tkZ_o (by decide) (by omega) (by omega)] at hs
    unfold sl
    rw [tkZ_o (by omega) (by omega) (by omega), tkZ_o (by omega) (by omega) (by omega), tkZ_o (by omega) (by omega) (by omega), tkZ_o (by omega) (by omega) (by omega), keep 26 (by decide), keep 28 (by decide), keep 30 (by decide), keep 32 (by decide)]
    exact cs s hs
end TU
