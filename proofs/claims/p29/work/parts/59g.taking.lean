section EVT2
variable {ζ : Nat → Nat} {σ : gS}
/-- the rows of boards behind the shifting -/
def shL (σ : gS) (b N : Nat) : gS := gU (gU σ 302 (fun k => if b ≤ k ∧ k < N then σ 302 (k + 1) else σ 302 k)) 303 (fun k => if b ≤ k ∧ k < N then σ 303 (k + 1) else σ 303 k)
theorem shL_302 {b N k : Nat} : shL σ b N 302 k = if b ≤ k ∧ k < N then σ 302 (k + 1) else σ 302 k := by
  unfold shL
  rw [gU_row (show 302 ≠ 303 by decide), gU_eq]
theorem shL_303 {b N k : Nat} : shL σ b N 303 k = if b ≤ k ∧ k < N then σ 303 (k + 1) else σ 303 k := by
  unfold shL
  rw [gU_eq]
theorem shL_row {b N j : Nat} (h2 : j ≠ 302) (h3 : j ≠ 303) : shL σ b N j = σ j := by
  unfold shL
  rw [gU_row h3, gU_row h2]
theorem shL_none {b : Nat} : shL σ b b = σ := by
  funext j k
  by_cases h2 : j = 302
  · subst h2
    rw [shL_302, if_neg (by omega)]
  · by_cases h3 : j = 303
    · subst h3
      rw [shL_303, if_neg (by omega)]
    · rw [shL_row h2 h3]
theorem shL_step {b i : Nat} (hb : b ≤ i) : up2 (up2 (shL σ b i) 302 i (shL σ b i 302 (i + 1))) 303 i (up2 (shL σ b i) 302 i (shL σ b i 302 (i + 1)) 303 (i + 1)) = shL σ b (i + 1) := by
  rw [up2_c (show 303 ≠ 302 by decide), shL_302, shL_303, if_neg (by omega), if_neg (by omega)]
  funext j k
  by_cases h3 : j = 303
  · subst h3
    rw [shL_303]
    by_cases hk : k = i
    · subst hk
      rw [up2_eq, if_pos (by omega)]
    · rw [up2_k hk, up2_c (by decide), shL_303]
      by_cases h1 : b ≤ k ∧ k < i
      · rw [if_pos h1, if_pos (by omega)]
      · rw [if_neg h1, if_neg (by omega)]
  · rw [up2_c h3]
    by_cases h2 : j = 302
    · subst h2
      rw [shL_302]
      by_cases hk : k = i
      · subst hk
        rw [up2_eq, if_pos (by omega)]
      · rw [up2_k hk, shL_302]
        by_cases h1 : b ≤ k ∧ k < i
        · rw [if_pos h1, if_pos (by omega)]
        · rw [if_neg h1, if_neg (by omega)]
    · rw [up2_c h2, shL_row h2 h3, shL_row h2 h3]
theorem l_shift (Lx : Nat) (xs : Nat → Int32) (e7 w12 w13 : Int32) (K : gS → Option gS) {b N : Nat} (hb : b ≤ N) (hN : N < 20) (h4 : σ 306 4 = nI N) : f_L_law_L499 Lx xs e7 w12 w13 K gFu (nI b) σ = K (shL σ b N) := by
  refine lp0 (fun n i => f_L_law_L499 Lx xs e7 w12 w13 K n (nI (b + i)) (shL σ b (b + i))) (N - b) _ (by omega) (fun n i hi => ?_) (fun n => ?_) |> Eq.trans (by
    rw [Nat.add_zero, shL_none])
  · rw [f_L_law_L499_s, shL_row (by decide) (by decide), h4, if_neg (nI_ge (by omega) (by omega)), nI_1, gin_nI (show b + i + 1 < 20 by omega) (by decide), gin_nI (show b + i < 20 by omega) (by decide), gGd_t, gGd_t, gLet_eq, gGd_t, gGd_t, gLet_eq, gil_nI (show b + i < 2 ^ 31 by omega), gil_nI (show b + i + 1 < 2 ^ 31 by omega), shL_step (by omega), Nat.add_assoc]
  · rw [f_L_law_L499_s, shL_row (by decide) (by decide), h4, show b + (N - b) = N by omega, if_pos (Int32.le_refl _)]
/-- the crossed boards behind it -/
def fgF (c b m : Nat) : Nat := if m = b then 0 else if c.testBit m = true then 2 ^ (if m < b then m else m - 1) else 0
theorem fgF_fgt {c b n : Nat} (hc : c < 2 ^ n) (hb : b < n) : orF (fgF c b) n = fgt c b := by
  apply bit_ext
  intro i
  rw [Bool.eq_iff_iff, orF_bit, fgt_bit]
  have e : ∀ m, (fgF c b m).testBit i = true ↔ m ≠ b ∧ c.testBit m = true ∧ (if m < b then m else m - 1) = i := by
    intro m
    unfold fgF
    by_cases h1 : m = b
    · rw [if_pos h1]
      simp [h1]
    · rw [if_neg h1]
      by_cases h2 : c.testBit m = true
      · rw [if_pos h2, Nat.testBit_two_pow, decide_eq_true_eq]
        exact ⟨fun h => ⟨h1, h2, h⟩, fun h => h.2.2⟩
      · rw [if_neg h2]
        simp [h2]
  constructor
  · rintro ⟨m, hm, h⟩
    obtain ⟨h1, h2, h3⟩ := (e m).mp h
    by_cases h4 : m < b
    · rw [if_pos h4] at h3
      subst h3
      rw [if_pos h4]
      exact h2
    · rw [if_neg h4] at h3
      rw [if_neg (by omega), show i + 1 = m by omega]
      exact h2
  · intro h
    by_cases hi : i < b
    · rw [if_pos hi] at h
      exact ⟨i, by omega, (e i).mpr ⟨by omega, h, if_pos hi⟩⟩
    · rw [if_neg hi] at h
      have hlt : i + 1 < n := Nat.lt_of_not_le fun z => by rw [bit_big hc z] at h; cases h
      exact ⟨i + 1, hlt, (e (i + 1)).mpr ⟨by omega, h, by rw [if_neg (by omega)]; omega⟩⟩
theorem l_fgt (Lx : Nat) (xs : Nat → Int32) (e7 w13 : Int32) {c b N i : Nat} (hc : c < 2 ^ 20) (hb : b ≤ N) (hN : N < 20) (h4 : σ 306 4 = nI N) (hi : i < 12) (hci : σ 304 i = nI c) (K : Int32 → gS → Option gS) : f_L_law_L550 Lx xs e7 (nI b) w13 (nI i) K gFu 0 0 σ = K (nI (orF (fgF c b) (N + 1))) σ := by
  have hc31 := lt31 hc (show 20 ≤ 31 by decide)
  refine lp0 (fun n m => f_L_law_L550 Lx xs e7 (nI b) w13 (nI i) K n (nI (orF (fgF c b) m)) (nI m) σ) (N + 1) _ (by omega) (fun n m hm => ?_) (fun n => ?_)
  · rw [f_L_law_L550_s, h4, if_neg (nI_nlt (by omega) (by omega)), nI_1, gin_nI hi (by decide), gil_nI (by omega), orF]
    have hb' : (((σ 304 i) >>> (nI m &&& 31)) &&& 1) = nI (if c.testBit m = true then 1 else 0) := by
      rw [hci]
      exact hbit hc31 (by omega)
    by_cases hmb : m = b
    · rw [if_pos (show nI m = nI b by rw [hmb]), gLet_eq, or0]
      unfold fgF
      rw [if_pos hmb, Nat.or_zero]
    · rw [if_neg (fun z => hmb ((nI_eq (by omega) (by omega)).mp z)), gGd_t, hb']
      unfold fgF
      rw [if_neg hmb]
      by_cases hlt : m < b
      · rw [if_neg (nI_ge hlt (by omega)), gLet_eq, if_pos hlt]
        by_cases hcm : c.testBit m = true
        · rw [if_pos hcm, if_pos hcm, show nI 1 = (1 : Int32) from rfl, shl1 _ (by omega), n_or]
        · rw [if_neg hcm, if_neg hcm, show nI 0 = (0 : Int32) from rfl, shl0 _ (by omega), or0, Nat.or_zero]
      · rw [if_pos (nI_le (by omega) (by omega)), gLet_eq, if_neg hlt, show nI m - 1 = nI (m - 1) from pk_sub (b := 1) (by omega)]
        by_cases hcm : c.testBit m = true
        · rw [if_pos hcm, if_pos hcm, show nI 1 = (1 : Int32) from rfl, shl1 _ (by omega), n_or]
        · rw [if_neg hcm, if_neg hcm, show nI 0 = (0 : Int32) from rfl, shl0 _ (by omega), or0, Nat.or_zero]
  · rw [f_L_law_L550_s, h4, if_pos (nI_lt (by omega) (by omega))]
theorem l_fgts (Lx : Nat) (xs : Nat → Int32) (e7 w13 : Int32) {c : Nat → Nat} {b N : Nat} (hc : ∀ g, g < 4 → c g < 2 ^ (N + 1) ∧ σ 304 (4 + g) = nI (c g)) (hb : b ≤ N) (hN : N < 20) (h4 : σ 306 4 = nI N) (K : gS → Option gS) : f_L_law_L537 Lx xs e7 (nI b) w13 K gFu 4 σ = K (gU σ 304 (fun k => if 4 ≤ k ∧ k < 8 then nI (fgt (c (k - 4)) b) else σ 304 k)) := by
  refine lp0 (fun n i => f_L_law_L537 Lx xs e7 (nI b) w13 K n (nI (4 + i)) (gU σ 304 (fun k => if 4 ≤ k ∧ k < 4 + i then nI (fgt (c (k - 4)) b) else σ 304 k))) 4 _ (by decide) (fun n i hi => ?_) (fun n => ?_) |> Eq.trans (by
    congr 1
    funext j k
    by_cases hj : j = 304
    · subst hj
      rw [gU_eq, if_neg (by omega)]
    · rw [gU_row hj])
  · obtain ⟨c1, c2⟩ := hc i hi
    rw [f_L_law_L537_s, if_neg (show ¬ (8 : Int32) ≤ nI (4 + i) from nI_ge (b := 8) (by omega) (by decide)), l_fgt Lx xs e7 w13 (c := c i) (Nat.lt_of_lt_of_le c1 (Nat.pow_le_pow_right (by decide) (by omega))) hb hN (by rw [gU_row (by decide)]; exact h4) (show 4 + i < 12 by omega) (by rw [gU_eq, if_neg (by omega)]; exact c2), gin_nI (show 4 + i < 12 by omega) (by decide), gGd_t, gLet_eq, gil_nI (by omega), nI_1, fgF_fgt c1 (by omega), Nat.add_assoc]
    congr 1
    funext j k
    by_cases hj : j = 304
    · subst hj
      by_cases hk : k = 4 + i
      · subst hk
        rw [up2_eq, gU_eq, if_pos (by omega), Nat.add_sub_cancel_left]
      · rw [up2_k hk, gU_eq, gU_eq]
        by_cases h1 : 4 ≤ k ∧ k < 4 + i
        · rw [if_pos h1, if_pos (show 4 ≤ k ∧ k < 4 + (i + 1) by omega)]
        · rw [if_neg h1, if_neg (show ¬ (4 ≤ k ∧ k < 4 + (i + 1)) by omega)]
    · rw [up2_c hj, gU_row hj, gU_row hj]
  · rw [f_L_law_L537_s, if_pos (show (8 : Int32) ≤ nI (4 + 4) from Int32.le_refl _)]
theorem y_take (hI : zI ζ) (hy : yL ζ σ) {b : Nat} (hb : b < ζ 4) : yL (tkZ ζ b) (gU (shL (up2 σ 306 4 (nI (ζ 4 - 1))) b (ζ 4 - 1)) 304 (fun k => if 4 ≤ k ∧ k < 8 then nI (fgt (gh ζ (k - 4) 1) b) else σ 304 k)) := by
  have hn := hI.nb
  have hns := hI.ns
  obtain ⟨h1, h2, h3, h4⟩ := hy
  unfold yL
  rw [tkZ_4, tkZ_o (K := 5) (by decide) (by omega) (by omega)]
  refine ⟨fun k hk => ?_, fun k hk => ?_, fun g hg j hj => ?_, fun s hs j hj => ?_⟩
  · rw [gU_row (by decide), shL_row (by decide) (by decide)]
    by_cases hk4 : k = 4
    · subst hk4
      rw [up2_eq, tkZ_4]
    · rw [up2_k hk4, h1 k hk, tkZ_o hk4 (by omega) (by omega)]
  · rw [gU_row (by decide), gU_row (by decide), shL_302, shL_303, up2_c (show 302 ≠ 306 by decide), up2_c (show 302 ≠ 306 by decide), up2_c (show 303 ≠ 306 by decide), up2_c (show 303 ≠ 306 by decide)]
    have e : ∀ j, j < 5 → bd (tkZ ζ b) k j = if b ≤ k then bd ζ (k + 1) j else bd ζ k j := fun j hj => tkZ_b hI hk hj
    unfold bw
    rw [e 0 (by decide), e 1 (by decide), e 2 (by decide), e 3 (by decide), e 4 (by decide)]
    by_cases hbk : b ≤ k
    · have hp : b ≤ k ∧ k < ζ 4 - 1 := ⟨hbk, hk⟩
      simp only [if_pos hp, if_pos hbk]
      exact h2 (k + 1) (by omega)
    · have hp : ¬ (b ≤ k ∧ k < ζ 4 - 1) := fun z => hbk z.1
      simp only [if_neg hp, if_neg hbk]
      exact h2 k (by omega)
  · rw [gU_eq]
    unfold gh
    by_cases hj1 : j = 1
    · subst hj1
      rw [if_pos (by omega), tkZ_g hI hg, show g + 4 * 1 - 4 = g by omega]
    · rw [if_neg (by omega), h3 g hg j hj, tkZ_o (by omega) (by omega) (by omega)]
  · rw [gU_row (by decide), shL_row (by decide) (by decide), up2_c (by decide), h4 s hs j hj]
    unfold sl
    rw [tkZ_o (by omega) (by omega) (by omega)]
theorem ev_take (hS : SS ζ σ) (Lx : Nat) (xs : Nat → Int32) (e7 h gg : Int32) : ∃ ζ' σ', SS ζ' σ' ∧ ζ' 2 ≤ ζ 2 + 200 ∧ ∀ J, bTake Lx xs e7 h gg J σ = J 1 σ' := by
  obtain ⟨hI, hx, hy, hh⟩ := id hS
  have hn := hI.nb
  obtain ⟨b, hb, eb⟩ := l_low (h >>> (7 &&& 31)) (n := ζ 4 + 1) (by omega) (by omega)
  have e4 : σ 306 4 + 1 = nI (ζ 4 + 1) := by rw [y_nb hy, nI_1]
  by_cases hb4 : b = ζ 4
  · refine ⟨ζ, σ, hS, by omega, fun J => ?_⟩
    unfold bTake
    rw [e4, eb, ob_some, gLet_eq, if_pos (show nI b = σ 306 4 by rw [y_nb hy, hb4])]
    dsimp only
    rw [gLet_eq, if_neg i10, hb4]
    dsimp only
    rw [k_takeno hI hx, ob_some]
    dsimp only
    rw [gLet_eq, mix_self, gLet_eq, if_neg i10]
    dsimp only
    rw [gLet_eq, if_pos rfl]
  · have hbl : b < ζ 4 := by omega
    have hY := y_take hI hy hbl
    have hrow : ∀ j, j < 302 → (gU (shL (up2 σ 306 4 (nI (ζ 4 - 1))) b (ζ 4 - 1)) 304 (fun k => if 4 ≤ k ∧ k < 8 then nI (fgt (gh ζ (k - 4) 1) b) else σ 304 k)) j = σ j := fun j hj => by rw [gU_row (by omega), shL_row (by omega) (by omega), up2_row (by omega)]
    have hl4 : shL (up2 σ 306 4 (nI (ζ 4 - 1))) b (ζ 4 - 1) 306 4 = nI (ζ 4 - 1) := by rw [shL_row (by decide) (by decide), up2_eq]
    have hg4 : ∀ k, shL (up2 σ 306 4 (nI (ζ 4 - 1))) b (ζ 4 - 1) 304 k = σ 304 k := fun k => by rw [shL_row (by decide) (by decide), up2_c (by decide)]
    have hw : ∀ J : gS → Option gS, f_L_law_L499 Lx xs e7 (nI b) 0 (fun (s202 : gS) => f_L_law_L537 Lx xs e7 (nI b) 0 (fun (s215 : gS) => J s215) gFu 4 s202) gFu (nI b) (up2 σ 306 4 (nI (ζ 4 - 1))) = J (gU (shL (up2 σ 306 4 (nI (ζ 4 - 1))) b (ζ 4 - 1)) 304 (fun k => if 4 ≤ k ∧ k < 8 then nI (fgt (gh ζ (k - 4) 1) b) else σ 304 k)) := by
      intro J
      rw [l_shift Lx xs e7 (nI b) 0 _ (show b ≤ ζ 4 - 1 by omega) (by omega) up2_eq, l_fgts Lx xs e7 0 (c := fun g => gh ζ g 1) (N := ζ 4 - 1) (fun g hg => ⟨by rw [show ζ 4 - 1 + 1 = ζ 4 by omega]; exact (hI.g hg).2, by rw [hg4]; exact (y_g hy hg).2.1⟩) (by omega) (by omega) hl4]
      have ef : (fun k => if 4 ≤ k ∧ k < 8 then nI (fgt (gh ζ (k - 4) 1) b) else shL (up2 σ 306 4 (nI (ζ 4 - 1))) b (ζ 4 - 1) 304 k) = (fun k => if 4 ≤ k ∧ k < 8 then nI (fgt (gh ζ (k - 4) 1) b) else σ 304 k) := funext fun k => by rw [hg4]
      rw [ef]
    have hv4 : (gU (shL (up2 σ 306 4 (nI (ζ 4 - 1))) b (ζ 4 - 1)) 304 (fun k => if 4 ≤ k ∧ k < 8 then nI (fgt (gh ζ (k - 4) 1) b) else σ 304 k)) 306 4 = nI (ζ 4 - 1) := by rw [gU_row (by decide)]; exact hl4
    generalize hW : gU (shL (up2 σ 306 4 (nI (ζ 4 - 1))) b (ζ 4 - 1)) 304 (fun k => if 4 ≤ k ∧ k < 8 then nI (fgt (gh ζ (k - 4) 1) b) else σ 304 k) = τ at *
    have hxt : cX ζ τ 1 := cX_rows hI hx fun j _ _ => hrow j (by omega)
    have hht : hX τ := hh.row (hrow 36 (by decide))
    obtain ⟨x', k1, k2, k3⟩ := k_takeUp hI hxt hht hbl
    refine ⟨tkZ ζ b, gMix τ x', SS.made (tkZ_I hI hbl) k2 k3 hY.mix fun j hj => gMix_lt hj, by rw [tkZ_o (by decide) (by omega) (by omega)]; omega, fun J => ?_⟩
    unfold bTake
    rw [e4, eb, ob_some]
    rw [gLet_eq, if_neg (show ¬ nI b = σ 306 4 by rw [y_nb hy]; exact fun z => hb4 ((nI_eq (by omega) (by omega)).mp z))]
    dsimp only
    rw [gLet_eq, if_pos rfl, gLet_eq, y_nb hy, show nI (ζ 4) - 1 = nI (ζ 4 - 1) from pk_sub (b := 1) (by omega), hw, k1, ob_some]
    dsimp only
    rw [gLet_eq, gLet_eq, if_pos rfl, gMix_ge (by decide), hv4]
    dsimp only
    rw [gLet_eq, if_pos rfl]
end EVT2
