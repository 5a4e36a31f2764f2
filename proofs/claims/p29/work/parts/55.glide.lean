section GL2
variable {ζ : Nat → Nat} {x y : gS}
theorem glide_L (hI : zI ζ) (hx : cX ζ x 1) (hy : yL ζ y) {g b : Nat} (hg : g < 4) (hb : b < ζ 4) (h2 : ζ 2 + 9 < 2 ^ 30) : ∃ R x' y' ξ, f_X0_letGlide (nI g) (nI b) x = some (nI R, x') ∧ f_L_glide (nI g) (nI b) y = some (nI R, y') ∧ zI ξ ∧ ξ 2 ≤ ζ 2 + 9 ∧ cX ξ x' 1 ∧ yL ξ y' ∧ atX x x' ∧ atY y y' ∧ ξ 4 = ζ 4 ∧ (∀ k, k < ζ 4 → ∀ j, j < 4 → bd ξ k j = bd ζ k j) ∧ gh ξ g 0 = oth ζ b (gh ζ g 0) := by
  have hn := hI.nb
  have hgg := hI.g hg
  have hl4 := loc_b b (by omega) 4 (by decide)
  -- the board has creaked once more
  have hI0 : zI (upN ζ (6 + 5 * b + 4) (bd ζ b 4 + 1)) := zI_up hI (by omega) (by omega) (by omega) (by omega) (fun b' hb' j hj => by omega) (fun g _ e => by omega) (fun g _ e => by omega) (fun s hs j hj => by omega) (fun s hs e => by omega)
  have hx0 : cX (upN ζ (6 + 5 * b + 4) (bd ζ b 4 + 1)) (up2 x 16 b (nI (bd ζ b 4 + 1))) 1 := cX_up hI hI0 hx (by omega) (by omega) (by omega) (by rw [hl4.1]) (by rw [hl4.2]) (fun k _ => by omega)
  have hy0 : yL (upN ζ (6 + 5 * b + 4) (bd ζ b 4 + 1)) (up2 y 303 b (nI (bd ζ b 4 + 1))) := yU_c hI hy (by omega)
  have z4 : upN ζ (6 + 5 * b + 4) (bd ζ b 4 + 1) 4 = ζ 4 := upN_ne (by omega)
  have z5 : upN ζ (6 + 5 * b + 4) (bd ζ b 4 + 1) 5 = ζ 5 := upN_ne (by omega)
  obtain ⟨R, x1, y1, ξ, k1, k2, k3, k4, k5, k6, k7, k8, k9⟩ := creak_L b (fun ξ h => h.2.2.2.1) (ζ 5) 0 gFu gFu 0 _ _ _ (by rw [z5, Nat.zero_add]) (by have := hI.ns; show ζ 5 < 1000000; omega) (by have := hI.ns; show ζ 5 < 1000000; omega) hI0 hx0 hy0 (by rw [z4]; exact hb)
  have b4 : ξ 4 = ζ 4 := k9.trans z4
  have bk : ∀ k, k < ζ 4 → ∀ j, j < 4 → bd ξ k j = bd ζ k j := fun k hk j hj => by
    unfold bd
    rw [k8.1 _ (by omega) (fun b' => by omega), upN_ne (by omega)]
  have gk : ∀ g, g < 4 → ∀ j, j < 3 → gh ξ g j = gh ζ g j := fun g hg j hj => by
    unfold gh
    rw [k8.2.1 _ (by omega) (by omega), upN_ne (by omega)]
  have x2 : ξ 2 = ζ 2 := (k8.1 2 (by decide) (fun b' => by omega)).trans (upN_ne (by omega))
  have hbb := hI.b hb
  have ht : bd ξ b 3 ≤ 9 := by rw [bk b hb 3 (by decide)]; exact hbb.2.2.2.2
  obtain ⟨x3, p1, p2, p3⟩ := x_pass k3 k4 (t := bd ξ b 3) (by omega) (by omega)
  obtain ⟨y3, w1, w2, w3⟩ := l_pass k3 (t := bd ξ b 3) (by omega) (by omega) k5
  have hI2 := paZ_I k3 (bd ξ b 3)
  have y4 : paZ ξ (bd ξ b 3) 4 = ζ 4 := (paZ_o (by decide) (by decide) (by omega) (by omega)).trans b4
  have ybd : ∀ k, k < ζ 4 → ∀ j, j < 4 → bd (paZ ξ (bd ξ b 3)) k j = bd ζ k j := fun k hk j hj => by
    rw [paZ_b k3 (by rw [b4]; exact hk) (by omega), bk k hk j hj]
  have yg0 : gh (paZ ξ (bd ξ b 3)) g 0 = gh ζ g 0 := by
    unfold gh
    rw [paZ_o (by omega) (by omega) (by omega) (by omega)]
    exact gk g hg 0 (by decide)
  have yg := hI2.g hg
  have y2 : paZ ξ (bd ξ b 3) 2 ≤ ζ 2 + 9 := by rw [paZ_2, x2]; omega
  generalize hW : paZ ξ (bd ξ b 3) = ω at *
  have hoth : oth ω b (gh ζ g 0) = oth ζ b (gh ζ g 0) := by
    unfold oth
    rw [ybd b hb 0 (by decide), ybd b hb 1 (by decide)]
  have ol : oth ζ b (gh ζ g 0) < 10 := oth_lt hI hb
  have l0 := loc_g g hg 0 (by decide)
  have l1 := loc_g g hg 1 (by decide)
  have l2 := loc_g g hg 2 (by decide)
  -- the ghost
  have J0 : zI (upN ω (106 + 3 * g) (oth ζ b (gh ζ g 0))) := zI_up hI2 (by omega) (by omega) (by omega) (by omega) (fun b' hb' j hj => by omega) (fun g' _ _ => ol) (fun g' _ e => by omega) (fun s hs j hj => by omega) (fun s hs e => by omega)
  have J1 : zI (upN (upN ω (106 + 3 * g) (oth ζ b (gh ζ g 0))) (106 + 3 * g + 1) (gh ω g 1 ||| 2 ^ b)) := zI_up J0 (by omega) (by omega) (by omega) (by omega) (fun b' hb' j hj => by rw [upN_ne (by omega)] at hb'; omega) (fun g' _ e => by omega) (fun g' _ e => by
      rw [upN_ne (by omega)]
      exact Nat.or_lt_two_pow yg.2 (p2_lt (by rw [y4]; exact hb))) (fun s hs j hj => by omega) (fun s hs e => by omega)
  have J2 : zI (upN (upN (upN ω (106 + 3 * g) (oth ζ b (gh ζ g 0))) (106 + 3 * g + 1) (gh ω g 1 ||| 2 ^ b)) (106 + 3 * g + 2) (gh ω g 2 + 1)) := zI_up J1 (by omega) (by omega) (by omega) (by omega) (fun b' hb' j hj => by rw [upN_ne (by omega), upN_ne (by omega)] at hb'; omega) (fun g' _ e => by omega) (fun g' _ e => by omega) (fun s hs j hj => by omega) (fun s hs e => by omega)
  have gC := (p2.2.2.1 g hg)
  have X0 := cX_up hI2 J0 p2 (by omega) (by omega) (by omega) (r := 19) (i := g) (by rw [show 106 + 3 * g = 106 + 3 * g + 0 from rfl, l0.1]) (by rw [show 106 + 3 * g = 106 + 3 * g + 0 from rfl, l0.2]) (fun k _ => by omega)
  have X1 := cX_up J0 J1 X0 (by omega) (by omega) (by omega) (r := 21) (i := g) (by rw [l1.1]) (by rw [l1.2]) (fun k _ => by omega)
  have X2 := cX_up J1 J2 X1 (by omega) (by omega) (by omega) (r := 23) (i := g) (by rw [l2.1]) (by rw [l2.2]) (fun k _ => by omega)
  have hcx : f_X2_cross (nI g) (nI b) (nI (oth ζ b (gh ζ g 0))) x3 = some (up2 (up2 (up2 x3 19 g (nI (oth ζ b (gh ζ g 0)))) 21 g (nI (gh ω g 1 ||| 2 ^ b))) 23 g (nI (gh ω g 2 + 1))) := by
    unfold f_X2_cross
    rw [store_nI hg (by decide), ob_some, at_nI hg (by decide), ob_some, up2_c (show 20 + 1 ≠ 18 + 1 by decide), show x3 (20 + 1) g = nI (gh ω g 1) from gC.2.1]
    dsimp only
    rw [shl1 _ (by omega), n_or, store_nI hg (by decide), ob_some, inc_nI hg (by decide), ob_some, up2_c (show 22 + 1 ≠ 20 + 1 by decide), up2_c (show 22 + 1 ≠ 18 + 1 by decide), show x3 (22 + 1) g = nI (gh ω g 2) from gC.2.2, nI_1]
  have hX : f_X0_letGlide (nI g) (nI b) x = some (nI R, up2 (up2 (up2 x3 19 g (nI (oth ζ b (gh ζ g 0)))) 21 g (nI (gh ω g 1 ||| 2 ^ b))) 23 g (nI (gh ω g 2 + 1))) := by
    unfold f_X0_letGlide f_X0_letCreak
    rw [inc_nI (show b < 20 by omega) (by decide), ob_some, show x (15 + 1) b = nI (bd ζ b 4) from (hx.2.1 b hb).2.2.2.2.1, nI_1]
    have k1' : f_X0_letCreak_L15 (nI b) gFu 0 0 (up2 x (15 + 1) b (nI (bd ζ b 4 + 1))) = some (nI R, x1) := k1
    rw [k1', ob_some]
    dsimp only
    rw [a_mi k4 k3 (by rw [b4]; exact hb), ob_some]
    dsimp only
    rw [p1, ob_some]
    dsimp only
    rw [a_grm p2 hg, ob_some]
    dsimp only
    rw [x_beyond p2 hI2 (by rw [y4]; exact hb) (by omega), ob_some, yg0, hoth]
    dsimp only
    rw [hcx, ob_some]
  have gY := y_g w2 hg
  have hY : f_L_glide (nI g) (nI b) y = some (nI R, up2 (up2 (up2 y3 304 g (nI (oth ζ b (gh ζ g 0)))) 304 (4 + g) (nI (gh ω g 1 ||| 2 ^ b))) 304 (8 + g) (nI (gh ω g 2 + 1))) := by
    have k2' := k2 (nI g)
    unfold f_L_glide
    rw [gin_nI (show b < 20 by omega) (by decide), gGd_t, gGd_t, gLet_eq, gil_nI (show b < 2 ^ 31 by omega), (hy.2.1 b hb).2, nI_1]
    refine (k2' _).trans ?_
    have hB3 : yB ω y3 := w2.B
    rw [l_min k5.B k3 (by rw [b4]; exact hb), ob_some]
    dsimp only
    rw [w1, ob_some]
    dsimp only
    rw [gin_nI (show g < 12 by omega) (by decide), gGd_t, l_one hB3 hI2 (by rw [y4]; exact hb), ob_some]
    dsimp only
    rw [gil_nI (show g < 2 ^ 31 by omega), show (4 : Int32) + nI g = nI (4 + g) from nI_add 4 g, show (8 : Int32) + nI g = nI (8 + g) from nI_add 8 g, l_two hB3 hI2 (by rw [y4]; exact hb), l_one hB3 hI2 (by rw [y4]; exact hb)]
    simp only [gLet_eq, ob_some]
    rw [gin_nI (show g < 12 by omega) (by decide), gin_nI (show 4 + g < 12 by omega) (by decide), gin_nI (show 8 + g < 12 by omega) (by decide), gil_nI (show g < 2 ^ 31 by omega), gil_nI (show 4 + g < 2 ^ 31 by omega), gil_nI (show 8 + g < 2 ^ 31 by omega)]
    simp only [gGd_t]
    have ey : y3 304 g = nI (gh ζ g 0) := by rw [gY.1, yg0]
    have hbw := hI2.b (show b < ω 4 by rw [y4]; exact hb)
    by_cases hc : bd ω b 0 = gh ζ g 0
    · have eo : nI (bd ω b 1) = nI (oth ζ b (gh ζ g 0)) := by
        rw [← hoth]
        unfold oth
        rw [if_pos hc]
      rw [if_pos (show y3 304 g = nI (bd ω b 0) by rw [ey, hc]), eo, up2_k (show 4 + g ≠ g by omega), gY.2.1, shl1 _ (by omega), n_or, up2_k (show 8 + g ≠ 4 + g by omega), up2_k (show 8 + g ≠ g by omega), gY.2.2, nI_1]
    · have eo : nI (bd ω b 0) = nI (oth ζ b (gh ζ g 0)) := by
        rw [← hoth]
        unfold oth
        rw [if_neg hc]
      rw [if_neg (show ¬ y3 304 g = nI (bd ω b 0) by rw [ey]; exact fun z => hc ((n_inj (by omega) (by omega)).mp z).symm), eo, up2_k (show 4 + g ≠ g by omega), gY.2.1, shl1 _ (by omega), n_or, up2_k (show 8 + g ≠ 4 + g by omega), up2_k (show 8 + g ≠ g by omega), gY.2.2, nI_1]
  have Y0 := yU_g (j := 0) (v := oth ζ b (gh ζ g 0)) (i := g) hI2 w2 hg (by decide) (by omega)
  have Y1 := yU_g (j := 1) (v := gh ω g 1 ||| 2 ^ b) (i := 4 + g) J0 Y0 hg (by decide) (by omega)
  have Y2 := yU_g (j := 2) (v := gh ω g 2 + 1) (i := 8 + g) J1 Y1 hg (by decide) (by omega)
  refine ⟨R, _, _, _, hX, hY, J2, ?_, X2, Y2, ?_, ?_, ?_, fun k hk j hj => ?_, ?_⟩
  · rw [upN_ne (by omega), upN_ne (by omega), upN_ne (by omega)]
    exact y2
  · exact ((atX_up (r := 16) (by decide) (by decide)).tr k6).tr (p3.tr (((atX_up (by decide) (by decide)).tr (atX_up (by decide) (by decide))).tr (atX_up (by decide) (by decide))))
  · exact ((atY_up (by decide) (by decide)).tr k7).tr (w3.tr (((atY_up (by decide) (by decide)).tr (atY_up (by decide) (by decide))).tr (atY_up (by decide) (by decide))))
  · rw [upN_ne (by omega), upN_ne (by omega), upN_ne (by omega)]
    exact y4
  · have y0 := ybd k hk j hj
    unfold bd at y0 ⊢
    rw [upN_ne (by omega), upN_ne (by omega), upN_ne (by omega)]
    exact y0
  · unfold gh
    rw [upN_ne (by omega), upN_ne (by omega)]
    exact upN_eq
end GL2
