section GL
variable {ζ : Nat → Nat} {x m : gS} {B : Nat}
theorem paZ_b {t b j : Nat} (hI : zI ζ) (hb : b < ζ 4) (hj : j < 5) : bd (paZ ζ t) b j = bd ζ b j := by
  have := hI.nb
  unfold bd
  exact paZ_o (by omega) (by omega) (by omega) (by omega)
/-- one glide on both sides -/
theorem both_glide (hI : zI ζ) (hx : cX ζ x 1) (hm : cM ζ m) {g b : Nat} (hg : g < 4) (hb : b < ζ 4) (h2 : ζ 2 + 9 < 2 ^ 31) : ∃ r x' m' ξ, f_X0_letGlide (nI g) (nI b) x = some (r, x') ∧ f_X11_glides (nI g) (nI b) m = some (r, m') ∧ zI ξ ∧ ξ 2 ≤ ζ 2 + 9 ∧ cX ξ x' 1 ∧ cM ξ m' ∧ atX x x' ∧ atM m m' ∧ (∀ j, j ≠ 1 → j ≠ 6 → m' j = m j) ∧ ξ 4 = ζ 4 ∧ (∀ k, k < ζ 4 → bd ξ k 0 = bd ζ k 0 ∧ bd ξ k 1 = bd ζ k 1) ∧ gh ξ g 0 = oth ζ b (gh ζ g 0) := by
  have hn := hI.nb
  have hgg := hI.g hg
  have hl4 := loc_b b (by omega) 4 (by decide)
  -- the board has creaked once more
  have hI0 : zI (upN ζ (6 + 5 * b + 4) (bd ζ b 4 + 1)) := zI_up hI (by omega) (by omega) (by omega) (by omega) (fun b' hb' j hj => by omega) (fun g _ e => by omega) (fun g _ e => by omega) (fun s hs j hj => by omega) (fun s hs e => by omega)
  have hx0 : cX (upN ζ (6 + 5 * b + 4) (bd ζ b 4 + 1)) (up2 x 16 b (nI (bd ζ b 4 + 1))) 1 := cX_up hI hI0 hx (by omega) (by omega) (by omega) (by rw [hl4.1]) (by rw [hl4.2]) (fun k _ => by omega)
  have hm0 : cM (upN ζ (6 + 5 * b + 4) (bd ζ b 4 + 1)) (up2 m 1 (6 + 5 * b + 4) (nI (bd ζ b 4 + 1))) := up_cM hm (by omega)
  have z4 : upN ζ (6 + 5 * b + 4) (bd ζ b 4 + 1) 4 = ζ 4 := upN_ne (by omega)
  have z5 : upN ζ (6 + 5 * b + 4) (bd ζ b 4 + 1) 5 = ζ 5 := upN_ne (by omega)
  obtain ⟨r, x1, m1, ξ, k1, k2, k3, k4, k5, k6, k7, k8, k9, k10⟩ := creak_both b (fun ξ h => h.2.2.2.1) (ζ 5) 0 gFu gFu 0 _ _ _ (by rw [z5, Nat.zero_add]) (by have := hI.ns; show ζ 5 < 1000000; omega) (by have := hI.ns; show ζ 5 < 1000000; omega) hI0 hx0 hm0 (by rw [z4]; exact hb)
  have b4 : ξ 4 = ζ 4 := k9.trans z4
  have bk : ∀ k, k < ζ 4 → ∀ j, j < 4 → bd ξ k j = bd ζ k j := fun k hk j hj => by
    unfold bd
    rw [k8.1 _ (by omega) (fun b' => by omega), upN_ne (by omega)]
  have gk : ∀ g, g < 4 → ∀ j, j < 3 → gh ξ g j = gh ζ g j := fun g hg j hj => by
    unfold gh
    rw [k8.2.1 _ (by omega) (by omega), upN_ne (by omega)]
  have x2 : ξ 2 = ζ 2 := (k8.1 2 (by decide) (fun b' => by omega)).trans (upN_ne (by omega))
  have hbb := hI.b hb
  have ht : bd ξ b 3 ≤ 9 := by rw [bk b hb 3 (by decide)]; exact hbb.2.2.2.2
  obtain ⟨x3, p1, p2, p3⟩ := x_pass k3 k4 (t := bd ξ b 3) (by omega) (by omega)
  have q1 := m_minutes k3 k5 (t := bd ξ b 3) (by omega) (by omega)
  have hI2 := paZ_I k3 (bd ξ b 3)
  have y4 : paZ ξ (bd ξ b 3) 4 = ζ 4 := (paZ_o (by decide) (by decide) (by omega) (by omega)).trans b4
  have y5 : ∀ v, upN (paZ ξ (bd ξ b 3)) v 0 4 = upN (paZ ξ (bd ξ b 3)) v 0 4 := fun _ => rfl
  have ybd : ∀ k, k < ζ 4 → ∀ j, j < 4 → bd (paZ ξ (bd ξ b 3)) k j = bd ζ k j := fun k hk j hj => by
    rw [paZ_b k3 (by rw [b4]; exact hk) (by omega), bk k hk j hj]
  have yg0 : gh (paZ ξ (bd ξ b 3)) g 0 = gh ζ g 0 := by
    unfold gh
    rw [paZ_o (by omega) (by omega) (by omega) (by omega)]
    exact gk g hg 0 (by decide)
  have yg := hI2.g hg
  have y2 : paZ ξ (bd ξ b 3) 2 ≤ ζ 2 + 9 := by rw [paZ_2, x2]; omega
  generalize hW : paZ ξ (bd ξ b 3) = ω at *
  have hoth : oth ω b (gh ζ g 0) = oth ζ b (gh ζ g 0) := by
    unfold oth
    rw [ybd b hb 0 (by decide), ybd b hb 1 (by decide)]
  have ol : oth ζ b (gh ζ g 0) < 10 := oth_lt hI hb
  have l0 := loc_g g hg 0 (by decide)
  have l1 := loc_g g hg 1 (by decide)
  have l2 := loc_g g hg 2 (by decide)
  -- the ghost
  have J0 : zI (upN ω (106 + 3 * g) (oth ζ b (gh ζ g 0))) := zI_up hI2 (by omega) (by omega) (by omega) (by omega) (fun b' hb' j hj => by omega) (fun g' _ _ => ol) (fun g' _ e => by omega) (fun s hs j hj => by omega) (fun s hs e => by omega)
  have J1 : zI (upN (upN ω (106 + 3 * g) (oth ζ b (gh ζ g 0))) (106 + 3 * g + 1) (gh ω g 1 ||| 2 ^ b)) := zI_up J0 (by omega) (by omega) (by omega) (by omega) (fun b' hb' j hj => by rw [upN_ne (by omega)] at hb'; omega) (fun g' _ e => by omega) (fun g' _ e => by
      rw [upN_ne (by omega)]
      exact Nat.or_lt_two_pow yg.2 (p2_lt (by rw [y4]; exact hb))) (fun s hs j hj => by omega) (fun s hs e => by omega)
  have J2 : zI (upN (upN (upN ω (106 + 3 * g) (oth ζ b (gh ζ g 0))) (106 + 3 * g + 1) (gh ω g 1 ||| 2 ^ b)) (106 + 3 * g + 2) (gh ω g 2 + 1)) := zI_up J1 (by omega) (by omega) (by omega) (by omega) (fun b' hb' j hj => by rw [upN_ne (by omega), upN_ne (by omega)] at hb'; omega) (fun g' _ e => by omega) (fun g' _ e => by omega) (fun s hs j hj => by omega) (fun s hs e => by omega)
  have gC := (p2.2.2.1 g hg)
  have X0 := cX_up hI2 J0 p2 (by omega) (by omega) (by omega) (r := 19) (i := g) (by rw [show 106 + 3 * g = 106 + 3 * g + 0 from rfl, l0.1]) (by rw [show 106 + 3 * g = 106 + 3 * g + 0 from rfl, l0.2]) (fun k _ => by omega)
  have X1 := cX_up J0 J1 X0 (by omega) (by omega) (by omega) (r := 21) (i := g) (by rw [l1.1]) (by rw [l1.2]) (fun k _ => by omega)
  have X2 := cX_up J1 J2 X1 (by omega) (by omega) (by omega) (r := 23) (i := g) (by rw [l2.1]) (by rw [l2.2]) (fun k _ => by omega)
  have hcx : f_X2_cross (nI g) (nI b) (nI (oth ζ b (gh ζ g 0))) x3 = some (up2 (up2 (up2 x3 19 g (nI (oth ζ b (gh ζ g 0)))) 21 g (nI (gh ω g 1 ||| 2 ^ b))) 23 g (nI (gh ω g 2 + 1))) := by
    unfold f_X2_cross
    rw [store_nI hg (by decide), ob_some, at_nI hg (by decide), ob_some, up2_c (show 20 + 1 ≠ 18 + 1 by decide), show x3 (20 + 1) g = nI (gh ω g 1) from gC.2.1]
    dsimp only
    rw [shl1 _ (by omega), n_or, store_nI hg (by decide), ob_some, inc_nI hg (by decide), ob_some, up2_c (show 22 + 1 ≠ 20 + 1 by decide), up2_c (show 22 + 1 ≠ 18 + 1 by decide), show x3 (22 + 1) g = nI (gh ω g 2) from gC.2.2, nI_1]
  have hX : f_X0_letGlide (nI g) (nI b) x = some (r, up2 (up2 (up2 x3 19 g (nI (oth ζ b (gh ζ g 0)))) 21 g (nI (gh ω g 1 ||| 2 ^ b))) 23 g (nI (gh ω g 2 + 1))) := by
    unfold f_X0_letGlide f_X0_letCreak
    rw [inc_nI (show b < 20 by omega) (by decide), ob_some, show x (15 + 1) b = nI (bd ζ b 4) from (hx.2.1 b hb).2.2.2.2.1, nI_1]
    have k1' : f_X0_letCreak_L15 (nI b) gFu 0 0 (up2 x (15 + 1) b (nI (bd ζ b 4 + 1))) = some (r, x1) := k1
    rw [k1', ob_some]
    dsimp only
    rw [a_mi k4 k3 (by rw [b4]; exact hb), ob_some]
    dsimp only
    rw [p1, ob_some]
    dsimp only
    rw [a_grm p2 hg, ob_some]
    dsimp only
    rw [x_beyond p2 hI2 (by rw [y4]; exact hb) (by omega), ob_some, yg0, hoth]
    dsimp only
    rw [hcx, ob_some]
  have e4 : ((6 : Int32) + 5 * nI b) + 4 = nI (6 + 5 * b + 4) := by rw [show (6 : Int32) = nI 6 from rfl, show (5 : Int32) = nI 5 from rfl, pk_mul, nI_add]; exact nI_add _ 4
  have e0 : (106 : Int32) + 3 * nI g = nI (106 + 3 * g) := by rw [show (106 : Int32) = nI 106 from rfl, show (3 : Int32) = nI 3 from rfl, pk_mul, nI_add]
  have hcr : f_X11_creak (nI b) m = some (r, m1) := by
    unfold f_X11_creak
    rw [e4, gin_nI (by omega) (by decide), gGd_t, gGd_t, gLet_eq, gil_nI (by omega), hm _ (by omega), nI_1]
    exact k2
  have hmw : cM ω (pm m1 ω) := pm_cM
  have hM : f_X11_glides (nI g) (nI b) m = some (r, up2 (up2 (up2 (pm m1 ω) 1 (106 + 3 * g) (nI (oth ζ b (gh ζ g 0)))) 1 (106 + 3 * g + 1) (nI (gh ω g 1 ||| 2 ^ b))) 1 (106 + 3 * g + 2) (nI (gh ω g 2 + 1))) := by
    unfold f_X11_glides
    rw [m_roomOf hm hg, ob_some]
    dsimp only
    rw [m_across hm hI hb (by omega), ob_some]
    dsimp only
    rw [hcr, ob_some]
    dsimp only
    rw [m_b3 k5 k3 (by rw [b4]; exact hb), ob_some]
    dsimp only
    rw [q1, ob_some]
    dsimp only
    rw [e0, gin_nI (by omega) (by decide), gGd_t, gLet_eq, gil_nI (by omega), nI_1, gin_nI (by omega) (by decide), gGd_t, gGd_t, gLet_eq, gil_nI (by omega), show nI (106 + 3 * g) + 2 = nI (106 + 3 * g + 2) from nI_add _ 2, gin_nI (by omega) (by decide), gGd_t, gGd_t, gLet_eq, gil_nI (by omega), up2_k (show 106 + 3 * g + 1 ≠ 106 + 3 * g by omega), pm_at (show 106 + 3 * g + 1 < 138 by omega), shl1 _ (by omega), n_or, up2_k (show 106 + 3 * g + 2 ≠ 106 + 3 * g + 1 by omega), up2_k (show 106 + 3 * g + 2 ≠ 106 + 3 * g by omega), pm_at (show 106 + 3 * g + 2 < 138 by omega), nI_1]
  refine ⟨r, _, _, _, hX, hM, J2, ?_, X2, up_cM (up_cM (up_cM hmw (by omega)) (by omega)) (by omega), ?_, ?_, fun j a1 a6 => ?_, ?_, fun k hk => ?_, ?_⟩
  · rw [upN_ne (by omega), upN_ne (by omega), upN_ne (by omega)]
    exact y2
  · exact ((atX_up (r := 16) (by decide) (by decide)).tr k6).tr (p3.tr (((atX_up (by decide) (by decide)).tr (atX_up (by decide) (by decide))).tr (atX_up (by decide) (by decide))))
  · exact (atM_up.tr k7).tr (atM_pm.tr (atM_up.tr (atM_up.tr atM_up)))
  · rw [up2_row a1, up2_row a1, up2_row a1, pm_row a1, k10 j a1 a6, up2_row a1]
  · rw [upN_ne (by omega), upN_ne (by omega), upN_ne (by omega)]
    exact y4
  · have y0 := ybd k hk 0 (by decide)
    have y1 := ybd k hk 1 (by decide)
    unfold bd at y0 y1 ⊢
    rw [upN_ne (by omega), upN_ne (by omega), upN_ne (by omega), upN_ne (by omega), upN_ne (by omega), upN_ne (by omega)]
    exact ⟨y0, y1⟩
  · unfold gh
    rw [upN_ne (by omega), upN_ne (by omega)]
    exact upN_eq
theorem o_pass (hR : RR B x m) (hB1 : 99999 ≤ B) (hB2 : B + 1000 < 2 ^ 31) (p0 : Int32) : oOK B (f_X10_pass p0 x) (f_X11_pass p0 m) := by
  obtain ⟨ζ, hI, hB, hx, hm, hrest⟩ := id hR
  unfold f_X10_pass f_X11_pass
  rcases wi p0 1 200 1 200 rfl rfl (by decide) (by decide) x m with ⟨h1, h2⟩ | ⟨t, ht1, ht2, rfl, h1, h2⟩
  · rw [h1, h2]; exact oOK.same hR rfl rfl
  rw [h1, h2, ob_some, ob_some]
  dsimp only
  have e1 : x 1 0 + nI t = nI (ζ 2 + t) := by rw [x_min hx, nI_add]
  have e2 : m 1 2 + nI t = nI (ζ 2 + t) := by rw [hm 2 (by decide), nI_add]
  rw [if_neg i10, if_neg i10]
  by_cases hc : ζ 2 + t ≤ 99999
  · rw [if_pos (show x 1 0 + nI t ≤ 99999 by rw [e1]; exact nI_le (b := 99999) hc (by decide)), if_pos (show m 1 2 + nI t ≤ 99999 by rw [e2]; exact nI_le (b := 99999) hc (by decide))]
    refine o_recZ hI hB hx hm hrest (Nat.le_refl _) fun x1 m1 hx hm => ?_
    obtain ⟨x2, p1, p2, p3⟩ := x_pass hI hx (t := t) (by omega) (by omega)
    rw [p1, m_minutes hI hm (by omega) (by omega), ob_some, ob_some]
    exact ⟨_, _, _, paZ ζ t, rfl, rfl, paZ_I hI t, by rw [paZ_2]; omega, p2, pm_cM, p3, atM_pm⟩
  · rw [if_neg (show ¬ x 1 0 + nI t ≤ 99999 by rw [e1]; exact nI_ge (a := 99999) (by omega) (by omega)), if_neg (show ¬ m 1 2 + nI t ≤ 99999 by rw [e2]; exact nI_ge (a := 99999) (by omega) (by omega))]
    exact oOK.same hR rfl rfl
theorem fat_bit (hI : zI ζ) {g b : Nat} (hb : b < ζ 4) : (fat ζ g).testBit b = (frB ζ g b && atB ζ b (gh ζ g 0)) := by
  unfold fat
  rw [touch_one hb, fre_frB, decide_eq_true hb, Bool.true_and]
theorem o_glide (hR : RR B x m) (hB2 : B + 1000 < 2 ^ 31) (p0 p1 : Int32) : oOK (B + 81) (f_X10_glide p0 p1 x) (f_X11_glide p0 p1 m) := by
  obtain ⟨ζ, hI, hB, hx, hm, hrest⟩ := id hR
  have hR' : RR (B + 81) x m := hR.mo (by omega)
  unfold f_X10_glide f_X11_glide
  rcases ghC p0 x m with ⟨h1, h2⟩ | ⟨g, hg, rfl, h1, h2⟩
  · rw [h1, h2]; exact oOK.same hR' rfl rfl
  rw [h1, h2, ob_some, ob_some]
  dsimp only
  rw [if_neg i10, if_neg i10]
  rcases bdC hx hm hI p1 with ⟨h1, h2⟩ | ⟨b, hb, rfl, h1, h2⟩
  · rw [h1, h2]; exact oOK.same hR' rfl rfl
  rw [h1, h2, ob_some, ob_some]
  dsimp only
  have hn := hI.nb
  have hgg := hI.g hg
  rw [if_neg i10, if_neg i10, x_fat hx hI hg, ob_some, m_roomOf hm hg, ob_some]
  dsimp only
  rw [m_isAt hm hI hb (by omega), ob_some]
  dsimp only
  by_cases ha : atB ζ b (gh ζ g 0) = true
  · rw [if_pos ha, if_neg (show ¬ nI 1 = 0 by decide), m_isFree hm hI hg hb, ob_some]
    dsimp only
    by_cases hf : frB ζ g b = true
    · rw [holds_t (lt31 (fat_lt hI g) (by decide)) (by omega) (by rw [fat_bit hI hb, hf, ha]; rfl), ob_some, if_pos hf]
      dsimp only
      rw [if_neg i10, if_neg (show ¬ nI 1 = 0 by decide)]
      refine o_recZ hI hB hx hm hrest (by omega) fun x1 m1 hx hm => ?_
      obtain ⟨r, x2, m2, ξ, c1, c2, c3, c4, c5, c6, c7, c8, -⟩ := both_glide hI hx hm hg hb (by omega)
      rw [c1, c2, ob_some, ob_some]
      exact ⟨r, x2, m2, ξ, rfl, rfl, c3, by omega, c5, c6, c7, c8⟩
    · rw [holds_f (lt31 (fat_lt hI g) (by decide)) (by omega) (by rw [fat_bit hI hb]; simp [hf]), ob_some, if_neg hf]
      dsimp only
      rw [if_pos rfl, if_pos (show nI 0 = 0 from rfl)]
      exact oOK.same hR' rfl rfl
  · rw [if_neg ha, if_pos (show nI 0 = 0 from rfl), holds_f (lt31 (fat_lt hI g) (by decide)) (by omega) (by rw [fat_bit hI hb]; simp [ha]), ob_some]
    dsimp only
    rw [if_pos rfl]
    exact oOK.same hR' rfl rfl
end GL
