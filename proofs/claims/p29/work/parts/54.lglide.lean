section LG
variable {ζ : Nat → Nat} {x y : gS}
/-- the law's other rows -/
def atY (y y' : gS) : Prop := ∀ j, (j < 302 ∨ 307 ≤ j) → y' j = y j
theorem atY.rf : atY y y := fun _ _ => rfl
theorem atY.tr {a b c : gS} (h1 : atY a b) (h2 : atY b c) : atY a c := fun j h => (h2 j h).trans (h1 j h)
theorem atY_up {r i : Nat} {v : Int32} (h0 : 302 ≤ r) (h1 : r < 307) : atY y (up2 y r i v) := fun j h => up2_row (by omega)
theorem atY_gU {r : Nat} {f : Nat → Int32} (h0 : 302 ≤ r) (h1 : r < 307) : atY y (gU y r f) := fun j h => gU_row (by omega)
theorem creak_L (w : Nat) (ha1 : ∀ ξ : Nat → Nat, zI ξ → ξ 1 ≤ 60) : ∀ d i n1 n2 M (ζ : Nat → Nat) (x y : gS), i + d = ζ 5 → d < n1 → d < n2 → zI ζ → cX ζ x 1 → yL ζ y → w < ζ 4 →
    ∃ R x' y' ξ, f_X0_letCreak_L15 (nI w) n1 (nI M) (nI i) x = some (nI R, x') ∧ (∀ w5 K, f_L_glide_L14 w5 (nI w) K n2 (nI M) (nI i) y = K (nI R) y') ∧ zI ξ ∧ cX ξ x' 1 ∧ yL ξ y' ∧ atX x x' ∧ atY y y' ∧ crZ ζ ξ ∧ ξ 4 = ζ 4 := by
  intro d
  induction d with
  | zero =>
    intro i n1 n2 M ζ x y hid h1 h2 hI hx hy hw
    obtain ⟨n1, rfl⟩ := Nat.exists_eq_succ_of_ne_zero (show n1 ≠ 0 by omega)
    obtain ⟨n2, rfl⟩ := Nat.exists_eq_succ_of_ne_zero (show n2 ≠ 0 by omega)
    refine ⟨M, x, y, ζ, ?_, fun w5 K => ?_, hI, hx, hy, atX.rf, atY.rf, ⟨fun _ _ _ => rfl, fun _ _ _ => rfl, fun _ _ => ⟨rfl, rfl⟩⟩, rfl⟩
    · rw [f_X0_letCreak_L15_s, x_ns hx, show i = ζ 5 by omega, if_pos (Int32.le_refl _)]
    · rw [f_L_glide_L14_s, y_ns hy, show i = ζ 5 by omega, if_pos (Int32.le_refl _)]
  | succ d ih =>
    intro i n1 n2 M ζ x y hid h1 h2 hI hx hy hw
    obtain ⟨n1, rfl⟩ := Nat.exists_eq_succ_of_ne_zero (show n1 ≠ 0 by omega)
    obtain ⟨n2, rfl⟩ := Nat.exists_eq_succ_of_ne_zero (show n2 ≠ 0 by omega)
    have hi : i < ζ 5 := by omega
    have h5 := hI.ns
    have hn := hI.nb
    have hsi := hI.s hi
    have hys := y_s hy hi
    have hld := ldn_le hI (t := sl ζ i 0) hw
    rw [f_X0_letCreak_L15_s, x_ns hx, if_neg (nI_ge hi (by omega)), a_srm hx hI hi, ob_some]
    dsimp only
    rw [x_loudIn hx hI hw hsi.1, ob_some]
    dsimp only
    rw [a_ear hx hI hi, ob_some]
    dsimp only
    by_cases hk : sl ζ i 1 ≤ ldn ζ w (sl ζ i 0)
    · rw [if_neg (nI_nlt hk (by omega)), a_awk hx, ob_some]
      dsimp only
      rw [shl1 _ (by omega), n_or]
      have ha := ha1 ζ hI
      have hl2 := loc_s i (by omega) 2 (by decide)
      have hl3 := loc_s i (by omega) 3 (by decide)
      have hI1 : ∀ v, zI (upN ζ (118 + 4 * i + 3) v) := fun v => zI_up hI (by omega) (by omega) (by omega) (by omega) (fun b hb j hj => by omega) (fun g _ e => by omega) (fun g hg e => by omega) (fun s hs j hj => by omega) (fun s hs e => by omega)
      have hI2 : ∀ v, zI (upN (upN ζ (118 + 4 * i + 3) v) (118 + 4 * i + 2) (ζ 1)) := fun v => zI_up (hI1 v) (by omega) (by omega) (by omega) (by omega) (fun b hb j hj => by rw [upN_ne (by omega)] at hb; omega) (fun g _ e => by omega) (fun g hg e => by omega) (fun s hs j hj => by omega) (fun s hs e => ha)
      have hcr : ∀ v, crZ ζ (upN (upN ζ (118 + 4 * i + 3) v) (118 + 4 * i + 2) (ζ 1)) := fun v => ⟨fun K hK _ => by rw [upN_ne (by omega), upN_ne (by omega)], fun K h1 h2 => by rw [upN_ne (by omega), upN_ne (by omega)], fun s hs => by
        unfold sl
        rw [upN_ne (by omega), upN_ne (by omega), upN_ne (by omega), upN_ne (by omega)]
        exact ⟨rfl, rfl⟩⟩
      have h45 : ∀ v, upN (upN ζ (118 + 4 * i + 3) v) (118 + 4 * i + 2) (ζ 1) 4 = ζ 4 ∧ upN (upN ζ (118 + 4 * i + 3) v) (118 + 4 * i + 2) (ζ 1) 5 = ζ 5 := fun v => by
        rw [upN_ne (by omega), upN_ne (by omega), upN_ne (by omega), upN_ne (by omega)]
        exact ⟨rfl, rfl⟩
      -- the law's step
      have hlaw : ∀ (v : Nat) (w5 : Int32) (K : Int32 → gS → Option (Int32 × gS)), v = sl ζ i 3 + (if sl ζ i 2 = 0 then 1 else 0) → f_L_glide_L14 w5 (nI w) K (n2 + 1) (nI M) (nI i) y = f_L_glide_L14 w5 (nI w) K n2 (nI (M ||| 2 ^ i)) (nI (i + 1)) (up2 (up2 y 305 (15 + i) (nI v)) 305 (10 + i) (nI (ζ 1))) := by
        intro v w5 K hv
        rw [f_L_glide_L14_s, y_ns hy, if_neg (nI_ge hi (by omega)), l_loud hy hI hw hi, ob_some]
        dsimp only
        rw [show (5 : Int32) + nI i = nI (5 + i) from nI_add 5 i, show (15 : Int32) + nI i = nI (15 + i) from nI_add 15 i, show (10 : Int32) + nI i = nI (10 + i) from nI_add 10 i, gin_nI (show 5 + i < 20 by omega) (by decide), gin_nI (show 15 + i < 20 by omega) (by decide), gin_nI (show 10 + i < 20 by omega) (by decide), gil_nI (by omega), gil_nI (by omega), gil_nI (by omega), nI_1, gGd_t]
        rw [if_neg (show ¬ nI (ldn ζ w (sl ζ i 0)) < y 305 (5 + i) by rw [hys.2.1]; exact nI_nlt hk (by omega)), shl1 _ (by omega), n_or]
        simp only [gGd_t, gLet_eq]
        rw [gin_nI (show 15 + i < 20 by omega) (by decide), gil_nI (by omega)]
        simp only [gGd_t, up2_c (show (306 : Nat) ≠ 305 by decide), hy.1 1 (by decide)]
        by_cases h0 : sl ζ i 2 = 0
        · rw [if_pos h0] at hv
          rw [if_pos (show y 305 (10 + i) ≤ 0 by rw [hys.2.2.1]; exact n_le0 h0), hys.2.2.2, hv, show nI (sl ζ i 3) + 1 = nI (sl ζ i 3 + 1) from nI_add _ 1]
        · rw [if_neg h0] at hv
          have hv : v = sl ζ i 3 := hv
          rw [if_neg (show ¬ y 305 (10 + i) ≤ 0 by rw [hys.2.2.1]; exact nI_nle (by omega) (by omega)), hys.2.2.2, hv, Int32.add_zero]
      have fin : ∀ (v : Nat) (x' : gS), v = sl ζ i 3 + (if sl ζ i 2 = 0 then 1 else 0) → cX (upN (upN ζ (118 + 4 * i + 3) v) (118 + 4 * i + 2) (ζ 1)) x' 1 → atX x x' → ∃ R x2 y2 ξ, f_X0_letCreak_L15 (nI w) n1 (nI (M ||| 2 ^ i)) (nI (i + 1)) x' = some (nI R, x2) ∧ (∀ w5 K, f_L_glide_L14 w5 (nI w) K (n2 + 1) (nI M) (nI i) y = K (nI R) y2) ∧ zI ξ ∧ cX ξ x2 1 ∧ yL ξ y2 ∧ atX x x2 ∧ atY y y2 ∧ crZ ζ ξ ∧ ξ 4 = ζ 4 := by
        intro v x' hv a1 a3
        have hy1 := yU_s (j := 3) (v := v) (i := 15 + i) hI hy (show i < 5 by omega) (by decide) (by omega)
        have hy2 := yU_s (j := 2) (v := ζ 1) (i := 10 + i) (hI1 v) hy1 (show i < 5 by omega) (by decide) (by omega)
        obtain ⟨R, x2, y2, ξ, k1, k2, k3, k4, k5, k6, k7, k8, k9⟩ := ih (i + 1) n1 n2 (M ||| 2 ^ i) _ x' _ (by rw [(h45 v).2]; omega) (by omega) (by omega) (hI2 v) a1 hy2 (by rw [(h45 v).1]; exact hw)
        refine ⟨R, x2, y2, ξ, k1, fun w5 K => (hlaw v w5 K hv).trans (k2 w5 K), k3, k4, k5, a3.tr k6, ((atY_up (by decide) (by decide)).tr (atY_up (by decide) (by decide))).tr k7, ⟨fun K hK hb => (k8.1 K hK hb).trans ((hcr v).1 K hK hb), fun K q1 q2 => (k8.2.1 K q1 q2).trans ((hcr v).2.1 K q1 q2), fun s hs => ⟨(k8.2.2 s hs).1.trans ((hcr v).2.2 s hs).1, (k8.2.2 s hs).2.trans ((hcr v).2.2 s hs).2⟩⟩, k9.trans (h45 v).1⟩
      unfold f_X7_wake
      rw [a_saw hx hI hi, ob_some]
      dsimp only
      by_cases h0 : sl ζ i 2 = 0
      · have h0' : nI (sl ζ i 2) = 0 := by rw [h0]; rfl
        simp only [gLet_eq]
        rw [if_pos h0', inc_nI (by omega) (by decide), ob_some]
        try dsimp only
        rw [store_nI (by omega) (by decide), ob_some, ob_some, nI_1, show x (31 + 1) i = nI (sl ζ i 3) from (hx.2.2.2 i hi).2.2.2, nI_1]
        exact fin (sl ζ i 3 + 1) _ (by rw [if_pos h0]) (cX_up (hI1 _) (hI2 _) (cX_up hI (hI1 _) hx (by omega) (by omega) (by omega) (by rw [hl3.1]) (by rw [hl3.2]) (fun k _ => by omega)) (by omega) (by omega) (by omega) (by rw [hl2.1]) (by rw [hl2.2]) (fun k _ => by omega)) ((atX_up (by decide) (by decide)).tr (atX_up (by decide) (by decide)))
      · have h0' : ¬ nI (sl ζ i 2) = 0 := nI_ne0 (by omega) (by omega)
        simp only [gLet_eq]
        rw [if_neg h0']
        try dsimp only
        rw [store_nI (by omega) (by decide), ob_some, ob_some, nI_1]
        have hc1 : cX (upN ζ (118 + 4 * i + 3) (sl ζ i 3)) x 1 := by rw [show sl ζ i 3 = ζ (118 + 4 * i + 3) from rfl, upN_same]; exact hx
        exact fin (sl ζ i 3) _ (by rw [if_neg h0]; rfl) (cX_up (hI1 _) (hI2 _) hc1 (by omega) (by omega) (by omega) (by rw [hl2.1]) (by rw [hl2.2]) (fun k _ => by omega)) (atX_up (by decide) (by decide))
    · rw [if_pos (nI_lt (by omega) (by omega)), nI_1]
      obtain ⟨R, x2, y2, ξ, k1, k2, k3, k4, k5, k6, k7, k8, k9⟩ := ih (i + 1) n1 n2 M ζ x y (by omega) (by omega) (by omega) hI hx hy hw
      refine ⟨R, x2, y2, ξ, k1, fun w5 K => ?_, k3, k4, k5, k6, k7, k8, k9⟩
      rw [f_L_glide_L14_s, y_ns hy, if_neg (nI_ge hi (by omega)), l_loud hy hI hw hi, ob_some]
      dsimp only
      rw [show (5 : Int32) + nI i = nI (5 + i) from nI_add 5 i, gin_nI (show 5 + i < 20 by omega) (by decide), gGd_t, gil_nI (by omega), if_pos (show nI (ldn ζ w (sl ζ i 0)) < y 305 (5 + i) by rw [hys.2.1]; exact nI_lt (by omega) (by omega)), nI_1]
      exact k2 w5 K
/-! minutes pass in the law's rows -/
def tireL (y : gS) : gS := gU y 305 (fun k => if 10 ≤ k ∧ k < 15 then (if y 305 k ≤ 1 then 0 else y 305 k - 1) else y 305 k)
theorem l_tire (w3 w4 w5 : Int32) (K : gS → Option (Int32 × gS)) : f_L_pass_L23 w3 w4 w5 K gFu 10 y = K (tireL y) := by
  refine lp0 (fun n i => f_L_pass_L23 w3 w4 w5 K n (nI (10 + i)) (gU y 305 (fun k => if 10 ≤ k ∧ k < 10 + i then (if y 305 k ≤ 1 then 0 else y 305 k - 1) else y 305 k))) 5 (K (tireL y)) (by decide) (fun n i hi => ?_) (fun n => ?_) |> Eq.trans (by
    congr 1
    funext j k
    by_cases hj : j = 305
    · subst hj
      rw [gU_eq, if_neg (by omega)]
    · rw [gU_row hj])
  · rw [f_L_pass_L23_s]
    rw [if_neg (show ¬ (15 : Int32) ≤ nI (10 + i) from nI_ge (b := 15) (by omega) (by decide)), gin_nI (show 10 + i < 20 by omega) (by decide), gGd_t, gil_nI (by omega), gU_eq, if_neg (by omega)]
    simp only [gLet_eq, gGd_t]
    rw [gin_nI (show 10 + i < 20 by omega) (by decide), gil_nI (by omega), nI_1]
    simp only [gGd_t]
    have e : ∀ v : Int32, v = (if y 305 (10 + i) ≤ 1 then 0 else y 305 (10 + i) - 1) → up2 (gU y 305 (fun k => if 10 ≤ k ∧ k < 10 + i then (if y 305 k ≤ 1 then 0 else y 305 k - 1) else y 305 k)) 305 (10 + i) v = gU y 305 (fun k => if 10 ≤ k ∧ k < 10 + (i + 1) then (if y 305 k ≤ 1 then 0 else y 305 k - 1) else y 305 k) := by
      intro v hv
      funext j k
      by_cases hj : j = 305
      · subst hj
        by_cases hk : k = 10 + i
        · subst hk
          rw [up2_eq, gU_eq, if_pos (by omega), hv]
        · rw [up2_k hk, gU_eq, gU_eq]
          by_cases h1 : 10 ≤ k ∧ k < 10 + i
          · rw [if_pos h1, if_pos (show 10 ≤ k ∧ k < 10 + (i + 1) by omega)]
          · rw [if_neg h1, if_neg (show ¬ (10 ≤ k ∧ k < 10 + (i + 1)) by omega)]
      · rw [up2_c hj, gU_row hj, gU_row hj]
    by_cases hc : y 305 (10 + i) ≤ 1
    · rw [if_pos hc, e 0 (by rw [if_pos hc])]
      rfl
    · rw [if_neg hc, e _ (by rw [if_neg hc])]
      rfl
  · rw [f_L_pass_L23_s, if_pos (show (15 : Int32) ≤ nI (10 + 5) from Int32.le_refl _)]
    rfl
def bellL (y : gS) : gS := gU y 304 (fun k => if 4 ≤ k ∧ k < 8 then 0 else y 304 k)
theorem l_bell (w3 w4 w5 : Int32) (K : gS → Option (Int32 × gS)) : f_L_pass_L74 w3 w4 w5 K gFu 4 y = K (bellL y) := by
  refine lp0 (fun n i => f_L_pass_L74 w3 w4 w5 K n (nI (4 + i)) (gU y 304 (fun k => if 4 ≤ k ∧ k < 4 + i then 0 else y 304 k))) 4 (K (bellL y)) (by decide) (fun n i hi => ?_) (fun n => ?_) |> Eq.trans (by
    congr 1
    funext j k
    by_cases hj : j = 304
    · subst hj
      rw [gU_eq, if_neg (by omega)]
    · rw [gU_row hj])
  · rw [f_L_pass_L74_s, if_neg (show ¬ (8 : Int32) ≤ nI (4 + i) from nI_ge (b := 8) (by omega) (by decide)), gin_nI (show 4 + i < 12 by omega) (by decide), gGd_t, gLet_eq, gil_nI (by omega), nI_1]
    congr 1
    funext j k
    by_cases hj : j = 304
    · subst hj
      by_cases hk : k = 4 + i
      · subst hk
        rw [up2_eq, gU_eq, if_pos (by omega)]
      · rw [up2_k hk, gU_eq, gU_eq]
        by_cases h1 : 4 ≤ k ∧ k < 4 + i
        · rw [if_pos h1, if_pos (by omega)]
        · rw [if_neg h1, if_neg (by omega)]
    · rw [up2_c hj, gU_row hj, gU_row hj]
  · rw [f_L_pass_L74_s, if_pos (show (8 : Int32) ≤ nI (4 + 4) from Int32.le_refl _)]
    rfl
/-- one minute -/
theorem l_minute (hI : zI ζ) {k : Nat} (hB : ζ 2 + k + 1 < 2 ^ 31) (hy : yL (paL ζ k) y) : ∃ y', (∀ (w3 : Int32) (K : Int32 → gS → Option (Int32 × gS)) n v5, f_L_pass_L6 w3 K (n + 1) (nI (bl ζ k)) v5 y = if w3 ≤ v5 then K (nI (bl ζ k)) y else f_L_pass_L6 w3 K n (nI (bl ζ (k + 1))) (v5 + 1) y') ∧ yL (paL ζ (k + 1)) y' ∧ atY y y' := by
  have h0 : 10 ≤ ζ 0 ∧ ζ 0 ≤ 200 := hI.2.2.1
  have hn := hI.nb
  have hns := hI.ns
  have p4 : ∀ t, paL ζ t 4 = ζ 4 := fun t => paL_o (by decide) (by omega) (by omega)
  have p5 : ∀ t, paL ζ t 5 = ζ 5 := fun t => paL_o (by decide) (by omega) (by omega)
  have p2 : ∀ t, paL ζ t 2 = ζ 2 + t := fun t => if_pos rfl
  have pb : ∀ t b, b < ζ 4 → ∀ j, j < 5 → bd (paL ζ t) b j = bd ζ b j := fun t b hb j hj => paL_o (by omega) (by omega) (by omega)
  obtain ⟨h1, h2, h3, h4⟩ := hy
  have e2 : y 306 2 + 1 = nI (ζ 2 + (k + 1)) := by rw [h1 2 (by decide), p2, nI_1, Nat.add_assoc]
  have e0 : y 306 0 = nI (ζ 0) := by rw [h1 0 (by decide), paL_o (by decide) (by omega) (by omega)]
  have hne : gne (nI (ζ 0)) = true := by simpa [gne] using nI_ne0 (show 0 < ζ 0 by omega) (by omega)
  -- behind the minute, without the bell
  have t2 : tireL (up2 y 306 2 (nI (ζ 2 + (k + 1)))) 306 2 = nI (ζ 2 + (k + 1)) := by
    unfold tireL
    rw [gU_row (by decide), up2_eq]
  have t0 : tireL (up2 y 306 2 (nI (ζ 2 + (k + 1)))) 306 0 = nI (ζ 0) := by
    unfold tireL
    rw [gU_row (by decide), up2_k (by decide), e0]
  have tY : atY y (tireL (up2 y 306 2 (nI (ζ 2 + (k + 1))))) := (atY_up (by decide) (by decide)).tr (atY_gU (by decide) (by decide))
  have rowT : ∀ i, i < 6 → tireL (up2 y 306 2 (nI (ζ 2 + (k + 1)))) 306 i = nI (paL ζ (k + 1) i) := fun i hi => by
    by_cases hi2 : i = 2
    · subst hi2
      rw [t2, p2]
    · unfold tireL
      rw [gU_row (by decide), up2_k hi2, h1 i hi, paL_o hi2 (by omega) (by omega), paL_o hi2 (by omega) (by omega)]
  have rowB : ∀ b, b < ζ 4 → tireL (up2 y 306 2 (nI (ζ 2 + (k + 1)))) 302 b = nI (bw (paL ζ (k + 1)) b) ∧ tireL (up2 y 306 2 (nI (ζ 2 + (k + 1)))) 303 b = nI (bd (paL ζ (k + 1)) b 4) := fun b hb => by
    have := h2 b (by rw [p4]; exact hb)
    unfold tireL
    rw [gU_row (by decide), gU_row (by decide), up2_c (by decide), up2_c (by decide), this.1, this.2, pb k b hb 4 (by decide), pb (k + 1) b hb 4 (by decide)]
    refine ⟨?_, rfl⟩
    unfold bw
    rw [pb k b hb 0 (by decide), pb k b hb 1 (by decide), pb k b hb 2 (by decide), pb k b hb 3 (by decide), pb (k + 1) b hb 0 (by decide), pb (k + 1) b hb 1 (by decide), pb (k + 1) b hb 2 (by decide), pb (k + 1) b hb 3 (by decide)]
  have rowG : ∀ i, tireL (up2 y 306 2 (nI (ζ 2 + (k + 1)))) 304 i = y 304 i := fun i => by
    unfold tireL
    rw [gU_row (by decide), up2_c (by decide)]
  have rowS : ∀ s, s < ζ 5 → ∀ j, j < 4 → tireL (up2 y 306 2 (nI (ζ 2 + (k + 1)))) 305 (s + 5 * j) = nI (sl (paL ζ (k + 1)) s j) := fun s hs j hj => by
    have := h4 s (by rw [p5]; exact hs) j hj
    unfold tireL
    rw [gU_eq, up2_c (show 305 ≠ 306 by decide), this]
    unfold sl
    by_cases hj2 : j = 2
    · subst hj2
      rw [if_pos (by omega)]
      have e : ∀ t, paL ζ t (118 + 4 * s + 2) = ζ (118 + 4 * s + 2) - t := fun t => by
        unfold paL
        rw [if_neg (by omega), if_pos (by omega)]
      have hs60 : ζ (118 + 4 * s + 2) ≤ 60 := (hI.s hs).2.2
      rw [e, e]
      by_cases hc : ζ (118 + 4 * s + 2) - k ≤ 1
      · rw [if_pos (show nI (ζ (118 + 4 * s + 2) - k) ≤ 1 from nI_le (b := 1) hc (by decide)), show ζ (118 + 4 * s + 2) - (k + 1) = 0 by omega]
        rfl
      · rw [if_neg (show ¬ nI (ζ (118 + 4 * s + 2) - k) ≤ 1 from nI_ge (a := 1) (by omega) (by omega)), show (1 : Int32) = nI 1 from rfl, pk_sub (by omega), show ζ (118 + 4 * s + 2) - k - 1 = ζ (118 + 4 * s + 2) - (k + 1) by omega]
    · rw [if_neg (by omega), paL_o (by omega) (by omega) (by omega), paL_o (by omega) (by omega) (by omega)]
  have hbl := bl_s hI k
  have gOld : ∀ g, g < 4 → ∀ j, j < 3 → ¬ (ζ 2 + k + 1) % ζ 0 = 0 → paL ζ (k + 1) (106 + 3 * g + j) = paL ζ k (106 + 3 * g + j) := fun g hg j hj hr => by
    rw [if_neg hr] at hbl
    have hbl : bl ζ (k + 1) = bl ζ k := hbl
    unfold paL
    rw [hbl, if_neg (show ¬ 106 + 3 * g + j = 2 by omega), if_neg (show ¬ 106 + 3 * g + j = 2 by omega), if_neg (show ¬ (118 ≤ 106 + 3 * g + j ∧ 106 + 3 * g + j < 118 + 4 * ζ 5 ∧ (106 + 3 * g + j - 118) % 4 = 2) by omega), if_neg (show ¬ (118 ≤ 106 + 3 * g + j ∧ 106 + 3 * g + j < 118 + 4 * ζ 5 ∧ (106 + 3 * g + j - 118) % 4 = 2) by omega)]
  by_cases hr : (ζ 2 + k + 1) % ζ 0 = 0
  · refine ⟨bellL (tireL (up2 y 306 2 (nI (ζ 2 + (k + 1))))), fun w3 K n v5 => ?_, ?_, tY.tr (atY_gU (by decide) (by decide))⟩
    · rw [f_L_pass_L6_s]
      by_cases hv : w3 ≤ v5
      · rw [if_pos hv, if_pos hv]
      · rw [if_neg hv, if_neg hv, gLet_eq, e2, l_tire]
        try dsimp only
        rw [t0, hne, gGd_t, t2, pk_rem (by omega) (by omega) (by omega), show ζ 2 + (k + 1) = ζ 2 + k + 1 from rfl, hr, if_pos (show nI 0 = 0 from rfl), l_bell, hbl, if_pos hr, nI_1]
    · unfold yL
      rw [p4, p5]
      unfold bellL
      refine ⟨fun i hi => by rw [gU_row (by decide)]; exact rowT i hi, fun b hb => by rw [gU_row (by decide), gU_row (by decide)]; exact rowB b hb, fun g hg j hj => ?_, fun s hs j hj => by rw [gU_row (by decide)]; exact rowS s hs j hj⟩
      rw [gU_eq, rowG]
      by_cases hj1 : j = 1
      · subst hj1
        rw [if_pos (by omega)]
        unfold gh paL
        rw [if_neg (by omega), if_neg (by omega), if_pos (by rw [hbl, if_pos hr]; omega)]
        rfl
      · rw [if_neg (by omega), h3 g hg j hj]
        unfold gh
        rw [paL_o (by omega) (by omega) (by omega), paL_o (by omega) (by omega) (by omega)]
  · refine ⟨tireL (up2 y 306 2 (nI (ζ 2 + (k + 1)))), fun w3 K n v5 => ?_, ?_, tY⟩
    · rw [f_L_pass_L6_s]
      by_cases hv : w3 ≤ v5
      · rw [if_pos hv, if_pos hv]
      · have hm : (ζ 2 + k + 1) % ζ 0 < ζ 0 := Nat.mod_lt _ (by omega)
        rw [if_neg hv, if_neg hv, gLet_eq, e2, l_tire]
        try dsimp only
        rw [t0, hne, gGd_t, t2, pk_rem (by omega) (by omega) (by omega), show ζ 2 + (k + 1) = ζ 2 + k + 1 from rfl, if_neg (nI_ne0 (by omega) (by omega)), show bl ζ (k + 1) = bl ζ k by rw [hbl, if_neg hr]; rfl]
    · unfold yL
      rw [p4, p5]
      refine ⟨rowT, rowB, fun g hg j hj => ?_, rowS⟩
      rw [rowG, h3 g hg j hj]
      unfold gh
      rw [gOld g hg j hj hr]
theorem l_pass (hI : zI ζ) {t : Nat} (ht : t ≤ 1000) (hB : ζ 2 + t < 2 ^ 31) (hy : yL ζ y) : ∃ y', f_L_pass (nI t) y = some (nI (bl ζ t), y') ∧ yL (paZ ζ t) y' ∧ atY y y' := by
  have key : ∀ d k n (y : gS), k + d = t → d < n → yL (paL ζ k) y → ∃ y', (∀ K : Int32 → gS → Option (Int32 × gS), f_L_pass_L6 (nI t) K n (nI (bl ζ k)) (nI k) y = K (nI (bl ζ t)) y') ∧ yL (paL ζ t) y' ∧ atY y y' := by
    intro d
    induction d with
    | zero =>
      intro k n y hk hn hy
      obtain ⟨n, rfl⟩ := Nat.exists_eq_succ_of_ne_zero (show n ≠ 0 by omega)
      have hkt : k = t := by omega
      subst hkt
      exact ⟨y, fun K => by rw [f_L_pass_L6_s, if_pos (Int32.le_refl _)], hy, atY.rf⟩
    | succ d ih =>
      intro k n y hk hn hy
      obtain ⟨n, rfl⟩ := Nat.exists_eq_succ_of_ne_zero (show n ≠ 0 by omega)
      obtain ⟨y1, a1, a2, a3⟩ := l_minute hI (k := k) (by omega) hy
      obtain ⟨y2, b1, b2, b3⟩ := ih (k + 1) n y1 (by omega) (by omega) a2
      refine ⟨y2, fun K => ?_, b2, a3.tr b3⟩
      rw [a1, if_neg (nI_ge (by omega) (by omega)), nI_1]
      exact b1 K
  have h00 : paL ζ 0 = ζ := by
    funext K
    unfold paL
    rw [bl_0, Nat.add_zero, Nat.sub_zero]
    by_cases h2 : K = 2
    · rw [if_pos h2, h2]
    · rw [if_neg h2, if_neg (show ¬ (106 ≤ K ∧ K < 118 ∧ (K - 106) % 3 = 1 ∧ 0 < 0) by omega), ite_self]
  obtain ⟨y1, a1, a2, a3⟩ := key t 0 gFu y (Nat.zero_add _) (by show t < 1000000; omega) (by rw [h00]; exact hy)
  have e3 : y1 306 3 + nI (bl ζ t) = nI (ζ 3 + bl ζ t) := by rw [a2.1 3 (by decide), paL_o (by decide) (by omega) (by omega), nI_add]
  refine ⟨up2 y1 306 3 (nI (ζ 3 + bl ζ t)), ?_, yU_t a2 (by decide), a3.tr (atY_up (by decide) (by decide))⟩
  unfold f_L_pass
  have := a1 (fun (k21 : Int32) (s22 : gS) => gLet (up2 s22 306 3 ((s22 306 3) + k21)) (fun s23 => some (k21, s23)))
  rw [bl_0] at this
  refine Eq.trans this ?_
  rw [gLet_eq, e3]
end LG
