section LTE
variable {ζ : Nat → Nat} {σ : gS}
theorem shl0 : ∀ k, k < 32 → (0 : Int32) <<< (nI k &&& 31) = 0 := by decide +kernel
theorem l_bsets (h : yL ζ σ) (hI : zI ζ) {b : Nat} (hb : b < ζ 4) (K : Int32 → Int32 → gS → Option (Int32 × gS)) : f_L_boards_L21 (nI b) K gFu 0 0 0 σ = K (nI (whc ζ b)) (nI (ffo ζ b)) σ := by
  have hn := hI.nb
  refine lp0 (fun n i => f_L_boards_L21 (nI b) K n (nI (mk (fun g => (gh ζ g 1).testBit b) i)) (nI (mk (fun g => (fre ζ g).testBit b) i)) (nI i) σ) 4 _ (by decide) (fun n i hi => ?_) (fun n => ?_)
  · have hyg := y_g h hi
    have hbit' : (((σ 304 (4 + i)) >>> (nI b &&& 31)) &&& 1) = nI (if (gh ζ i 1).testBit b = true then 1 else 0) := by
      rw [hyg.2.1]
      exact hbit (lt31 (hI.cr hi) (by decide)) (by omega)
    rw [f_L_boards_L21_s, if_neg (show ¬ (4 : Int32) ≤ nI i from nI_ge (b := 4) hi (by decide)), show (4 : Int32) + nI i = nI (4 + i) from nI_add 4 i, gin_nI (show 4 + i < 12 by omega) (by decide), gGd_t, gil_nI (by omega), hbit', gLet_eq, l_free h hI hi hb, ob_some]
    dsimp only
    rw [nI_1, mk_succ, mk_succ, fre_frB, decide_eq_true hb, Bool.true_and]
    have e1 : nI (mk (fun g => (gh ζ g 1).testBit b) i) ||| (nI (if (gh ζ i 1).testBit b = true then 1 else 0) <<< (nI i &&& 31)) = nI (mk (fun g => (gh ζ g 1).testBit b) i ||| (if (gh ζ i 1).testBit b = true then 2 ^ i else 0)) := by
      by_cases hc : (gh ζ i 1).testBit b = true
      · rw [if_pos hc, if_pos hc, show nI 1 = (1 : Int32) from rfl, shl1 _ (by omega), n_or]
      · rw [if_neg hc, if_neg hc, show nI 0 = (0 : Int32) from rfl, shl0 _ (by omega), or0, Nat.or_zero]
    rw [e1]
    by_cases hc : frB ζ i b = true
    · rw [if_pos hc, if_neg (by decide), gLet_eq, shl1 _ (by omega), n_or, if_pos hc]
    · rw [if_neg hc, if_pos (by decide), gLet_eq, or0, if_neg hc, Nat.or_zero]
  · rw [f_L_boards_L21_s, if_pos (show (4 : Int32) ≤ nI 4 from Int32.le_refl _)]
    rfl
theorem l_boards (hS : SS ζ σ) : f_L_boards σ = some (1, σ) := by
  obtain ⟨hI, hx, hy, hh⟩ := hS
  have hn := hI.nb
  unfold f_L_boards
  refine lp0 (fun n i => f_L_boards_L3 (fun (s38 : gS) => Option.bind (f_X10_board (s38 306 4) 0 s38) (fun q39 => gLet (gMix s38 q39.2) (fun s40 => if q39.1 = (-1) then (some (1, s40)) else (some (0, s40))))) n (nI i) σ) (ζ 4) _ (by omega) (fun n i hi => ?_) (fun n => ?_)
  · rw [f_L_boards_L3_s, y_nb hy, if_neg (nI_ge hi (by omega)), l_bsets hy hI hi, k_b0 hx hI hi, ob_some]
    dsimp only
    rw [mix_self, gLet_eq, l_one hy.B hI hi, ob_some]
    dsimp only
    rw [if_pos rfl, k_b1 hx hI hi, ob_some]
    dsimp only
    rw [mix_self, gLet_eq, l_two hy.B hI hi, ob_some]
    dsimp only
    rw [if_pos rfl, k_b2 hx hI hi, ob_some]
    dsimp only
    rw [mix_self, gLet_eq, l_creak hy.B hI hi, ob_some]
    dsimp only
    rw [if_pos rfl, k_b3 hx hI hi, ob_some]
    dsimp only
    rw [mix_self, gLet_eq, l_min hy.B hI hi, ob_some]
    dsimp only
    rw [if_pos rfl, k_b4 hx hI hi, ob_some]
    dsimp only
    rw [mix_self, gLet_eq, if_pos rfl, k_b5 hx hI hi, ob_some]
    dsimp only
    rw [mix_self, gLet_eq, if_pos rfl, k_b6 hx hI hi, ob_some]
    dsimp only
    rw [mix_self, gLet_eq, gin_nI (show i < 20 by omega) (by decide), gGd_t, if_pos (show nI (bd ζ i 4) = σ 303 (gil (nI i)) by rw [gil_nI (by omega), (hy.2.1 i hi).2]), nI_1]
  · rw [f_L_boards_L3_s, y_nb hy, if_pos (Int32.le_refl _)]
    try dsimp only
    rw [k_bno hx hI, ob_some]
    dsimp only
    rw [mix_self, gLet_eq, if_pos rfl]
theorem l_here (h : yL ζ σ) (hI : zI ζ) {g : Nat} (hg : g < 4) (w6 : Int32) (K : Int32 → gS → Option (Int32 × gS)) : f_L_tells_L31 w6 (nI g) (nI (fre ζ g)) K gFu 0 0 σ = K (nI (fat ζ g)) σ := by
  have hn := hI.nb
  have hgg := (hI.g hg).1
  have hE := lt31 (fre_lt hI g) (by decide)
  have hyg := (y_g h hg).1
  have e : fat ζ g = mk (fun b => (fre ζ g).testBit b && atB ζ b (gh ζ g 0)) (ζ 4) := by
    apply bit_ext
    intro b
    rw [mk_bit]
    by_cases hb : b < ζ 4
    · unfold fat
      rw [touch_one hb, decide_eq_true hb, Bool.true_and]
    · rw [decide_eq_false hb, Bool.false_and]
      unfold fat
      rw [Nat.testBit_and, touch_bit, decide_eq_false hb, Bool.false_and, Bool.and_false]
  rw [e]
  refine lp0 (fun n i => f_L_tells_L31 w6 (nI g) (nI (fre ζ g)) K n (nI (mk (fun b => (fre ζ g).testBit b && atB ζ b (gh ζ g 0)) i)) (nI i) σ) (ζ 4) _ (by omega) (fun n i hi => ?_) (fun n => ?_)
  · have hb := hI.b hi
    rw [f_L_tells_L31_s, y_nb h, if_neg (nI_ge hi (by omega)), mk_succ, nI_1]
    unfold atB
    by_cases hc : (fre ζ g).testBit i = true
    · rw [if_pos ((hbit1 hE (by omega)).mpr hc), l_one h.B hI hi, ob_some]
      dsimp only
      rw [gin_nI (show g < 12 by omega) (by decide), gGd_t, gil_nI (show g < 2 ^ 31 by omega), gLet_eq]
      by_cases h0 : bd ζ i 0 = gh ζ g 0
      · rw [if_pos (show nI (bd ζ i 0) = σ 304 g by rw [hyg, h0])]
        dsimp only
        rw [gLet_eq, shl1 _ (by omega), n_or, if_pos (by simp [hc, h0])]
      · rw [if_neg (show ¬ nI (bd ζ i 0) = σ 304 g by rw [hyg]; exact fun z => h0 ((nI_eq (by omega) (by omega)).mp z)), l_two h.B hI hi, ob_some]
        dsimp only
        by_cases h1 : bd ζ i 1 = gh ζ g 0
        · rw [if_pos (show nI (bd ζ i 1) = σ 304 g by rw [hyg, h1])]
          rw [gLet_eq, shl1 _ (by omega), n_or, if_pos (by simp [hc, h1]), gGd_t]
        · rw [if_neg (show ¬ nI (bd ζ i 1) = σ 304 g by rw [hyg]; exact fun z => h1 ((nI_eq (by omega) (by omega)).mp z)), gLet_eq, or0, if_neg (by simp [h0, h1]), Nat.or_zero, gGd_t]
    · rw [if_neg (fun z => hc ((hbit1 hE (by omega)).mp z)), gLet_eq, or0, if_neg (by simp [hc]), Nat.or_zero]
  · rw [f_L_tells_L31_s, y_nb h, if_pos (Int32.le_refl _)]
theorem l_tghosts (hS : SS ζ σ) (w6 : Int32) (K : gS → Option (Int32 × gS)) : f_L_tells_L6 w6 K gFu 0 σ = K σ := by
  obtain ⟨hI, hx, hy, hh⟩ := hS
  refine lp0 (fun n i => f_L_tells_L6 w6 K n (nI i) σ) 4 _ (by decide) (fun n i hi => ?_) (fun n => ?_)
  · have hyg := y_g hy hi
    have hE := lt31 (fre_lt hI i) (by decide)
    have hgg := (hI.g hi).1
    rw [f_L_tells_L6_s, if_neg (show ¬ (4 : Int32) ≤ nI i from nI_ge (b := 4) hi (by decide)), l_open hy hI hi, ob_some]
    dsimp only
    rw [l_here hy hI hi, k_g0 hx hi, ob_some]
    dsimp only
    rw [mix_self, gLet_eq, show (4 : Int32) + nI i = nI (4 + i) from nI_add 4 i, show (8 : Int32) + nI i = nI (8 + i) from nI_add 8 i, gin_nI (show i < 12 by omega) (by decide), gin_nI (show 4 + i < 12 by omega) (by decide), gin_nI (show 8 + i < 12 by omega) (by decide), gil_nI (show i < 2 ^ 31 by omega), gil_nI (show 4 + i < 2 ^ 31 by omega), gil_nI (show 8 + i < 2 ^ 31 by omega), gGd_t, if_pos (show nI (gh ζ i 0) = σ 304 i from hyg.1.symm), k_g1 hx hi, ob_some]
    dsimp only
    rw [mix_self, gLet_eq, gGd_t, if_pos (show nI (gh ζ i 1) = σ 304 (4 + i) from hyg.2.1.symm), k_g2 hx hI hi, ob_some]
    dsimp only
    rw [mix_self, gLet_eq, if_pos rfl, k_g3 hx hI hi, ob_some]
    dsimp only
    rw [mix_self, gLet_eq, gGd_t, hyg.1, show (9 : Int32) = nI 9 from rfl, l_reach hy.B hI hE hgg (by decide), ob_some]
    dsimp only
    rw [Wk_rea hI hgg, if_pos rfl, k_g4 hx hi, ob_some]
    dsimp only
    rw [mix_self, gLet_eq, gGd_t, if_pos (show nI (gh ζ i 2) = σ 304 (8 + i) from hyg.2.2.symm), nI_1]
  · rw [f_L_tells_L6_s, if_pos (show (4 : Int32) ≤ nI 4 from Int32.le_refl _)]
theorem l_twakes (hS : SS ζ σ) {s : Nat} (hs : s < ζ 5) (w6 : Int32) (K : Int32 → gS → Option (Int32 × gS)) : f_L_tells_L205 w6 (nI s) K gFu 0 0 σ = K (nI (btw ζ s)) σ := by
  obtain ⟨hI, hx, hy, hh⟩ := hS
  have hn := hI.nb
  have hns := hI.ns
  have hys := y_s hy hs
  have hss := hI.s hs
  refine lp0 (fun n i => f_L_tells_L205 w6 (nI s) K n (nI (mk (fun b => wkB ζ b s) i)) (nI i) σ) (ζ 4) _ (by omega) (fun n i hi => ?_) (fun n => ?_)
  · have hl := ldn_le hI (t := sl ζ s 0) hi
    rw [f_L_tells_L205_s, y_nb hy, if_neg (nI_ge hi (by omega)), l_loud hy hI hi hs, ob_some]
    dsimp only
    rw [show (5 : Int32) + nI s = nI (5 + s) from nI_add 5 s, gin_nI (show 5 + s < 20 by omega) (by decide), gGd_t, gil_nI (show 5 + s < 2 ^ 31 by omega), gLet_eq, mk_succ]
    have e : wkB ζ i s = decide (sl ζ s 1 ≤ ldn ζ i (sl ζ s 0)) := rfl
    rw [e]
    by_cases hc : sl ζ s 1 ≤ ldn ζ i (sl ζ s 0)
    · rw [if_neg (show ¬ nI (ldn ζ i (sl ζ s 0)) < σ 305 (5 + s) by rw [hys.2.1]; exact nI_nlt hc (by omega))]
      dsimp only
      rw [gLet_eq, k_loudness hx hI hi hs, ob_some]
      dsimp only
      rw [mix_self, gLet_eq, if_pos rfl, shl1 _ (by omega), n_or, nI_1, if_pos (decide_eq_true hc)]
    · rw [if_pos (show nI (ldn ζ i (sl ζ s 0)) < σ 305 (5 + s) by rw [hys.2.1]; exact nI_lt (by omega) (by omega))]
      dsimp only
      rw [gLet_eq, k_loudness hx hI hi hs, ob_some]
      dsimp only
      rw [mix_self, gLet_eq, if_pos rfl, or0, nI_1, if_neg (by simpa using hc), Nat.or_zero]
  · rw [f_L_tells_L205_s, y_nb hy, if_pos (Int32.le_refl _)]
    rfl
theorem l_tsleep (hS : SS ζ σ) (K : Int32 → gS → Option (Int32 × gS)) : f_L_tells_L190 K gFu 0 0 σ = K (nI (awk ζ)) σ := by
  obtain ⟨hI, hx, hy, hh⟩ := id hS
  have hns := hI.ns
  refine lp0 (fun n i => f_L_tells_L190 K n (nI (mk (fun s => decide (0 < sl ζ s 2)) i)) (nI i) σ) (ζ 5) _ (by omega) (fun n i hi => ?_) (fun n => ?_)
  · have hys := y_s hy hi
    have hss := hI.s hi
    rw [f_L_tells_L190_s, y_ns hy, if_neg (nI_ge hi (by omega)), l_twakes hS hi, show (5 : Int32) + nI i = nI (5 + i) from nI_add 5 i, show (10 : Int32) + nI i = nI (10 + i) from nI_add 10 i, show (15 : Int32) + nI i = nI (15 + i) from nI_add 15 i, gin_nI (show i < 20 by omega) (by decide), gin_nI (show 5 + i < 20 by omega) (by decide), gin_nI (show 10 + i < 20 by omega) (by decide), gin_nI (show 15 + i < 20 by omega) (by decide), gil_nI (show i < 2 ^ 31 by omega), gil_nI (show 5 + i < 2 ^ 31 by omega), gil_nI (show 10 + i < 2 ^ 31 by omega), gil_nI (show 15 + i < 2 ^ 31 by omega), gGd_t, gLet_eq, mk_succ]
    -- behind the set of those who are awake
    have rest : ∀ (a : Int32), a = nI (mk (fun s => decide (0 < sl ζ s 2)) i ||| (if decide (0 < sl ζ i 2) = true then 2 ^ i else 0)) → (Option.bind (f_X10_sleeperOf (nI i) 0 σ) (fun q61 => gLet (gMix σ q61.2) (fun s62 => gGd true (if q61.1 = (s62 305 i) then (Option.bind (f_X10_sleeperOf (nI i) 1 s62) (fun q65 => gLet (gMix s62 q65.2) (fun s66 => gGd true (if q65.1 = (s66 305 (5 + i)) then (Option.bind (f_X10_sleeperOf (nI i) 2 s66) (fun q69 => gLet (gMix s66 q69.2) (fun s70 => gGd true (if q69.1 = (s70 305 (10 + i)) then (Option.bind (f_X10_sleeperOf (nI i) 3 s70) (fun q73 => gLet (gMix s70 q73.2) (fun s74 => gGd true (if q73.1 = (s74 305 (15 + i)) then (Option.bind (f_X10_sleeperOf (nI i) 4 s74) (fun q77 => gLet (gMix s74 q77.2) (fun s78 => if q77.1 = nI (btw ζ i) then (f_L_tells_L190 K n a (nI i + 1) s78) else (some (0, s78))))) else (some (0, s74)))))) else (some (0, s70)))))) else (some (0, s66)))))) else (some (0, s62)))))) = f_L_tells_L190 K n (nI (mk (fun s => decide (0 < sl ζ s 2)) i ||| (if decide (0 < sl ζ i 2) = true then 2 ^ i else 0))) (nI (i + 1)) σ := by
      intro a ha
      rw [k_s0 hx hI hi, ob_some]
      dsimp only
      rw [mix_self, gLet_eq, gGd_t, if_pos (show nI (sl ζ i 0) = σ 305 i from hys.1.symm), k_s1 hx hI hi, ob_some]
      dsimp only
      rw [mix_self, gLet_eq, gGd_t, if_pos (show nI (sl ζ i 1) = σ 305 (5 + i) from hys.2.1.symm), k_s2 hx hI hi, ob_some]
      dsimp only
      rw [mix_self, gLet_eq, gGd_t, if_pos (show nI (sl ζ i 2) = σ 305 (10 + i) from hys.2.2.1.symm), k_s3 hx hI hi, ob_some]
      dsimp only
      rw [mix_self, gLet_eq, gGd_t, if_pos (show nI (sl ζ i 3) = σ 305 (15 + i) from hys.2.2.2.symm), k_s4 hx hI hi, ob_some]
      dsimp only
      rw [mix_self, gLet_eq, if_pos rfl, ha, nI_1]
    by_cases hc : 0 < sl ζ i 2
    · rw [if_neg (show ¬ σ 305 (10 + i) ≤ 0 by rw [hys.2.2.1]; exact nI_nle hc (by omega))]
      dsimp only
      rw [gLet_eq]
      exact rest _ (by rw [shl1 _ (by omega), n_or, if_pos (decide_eq_true hc)])
    · rw [if_pos (show σ 305 (10 + i) ≤ 0 by rw [hys.2.2.1]; exact n_le0 (by omega))]
      dsimp only
      rw [gLet_eq]
      exact rest _ (by rw [or0, if_neg (by simpa using hc), Nat.or_zero])
  · rw [f_L_tells_L190_s, y_ns hy, if_pos (Int32.le_refl _)]
    rfl
theorem l_tells (hS : SS ζ σ) : f_L_tells σ = some (1, σ) := by
  obtain ⟨hI, hx, hy, hh⟩ := id hS
  have hz : 10 ≤ ζ 0 ∧ ζ 0 ≤ 200 := hI.2.2.1
  have hne : gne (nI (ζ 0)) = true := by simpa [gne] using nI_ne0 (show 0 < ζ 0 by omega) (by omega)
  have t : ∀ k, k < 6 → σ 306 k = nI (ζ k) := hy.1
  unfold f_L_tells
  rw [l_tghosts hS, l_tsleep hS, k_c0 hx, ob_some]
  dsimp only
  rw [mix_self, gLet_eq]
  simp only [gLet_eq]
  rw [if_pos (show nI (ζ 0) = σ 306 0 from (t 0 (by decide)).symm), k_c1 hx, ob_some]
  dsimp only
  rw [mix_self, if_pos (show nI (ζ 1) = σ 306 1 from (t 1 (by decide)).symm), k_c2 hx, ob_some]
  dsimp only
  rw [mix_self, if_pos (show nI (ζ 2) = σ 306 2 from (t 2 (by decide)).symm), k_c3 hx, ob_some]
  dsimp only
  rw [mix_self, if_pos (show nI (ζ 4) = σ 306 4 from (t 4 (by decide)).symm), k_c4 hx, ob_some]
  dsimp only
  rw [mix_self, if_pos (show nI (ζ 5) = σ 306 5 from (t 5 (by decide)).symm), k_c5 hx hI, ob_some]
  dsimp only
  rw [mix_self, if_pos rfl, k_c6 hx hI, ob_some]
  dsimp only
  rw [mix_self, l_wat hy hI, ob_some]
  dsimp only
  rw [if_pos rfl, k_c7 hx, ob_some]
  dsimp only
  rw [mix_self, if_pos (show nI (ζ 3) = σ 306 3 from (t 3 (by decide)).symm), k_c8 hx hI, ob_some]
  dsimp only
  rw [mix_self, t 0 (by decide), t 2 (by decide), hne, gGd_t, if_pos rfl, if_neg i10, l_boards hS, ob_some]
  dsimp only
  rw [if_neg i10]
end LTE
