section AK
variable {ζ : Nat → Nat} {x : gS}
/-! what the class answers, in numbers -/
theorem k_far (hx : cX ζ x 1) (hI : zI ζ) {t r : Nat} (ht : t < 10) (hr : r < 10) : f_X10_far (nI t) (nI r) x = some (if dst ζ (2 ^ ζ 4 - 1) 0 t r < gINF then nI (dst ζ (2 ^ ζ 4 - 1) 0 t r) else (-6), x) := by
  unfold f_X10_far
  rw [x_room ht, ob_some]
  dsimp only
  rw [if_neg i10, x_room hr, ob_some]
  dsimp only
  rw [if_neg i10, shl1 _ (by omega), x_far1 hx hI ht hr]
  rfl
theorem k_loudness (hx : cX ζ x 1) (hI : zI ζ) {b s : Nat} (hb : b < ζ 4) (hs : s < ζ 5) : f_X10_loudness (nI b) (nI s) x = some (nI (ldn ζ b (sl ζ s 0)), x) := by
  unfold f_X10_loudness
  rw [x_has hx hI hb, ob_some]
  dsimp only
  rw [if_neg i10, x_hasS hx hI hs, ob_some]
  dsimp only
  rw [if_neg i10, a_srm hx hI hs, ob_some]
  dsimp only
  rw [x_loudIn hx hI hb (hI.s hs).1]
  rfl
theorem k_b0 (hx : cX ζ x 1) (hI : zI ζ) {b : Nat} (hb : b < ζ 4) : f_X10_board (nI b) 0 x = some (nI (bd ζ b 0), x) := by
  unfold f_X10_board
  rw [x_has hx hI hb, ob_some]
  dsimp only
  rw [if_neg i10, if_pos rfl, a_lo hx hI hb]
  rfl
theorem k_b1 (hx : cX ζ x 1) (hI : zI ζ) {b : Nat} (hb : b < ζ 4) : f_X10_board (nI b) 1 x = some (nI (bd ζ b 1), x) := by
  unfold f_X10_board
  rw [x_has hx hI hb, ob_some]
  dsimp only
  rw [if_neg i10, if_neg (by decide), if_pos rfl, a_hi hx hI hb]
  rfl
theorem k_b2 (hx : cX ζ x 1) (hI : zI ζ) {b : Nat} (hb : b < ζ 4) : f_X10_board (nI b) 2 x = some (nI (bd ζ b 2), x) := by
  unfold f_X10_board
  rw [x_has hx hI hb, ob_some]
  dsimp only
  rw [if_neg i10, if_neg (by decide), if_neg (by decide), if_pos rfl, a_cr hx hI hb]
  rfl
theorem k_b3 (hx : cX ζ x 1) (hI : zI ζ) {b : Nat} (hb : b < ζ 4) : f_X10_board (nI b) 3 x = some (nI (bd ζ b 3), x) := by
  unfold f_X10_board
  rw [x_has hx hI hb, ob_some]
  dsimp only
  rw [if_neg i10, if_neg (by decide), if_neg (by decide), if_neg (by decide), if_pos rfl, a_mi hx hI hb]
  rfl
theorem k_b4 (hx : cX ζ x 1) (hI : zI ζ) {b : Nat} (hb : b < ζ 4) : f_X10_board (nI b) 4 x = some (nI (whc ζ b), x) := by
  unfold f_X10_board
  rw [x_has hx hI hb, ob_some]
  dsimp only
  rw [if_neg i10, if_neg (by decide), if_neg (by decide), if_neg (by decide), if_neg (by decide), if_pos rfl, x_whc hx hI hb]
  rfl
theorem k_b5 (hx : cX ζ x 1) (hI : zI ζ) {b : Nat} (hb : b < ζ 4) : f_X10_board (nI b) 5 x = some (nI (ffo ζ b), x) := by
  unfold f_X10_board
  rw [x_has hx hI hb, ob_some]
  dsimp only
  rw [if_neg i10, if_neg (by decide), if_neg (by decide), if_neg (by decide), if_neg (by decide), if_neg (by decide), if_pos rfl, x_ffo hx hI hb]
  rfl
theorem k_b6 (hx : cX ζ x 1) (hI : zI ζ) {b : Nat} (hb : b < ζ 4) : f_X10_board (nI b) 6 x = some (nI (bd ζ b 4), x) := by
  unfold f_X10_board
  rw [x_has hx hI hb, ob_some]
  dsimp only
  rw [if_neg i10, if_neg (by decide), if_neg (by decide), if_neg (by decide), if_neg (by decide), if_neg (by decide), if_neg (by decide), if_pos rfl, a_ck hx hI hb]
  rfl
theorem k_bno (hx : cX ζ x 1) (hI : zI ζ) : f_X10_board (nI (ζ 4)) 0 x = some (-1, x) := by
  unfold f_X10_board
  rw [x_hasno hx hI, ob_some]
  dsimp only
  rw [if_pos rfl]
theorem k_g0 (hx : cX ζ x 1) {g : Nat} (hg : g < 4) : f_X10_ghost (nI g) 0 x = some (nI (gh ζ g 0), x) := by
  unfold f_X10_ghost
  rw [x_ghost hg, ob_some]
  dsimp only
  rw [if_neg i10, if_pos rfl, a_grm hx hg]
  rfl
theorem k_g1 (hx : cX ζ x 1) {g : Nat} (hg : g < 4) : f_X10_ghost (nI g) 1 x = some (nI (gh ζ g 1), x) := by
  unfold f_X10_ghost
  rw [x_ghost hg, ob_some]
  dsimp only
  rw [if_neg i10, if_neg (by decide), if_pos rfl, a_gcr hx hg]
  rfl
theorem k_g2 (hx : cX ζ x 1) (hI : zI ζ) {g : Nat} (hg : g < 4) : f_X10_ghost (nI g) 2 x = some (nI (fat ζ g), x) := by
  unfold f_X10_ghost
  rw [x_ghost hg, ob_some]
  dsimp only
  rw [if_neg i10, if_neg (by decide), if_neg (by decide), if_pos rfl, x_fat hx hI hg]
  rfl
theorem k_g3 (hx : cX ζ x 1) (hI : zI ζ) {g : Nat} (hg : g < 4) : f_X10_ghost (nI g) 3 x = some (nI (rea ζ (fre ζ g) (gh ζ g 0)), x) := by
  unfold f_X10_ghost
  rw [x_ghost hg, ob_some]
  dsimp only
  rw [if_neg i10, if_neg (by decide), if_neg (by decide), if_neg (by decide), if_pos rfl, a_grm hx hg, ob_some]
  dsimp only
  rw [x_free hx hI hg, ob_some]
  dsimp only
  rw [x_rooms hx hI (lt31 (fre_lt hI g) (by decide)) (hI.g hg).1]
  rfl
theorem k_g4 (hx : cX ζ x 1) {g : Nat} (hg : g < 4) : f_X10_ghost (nI g) 4 x = some (nI (gh ζ g 2), x) := by
  unfold f_X10_ghost
  rw [x_ghost hg, ob_some]
  dsimp only
  rw [if_neg i10, if_neg (by decide), if_neg (by decide), if_neg (by decide), if_neg (by decide), if_pos rfl, a_gcs hx hg]
  rfl
theorem k_s0 (hx : cX ζ x 1) (hI : zI ζ) {s : Nat} (hs : s < ζ 5) : f_X10_sleeperOf (nI s) 0 x = some (nI (sl ζ s 0), x) := by
  unfold f_X10_sleeperOf
  rw [x_hasS hx hI hs, ob_some]
  dsimp only
  rw [if_neg i10, if_pos rfl, a_srm hx hI hs]
  rfl
theorem k_s1 (hx : cX ζ x 1) (hI : zI ζ) {s : Nat} (hs : s < ζ 5) : f_X10_sleeperOf (nI s) 1 x = some (nI (sl ζ s 1), x) := by
  unfold f_X10_sleeperOf
  rw [x_hasS hx hI hs, ob_some]
  dsimp only
  rw [if_neg i10, if_neg (by decide), if_pos rfl, a_ear hx hI hs]
  rfl
theorem k_s2 (hx : cX ζ x 1) (hI : zI ζ) {s : Nat} (hs : s < ζ 5) : f_X10_sleeperOf (nI s) 2 x = some (nI (sl ζ s 2), x) := by
  unfold f_X10_sleeperOf
  rw [x_hasS hx hI hs, ob_some]
  dsimp only
  rw [if_neg i10, if_neg (by decide), if_neg (by decide), if_pos rfl, a_saw hx hI hs]
  rfl
theorem k_s3 (hx : cX ζ x 1) (hI : zI ζ) {s : Nat} (hs : s < ζ 5) : f_X10_sleeperOf (nI s) 3 x = some (nI (sl ζ s 3), x) := by
  unfold f_X10_sleeperOf
  rw [x_hasS hx hI hs, ob_some]
  dsimp only
  rw [if_neg i10, if_neg (by decide), if_neg (by decide), if_neg (by decide), if_pos rfl, a_swk hx hI hs]
  rfl
theorem k_s4 (hx : cX ζ x 1) (hI : zI ζ) {s : Nat} (hs : s < ζ 5) : f_X10_sleeperOf (nI s) 4 x = some (nI (btw ζ s), x) := by
  unfold f_X10_sleeperOf
  rw [x_hasS hx hI hs, ob_some]
  dsimp only
  rw [if_neg i10, if_neg (by decide), if_neg (by decide), if_neg (by decide), if_neg (by decide), if_pos rfl, x_btw hx hI hs]
  rfl
theorem k_c0 (hx : cX ζ x 1) : f_X10_count 0 x = some (nI (ζ 0), x) := by
  unfold f_X10_count
  rw [if_pos rfl, a_bell hx]
  rfl
theorem k_c1 (hx : cX ζ x 1) : f_X10_count 1 x = some (nI (ζ 1), x) := by
  unfold f_X10_count
  rw [if_neg (by decide), if_pos rfl, a_awk hx]
  rfl
theorem k_c2 (hx : cX ζ x 1) : f_X10_count 2 x = some (nI (ζ 2), x) := by
  unfold f_X10_count
  rw [if_neg (by decide), if_neg (by decide), if_pos rfl, x_min hx]
theorem k_c3 (hx : cX ζ x 1) : f_X10_count 3 x = some (nI (ζ 4), x) := by
  unfold f_X10_count
  rw [if_neg (by decide), if_neg (by decide), if_neg (by decide), if_pos rfl, x_nb hx]
theorem k_c4 (hx : cX ζ x 1) : f_X10_count 4 x = some (nI (ζ 5), x) := by
  unfold f_X10_count
  rw [if_neg (by decide), if_neg (by decide), if_neg (by decide), if_neg (by decide), if_pos rfl, x_ns hx]
theorem k_c5 (hx : cX ζ x 1) (hI : zI ζ) : f_X10_count 5 x = some (nI (awk ζ), x) := by
  unfold f_X10_count
  rw [if_neg (by decide), if_neg (by decide), if_neg (by decide), if_neg (by decide), if_neg (by decide), if_pos rfl, x_awake hx hI]
  rfl
theorem k_c6 (hx : cX ζ x 1) (hI : zI ζ) : f_X10_count 6 x = some (nI (wat ζ), x) := by
  unfold f_X10_count
  rw [if_neg (by decide), if_neg (by decide), if_neg (by decide), if_neg (by decide), if_neg (by decide), if_neg (by decide), if_pos rfl, x_wat hx hI]
  rfl
theorem k_c7 (hx : cX ζ x 1) : f_X10_count 7 x = some (nI (ζ 3), x) := by
  unfold f_X10_count
  rw [if_neg (by decide), if_neg (by decide), if_neg (by decide), if_neg (by decide), if_neg (by decide), if_neg (by decide), if_neg (by decide), if_pos rfl, x_bls hx]
theorem k_c8 (hx : cX ζ x 1) (hI : zI ζ) : f_X10_count 8 x = some (nI (ζ 0) - (nI (ζ 2) - nI (ζ 2) / nI (ζ 0) * nI (ζ 0)), x) := by
  have hz : 10 ≤ ζ 0 ∧ ζ 0 ≤ 200 := hI.2.2.1
  have hne : ¬ nI (ζ 0) = 0 := nI_ne0 (by omega) (by omega)
  unfold f_X10_count
  rw [if_neg (by decide), if_neg (by decide), if_neg (by decide), if_neg (by decide), if_neg (by decide), if_neg (by decide), if_neg (by decide), if_neg (by decide), if_pos rfl]
  unfold f_X0_minutesToBell f_X0_minutesBetweenBells
  rw [a_bell hx, ob_some]
  dsimp only
  rw [if_neg (show ¬ nI (ζ 0) < 1 from nI_nlt (b := 1) (by omega) (by omega)), ob_some]
  dsimp only
  rw [a_bell hx, ob_some]
  dsimp only
  rw [if_neg (show ¬ nI (ζ 0) < 1 from nI_nlt (b := 1) (by omega) (by omega)), ob_some]
  dsimp only
  rw [show gne (nI (ζ 0)) = true by simpa [gne] using hne, gGd_t, x_min hx]
  rfl
theorem k_reason (hx : cX ζ x 1) (hI : zI ζ) {g : Nat} (hg : g < 4) : f_X10_reason (nI g) x = some (nI (wn ζ (lft ζ g) (gh ζ g 0)), x) := by
  unfold f_X10_reason
  rw [x_ghost hg, ob_some]
  dsimp only
  rw [if_neg i10, x_left hx hI hg, ob_some]
  dsimp only
  rw [a_grm hx hg, ob_some]
  dsimp only
  rw [x_why hx hI (lt31 (lft_lt hI g) (by decide)) (hI.g hg).1]
  rfl
/-- the quietest way -/
def qv (ζ : Nat → Nat) (g t : Nat) : Nat := ls (fun k => (rea ζ (fre ζ g &&& qui ζ k) (gh ζ g 0)).testBit t) 10
theorem qa_lt (hI : zI ζ) (g k : Nat) : fre ζ g &&& qui ζ k < 2 ^ 31 := Nat.and_lt_two_pow _ (lt31 (mk_lt' (k := 20) (by have := hI.nb; omega)) (by decide))
theorem k_quietest (hx : cX ζ x 1) (hI : zI ζ) {g t : Nat} (hg : g < 4) (ht : t < 10) : f_X10_quietest (nI g) (nI t) x = some (if qv ζ g t < 10 then nI (qv ζ g t) else (-6), x) := by
  have hr := (hI.g hg).1
  unfold f_X10_quietest
  rw [x_ghost hg, ob_some]
  dsimp only
  rw [if_neg i10, x_room ht, ob_some]
  dsimp only
  rw [if_neg i10, a_grm hx hg, ob_some]
  dsimp only
  rw [x_free hx hI hg, ob_some]
  dsimp only
  have sx : ∀ n k, k < 10 → f_X10_quietest_L44 (nI t) (nI (gh ζ g 0)) (nI (fre ζ g)) (n + 1) (nI k) x = if (rea ζ (fre ζ g &&& qui ζ k) (gh ζ g 0)).testBit t = true then some (nI k, x) else f_X10_quietest_L44 (nI t) (nI (gh ζ g 0)) (nI (fre ζ g)) n (nI (k + 1)) x := by
    intro n k hk
    rw [f_X10_quietest_L44_s, if_neg (show ¬ (9 : Int32) < nI k from nI_nlt (a := 9) (by omega) (by decide)), x_qui hx hI (by omega), ob_some]
    dsimp only
    rw [n_and, x_rooms hx hI (qa_lt hI g k) hr, ob_some]
    dsimp only
    by_cases hc : (rea ζ (fre ζ g &&& qui ζ k) (gh ζ g 0)).testBit t = true
    · rw [holds_t (lt31 rea_lt (by decide)) (by omega) hc, ob_some, if_pos hc]
      dsimp only
      rw [if_neg i10]
    · rw [holds_f (lt31 rea_lt (by decide)) (by omega) hc, ob_some, if_neg hc]
      dsimp only
      rw [if_pos rfl, nI_1]
  have key : ∀ d k n, k + d = 10 → d < n → (∀ i, i < k → ¬ (rea ζ (fre ζ g &&& qui ζ i) (gh ζ g 0)).testBit t = true) → f_X10_quietest_L44 (nI t) (nI (gh ζ g 0)) (nI (fre ζ g)) n (nI k) x = some (if qv ζ g t < 10 then nI (qv ζ g t) else (-6), x) := by
    intro d
    induction d with
    | zero =>
      intro k n hk hn hno
      obtain ⟨n, rfl⟩ := Nat.exists_eq_succ_of_ne_zero (show n ≠ 0 by omega)
      have h10 : ¬ qv ζ g t < 10 := fun z => hno (qv ζ g t) (by omega) (ls_yes (fun k => (rea ζ (fre ζ g &&& qui ζ k) (gh ζ g 0)).testBit t) 10 z)
      rw [f_X10_quietest_L44_s, if_pos (show (9 : Int32) < nI k from nI_lt (a := 9) (by omega) (by omega)), if_neg h10]
    | succ d ih =>
      intro k n hk hn hno
      obtain ⟨n, rfl⟩ := Nat.exists_eq_succ_of_ne_zero (show n ≠ 0 by omega)
      rw [sx n k (by omega)]
      by_cases hc : (rea ζ (fre ζ g &&& qui ζ k) (gh ζ g 0)).testBit t = true
      · have h1 : qv ζ g t < 10 := ls_lt (p := fun k => (rea ζ (fre ζ g &&& qui ζ k) (gh ζ g 0)).testBit t) (show k < 10 by omega) hc
        have h2 : qv ζ g t = k := by
          rcases Nat.lt_trichotomy (qv ζ g t) k with h | h | h
          · exact absurd (ls_yes (fun k => (rea ζ (fre ζ g &&& qui ζ k) (gh ζ g 0)).testBit t) 10 h1) (hno _ h)
          · exact h
          · exact absurd hc (ls_no (fun k => (rea ζ (fre ζ g &&& qui ζ k) (gh ζ g 0)).testBit t) 10 k h)
        rw [if_pos hc, if_pos h1, h2]
      · rw [if_neg hc]
        refine ih (k + 1) n (by omega) (by omega) fun i hi => ?_
        rcases Nat.lt_or_ge i k with h | h
        · exact hno i h
        · rw [show i = k by omega]; exact hc
  exact key 10 0 gFu rfl (by decide) fun i hi => absurd hi (Nat.not_lt_zero i)
/-- the gap: the best board and how many, over the boards below n -/
def gbN (ζ : Nat → Nat) : Nat → Nat × Nat
  | 0 => (0, 0)
  | n + 1 => if gap ζ (2 ^ ζ 4 - 1) n ≤ (gbN ζ n).2 then gbN ζ n else (n, gap ζ (2 ^ ζ 4 - 1) n)
theorem gbN_le (n : Nat) : (gbN ζ n).2 ≤ 100 ∧ ((gbN ζ n).1 < n ∨ (gbN ζ n).2 = 0) := by
  induction n with
  | zero => exact ⟨Nat.zero_le _, Or.inr rfl⟩
  | succ n ih =>
    rw [gbN]
    by_cases h : gap ζ (2 ^ ζ 4 - 1) n ≤ (gbN ζ n).2
    · rw [if_pos h]
      exact ⟨ih.1, ih.2.elim (fun z => Or.inl (by omega)) Or.inr⟩
    · rw [if_neg h]
      exact ⟨gap_le _ _, Or.inl (Nat.lt_succ_self n)⟩
theorem k_gapL (hx : cX ζ x 1) (hI : zI ζ) (p : Int32) (K : Int32 → Int32 → gS → Option (Int32 × gS)) : f_X10_worstGap_L20 p K gFu (-6) 0 0 x = K (if (gbN ζ (ζ 4)).2 = 0 then (-6) else nI (gbN ζ (ζ 4)).1) (nI (gbN ζ (ζ 4)).2) x := by
  have hn := hI.nb
  refine lp0 (fun n i => f_X10_worstGap_L20 p K n (if (gbN ζ i).2 = 0 then (-6) else nI (gbN ζ i).1) (nI (gbN ζ i).2) (nI i) x) (ζ 4) _ (by omega) (fun n i hi => ?_) (fun n => ?_)
  · have h1 := gbN_le (ζ := ζ) i
    have h2 := gap_le (ζ := ζ) (2 ^ ζ 4 - 1) i
    rw [f_X10_worstGap_L20_s, x_nb hx, if_neg (nI_ge hi (by omega)), x_gap hx hI hi, ob_some]
    dsimp only
    rw [nI_1, gbN]
    by_cases hle : gap ζ (2 ^ ζ 4 - 1) i ≤ (gbN ζ i).2
    · rw [if_pos (nI_le hle (by omega)), if_pos hle]
    · rw [if_neg (nI_ge (by omega) (by omega)), if_neg hle, if_neg (show ¬ gap ζ (2 ^ ζ 4 - 1) i = 0 by omega)]
  · rw [f_X10_worstGap_L20_s, x_nb hx, if_pos (Int32.le_refl _)]
theorem k_gap0 (hx : cX ζ x 1) (hI : zI ζ) : f_X10_worstGap 0 x = some (if (gbN ζ (ζ 4)).2 = 0 then (-6) else nI (gbN ζ (ζ 4)).1, x) := by
  have h1 := (gbN_le (ζ := ζ) (ζ 4)).1
  unfold f_X10_worstGap
  rw [if_pos rfl, k_gapL hx hI]
  by_cases h : (gbN ζ (ζ 4)).2 = 0
  · rw [if_pos (show nI (gbN ζ (ζ 4)).2 = 0 by rw [h]; rfl), if_pos h]
  · rw [if_neg (nI_ne0 (by omega) (by omega)), if_pos rfl]
theorem k_gap1 (hx : cX ζ x 1) (hI : zI ζ) : f_X10_worstGap 1 x = some (if (gbN ζ (ζ 4)).2 = 0 then (-6) else nI (gbN ζ (ζ 4)).2, x) := by
  have h1 := (gbN_le (ζ := ζ) (ζ 4)).1
  unfold f_X10_worstGap
  rw [if_neg (by decide), if_pos rfl, k_gapL hx hI]
  by_cases h : (gbN ζ (ζ 4)).2 = 0
  · rw [if_pos (show nI (gbN ζ (ζ 4)).2 = 0 by rw [h]; rfl), if_pos h]
  · rw [if_neg (nI_ne0 (by omega) (by omega)), if_neg (by decide), if_neg h]
/-- the soonest way, told -/
def sv (ζ : Nat → Nat) (g t j : Nat) : Int32 := if dst ζ (fre ζ g) 1 t (gh ζ g 0) < gINF then (if j = 0 then nI (psm ζ (fre ζ g) t (gh ζ g 0) (pl ζ (fre ζ g) t (gh ζ g 0))) else if j = 1 then nI (pl ζ (fre ζ g) t (gh ζ g 0)) else if pl ζ (fre ζ g) t (gh ζ g 0) ≤ j - 2 then (-6) else nI (pb ζ (fre ζ g) t (gh ζ g 0) (j - 2))) else (-6)
theorem k_soonest (hx : cX ζ x 1) (hI : zI ζ) {g t j : Nat} (hg : g < 4) (ht : t < 10) (hj : j < 1000) : ∃ x', f_X10_soonest (nI g) (nI t) (nI j) x = some (sv ζ g t j, x') ∧ eqX x x' := by
  unfold f_X10_soonest
  rw [x_ghost hg, ob_some]
  dsimp only
  rw [if_neg i10, x_room ht, ob_some]
  dsimp only
  rw [if_neg i10, if_pos (show (0 : Int32) ≤ nI j from nI_pos' (by omega))]
  obtain ⟨x', a1, a2, a3⟩ := x_findWay hx hI hg ht
  rw [a1, ob_some]
  unfold wayX at a3
  unfold sv
  by_cases hfin : dst ζ (fre ζ g) 1 t (gh ζ g 0) < gINF
  · rw [if_pos hfin] at a3
    obtain ⟨w1, w2, -, -⟩ := way_ok hI ht (hI.g hg).1 hfin
    rw [a3.1, if_neg i10, a3.2.1, a3.2.2.1, if_pos hfin]
    by_cases j0 : j = 0
    · subst j0
      rw [if_pos (show nI 0 = 0 from rfl), if_pos rfl]
      exact ⟨x', rfl, a2⟩
    · rw [if_neg (nI_ne0 (by omega) (by omega)), if_neg j0]
      by_cases j1 : j = 1
      · subst j1
        rw [if_pos (show nI 1 = 1 from rfl), if_pos rfl]
        exact ⟨x', rfl, a2⟩
      · rw [if_neg (show ¬ nI j = 1 from fun z => j1 ((nI_eq (a := j) (b := 1) (by omega) (by decide)).mp z)), if_neg j1, show (2 : Int32) = nI 2 from rfl, pk_sub (by omega)]
        by_cases hl : pl ζ (fre ζ g) t (gh ζ g 0) ≤ j - 2
        · rw [if_pos (nI_le hl (by omega)), if_pos hl]
          exact ⟨x', rfl, a2⟩
        · rw [if_neg (nI_ge (by omega) (by omega)), if_neg hl, at_nI (show j - 2 < 10 by omega) (by decide)]
          refine ⟨x', ?_, a2⟩
          rw [ob_some]
          exact congrArg (fun z => some (z, x')) (a3.2.2.2 (j - 2) (by omega))
  · rw [if_neg hfin] at a3
    rw [a3, if_pos rfl, if_neg hfin]
    exact ⟨x', rfl, a2⟩
/-- the trail: boards that are left, and the room, behind i steps -/
def trE (ζ : Nat → Nat) (E a : Nat) : Nat → Nat × Nat
  | 0 => (E, a)
  | i + 1 => if (trE ζ E a i).1 = 0 then (0, (trE ζ E a i).2) else (dif (trE ζ E a i).1 (2 ^ ls (gdB ζ (trE ζ E a i).1 (trE ζ E a i).2) (ζ 4)), oth ζ (ls (gdB ζ (trE ζ E a i).1 (trE ζ E a i).2) (ζ 4)) (trE ζ E a i).2)
theorem trE_z {E a i : Nat} (h : (trE ζ E a i).1 = 0) : ∀ j, i ≤ j → (trE ζ E a j).1 = 0 := by
  intro j
  induction j with
  | zero =>
    intro hj
    have h0 : i = 0 := by omega
    subst h0
    exact h
  | succ j ih =>
    intro hj
    rcases Nat.lt_or_ge i (j + 1) with hlt | hge
    · rw [trE, if_pos (ih (by omega))]
    · rw [show j + 1 = i by omega]; exact h
theorem trE_I (hI : zI ζ) {E a : Nat} (hE : E < 2 ^ ζ 4) (ha : a < 10) (hw : wn ζ E a = 0) : ∀ i, (trE ζ E a i).1 < 2 ^ ζ 4 ∧ (trE ζ E a i).2 < 10 ∧ ((trE ζ E a i).1 = 0 ∨ wn ζ (trE ζ E a i).1 (trE ζ E a i).2 = 0) ∧ cnt (fun k => (trE ζ E a i).1.testBit k) 20 ≤ 20 - i := by
  have hn := hI.nb
  intro i
  induction i with
  | zero => exact ⟨hE, ha, Or.inr hw, cnt_le 20⟩
  | succ i ih =>
    obtain ⟨h1, h2, h3, h4⟩ := ih
    rw [trE]
    by_cases h0 : (trE ζ E a i).1 = 0
    · rw [if_pos h0]
      refine ⟨Nat.two_pow_pos _, h2, Or.inl rfl, ?_⟩
      have : ∀ n, cnt (fun k => (0 : Nat).testBit k) n = 0 := by
        intro n
        induction n with
        | zero => rfl
        | succ n ih => rw [cnt, ih]; simp
      show cnt (fun k => (0 : Nat).testBit k) 20 ≤ _
      rw [this]; exact Nat.zero_le _
    · rw [if_neg h0]
      have hww := h3.resolve_left h0
      have hN := gd_lt hI h2 h1 hww
      have hy := ls_yes _ _ hN
      have h31 := lt31 h1 (show ζ 4 ≤ 31 by omega)
      unfold gdB at hy
      rw [Bool.and_eq_true, Bool.and_eq_true, Bool.or_eq_true, decide_eq_true_eq, decide_eq_true_eq] at hy
      refine ⟨rm_lt h1, oth_lt hI hN, hy.2.2, ?_⟩
      have := rm_cnt h31 hy.1 (N := 20) (by unfold gdB at hN; omega)
      dsimp only
      unfold gdB
      omega
theorem trE_20 (hI : zI ζ) {E a : Nat} (hE : E < 2 ^ ζ 4) (ha : a < 10) (hw : wn ζ E a = 0) : (trE ζ E a 20).1 = 0 := by
  obtain ⟨h1, -, -, h4⟩ := trE_I hI hE ha hw 20
  exact cnt_z (Nat.lt_of_lt_of_le h1 (Nat.pow_le_pow_right (by decide) hI.nb)) (by omega)
def tv (ζ : Nat → Nat) (E a j : Nat) : Int32 := if (trE ζ E a j).1 = 0 then (-6) else nI (ls (gdB ζ (trE ζ E a j).1 (trE ζ E a j).2) (ζ 4))
theorem lft_lt4 (hI : zI ζ) (g : Nat) : lft ζ g < 2 ^ ζ 4 := dif_le (by have := Nat.two_pow_pos (ζ 4); omega)
theorem k_trail (hx : cX ζ x 1) (hI : zI ζ) {g j : Nat} (hg : g < 4) (hj : j ≤ 20) (hw : wn ζ (lft ζ g) (gh ζ g 0) = 0) : f_X10_trail (nI g) (nI j) x = some (tv ζ (lft ζ g) (gh ζ g 0) j, x) := by
  have hn := hI.nb
  have hE := lt31 (lft_lt hI g) (by decide)
  have hr := (hI.g hg).1
  have hInv := trE_I hI (lft_lt4 hI g) hr hw
  have h20 := trE_20 hI (lft_lt4 hI g) hr hw
  unfold f_X10_trail
  rw [x_ghost hg, ob_some]
  dsimp only
  rw [if_neg i10, if_pos (show (0 : Int32) ≤ nI j from nI_pos' (by omega)), x_left hx hI hg, ob_some]
  dsimp only
  rw [a_grm hx hg, ob_some]
  dsimp only
  rw [x_why hx hI hE hr, ob_some]
  dsimp only
  rw [hw, if_pos (show nI 0 = 0 from rfl)]
  unfold f_X8_boardAt
  have key : ∀ d i n, i + d = j → d + 1 < n → f_X8_boardAt_L9 (nI j) n (nI (trE ζ (lft ζ g) (gh ζ g 0) i).1) (nI (trE ζ (lft ζ g) (gh ζ g 0) i).2) (nI i) x = some (tv ζ (lft ζ g) (gh ζ g 0) j, x) := by
    intro d
    induction d with
    | zero =>
      intro i n hid hnn
      obtain ⟨n, rfl⟩ := Nat.exists_eq_succ_of_ne_zero (show n ≠ 0 by omega)
      have hij : i = j := by omega
      subst hij
      obtain ⟨q1, q2, q3, -⟩ := hInv i
      unfold tv
      rw [f_X8_boardAt_L9_s]
      by_cases hi20 : 20 ≤ i
      · have e0 : (trE ζ (lft ζ g) (gh ζ g 0) i).1 = 0 := trE_z h20 i hi20
        rw [if_pos (show (20 : Int32) ≤ nI i from nI_le (a := 20) hi20 (by omega)), if_pos e0]
      · rw [if_neg (show ¬ (20 : Int32) ≤ nI i from nI_ge (b := 20) (by omega) (by decide))]
        by_cases h0 : (trE ζ (lft ζ g) (gh ζ g 0) i).1 = 0
        · rw [if_pos (show nI (trE ζ (lft ζ g) (gh ζ g 0) i).1 = 0 by rw [h0]; rfl), if_pos h0]
        · have h31 := lt31 q1 (show ζ 4 ≤ 31 by omega)
          rw [if_neg (fun z => h0 ((n_eq0 (Nat.lt_trans h31 (by decide))).mp z)), if_neg h0, x_first' hx hI q1 q2 (q3.resolve_left h0), ob_some]
          dsimp only
          rw [if_pos rfl]
    | succ d ih =>
      intro i n hid hnn
      obtain ⟨n, rfl⟩ := Nat.exists_eq_succ_of_ne_zero (show n ≠ 0 by omega)
      obtain ⟨q1, q2, q3, -⟩ := hInv i
      rw [f_X8_boardAt_L9_s, if_neg (show ¬ (20 : Int32) ≤ nI i from nI_ge (b := 20) (by omega) (by decide))]
      by_cases h0 : (trE ζ (lft ζ g) (gh ζ g 0) i).1 = 0
      · unfold tv
        rw [if_pos (show nI (trE ζ (lft ζ g) (gh ζ g 0) i).1 = 0 by rw [h0]; rfl), if_pos (trE_z h0 j (by omega))]
      · have h31 := lt31 q1 (show ζ 4 ≤ 31 by omega)
        have hww := q3.resolve_left h0
        have hN := gd_lt hI q2 q1 hww
        have n6 : ¬ nI (ls (gdB ζ (trE ζ (lft ζ g) (gh ζ g 0) i).1 (trE ζ (lft ζ g) (gh ζ g 0) i).2) (ζ 4)) = (-6) := fun z => absurd (show nI (ls (gdB ζ (trE ζ (lft ζ g) (gh ζ g 0) i).1 (trE ζ (lft ζ g) (gh ζ g 0) i).2) (ζ 4)) < 0 by rw [z]; decide) (nI_pos (by omega))
        have hs := ih (i + 1) n (by omega) (by omega)
        rw [trE, if_neg h0] at hs
        rw [if_neg (fun z => h0 ((n_eq0 (Nat.lt_trans h31 (by decide))).mp z)), x_first' hx hI q1 q2 hww, ob_some]
        dsimp only
        rw [if_neg (fun z => absurd ((nI_eq (a := i) (b := j) (by omega) (by omega)).mp z) (by omega)), if_neg n6, n_rm (by omega), gLet_eq, x_beyond hx hI hN (by omega), ob_some]
        dsimp only
        rw [nI_1]
        exact hs
  have := key j 0 gFu (Nat.zero_add _) (by show j + 1 < 1000000; omega)
  have e : f_X8_boardAt_L9 (nI j) gFu (nI (lft ζ g)) (nI (gh ζ g 0)) 0 x = some (tv ζ (lft ζ g) (gh ζ g 0) j, x) := this
  rw [e]
  rfl
theorem k_trailno (hx : cX ζ x 1) (hI : zI ζ) {g : Nat} (hg : g < 4) (hw : ¬ wn ζ (lft ζ g) (gh ζ g 0) = 0) : f_X10_trail (nI g) 0 x = some (-5, x) := by
  have hE := lt31 (lft_lt hI g) (by decide)
  have hr := (hI.g hg).1
  unfold f_X10_trail
  rw [x_ghost hg, ob_some]
  dsimp only
  rw [if_neg i10, if_pos (by decide), x_left hx hI hg, ob_some]
  dsimp only
  rw [a_grm hx hg, ob_some]
  dsimp only
  rw [x_why hx hI hE hr, ob_some]
  dsimp only
  rw [if_neg (fun z => hw ((n_eq0 (Nat.lt_of_le_of_lt (wn_le _ _) (by decide))).mp z))]
end AK
