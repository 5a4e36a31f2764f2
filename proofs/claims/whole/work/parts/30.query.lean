theorem i10 : ¬ (1 : Int32) = 0 := by decide
section QY
variable {ζ : Nat → Nat} {x m : gS}
/-- both answer alike, and write their scratch alone -/
def qOK (fx fm : Option (Int32 × gS)) (x m : gS) : Prop := ∃ r x' m', fx = some (r, x') ∧ fm = some (r, m') ∧ eqX x x' ∧ eqM m m'
theorem eqX.rf : eqX x x := fun _ _ => rfl
theorem qOK.same {r : Int32} {fx fm : Option (Int32 × gS)} (hx : fx = some (r, x)) (hm : fm = some (r, m)) : qOK fx fm x m := ⟨r, x, m, hx, hm, eqX.rf, eqM.rf⟩
theorem qOK.mm {r : Int32} {m' : gS} {fx fm : Option (Int32 × gS)} (hx : fx = some (r, x)) (hm : fm = some (r, m')) (h : eqM m m') : qOK fx fm x m := ⟨r, x, m', hx, hm, eqX.rf, h⟩
theorem wi (p lo hi : Int32) (a b : Nat) (hlo : lo = nI a) (hhi : hi = nI b) (ha : a < 2 ^ 31) (hb : b < 2 ^ 31) (x m : gS) :
    (f_X10_isWithin p lo hi x = some (0, x) ∧ f_X11_in p lo hi m = some (0, m)) ∨ ∃ k, a ≤ k ∧ k ≤ b ∧ p = nI k ∧ f_X10_isWithin p lo hi x = some (1, x) ∧ f_X11_in p lo hi m = some (1, m) := by
  subst hlo
  subst hhi
  unfold f_X10_isWithin f_X11_in
  by_cases h1 : p < nI a
  · rw [if_pos h1, if_pos h1]
    exact Or.inl ⟨rfl, rfl⟩
  · rw [if_neg h1, if_neg h1]
    by_cases h2 : nI b < p
    · rw [if_pos h2, if_pos h2]
      exact Or.inl ⟨rfl, rfl⟩
    · rw [if_neg h2, if_neg h2]
      rw [Int32.not_lt] at h1 h2
      have h0 : ¬ p < 0 := by
        intro z
        have q1 := Int32.le_iff_toInt_le.mp h1
        have q2 := Int32.lt_iff_toInt_lt.mp z
        rw [nI_toInt ha] at q1
        have : (0 : Int32).toInt = 0 := rfl
        omega
      obtain ⟨k, hk, rfl⟩ := nI_of h0
      rw [n_le (by omega) (by omega)] at h1
      rw [n_le (by omega) (by omega)] at h2
      exact Or.inr ⟨k, h1, h2, rfl, rfl, rfl⟩
theorem rmC (p : Int32) (x m : gS) : (f_X10_isRoom p x = some (0, x) ∧ f_X11_isRoom p m = some (0, m)) ∨ ∃ k, k < 10 ∧ p = nI k ∧ f_X10_isRoom p x = some (1, x) ∧ f_X11_isRoom p m = some (1, m) := by
  unfold f_X10_isRoom f_X11_isRoom
  rcases wi p 0 9 0 9 rfl rfl (by decide) (by decide) x m with ⟨h1, h2⟩ | ⟨k, -, hk, hp, h1, h2⟩
  · rw [h1, h2]; exact Or.inl ⟨rfl, rfl⟩
  · rw [h1, h2]; exact Or.inr ⟨k, by omega, hp, rfl, rfl⟩
theorem ghC (p : Int32) (x m : gS) : (f_X10_isGhost p x = some (0, x) ∧ f_X11_isGhost p m = some (0, m)) ∨ ∃ k, k < 4 ∧ p = nI k ∧ f_X10_isGhost p x = some (1, x) ∧ f_X11_isGhost p m = some (1, m) := by
  unfold f_X10_isGhost f_X11_isGhost
  rcases wi p 0 3 0 3 rfl rfl (by decide) (by decide) x m with ⟨h1, h2⟩ | ⟨k, -, hk, hp, h1, h2⟩
  · rw [h1, h2]; exact Or.inl ⟨rfl, rfl⟩
  · rw [h1, h2]; exact Or.inr ⟨k, by omega, hp, rfl, rfl⟩
/-- is there such a board, such a sleeper -/
theorem within_less (p : Int32) {n : Nat} (hn : n < 2 ^ 31) (x : gS) : (f_X10_isWithin p 0 (nI n - 1) x = some (0, x) ∧ (p < 0 ∨ nI n ≤ p)) ∨ ∃ k, k < n ∧ p = nI k ∧ f_X10_isWithin p 0 (nI n - 1) x = some (1, x) := by
  unfold f_X10_isWithin
  rcases pk_ix p hn with h | h | ⟨k, hk, rfl⟩
  · rw [if_pos h]; exact Or.inl ⟨rfl, Or.inl h⟩
  · refine Or.inl ⟨?_, Or.inr h⟩
    by_cases h0 : p < 0
    · rw [if_pos h0]
    · rw [if_neg h0, if_pos]
      obtain ⟨j, hj, rfl⟩ := nI_of h0
      rw [n_le hn hj] at h
      by_cases hn0 : n = 0
      · subst hn0
        have : nI 0 - 1 < 0 := by decide
        exact Int32.lt_of_lt_of_le this (nI_pos' hj)
      · rw [show (1 : Int32) = nI 1 from rfl, pk_sub (by omega)]
        exact nI_lt (by omega) hj
  · refine Or.inr ⟨k, hk, rfl, ?_⟩
    rw [if_neg (nI_pos (by omega)), show (1 : Int32) = nI 1 from rfl, pk_sub (by omega), if_neg (nI_nlt (by omega) (by omega))]
theorem bdC (hx : cX ζ x 1) (hm : cM ζ m) (hI : zI ζ) (p : Int32) : (f_X1_has p x = some (0, x) ∧ f_X11_isBoard p m = some (0, m)) ∨ ∃ k, k < ζ 4 ∧ p = nI k ∧ f_X1_has p x = some (1, x) ∧ f_X11_isBoard p m = some (1, m) := by
  have hn := hI.nb
  unfold f_X1_has f_X11_isBoard
  rw [x_nb hx, m_nb hm]
  rcases within_less p (show ζ 4 < 2 ^ 31 by omega) x with ⟨h1, h2⟩ | ⟨k, hk, hp, h1⟩
  · rw [h1]
    refine Or.inl ⟨rfl, ?_⟩
    rcases h2 with h2 | h2
    · rw [if_pos h2]
    · by_cases h0 : p < 0
      · rw [if_pos h0]
      · rw [if_neg h0, if_pos h2]
  · rw [h1]
    refine Or.inr ⟨k, hk, hp, rfl, ?_⟩
    subst hp
    rw [if_neg (nI_pos (by omega)), if_neg (nI_ge hk (by omega))]
theorem slC (hx : cX ζ x 1) (hm : cM ζ m) (hI : zI ζ) (p : Int32) : (f_X7_has p x = some (0, x) ∧ f_X11_isSleeper p m = some (0, m)) ∨ ∃ k, k < ζ 5 ∧ p = nI k ∧ f_X7_has p x = some (1, x) ∧ f_X11_isSleeper p m = some (1, m) := by
  have hn := hI.ns
  unfold f_X7_has f_X11_isSleeper
  rw [x_ns hx, m_ns hm]
  rcases within_less p (show ζ 5 < 2 ^ 31 by omega) x with ⟨h1, h2⟩ | ⟨k, hk, hp, h1⟩
  · rw [h1]
    refine Or.inl ⟨rfl, ?_⟩
    rcases h2 with h2 | h2
    · rw [if_pos h2]
    · by_cases h0 : p < 0
      · rw [if_pos h0]
      · rw [if_neg h0, if_pos h2]
  · rw [h1]
    refine Or.inr ⟨k, hk, hp, rfl, ?_⟩
    subst hp
    rw [if_neg (nI_pos (by omega)), if_neg (nI_ge hk (by omega))]
theorem q_far (hx : cX ζ x 1) (hm : cM ζ m) (hI : zI ζ) (p0 p1 : Int32) : qOK (f_X10_far p0 p1 x) (f_X11_far p0 p1 m) x m := by
  unfold f_X10_far f_X11_far
  rcases rmC p0 x m with ⟨h1, h2⟩ | ⟨t, ht, rfl, h1, h2⟩
  · rw [h1, h2]; exact qOK.same rfl rfl
  rw [h1, h2, ob_some, ob_some]
  dsimp only
  rw [if_neg i10, if_neg i10]
  rcases rmC p1 x m with ⟨g1, g2⟩ | ⟨r, hr, rfl, g1, g2⟩
  · rw [g1, g2]; exact qOK.same rfl rfl
  rw [g1, g2, ob_some, ob_some]
  dsimp only
  rw [if_neg i10, if_neg i10, shl1 _ (by omega), x_far1 hx hI ht hr, m_farOf hm hI ht hr]
  exact qOK.mm rfl rfl eqM_enc
theorem q_loudness (hx : cX ζ x 1) (hm : cM ζ m) (hI : zI ζ) (p0 p1 : Int32) : qOK (f_X10_loudness p0 p1 x) (f_X11_loudness p0 p1 m) x m := by
  unfold f_X10_loudness f_X11_loudness
  rcases bdC hx hm hI p0 with ⟨h1, h2⟩ | ⟨b, hb, rfl, h1, h2⟩
  · rw [h1, h2]; exact qOK.same rfl rfl
  rw [h1, h2, ob_some, ob_some]
  dsimp only
  rw [if_neg i10, if_neg i10]
  rcases slC hx hm hI p1 with ⟨g1, g2⟩ | ⟨s, hs, rfl, g1, g2⟩
  · rw [g1, g2]; exact qOK.same rfl rfl
  rw [g1, g2, ob_some, ob_some]
  dsimp only
  rw [if_neg i10, if_neg i10, a_srm hx hI hs, ob_some]
  dsimp only
  rw [x_loudIn hx hI hb (hI.s hs).1, m_loud hm hI hb hs]
  exact qOK.mm rfl rfl eqM_enc
theorem q_board (hx : cX ζ x 1) (hm : cM ζ m) (hI : zI ζ) (p0 p1 : Int32) : qOK (f_X10_board p0 p1 x) (f_X11_board p0 p1 m) x m := by
  unfold f_X10_board f_X11_board
  rcases bdC hx hm hI p0 with ⟨h1, h2⟩ | ⟨b, hb, rfl, h1, h2⟩
  · rw [h1, h2]; exact qOK.same rfl rfl
  have hn := hI.nb
  rw [h1, h2, ob_some, ob_some]
  dsimp only
  rw [if_neg i10, if_neg i10, gLet_eq, gLet_eq]
  by_cases c0 : p1 = 0
  · subst c0
    rw [if_pos rfl, if_pos rfl, a_lo hx hI hb]
    try dsimp only
    rw [m_b0 hm hI hb]
    exact qOK.same rfl rfl
  rw [if_neg c0, if_neg c0]
  by_cases c1 : p1 = 1
  · subst c1
    rw [if_pos rfl, if_pos rfl, a_hi hx hI hb]
    try dsimp only
    rw [m_b1 hm hI hb]
    exact qOK.same rfl rfl
  rw [if_neg c1, if_neg c1]
  by_cases c2 : p1 = 2
  · subst c2
    rw [if_pos rfl, if_pos rfl, a_cr hx hI hb]
    try dsimp only
    rw [m_b2 hm hI hb]
    exact qOK.same rfl rfl
  rw [if_neg c2, if_neg c2]
  by_cases c3 : p1 = 3
  · subst c3
    rw [if_pos rfl, if_pos rfl, a_mi hx hI hb]
    try dsimp only
    rw [m_b3 hm hI hb]
    exact qOK.same rfl rfl
  rw [if_neg c3, if_neg c3]
  by_cases c4 : p1 = 4
  · subst c4
    rw [if_pos rfl, if_pos rfl, x_whc hx hI hb]
    try dsimp only
    rw [gLet_eq, if_neg (show ¬ (4 : Int32) = 5 by decide)]
    dsimp only
    rw [(m_crossers hm hI hb).1]
    exact qOK.same rfl rfl
  rw [if_neg c4, if_neg c4]
  by_cases c5 : p1 = 5
  · subst c5
    rw [if_pos rfl, if_pos rfl, x_ffo hx hI hb]
    try dsimp only
    rw [gLet_eq, if_pos rfl]
    dsimp only
    rw [(m_crossers hm hI hb).2]
    exact qOK.same rfl rfl
  rw [if_neg c5, if_neg c5]
  by_cases c6 : p1 = 6
  · subst c6
    rw [if_pos rfl, if_pos rfl, a_ck hx hI hb]
    try dsimp only
    rw [m_b4 hm hI hb]
    exact qOK.same rfl rfl
  rw [if_neg c6, if_neg c6]
  exact qOK.same rfl rfl
theorem m_fat (hm : cM ζ m) (hI : zI ζ) {g : Nat} (hg : g < 4) : f_X11_ghost_L56 (nI g) gFu 0 0 m = some (nI (fat ζ g), m) := by
  have hn := hI.nb
  have hgg := hI.g hg
  have hfm : fat ζ g = mk (fun b => atB ζ b (gh ζ g 0) && frB ζ g b) (ζ 4) := by
    apply bit_ext
    intro i
    unfold fat
    rw [Nat.testBit_and, touch_bit, fre_frB, mk_bit, Nat.testBit_two_pow, Nat.testBit_two_pow]
    unfold atB
    rw [show decide (gh ζ g 0 = bd ζ i 0) = decide (bd ζ i 0 = gh ζ g 0) from decide_eq_decide.mpr eq_comm, show decide (gh ζ g 0 = bd ζ i 1) = decide (bd ζ i 1 = gh ζ g 0) from decide_eq_decide.mpr eq_comm]
    cases decide (i < ζ 4) <;> cases frB ζ g i <;> cases decide (bd ζ i 0 = gh ζ g 0) <;> cases decide (bd ζ i 1 = gh ζ g 0) <;> rfl
  rw [hfm]
  refine lp0 (fun n i => f_X11_ghost_L56 (nI g) n (nI (mk (fun b => atB ζ b (gh ζ g 0) && frB ζ g b) i)) (nI i) m) (ζ 4) _ (by omega) (fun n i hi => ?_) (fun n => ?_)
  · rw [f_X11_ghost_L56_s, m_nb hm, if_neg (nI_ge hi (by omega)), m_roomOf hm hg, ob_some]
    try dsimp only
    rw [m_isAt hm hI hi (by omega), ob_some]
    try dsimp only
    rw [nI_1, mk_succ]
    by_cases ha : atB ζ i (gh ζ g 0) = true
    · rw [if_pos ha, if_neg (by decide), m_isFree hm hI hg hi, ob_some]
      dsimp only
      by_cases hf : frB ζ g i = true
      · rw [if_pos hf, if_neg (by decide), gLet_eq, shl1 _ (by omega), n_or, ha, hf]
        rfl
      · rw [if_neg hf, if_pos (by decide), gLet_eq, show (0 : Int32) = nI 0 from rfl, n_or, if_neg (by simp [hf])]
    · rw [if_neg ha, if_pos (by decide), gLet_eq, show (0 : Int32) = nI 0 from rfl, n_or, if_neg (by simp [ha])]
  · rw [f_X11_ghost_L56_s, m_nb hm, if_pos (Int32.le_refl _)]
theorem q_ghost (hx : cX ζ x 1) (hm : cM ζ m) (hI : zI ζ) (p0 p1 : Int32) : qOK (f_X10_ghost p0 p1 x) (f_X11_ghost p0 p1 m) x m := by
  unfold f_X10_ghost f_X11_ghost
  rcases ghC p0 x m with ⟨h1, h2⟩ | ⟨g, hg, rfl, h1, h2⟩
  · rw [h1, h2]; exact qOK.same rfl rfl
  have hgg := hI.g hg
  have hfe := lt31 (fre_lt hI g) (by decide)
  rw [h1, h2, ob_some, ob_some]
  dsimp only
  rw [if_neg i10, if_neg i10, gLet_eq]
  by_cases c0 : p1 = 0
  · subst c0
    rw [if_pos rfl, if_pos rfl, a_grm hx hg]
    try dsimp only
    rw [m_g0 hm hg]
    exact qOK.same rfl rfl
  rw [if_neg c0, if_neg c0]
  by_cases c1 : p1 = 1
  · subst c1
    rw [if_pos rfl, if_pos rfl, a_gcr hx hg]
    try dsimp only
    rw [m_g1 hm hg]
    exact qOK.same rfl rfl
  rw [if_neg c1, if_neg c1]
  by_cases c2 : p1 = 2
  · subst c2
    rw [if_pos rfl, if_pos rfl, x_fat hx hI hg]
    try dsimp only
    rw [m_fat hm hI hg]
    exact qOK.same rfl rfl
  rw [if_neg c2, if_neg c2]
  by_cases c3 : p1 = 3
  · subst c3
    rw [if_pos rfl, if_pos rfl, a_grm hx hg, ob_some]
    try dsimp only
    rw [x_free hx hI hg, ob_some]
    try dsimp only
    rw [x_rooms hx hI hfe hgg.1, m_roomOf hm hg, ob_some, ob_some]
    try dsimp only
    rw [m_free hm hI hg, ob_some]
    try dsimp only
    rw [m_reached hm hI hfe hgg.1]
    exact qOK.mm rfl rfl eqM_enc
  rw [if_neg c3, if_neg c3]
  by_cases c4 : p1 = 4
  · subst c4
    rw [if_pos rfl, if_pos rfl, a_gcs hx hg]
    try dsimp only
    rw [m_g2 hm hg]
    exact qOK.same rfl rfl
  rw [if_neg c4, if_neg c4]
  exact qOK.same rfl rfl
theorem q_sleeperOf (hx : cX ζ x 1) (hm : cM ζ m) (hI : zI ζ) (p0 p1 : Int32) : qOK (f_X10_sleeperOf p0 p1 x) (f_X11_sleeperOf p0 p1 m) x m := by
  unfold f_X10_sleeperOf f_X11_sleeperOf
  rcases slC hx hm hI p0 with ⟨h1, h2⟩ | ⟨s, hs, rfl, h1, h2⟩
  · rw [h1, h2]; exact qOK.same rfl rfl
  have hn := hI.ns
  rw [h1, h2, ob_some, ob_some]
  dsimp only
  rw [if_neg i10, if_neg i10]
  rcases wi p1 0 3 0 3 rfl rfl (by decide) (by decide) x m with ⟨-, g2⟩ | ⟨k, -, hk, rfl, -, g2⟩
  · have n0 : ¬ p1 = 0 := by rintro rfl; exact absurd g2 (by unfold f_X11_in; simp)
    have n1 : ¬ p1 = 1 := by rintro rfl; exact absurd g2 (by unfold f_X11_in; simp)
    have n2 : ¬ p1 = 2 := by rintro rfl; exact absurd g2 (by unfold f_X11_in; simp)
    have n3 : ¬ p1 = 3 := by rintro rfl; exact absurd g2 (by unfold f_X11_in; simp)
    rw [g2, ob_some]
    try dsimp only
    rw [if_pos rfl, if_neg n0, if_neg n1, if_neg n2, if_neg n3]
    by_cases c4 : p1 = 4
    · subst c4
      obtain ⟨F, hF⟩ := m_btw hm hI hs
      rw [if_pos rfl, if_pos rfl, x_btw hx hI hs, hF]
      exact qOK.mm rfl rfl eqM_enc
    · rw [if_neg c4, if_neg c4]
      exact qOK.same rfl rfl
  · rw [g2, ob_some]
    try dsimp only
    rw [if_neg i10, m_ofS hm (by omega)]
    match k, hk with
    | 0, _ => rw [if_pos (show nI 0 = 0 from rfl), a_srm hx hI hs]; exact qOK.same rfl rfl
    | 1, _ => rw [if_neg (show ¬ nI 1 = 0 by decide), if_pos (show nI 1 = 1 from rfl), a_ear hx hI hs]; exact qOK.same rfl rfl
    | 2, _ => rw [if_neg (show ¬ nI 2 = 0 by decide), if_neg (show ¬ nI 2 = 1 by decide), if_pos (show nI 2 = 2 from rfl), a_saw hx hI hs]; exact qOK.same rfl rfl
    | 3, _ => rw [if_neg (show ¬ nI 3 = 0 by decide), if_neg (show ¬ nI 3 = 1 by decide), if_neg (show ¬ nI 3 = 2 by decide), if_pos (show nI 3 = 3 from rfl), a_swk hx hI hs]; exact qOK.same rfl rfl
theorem q_soonest (hx : cX ζ x 1) (hm : cM ζ m) (hI : zI ζ) (p0 p1 p2 : Int32) : qOK (f_X10_soonest p0 p1 p2 x) (f_X11_soonest p0 p1 p2 m) x m := by
  unfold f_X10_soonest f_X11_soonest
  rcases ghC p0 x m with ⟨h1, h2⟩ | ⟨g, hg, rfl, h1, h2⟩
  · rw [h1, h2]; exact qOK.same rfl rfl
  rw [h1, h2, ob_some, ob_some]
  dsimp only
  rw [if_neg i10, if_neg i10]
  rcases rmC p1 x m with ⟨g1, g2⟩ | ⟨t, ht, rfl, g1, g2⟩
  · rw [g1, g2]; exact qOK.same rfl rfl
  rw [g1, g2, ob_some, ob_some]
  dsimp only
  rw [if_neg i10, if_neg i10]
  by_cases c0 : 0 ≤ p2
  · rw [if_pos c0, if_pos c0]
    obtain ⟨x', a1, a2, a3⟩ := x_findWay hx hI hg ht
    obtain ⟨m', b1, b2, b3⟩ := m_findWay hm hI hg ht
    rw [a1, b1, ob_some, ob_some]
    unfold wayX at a3
    unfold wayM at b3
    obtain ⟨j, hj, rfl⟩ := nI_of (show ¬ p2 < 0 by rw [Int32.not_lt]; exact c0)
    by_cases hfin : dst ζ (fre ζ g) 1 t (gh ζ g 0) < gINF
    · rw [if_pos hfin] at a3 b3
      obtain ⟨w1, w2, -, -⟩ := way_ok hI ht (hI.g hg).1 hfin
      have n6 : ¬ nI (pl ζ (fre ζ g) t (gh ζ g 0)) = (-6) := fun z => absurd (show nI (pl ζ (fre ζ g) t (gh ζ g 0)) < 0 by rw [z]; decide) (nI_pos (by omega))
      rw [a3.1, if_neg i10, b3.2.1, if_neg n6, a3.2.1, b3.1, a3.2.2.1]
      by_cases j0 : nI j = 0
      · rw [if_pos j0, if_pos j0]
        exact ⟨_, x', m', rfl, rfl, a2, b2⟩
      · rw [if_neg j0, if_neg j0]
        by_cases j1 : nI j = 1
        · rw [if_pos j1, if_pos j1]
          exact ⟨_, x', m', rfl, rfl, a2, b2⟩
        · rw [if_neg j1, if_neg j1]
          have hj2 : 2 ≤ j := by
            refine Nat.le_of_not_lt fun z => ?_
            rcases (show j = 0 ∨ j = 1 by omega) with rfl | rfl
            · exact j0 rfl
            · exact j1 rfl
          rw [show (2 : Int32) = nI 2 from rfl, pk_sub hj2]
          by_cases hl : pl ζ (fre ζ g) t (gh ζ g 0) ≤ j - 2
          · rw [if_pos (nI_le hl (by omega)), if_pos (nI_le hl (by omega))]
            exact ⟨_, x', m', rfl, rfl, a2, b2⟩
          · rw [if_neg (nI_ge (by omega) (by omega)), if_neg (nI_ge (by omega) (by omega)), at_nI (show j - 2 < 10 by omega) (by decide), gin_nI (show j - 2 < 10 by omega) (by decide), gGd_t, gil_nI (by omega)]
            refine ⟨_, x', m', rfl, ?_, a2, b2⟩
            rw [b3.2.2 (j - 2) (by omega)]
            exact congrArg (fun z => some (z, m')) (a3.2.2.2 (j - 2) (by omega)).symm
    · rw [if_neg hfin] at a3 b3
      rw [a3, if_pos rfl, b3, if_pos rfl]
      exact ⟨_, x', m', rfl, rfl, a2, b2⟩
  · rw [if_neg c0, if_neg c0]
    exact qOK.same rfl rfl
end QY
