section TR
variable {ζ : Nat → Nat} {x m : gS}
/-- board v may go next -/
def gdB (ζ : Nat → Nat) (E a v : Nat) : Bool := E.testBit v && (atB ζ v a && (decide (dif E (2 ^ v) = 0) || decide (wn ζ (dif E (2 ^ v)) (oth ζ v a) = 0)))
theorem rm_lt {E e n : Nat} (h : E < 2 ^ n) : dif E (2 ^ e) < 2 ^ n := dif_le h
theorem n_rm {E v : Nat} (hv : v < 32) : nI E &&& (((1 : Int32) <<< (nI v &&& 31)) ^^^ (-1)) = nI (dif E (2 ^ v)) := by rw [shl1 v hv, n_dif]
theorem touch_one {E a v : Nat} (hv : v < ζ 4) : (E &&& touch ζ (2 ^ a)).testBit v = (E.testBit v && atB ζ v a) := by
  rw [Nat.testBit_and, touch_bit, decide_eq_true hv, Bool.true_and, Nat.testBit_two_pow, Nat.testBit_two_pow]
  unfold atB
  rw [show decide (a = bd ζ v 0) = decide (bd ζ v 0 = a) from decide_eq_decide.mpr eq_comm, show decide (a = bd ζ v 1) = decide (bd ζ v 1 = a) from decide_eq_decide.mpr eq_comm]
theorem gd_lt (hI : zI ζ) {E a : Nat} (ha : a < 10) (hE : E < 2 ^ ζ 4) (hw : wn ζ E a = 0) : ls (gdB ζ E a) (ζ 4) < ζ 4 := by
  obtain ⟨e, b, he, h⟩ := fleury hI ha hE hw
  have hat : atB ζ e a = true := by
    unfold atB
    rcases he.2.2 with ⟨h1, -⟩ | ⟨h1, -⟩
    · rw [decide_eq_true h1]; rfl
    · rw [decide_eq_true h1, Bool.or_true]
  have ho : oth ζ e a = b := by
    rcases edg_un (oth_edg he.1 he.2.1 hat) he with ⟨-, h2⟩ | ⟨h2, h3⟩
    · exact h2
    · exact h3.trans h2
  refine ls_lt he.1 ?_
  unfold gdB
  rw [he.2.1, hat, ho]
  rcases h with h | h
  · rw [decide_eq_true h]; rfl
  · rw [decide_eq_true h, Bool.or_true]; rfl
theorem x_first' (h : cX ζ x 1) (hI : zI ζ) {E a : Nat} (hE : E < 2 ^ ζ 4) (ha : a < 10) (hw : wn ζ E a = 0) : f_X8_firstBoard (nI E) (nI a) x = some (nI (ls (gdB ζ E a) (ζ 4)), x) := by
  have hn := hI.nb
  have hE31 : E < 2 ^ 31 := lt31 hE (by omega)
  have hT : E &&& touch ζ (2 ^ a) < 2 ^ 20 := Nat.and_lt_two_pow _ (touch_lt hI _)
  have hN := gd_lt hI ha hE hw
  have hy := ls_yes _ _ hN
  unfold f_X8_firstBoard
  rw [shl1 _ (by omega), x_touching h hI (lt31 (p2_lt ha) (by decide)), ob_some]
  dsimp only
  rw [gLet_eq, n_and]
  refine lp0 (fun n i => f_X8_firstBoard_L13 (nI E) (nI a) (nI (E &&& touch ζ (2 ^ a))) n (nI i) x) (ls (gdB ζ E a) (ζ 4)) _ (by omega) (fun n i hi => ?_) (fun n => ?_)
  · have hi4 : i < ζ 4 := by omega
    have hno := ls_no _ _ i hi
    rw [f_X8_firstBoard_L13_s, x_nb h, if_neg (nI_ge hi4 (by omega))]
    by_cases ht : (E &&& touch ζ (2 ^ a)).testBit i = true
    · rw [holds_t (lt31 hT (by decide)) (by omega) ht, ob_some]
      dsimp only
      rw [touch_one hi4, Bool.and_eq_true] at ht
      unfold gdB at hno
      rw [ht.1, ht.2, Bool.true_and, Bool.true_and, Bool.or_eq_true, decide_eq_true_eq, decide_eq_true_eq] at hno
      rw [if_neg i10, n_rm (by omega), gLet_eq, if_neg (fun z => hno (Or.inl ((n_eq0 (Nat.lt_trans (rm_lt hE31) (by decide))).mp z))), x_beyond h hI hi4 (by omega), ob_some]
      dsimp only
      rw [x_why h hI (rm_lt hE31) (oth_lt hI hi4), ob_some]
      dsimp only
      rw [if_neg (fun z => hno (Or.inr ((n_eq0 (Nat.lt_of_le_of_lt (wn_le _ _) (by decide))).mp z))), nI_1]
    · rw [holds_f (lt31 hT (by decide)) (by omega) ht, ob_some]
      dsimp only
      rw [if_pos rfl, nI_1]
  · generalize ls (gdB ζ E a) (ζ 4) = k at hN hy
    unfold gdB at hy
    rw [Bool.and_eq_true, Bool.and_eq_true, Bool.or_eq_true, decide_eq_true_eq, decide_eq_true_eq] at hy
    rw [f_X8_firstBoard_L13_s, x_nb h, if_neg (nI_ge hN (by omega)), holds_t (lt31 hT (by decide)) (by omega) (by rw [touch_one hN, hy.1, hy.2.1]; rfl), ob_some]
    dsimp only
    rw [if_neg i10, n_rm (by omega), gLet_eq]
    by_cases h0 : dif E (2 ^ k) = 0
    · rw [if_pos (by rw [h0]; rfl)]
    · rw [if_neg (fun z => h0 ((n_eq0 (Nat.lt_trans (rm_lt hE31) (by decide))).mp z)), x_beyond h hI hN (by omega), ob_some]
      dsimp only
      rw [x_why h hI (rm_lt hE31) (oth_lt hI hN), ob_some, hy.2.2.resolve_left h0]
      rfl
/-- the least of the last j below N that p holds of -/
def dw (p : Nat → Bool) (N : Nat) : Nat → Int32
  | 0 => -6
  | j + 1 => if p (N - (j + 1)) = true then nI (N - (j + 1)) else dw p N j
theorem dw_no {p : Nat → Bool} {N k : Nat} (hk : p k = true) (hn : ∀ i, i < k → ¬ p i = true) : ∀ j, j ≤ N → N - j ≤ k → k < N → dw p N j = nI k
  | 0, _, h, h2 => by omega
  | j + 1, h1, h, h2 => by
    rw [dw]
    by_cases hq : N - (j + 1) = k
    · rw [hq, if_pos hk]
    · by_cases hp : p (N - (j + 1)) = true
      · exact absurd hp (hn _ (by omega))
      · rw [if_neg hp]
        exact dw_no hk hn j (by omega) (by omega) h2
theorem m_first' (h : cM ζ m) (hI : zI ζ) {E a : Nat} (hE : E < 2 ^ ζ 4) (ha : a < 10) (hw : wn ζ E a = 0) (w2 w6 : Int32) (K : Int32 → gS → Option (Int32 × gS)) :
    ∃ m', f_X11_trail_L70 w2 (nI E) (nI a) w6 K gFu (-6) (nI (ζ 4) - 1) m = K (nI (ls (gdB ζ E a) (ζ 4))) m' ∧ eqM m m' := by
  have hn := hI.nb
  have hE31 : E < 2 ^ 31 := lt31 hE (by omega)
  have hN := gd_lt hI ha hE hw
  have hy := ls_yes _ _ hN
  have hfin : dw (gdB ζ E a) (ζ 4) (ζ 4) = nI (ls (gdB ζ E a) (ζ 4)) := dw_no hy (fun i hi => ls_no _ _ i hi) (ζ 4) (Nat.le_refl _) (by omega) hN
  rw [← hfin]
  have key : ∀ d i n (s : gS), i + d = ζ 4 → d < n → cM ζ s → eqM m s → ∃ m', f_X11_trail_L70 w2 (nI E) (nI a) w6 K n (dw (gdB ζ E a) (ζ 4) i) (nI (ζ 4 - i) - 1) s = K (dw (gdB ζ E a) (ζ 4) (ζ 4)) m' ∧ eqM m m' := by
    intro d
    induction d with
    | zero =>
      intro i n s hid hn2 hs he
      obtain ⟨n, rfl⟩ := Nat.exists_eq_succ_of_ne_zero (show n ≠ 0 by omega)
      rw [f_X11_trail_L70_s, show ζ 4 - i = 0 by omega, if_pos (by decide), show i = ζ 4 by omega]
      exact ⟨s, rfl, he⟩
    | succ d ih =>
      intro i n s hid hn2 hs he
      obtain ⟨n, rfl⟩ := Nat.exists_eq_succ_of_ne_zero (show n ≠ 0 by omega)
      have hk : ζ 4 - i - 1 < ζ 4 := by omega
      have ek : nI (ζ 4 - i) - 1 = nI (ζ 4 - i - 1) := by rw [show (1 : Int32) = nI 1 from rfl, pk_sub (by omega)]
      have ek2 : nI (ζ 4 - i - 1) + (-1) = nI (ζ 4 - (i + 1)) - 1 := by rw [show ζ 4 - (i + 1) = ζ 4 - i - 1 by omega]; exact (Int32.sub_eq_add_neg _ _).symm
      have ed : dw (gdB ζ E a) (ζ 4) (i + 1) = if gdB ζ E a (ζ 4 - i - 1) = true then nI (ζ 4 - i - 1) else dw (gdB ζ E a) (ζ 4) i := by rw [dw, show ζ 4 - (i + 1) = ζ 4 - i - 1 by omega]
      rw [f_X11_trail_L70_s, ek, if_neg (nI_pos (by omega)), ek2]
      have ih0 := ih (i + 1) n
      generalize ζ 4 - i - 1 = k at *
      rw [gLet_eq, gLet_eq]
      by_cases he1 : E.testBit k = true
      · rw [if_pos ((hbit1 hE31 (by omega)).mpr he1), m_isAt hs hI hk (by omega), ob_some]
        dsimp only
        by_cases ha1 : atB ζ k a = true
        · obtain ⟨s', w1, w2'⟩ := m_why hs hI (E := dif E (2 ^ k)) (a := oth ζ k a) (rm_lt hE31) (oth_lt hI hk)
          rw [if_pos ha1, if_neg (show ¬ nI 1 = 0 by decide), if_neg i10, m_across hs hI hk (by omega), ob_some]
          dsimp only
          rw [n_rm (by omega), w1, ob_some]
          dsimp only
          have hiff : gdB ζ E a k = true ↔ wn ζ (dif E (2 ^ k)) (oth ζ k a) < 2 := by
            unfold gdB
            rw [he1, ha1, Bool.true_and, Bool.true_and, Bool.or_eq_true, decide_eq_true_eq, decide_eq_true_eq, wn_lt2]
          by_cases hg : gdB ζ E a k = true
          · rw [if_neg (show ¬ (2 : Int32) ≤ nI (wn ζ (dif E (2 ^ k)) (oth ζ k a)) from nI_ge (b := 2) (hiff.mp hg) (by decide))]
            rw [if_pos hg] at ed
            have ih1 := ih0 s' (by omega) (by omega) (w2'.cM hs) (he.tr w2')
            rw [ed] at ih1
            exact ih1
          · rw [if_pos (show (2 : Int32) ≤ nI (wn ζ (dif E (2 ^ k)) (oth ζ k a)) from nI_le (a := 2) (Nat.le_of_not_lt fun z => hg (hiff.mpr z)) (by have := wn_le (ζ := ζ) (dif E (2 ^ k)) (oth ζ k a); omega))]
            rw [if_neg hg] at ed
            have ih1 := ih0 s' (by omega) (by omega) (w2'.cM hs) (he.tr w2')
            rw [ed] at ih1
            exact ih1
        · rw [if_neg ha1, if_pos (show nI 0 = 0 from rfl), if_pos rfl]
          rw [if_neg (by unfold gdB; simp [ha1])] at ed
          have ih1 := ih0 s (by omega) (by omega) hs he
          rw [ed] at ih1
          exact ih1
      · rw [if_neg (fun z => he1 ((hbit1 hE31 (by omega)).mp z))]
        dsimp only
        rw [if_pos rfl]
        rw [if_neg (by unfold gdB; simp [he1])] at ed
        have ih1 := ih0 s (by omega) (by omega) hs he
        rw [ed] at ih1
        exact ih1
  exact key (ζ 4) 0 gFu m (Nat.zero_add _) (by show ζ 4 < 1000000; omega) h eqM.rf
theorem rm_cnt {E e : Nat} (hE : E < 2 ^ 31) (he : E.testBit e = true) {N : Nat} (h20 : e < N) : cnt (fun i => (dif E (2 ^ e)).testBit i) N < cnt (fun i => E.testBit i) N := by
  have h1 : ∀ i, (dif E (2 ^ e)).testBit i = true → E.testBit i = true := fun i h => (sub_rm hE h).1
  have h2 : ¬ (dif E (2 ^ e)).testBit e = true := fun h => (sub_rm hE h).2 rfl
  generalize dif E (2 ^ e) = F at h1 h2
  exact cnt_lt (p := fun i => F.testBit i) (q := fun i => E.testBit i) h1 h2 he h20
theorem cnt_z {E n : Nat} (hE : E < 2 ^ n) (h : cnt (fun i => E.testBit i) n = 0) : E = 0 := by
  refine Classical.byContradiction fun hne => ?_
  obtain ⟨i, hi⟩ := Nat.exists_testBit_of_ne_zero hne
  have hin : i < n := Nat.lt_of_not_le fun z => by
    rw [bit_big hE z] at hi
    exact absurd hi (by decide)
  have := cnt_lt (p := fun _ => false) (q := fun i => E.testBit i) (fun _ z => absurd z (by decide)) (x := i) (by decide) hi hin
  omega
theorem q_trail (hx : cX ζ x 1) (hm : cM ζ m) (hI : zI ζ) (p0 p1 : Int32) : qOK (f_X10_trail p0 p1 x) (f_X11_trail p0 p1 m) x m := by
  unfold f_X10_trail f_X11_trail
  rcases ghC p0 x m with ⟨h1, h2⟩ | ⟨g, hg, rfl, h1, h2⟩
  · rw [h1, h2]; exact qOK.same rfl rfl
  rw [h1, h2, ob_some, ob_some]
  dsimp only
  rw [if_neg i10, if_neg i10]
  by_cases c0 : 0 ≤ p1
  rotate_left
  · rw [if_neg c0, if_neg c0]
    exact qOK.same rfl rfl
  have hn := hI.nb
  have hE20 : lft ζ g < 2 ^ ζ 4 := dif_le (by have := Nat.two_pow_pos (ζ 4); omega)
  have hE := lt31 (lft_lt hI g) (by decide)
  have hr := (hI.g hg).1
  obtain ⟨m', b1, b2⟩ := m_why hm hI hE hr
  rw [if_pos c0, if_pos c0, x_left hx hI hg, ob_some, m_left hm hI hg, ob_some]
  dsimp only
  rw [a_grm hx hg, ob_some, m_roomOf hm hg, ob_some]
  dsimp only
  rw [x_why hx hI hE hr, b1, ob_some, ob_some]
  dsimp only
  by_cases hw : wn ζ (lft ζ g) (gh ζ g 0) = 0
  rotate_left
  · have hw' : ¬ nI (wn ζ (lft ζ g) (gh ζ g 0)) = 0 := fun z => hw ((n_eq0 (Nat.lt_of_le_of_lt (wn_le _ _) (by decide))).mp z)
    rw [if_neg hw', if_neg hw']
    exact qOK.mm rfl rfl b2
  rw [hw, if_pos (show nI 0 = 0 from rfl), if_pos (show nI 0 = 0 from rfl)]
  obtain ⟨j, hj, rfl⟩ := nI_of (show ¬ p1 < 0 by rw [Int32.not_lt]; exact c0)
  unfold f_X8_boardAt
  have key : ∀ d i E a n1 n2 (s : gS), i + d = 20 → d < n1 → d + 2 < n2 → E < 2 ^ ζ 4 → a < 10 → (E = 0 ∨ wn ζ E a = 0) → cnt (fun i => E.testBit i) 20 ≤ d → i ≤ j → cM ζ s → eqM m s →
      ∃ r s', f_X8_boardAt_L9 (nI j) n1 (nI E) (nI a) (nI i) x = some (r, x) ∧ f_X11_trail_L46 (nI j) n2 (nI E) (nI a) (-6) (nI i) s = some (r, s') ∧ eqM m s' := by
    intro d
    induction d with
    | zero =>
      intro i E a n1 n2 s hid h1 h2 hE1 ha hwE hc hij hs he
      obtain ⟨n1, rfl⟩ := Nat.exists_eq_succ_of_ne_zero (show n1 ≠ 0 by omega)
      obtain ⟨n2, rfl⟩ := Nat.exists_eq_succ_of_ne_zero (show n2 ≠ 0 by omega)
      have hE0 : E = 0 := cnt_z (Nat.lt_of_lt_of_le hE1 (Nat.pow_le_pow_right (by decide) hn)) (by omega)
      subst hE0
      rw [f_X8_boardAt_L9_s, f_X11_trail_L46_s, if_pos (show (20 : Int32) ≤ nI i from nI_le (a := 20) (by omega) (by omega)), if_neg (nI_nlt hij hj), if_pos (show nI 0 = 0 from rfl)]
      exact ⟨_, s, rfl, rfl, he⟩
    | succ d ih =>
      intro i E a n1 n2 s hid h1 h2 hE1 ha hwE hc hij hs he
      obtain ⟨n1, rfl⟩ := Nat.exists_eq_succ_of_ne_zero (show n1 ≠ 0 by omega)
      obtain ⟨n2, rfl⟩ := Nat.exists_eq_succ_of_ne_zero (show n2 ≠ 0 by omega)
      have hE31 := lt31 hE1 (show ζ 4 ≤ 31 by omega)
      rw [f_X8_boardAt_L9_s, f_X11_trail_L46_s, if_neg (show ¬ (20 : Int32) ≤ nI i from nI_ge (b := 20) (by omega) (by decide)), if_neg (nI_nlt hij hj)]
      by_cases hE0 : E = 0
      · subst hE0
        rw [if_pos (show nI 0 = 0 from rfl), if_pos (show nI 0 = 0 from rfl)]
        exact ⟨_, s, rfl, rfl, he⟩
      have hE0' : ¬ nI E = 0 := fun z => hE0 ((n_eq0 (Nat.lt_trans hE31 (by decide))).mp z)
      have hww := hwE.resolve_left hE0
      have hN := gd_lt hI ha hE1 hww
      have hy := ls_yes _ _ hN
      rw [if_neg hE0', if_neg hE0', x_first' hx hI hE1 ha hww, ob_some, gLet_eq, m_nb hs]
      dsimp only
      obtain ⟨s', w1, w2⟩ := m_first' hs hI hE1 ha hww (nI j) (nI i) (fun (k24 : Int32) (s25 : gS) => gLet (nI E &&& ((1 <<< (k24 &&& 31)) ^^^ (-1))) (fun x26 => Option.bind (f_X11_across k24 (nI a) s25) (fun q27 => if nI i = nI j then (f_X11_trail_L46 (nI j) n2 x26 q27.1 k24 (nI i + 1) q27.2) else (f_X11_trail_L46 (nI j) n2 x26 q27.1 (-6) (nI i + 1) q27.2))))
      rw [gLet_eq (a := nI (ζ 4) - 1), w1]
      generalize ls (gdB ζ E a) (ζ 4) = k at hN hy w1
      unfold gdB at hy
      rw [Bool.and_eq_true, Bool.and_eq_true, Bool.or_eq_true, decide_eq_true_eq, decide_eq_true_eq] at hy
      have hs' := w2.cM hs
      have n6 : ¬ nI k = (-6) := fun z => absurd (show nI k < 0 by rw [z]; decide) (nI_pos (by omega))
      rw [n_rm (by omega), gLet_eq, m_across hs' hI hN (by omega), ob_some]
      dsimp only
      by_cases hij2 : i = j
      · subst hij2
        obtain ⟨n2, rfl⟩ := Nat.exists_eq_succ_of_ne_zero (show n2 ≠ 0 by omega)
        rw [if_pos rfl, if_pos rfl, f_X11_trail_L46_s, nI_1, if_pos (nI_lt (show i < i + 1 by omega) (by omega))]
        exact ⟨_, s', rfl, rfl, he.tr w2⟩
      · have hij3 : ¬ nI i = nI j := fun z => hij2 ((nI_eq (by omega) hj).mp z)
        rw [if_neg hij3, if_neg hij3, if_neg n6, x_beyond hx hI hN (by omega), ob_some]
        dsimp only
        rw [nI_1]
        have hcc := rm_cnt hE31 hy.1 (N := 20) (by omega)
        exact ih (i + 1) _ _ n1 n2 s' (by omega) (by omega) (by omega) (rm_lt hE1) (oth_lt hI hN) hy.2.2 (by omega) (by omega) hs' (he.tr w2)
  obtain ⟨r, s', k1, k2, k3⟩ := key 20 0 (lft ζ g) (gh ζ g 0) gFu gFu m' (by omega) (by show 20 < 1000000; decide) (by show 22 < 1000000; decide) hE20 hr (Or.inr hw) (cnt_le 20) (Nat.zero_le _) (b2.cM hm) b2
  have k1' : f_X8_boardAt_L9 (nI j) gFu (nI (lft ζ g)) (nI (gh ζ g 0)) 0 x = some (r, x) := k1
  have k2' : f_X11_trail_L46 (nI j) gFu (nI (lft ζ g)) (nI (gh ζ g 0)) (-6) 0 m' = some (r, s') := k2
  rw [k1', k2']
  exact qOK.mm rfl rfl k3
end TR
