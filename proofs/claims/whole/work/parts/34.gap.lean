section GP
variable {ζ : Nat → Nat} {x m : gS}
theorem qui_bit {k b : Nat} : (qui ζ k).testBit b = (decide (b < ζ 4) && decide (bd ζ b 2 ≤ k)) := mk_bit
theorem m_quiet (hm : cM ζ m) (hI : zI ζ) {g k : Nat} (hg : g < 4) (hk : k + 1 < 10) (w1 w2 : Int32) (K : Int32 → gS → Option (Int32 × gS)) :
    f_X11_quietest_L49 w1 w2 (nI (fre ζ g)) (nI (k + 1)) K gFu (nI (fre ζ g &&& qui ζ k)) 0 m = K (nI (fre ζ g &&& qui ζ (k + 1))) m := by
  have hn := hI.nb
  have hF := lt31 (fre_lt hI g) (by decide)
  refine lp0 (fun n i => f_X11_quietest_L49 w1 w2 (nI (fre ζ g)) (nI (k + 1)) K n (nI ((fre ζ g &&& qui ζ k) ||| mk (fun b => (fre ζ g).testBit b && decide (bd ζ b 2 = k + 1)) i)) (nI i) m) (ζ 4) _ (by omega) (fun n i hi => ?_) (fun n => ?_) |> Eq.trans (by rw [mk, orF, Nat.or_zero]; rfl)
  · have hb := hI.b hi
    rw [f_X11_quietest_L49_s, m_nb hm, if_neg (nI_ge hi (by omega)), mk_succ]
    by_cases hf : (fre ζ g).testBit i = true
    · rw [if_pos ((hbit1 hF (by omega)).mpr hf), m_b2 hm hI hi, ob_some, hf]
      dsimp only
      by_cases hc : bd ζ i 2 = k + 1
      · rw [if_pos (show nI (bd ζ i 2) = nI (k + 1) by rw [hc]), gLet_eq, shl1 _ (by omega), n_or, Bool.true_and, if_pos (decide_eq_true hc), Nat.or_assoc, nI_1]
      · rw [if_neg (fun z => hc ((nI_eq (by omega) (by omega)).mp z)), gLet_eq, Bool.true_and, if_neg (show ¬ decide (bd ζ i 2 = k + 1) = true by simpa using hc), show (0 : Int32) = nI 0 from rfl, n_or, Nat.or_assoc, nI_1]
    · rw [if_neg (fun z => hf ((hbit1 hF (by omega)).mp z)), gLet_eq, if_neg (show ¬ ((fre ζ g).testBit i && decide (bd ζ i 2 = k + 1)) = true by simp [hf]), show (0 : Int32) = nI 0 from rfl, n_or, Nat.or_assoc, nI_1]
  · rw [f_X11_quietest_L49_s, m_nb hm, if_pos (Int32.le_refl _)]
    congr 2
    apply bit_ext
    intro b
    rw [Nat.testBit_or, Nat.testBit_and, Nat.testBit_and, mk_bit, qui_bit, qui_bit]
    cases (fre ζ g).testBit b
    · simp
    · by_cases h1 : b < ζ 4
      · rw [decide_eq_true h1]
        simp only [Bool.true_and]
        rw [Bool.eq_iff_iff, Bool.or_eq_true, decide_eq_true_eq, decide_eq_true_eq, decide_eq_true_eq]
        omega
      · rw [decide_eq_false h1]
        rfl
theorem rea_none {E r t : Nat} (hr : r < 10) (hE : ∀ b, b < ζ 4 → ¬ E.testBit b = true) : (rea ζ E r).testBit t = true ↔ t = r := by
  constructor
  · intro h
    exact cn_in (P := fun v => v = r) rfl (fun b x y he hp => absurd he.2.1 (hE b he.1)) t h
  · rintro rfl
    exact cn_rf hr
theorem q_quietest (hx : cX ζ x 1) (hm : cM ζ m) (hI : zI ζ) (p0 p1 : Int32) : qOK (f_X10_quietest p0 p1 x) (f_X11_quietest p0 p1 m) x m := by
  unfold f_X10_quietest f_X11_quietest
  rcases ghC p0 x m with ⟨h1, h2⟩ | ⟨g, hg, rfl, h1, h2⟩
  · rw [h1, h2]; exact qOK.same rfl rfl
  rw [h1, h2, ob_some, ob_some]
  dsimp only
  rw [if_neg i10, if_neg i10]
  rcases rmC p1 x m with ⟨g1, g2⟩ | ⟨t, ht, rfl, g1, g2⟩
  · rw [g1, g2]; exact qOK.same rfl rfl
  rw [g1, g2, ob_some, ob_some]
  dsimp only
  have hn := hI.nb
  have hr := (hI.g hg).1
  have hF := lt31 (fre_lt hI g) (by decide)
  have qa : ∀ k, fre ζ g &&& qui ζ k < 2 ^ 31 := fun k => Nat.and_lt_two_pow _ (lt31 (mk_lt' (k := 20) (by omega)) (by decide))
  rw [if_neg i10, if_neg i10, a_grm hx hg, m_roomOf hm hg, ob_some, ob_some]
  dsimp only
  rw [x_free hx hI hg, ob_some]
  dsimp only
  -- one step of the class
  have sx : ∀ n k, k < 10 → f_X10_quietest_L44 (nI t) (nI (gh ζ g 0)) (nI (fre ζ g)) (n + 1) (nI k) x = if (rea ζ (fre ζ g &&& qui ζ k) (gh ζ g 0)).testBit t = true then some (nI k, x) else f_X10_quietest_L44 (nI t) (nI (gh ζ g 0)) (nI (fre ζ g)) n (nI (k + 1)) x := by
    intro n k hk
    rw [f_X10_quietest_L44_s, if_neg (show ¬ (9 : Int32) < nI k from nI_nlt (a := 9) (by omega) (by decide)), x_qui hx hI (by omega), ob_some]
    dsimp only
    rw [n_and, x_rooms hx hI (qa k) hr, ob_some]
    dsimp only
    by_cases hc : (rea ζ (fre ζ g &&& qui ζ k) (gh ζ g 0)).testBit t = true
    · rw [holds_t (lt31 rea_lt (by decide)) (by omega) hc, ob_some, if_pos hc]
      dsimp only
      rw [if_neg i10]
    · rw [holds_f (lt31 rea_lt (by decide)) (by omega) hc, ob_some, if_neg hc]
      dsimp only
      rw [if_pos rfl, nI_1]
  have q0 : ∀ b, b < ζ 4 → ¬ (fre ζ g &&& qui ζ 0).testBit b = true := by
    intro b hb h
    have := hI.b hb
    rw [Nat.testBit_and, qui_bit, decide_eq_true hb, decide_eq_false (show ¬ bd ζ b 2 ≤ 0 by omega)] at h
    simp at h
  have hg0 : (rea ζ (fre ζ g &&& qui ζ 0) (gh ζ g 0)).testBit t = true ↔ t = gh ζ g 0 := rea_none hr q0
  have e0 : f_X10_quietest_L44 (nI t) (nI (gh ζ g 0)) (nI (fre ζ g)) gFu 0 x = if (rea ζ (fre ζ g &&& qui ζ 0) (gh ζ g 0)).testBit t = true then some (nI 0, x) else f_X10_quietest_L44 (nI t) (nI (gh ζ g 0)) (nI (fre ζ g)) 999999 (nI (0 + 1)) x := sx 999999 0 (by decide)
  rw [e0]
  by_cases hrt : t = gh ζ g 0
  · rw [if_pos (hg0.mpr hrt), if_pos (show nI (gh ζ g 0) = nI t by rw [hrt])]
    exact qOK.same rfl rfl
  rw [if_neg (fun z => hrt (hg0.mp z)), if_neg (fun z => hrt ((nI_eq (by omega) (by omega)).mp z).symm), m_free hm hI hg, ob_some]
  dsimp only
  have key : ∀ d k n1 n2 (s : gS), k + 1 + d = 10 → d < n1 → d < n2 → cM ζ s → eqM m s → ∃ r s', f_X10_quietest_L44 (nI t) (nI (gh ζ g 0)) (nI (fre ζ g)) n1 (nI (k + 1)) x = some (r, x) ∧ f_X11_quietest_L39 (nI g) (nI t) (nI (fre ζ g)) n2 (nI (fre ζ g &&& qui ζ k)) (nI (k + 1)) s = some (r, s') ∧ eqM m s' := by
    intro d
    induction d with
    | zero =>
      intro k n1 n2 s hk h1 h2 hs he
      obtain ⟨n1, rfl⟩ := Nat.exists_eq_succ_of_ne_zero (show n1 ≠ 0 by omega)
      obtain ⟨n2, rfl⟩ := Nat.exists_eq_succ_of_ne_zero (show n2 ≠ 0 by omega)
      rw [f_X10_quietest_L44_s, f_X11_quietest_L39_s, if_pos (show (9 : Int32) < nI (k + 1) from nI_lt (a := 9) (by omega) (by omega)), if_pos (show (9 : Int32) < nI (k + 1) from nI_lt (a := 9) (by omega) (by omega))]
      exact ⟨_, s, rfl, rfl, he⟩
    | succ d ih =>
      intro k n1 n2 s hk h1 h2 hs he
      obtain ⟨n1, rfl⟩ := Nat.exists_eq_succ_of_ne_zero (show n1 ≠ 0 by omega)
      obtain ⟨n2, rfl⟩ := Nat.exists_eq_succ_of_ne_zero (show n2 ≠ 0 by omega)
      rw [sx n1 (k + 1) (by omega), f_X11_quietest_L39_s, if_neg (show ¬ (9 : Int32) < nI (k + 1) from nI_nlt (a := 9) (by omega) (by decide)), m_quiet hs hI hg (by omega)]
      rw [m_roomOf hs hg, ob_some]
      dsimp only
      rw [m_reached hs hI (qa _) hr, ob_some]
      dsimp only
      by_cases hc : (rea ζ (fre ζ g &&& qui ζ (k + 1)) (gh ζ g 0)).testBit t = true
      · rw [if_pos hc, if_pos ((hbit1 (lt31 rea_lt (by decide)) (by omega)).mpr hc)]
        exact ⟨_, _, rfl, rfl, he.tr eqM_enc⟩
      · rw [if_neg hc, if_neg (fun z => hc ((hbit1 (lt31 rea_lt (by decide)) (by omega)).mp z)), nI_1]
        exact ih (k + 1) n1 n2 _ (by omega) (by omega) (by omega) (enc_cM hs) (he.tr eqM_enc)
  obtain ⟨r, s', k1, k2, k3⟩ := key 9 0 999999 gFu m rfl (by decide) (by show 9 < 1000000; decide) hm eqM.rf
  have z0 : fre ζ g &&& qui ζ 0 = 0 := by
    apply bit_ext
    intro b
    rw [Nat.zero_testBit]
    by_cases hb : b < ζ 4
    · simpa using q0 b hb
    · rw [Nat.testBit_and, qui_bit, decide_eq_false hb, Bool.false_and, Bool.and_false]
  rw [z0] at k2
  have k2' : f_X11_quietest_L39 (nI g) (nI t) (nI (fre ζ g)) gFu 0 1 m = some (r, s') := k2
  rw [k1, k2']
  exact qOK.mm rfl rfl k3
end GP
