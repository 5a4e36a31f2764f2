section BO
variable {ζ : Nat → Nat} {x m : gS} {B : Nat}
def loN (a b : Nat) : Nat := if b < a then b else a
def hiN (a b : Nat) : Nat := if a < b then b else a
/-- one board more -/
def layZ (ζ : Nat → Nat) (a b c d : Nat) : Nat → Nat := upN (upN (upN (upN (upN (upN ζ (6 + 5 * ζ 4) (loN a b)) (6 + 5 * ζ 4 + 1) (hiN a b)) (6 + 5 * ζ 4 + 2) c) (6 + 5 * ζ 4 + 3) d) (6 + 5 * ζ 4 + 4) 0) 4 (ζ 4 + 1)
theorem layZ_n {a b c d K : Nat} (h1 : K ≠ 4) (h2 : K < 6 + 5 * ζ 4 ∨ 6 + 5 * ζ 4 + 5 ≤ K) : layZ ζ a b c d K = ζ K := by
  unfold layZ
  rw [upN_ne h1, upN_ne (by omega), upN_ne (by omega), upN_ne (by omega), upN_ne (by omega), upN_ne (by omega)]
theorem layZ_4 {a b c d : Nat} : layZ ζ a b c d 4 = ζ 4 + 1 := upN_eq
theorem layZ_I (hI : zI ζ) (h4 : ζ 4 < 20) {a b c d : Nat} (ha : a < 10) (hb : b < 10) (hab : a ≠ b) (hc : 1 ≤ c ∧ c ≤ 9) (hd : 1 ≤ d ∧ d ≤ 9) : zI (layZ ζ a b c d) := by
  obtain ⟨i1, i2, i3, i4, i5, i6, i7⟩ := hI
  refine ⟨by rw [layZ_4]; omega, by rw [layZ_n (by decide) (by omega)]; exact i2, by rw [layZ_n (by decide) (by omega)]; exact i3, by rw [layZ_n (by decide) (by omega)]; exact i4, fun k hk => ?_, fun g hg => ?_, fun s hs => ?_⟩
  · rw [layZ_4] at hk
    unfold bd
    by_cases hq : k = ζ 4
    · subst hq
      have q0 : layZ ζ a b c d (6 + 5 * ζ 4 + 0) = loN a b := by
        unfold layZ
        rw [upN_ne (by omega), upN_ne (by omega), upN_ne (by omega), upN_ne (by omega), upN_ne (by omega)]
        exact upN_eq
      have q1 : layZ ζ a b c d (6 + 5 * ζ 4 + 1) = hiN a b := by
        unfold layZ
        rw [upN_ne (by omega), upN_ne (by omega), upN_ne (by omega), upN_ne (by omega)]
        exact upN_eq
      have q2 : layZ ζ a b c d (6 + 5 * ζ 4 + 2) = c := by
        unfold layZ
        rw [upN_ne (by omega), upN_ne (by omega), upN_ne (by omega)]
        exact upN_eq
      have q3 : layZ ζ a b c d (6 + 5 * ζ 4 + 3) = d := by
        unfold layZ
        rw [upN_ne (by omega), upN_ne (by omega)]
        exact upN_eq
      rw [q0, q1, q2, q3]
      unfold loN hiN
      by_cases h : a < b
      · rw [if_pos h, if_neg (by omega)]
        exact ⟨h, hb, hc, hd⟩
      · rw [if_neg h, if_pos (by omega)]
        exact ⟨by omega, ha, hc, hd⟩
    · have := i5 k (by omega)
      unfold bd at this
      rw [layZ_n (by omega) (by omega), layZ_n (by omega) (by omega), layZ_n (by omega) (by omega), layZ_n (by omega) (by omega)]
      exact this
  · have := i6 g hg
    unfold gh at this ⊢
    rw [layZ_4, layZ_n (by omega) (by omega), layZ_n (by omega) (by omega)]
    exact ⟨this.1, Nat.lt_of_lt_of_le this.2 (Nat.pow_le_pow_right (by decide) (by omega))⟩
  · rw [layZ_n (by decide) (by omega)] at hs
    have := i7 s hs
    unfold sl at this ⊢
    rw [layZ_n (by omega) (by omega), layZ_n (by omega) (by omega), layZ_n (by omega) (by omega)]
    exact this
/-- the row of both rooms is none of the places -/
theorem cP_skip {P : Nat → Prop} (h : cP P ζ x) {i : Nat} {w : Int32} : cP P ζ (up2 x (9 + 1) i w) := by
  intro L hL hP
  rw [up2_c (show 1 + locR L ≠ 9 + 1 by have := loc_ne9 L hL; omega)]
  exact h L hL hP
theorem layZ_r {a b c d : Nat} : layZ ζ a b c d (6 + 5 * ζ 4 + 0) = loN a b ∧ layZ ζ a b c d (6 + 5 * ζ 4 + 1) = hiN a b := by
  unfold layZ
  constructor
  · rw [upN_ne (by omega), upN_ne (by omega), upN_ne (by omega), upN_ne (by omega), upN_ne (by omega)]
    exact upN_eq
  · rw [upN_ne (by omega), upN_ne (by omega), upN_ne (by omega), upN_ne (by omega)]
    exact upN_eq
theorem ends_lay {a b c d : Nat} : ends (layZ ζ a b c d) (ζ 4) = 2 ^ a ||| 2 ^ b := by
  unfold ends bd
  rw [layZ_r.1, layZ_r.2]
  unfold loN hiN
  by_cases h : a < b
  · rw [if_neg (by omega), if_pos h]
  · by_cases h2 : b < a
    · rw [if_pos h2, if_neg h, Nat.or_comm]
    · rw [if_neg h2, if_neg h, show a = b by omega]
theorem x_app1 (hI : zI ζ) (hx : cX ζ x 1) (h4 : ζ 4 < 20) {a b c d : Nat} (ha : a < 10) (hb : b < 10) (hab : a ≠ b) (hc : 1 ≤ c ∧ c ≤ 9) (hd : 1 ≤ d ∧ d ≤ 9) : ∃ x', f_X1_append (nI a) (nI b) (nI c) (nI d) x = some x' ∧ cX (layZ ζ a b c d) x' 1 ∧ atX x x' := by
  have hl : ∀ j, j < 5 → locR (6 + 5 * ζ 4 + j) = 5 + 2 * j + 2 * ((j + 2) / 4) ∧ locI (6 + 5 * ζ 4 + j) = ζ 4 := fun j hj => loc_b _ h4 j hj
  have e4 : x 4 0 = nI (ζ 4) := x_nb hx
  have elo : (if nI b < nI a then nI b else nI a) = nI (loN a b) := by
    unfold loN
    by_cases h : b < a
    · rw [if_pos h, if_pos (nI_lt h (by omega))]
    · rw [if_neg h, if_neg (nI_nlt (by omega) (by omega))]
  have ehi : (if nI a < nI b then nI b else nI a) = nI (hiN a b) := by
    unfold hiN
    by_cases h : a < b
    · rw [if_pos h, if_pos (nI_lt h (by omega))]
    · rw [if_neg h, if_neg (nI_nlt (by omega) (by omega))]
  have een : ((1 : Int32) <<< (nI a &&& 31)) ||| ((1 : Int32) <<< (nI b &&& 31)) = nI (2 ^ a ||| 2 ^ b) := by rw [shl1 a (by omega), shl1 b (by omega), n_or]
  unfold f_X1_append
  rw [if_pos (show x 4 0 < 20 by rw [e4]; exact nI_lt (b := 20) h4 (by decide)), elo, ehi, een, e4, store_nI h4 (by decide), ob_some, up2_c (show 4 ≠ 5 + 1 by decide), e4, store_nI h4 (by decide), ob_some, up2_c (show 4 ≠ 7 + 1 by decide), up2_c (show 4 ≠ 5 + 1 by decide), e4, store_nI h4 (by decide), ob_some, up2_c (show 4 ≠ 9 + 1 by decide), up2_c (show 4 ≠ 7 + 1 by decide), up2_c (show 4 ≠ 5 + 1 by decide), e4, store_nI h4 (by decide), ob_some, up2_c (show 4 ≠ 11 + 1 by decide), up2_c (show 4 ≠ 9 + 1 by decide), up2_c (show 4 ≠ 7 + 1 by decide), up2_c (show 4 ≠ 5 + 1 by decide), e4, store_nI h4 (by decide), ob_some, up2_c (show 4 ≠ 13 + 1 by decide), up2_c (show 4 ≠ 11 + 1 by decide), up2_c (show 4 ≠ 9 + 1 by decide), up2_c (show 4 ≠ 7 + 1 by decide), up2_c (show 4 ≠ 5 + 1 by decide), e4, store_nI h4 (by decide), ob_some, gLet_eq, up2_c (show 4 ≠ 15 + 1 by decide), up2_c (show 4 ≠ 13 + 1 by decide), up2_c (show 4 ≠ 11 + 1 by decide), up2_c (show 4 ≠ 9 + 1 by decide), up2_c (show 4 ≠ 7 + 1 by decide), up2_c (show 4 ≠ 5 + 1 by decide), e4, nI_1]
  have c1 := cP_up (cP_of hI hx) (K := 6 + 5 * ζ 4) (v := loN a b) (r := 5 + 1) (i := ζ 4) (by omega) (by have := (hl 0 (by decide)).1; rw [Nat.add_zero] at this; rw [this]) (by have := (hl 0 (by decide)).2; rw [Nat.add_zero] at this; rw [this])
  have c2 := cP_up c1 (K := 6 + 5 * ζ 4 + 1) (v := hiN a b) (r := 7 + 1) (i := ζ 4) (by omega) (by rw [(hl 1 (by decide)).1]) (by rw [(hl 1 (by decide)).2])
  have c2 := cP_skip c2 (i := ζ 4) (w := nI (2 ^ a ||| 2 ^ b))
  have c3 := cP_up c2 (K := 6 + 5 * ζ 4 + 2) (v := c) (r := 11 + 1) (i := ζ 4) (by omega) (by rw [(hl 2 (by decide)).1]) (by rw [(hl 2 (by decide)).2])
  have c4 := cP_up c3 (K := 6 + 5 * ζ 4 + 3) (v := d) (r := 13 + 1) (i := ζ 4) (by omega) (by rw [(hl 3 (by decide)).1]) (by rw [(hl 3 (by decide)).2])
  have c5 := cP_up c4 (K := 6 + 5 * ζ 4 + 4) (v := 0) (r := 15 + 1) (i := ζ 4) (by omega) (by rw [(hl 4 (by decide)).1]) (by rw [(hl 4 (by decide)).2])
  have c6 := cP_up c5 (K := 4) (v := ζ 4 + 1) (r := 4) (i := 0) (by decide) (by rfl) (by rfl)
  have hz5 : layZ ζ a b c d 5 = ζ 5 := layZ_n (by decide) (by omega)
  refine ⟨_, rfl, cP_to (layZ_I hI h4 ha hb hab hc hd) c6 (fun K hK hlv => ?_) (fun k hk => ?_), ((((((atX_up (by decide) (by decide)).tr (atX_up (by decide) (by decide))).tr (atX_up (by decide) (by decide))).tr (atX_up (by decide) (by decide))).tr (atX_up (by decide) (by decide))).tr (atX_up (by decide) (by decide))).tr (atX_up (by decide) (by decide))⟩
  · rw [layZ_4, hz5] at hlv
    unfold liv at hlv ⊢
    omega
  · rw [layZ_4] at hk
    rw [up2_c (show 1 + 9 ≠ 4 by decide), up2_c (show 1 + 9 ≠ 15 + 1 by decide), up2_c (show 1 + 9 ≠ 13 + 1 by decide), up2_c (show 1 + 9 ≠ 11 + 1 by decide)]
    by_cases hq : k = ζ 4
    · subst hq
      rw [ends_lay]
      exact up2_eq
    · have e9 := cX_eL hx k (by omega)
      have e10 : ends (layZ ζ a b c d) k = ends ζ k := by
        unfold ends bd
        rw [layZ_n (by omega) (by omega), layZ_n (by omega) (by omega)]
      rw [e10, ← e9]
      refine (up2_k hq).trans ?_
      rw [up2_c (show 9 + 1 ≠ 7 + 1 by decide), up2_c (show 9 + 1 ≠ 5 + 1 by decide)]
theorem m_lies (hI : zI ζ) (hm : cM ζ m) (h4 : ζ 4 < 20) {a b : Nat} (c d : Nat) (ha : a < 10) (hb : b < 10) : ∃ m', f_X11_lies (nI a) (nI b) (nI c) (nI d) m = some (nI (ζ 4), m') ∧ cM (layZ ζ a b c d) m' ∧ atM m m' ∧ (∀ j, j ≠ 1 → m' j = m j) := by
  have main : ∀ lo hi : Nat, lo = loN a b → hi = hiN a b → ∃ m', gGd (gin (nI (6 + 5 * ζ 4)) 138) (gLet (up2 m 1 (gil (nI (6 + 5 * ζ 4))) (nI lo)) fun s6 => gGd (gin (nI (6 + 5 * ζ 4) + 1) 138) (gLet (up2 s6 1 (gil (nI (6 + 5 * ζ 4) + 1)) (nI hi)) (fun s11 => gGd (gin (nI (6 + 5 * ζ 4) + 2) 138) (gLet (up2 s11 1 (gil (nI (6 + 5 * ζ 4) + 2)) (nI c)) (fun s12 => gGd (gin (nI (6 + 5 * ζ 4) + 3) 138) (gLet (up2 s12 1 (gil (nI (6 + 5 * ζ 4) + 3)) (nI d)) (fun s13 => gGd (gin (nI (6 + 5 * ζ 4) + 4) 138) (gLet (up2 s13 1 (gil (nI (6 + 5 * ζ 4) + 4)) 0) (fun s14 => gLet (up2 s14 1 4 ((s14 1 4) + 1)) (fun s15 => some (((s15 1 4) - 1), s15))))))))))) = some (nI (ζ 4), m') ∧ cM (layZ ζ a b c d) m' ∧ atM m m' ∧ (∀ j, j ≠ 1 → m' j = m j) := by
    intro lo hi hlo hhi
    subst hlo
    subst hhi
    rw [gin_nI (by omega) (by decide), gGd_t, gLet_eq, nI_1, gin_nI (by omega) (by decide), gGd_t, gLet_eq, show nI (6 + 5 * ζ 4) + 2 = nI (6 + 5 * ζ 4 + 2) from nI_add _ 2, gin_nI (by omega) (by decide), gGd_t, gLet_eq, show nI (6 + 5 * ζ 4) + 3 = nI (6 + 5 * ζ 4 + 3) from nI_add _ 3, gin_nI (by omega) (by decide), gGd_t, gLet_eq, show nI (6 + 5 * ζ 4) + 4 = nI (6 + 5 * ζ 4 + 4) from nI_add _ 4, gin_nI (by omega) (by decide), gGd_t, gLet_eq, gil_nI (by omega), gil_nI (by omega), gil_nI (by omega), gil_nI (by omega), gil_nI (by omega), gLet_eq]
    have e4 : ∀ v1 v2 v3 v4 v5 : Int32, up2 (up2 (up2 (up2 (up2 m 1 (6 + 5 * ζ 4) v1) 1 (6 + 5 * ζ 4 + 1) v2) 1 (6 + 5 * ζ 4 + 2) v3) 1 (6 + 5 * ζ 4 + 3) v4) 1 (6 + 5 * ζ 4 + 4) v5 1 4 + 1 = nI (ζ 4 + 1) := fun v1 v2 v3 v4 v5 => by
      rw [up2_k (by omega), up2_k (by omega), up2_k (by omega), up2_k (by omega), up2_k (by omega), m_nb hm, nI_1]
    rw [e4, up2_eq, show (1 : Int32) = nI 1 from rfl, pk_sub (by omega), Nat.add_sub_cancel]
    refine ⟨_, rfl, up_cM (up_cM (up_cM (up_cM (up_cM (up_cM hm (v := loN a b) (by omega)) (v := hiN a b) (by omega)) (v := c) (by omega)) (v := d) (by omega)) (v := 0) (by omega)) (v := ζ 4 + 1) (by decide), atM_up.tr (atM_up.tr (atM_up.tr (atM_up.tr (atM_up.tr atM_up)))), fun j hj => ?_⟩
    rw [up2_row hj, up2_row hj, up2_row hj, up2_row hj, up2_row hj, up2_row hj]
  unfold f_X11_lies
  rw [m_nb hm, show (6 : Int32) + 5 * nI (ζ 4) = nI (6 + 5 * ζ 4) by rw [show (6 : Int32) = nI 6 from rfl, show (5 : Int32) = nI 5 from rfl, pk_mul, nI_add], gLet_eq, gLet_eq]
  by_cases h : b ≤ a
  · have hle : nI b ≤ nI a := nI_le h (by omega)
    rw [if_pos hle]
    simp only [gLet_eq (β := Option (Int32 × gS)), if_pos hle]
    have := main b a (by unfold loN; split <;> omega) (by unfold hiN; split <;> omega)
    simp only [gLet_eq] at this
    exact this
  · have hle : ¬ nI b ≤ nI a := nI_ge (by omega) (by omega)
    rw [if_neg hle]
    simp only [gLet_eq (β := Option (Int32 × gS)), if_neg hle]
    have := main a b (by unfold loN; split <;> omega) (by unfold hiN; split <;> omega)
    simp only [gLet_eq] at this
    exact this
theorem o_lay (hR : RR B x m) (p0 p1 p2 p3 : Int32) : oOK B (f_X10_lay p0 p1 p2 p3 x) (f_X11_lay p0 p1 p2 p3 m) := by
  obtain ⟨ζ, hI, hB, hx, hm, hrest⟩ := id hR
  unfold f_X10_lay f_X11_lay f_X11_whyNotLay
  rcases rmC p0 x m with ⟨h1, h2⟩ | ⟨a, ha, rfl, h1, h2⟩
  · rw [h1, h2]; exact oOK.same hR rfl rfl
  rw [h1, h2, ob_some, ob_some]
  dsimp only
  rw [if_neg i10, if_neg i10]
  rcases rmC p1 x m with ⟨h1, h2⟩ | ⟨b, hb, rfl, h1, h2⟩
  · rw [h1, h2]; exact oOK.same hR rfl rfl
  rw [h1, h2, ob_some, ob_some]
  dsimp only
  rw [if_neg i10, if_neg i10]
  by_cases hab : a = b
  · rw [if_pos (by rw [hab]), if_pos (by rw [hab])]
    exact oOK.same hR rfl rfl
  have hab' : ¬ nI a = nI b := fun z => hab ((nI_eq (by omega) (by omega)).mp z)
  rw [if_neg hab', if_neg hab']
  rcases wi p2 1 9 1 9 rfl rfl (by decide) (by decide) x m with ⟨h1, h2⟩ | ⟨c, hc1, hc2, rfl, h1, h2⟩
  · rw [h1, h2]; exact oOK.same hR rfl rfl
  rw [h1, h2, ob_some, ob_some]
  dsimp only
  rw [if_neg i10, if_neg i10]
  rcases wi p3 1 9 1 9 rfl rfl (by decide) (by decide) x m with ⟨h1, h2⟩ | ⟨d, hd1, hd2, rfl, h1, h2⟩
  · rw [h1, h2]; exact oOK.same hR rfl rfl
  rw [h1, h2, ob_some, ob_some]
  dsimp only
  have h44 := hI.nb
  rw [if_neg i10, if_neg i10]
  by_cases h4 : ζ 4 < 20
  · rw [if_pos (show x 4 0 < 20 by rw [x_nb hx]; exact nI_lt (b := 20) h4 (by decide)), if_neg (show ¬ m 1 4 = 20 from fun z => absurd ((nI_eq (a := ζ 4) (b := 20) (by omega) (by decide)).mp ((m_nb hm).symm.trans z)) (by omega)), ob_some]
    dsimp only
    rw [if_pos (by decide)]
    refine o_recZ hI hB hx hm hrest (Nat.le_refl _) fun x1 m1 hx hm => ?_
    obtain ⟨x2, q1, q2, q3⟩ := x_app1 hI hx h4 ha hb hab ⟨hc1, hc2⟩ ⟨hd1, hd2⟩
    obtain ⟨m2, w1, w2, w3, -⟩ := m_lies hI hm h4 c d ha hb
    rw [q1, w1, ob_some, ob_some]
    refine ⟨_, _, _, layZ ζ a b c d, rfl, ?_, layZ_I hI h4 ha hb hab ⟨hc1, hc2⟩ ⟨hd1, hd2⟩, by rw [layZ_n (by decide) (by omega)]; exact hB, q2, w2, q3, w3⟩
    rw [x_nb q2, layZ_4, show (1 : Int32) = nI 1 from rfl, pk_sub (by omega), Nat.add_sub_cancel]
  · rw [if_neg (show ¬ x 4 0 < 20 by rw [x_nb hx]; exact nI_nlt (b := 20) (by omega) (by omega)), if_pos (show m 1 4 = 20 by rw [m_nb hm, show ζ 4 = 20 by omega]; rfl), ob_some]
    dsimp only
    rw [if_neg (by decide)]
    exact oOK.same hR rfl rfl
end BO
