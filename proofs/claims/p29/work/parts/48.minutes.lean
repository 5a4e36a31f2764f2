section MI
variable {ζ : Nat → Nat} {x m : gS} {B : Nat}
/-- how many bells ring in t minutes -/
def bl (ζ : Nat → Nat) (t : Nat) : Nat := (ζ 2 + t) / ζ 0 - ζ 2 / ζ 0
theorem div_step {a d : Nat} (hd : 0 < d) : (a + 1) / d = a / d + (if (a + 1) % d = 0 then 1 else 0) := by
  have h1 := Nat.div_add_mod (a + 1) d
  have h2 := Nat.div_add_mod a d
  have h3 := Nat.mod_lt (a + 1) hd
  have h4 := Nat.mod_lt a hd
  generalize (a + 1) / d = u at *
  generalize a / d = v at *
  generalize (a + 1) % d = r at *
  generalize a % d = s at *
  have k1 : v ≤ u := by
    refine Nat.le_of_not_lt fun z => ?_
    have := Nat.mul_le_mul_left d (show u + 1 ≤ v by omega)
    rw [Nat.mul_add] at this
    omega
  have k2 : u ≤ v + 1 := by
    refine Nat.le_of_not_lt fun z => ?_
    have := Nat.mul_le_mul_left d (show v + 2 ≤ u by omega)
    rw [Nat.mul_add] at this
    omega
  rcases (show u = v ∨ u = v + 1 by omega) with rfl | rfl
  · rw [if_neg (by omega), Nat.add_zero]
  · rw [Nat.mul_add] at h1
    rw [if_pos (by omega)]
theorem bl_0 : bl ζ 0 = 0 := Nat.sub_self _
theorem div_mono (ζ : Nat → Nat) (t : Nat) : ζ 2 / ζ 0 ≤ (ζ 2 + t) / ζ 0 := Nat.div_le_div_right (Nat.le_add_right _ _)
theorem bl_s (hI : zI ζ) (t : Nat) : bl ζ (t + 1) = bl ζ t + (if (ζ 2 + t + 1) % ζ 0 = 0 then 1 else 0) := by
  have h0 : 10 ≤ ζ 0 := hI.2.2.1.1
  have := div_mono ζ t
  unfold bl
  rw [show ζ 2 + (t + 1) = ζ 2 + t + 1 by omega, div_step (by omega)]
  omega
/-- behind t minutes; the bells are not yet counted -/
def paL (ζ : Nat → Nat) (t : Nat) : Nat → Nat := fun K => if K = 2 then ζ 2 + t else if 118 ≤ K ∧ K < 118 + 4 * ζ 5 ∧ (K - 118) % 4 = 2 then ζ K - t else if 106 ≤ K ∧ K < 118 ∧ (K - 106) % 3 = 1 ∧ 0 < bl ζ t then 0 else ζ K
def paZ (ζ : Nat → Nat) (t : Nat) : Nat → Nat := upN (paL ζ t) 3 (ζ 3 + bl ζ t)
theorem paL_o {t K : Nat} (h2 : K ≠ 2) (h : ¬ (118 ≤ K ∧ K < 118 + 4 * ζ 5 ∧ (K - 118) % 4 = 2)) (h3 : ¬ (106 ≤ K ∧ K < 118 ∧ (K - 106) % 3 = 1)) : paL ζ t K = ζ K := by
  unfold paL
  rw [if_neg h2, if_neg h, if_neg (fun z => h3 ⟨z.1, z.2.1, z.2.2.1⟩)]
theorem paZ_o {t K : Nat} (h2 : K ≠ 2) (h30 : K ≠ 3) (h : ¬ (118 ≤ K ∧ K < 118 + 4 * ζ 5 ∧ (K - 118) % 4 = 2)) (h3 : ¬ (106 ≤ K ∧ K < 118 ∧ (K - 106) % 3 = 1)) : paZ ζ t K = ζ K := by
  unfold paZ
  rw [upN_ne h30, paL_o h2 h h3]
theorem paZ_2 {t : Nat} : paZ ζ t 2 = ζ 2 + t := by
  unfold paZ
  rw [upN_ne (by decide)]
  exact if_pos rfl
theorem paZ_s {t s : Nat} (hs : s < ζ 5) : paZ ζ t (118 + 4 * s + 2) = sl ζ s 2 - t := by
  unfold paZ paL
  rw [upN_ne (by omega), if_neg (by omega), if_pos (by omega)]
theorem paZ_g {t g : Nat} (hg : g < 4) : paZ ζ t (106 + 3 * g + 1) = if 0 < bl ζ t then 0 else gh ζ g 1 := by
  unfold paZ paL
  rw [upN_ne (by omega), if_neg (by omega), if_neg (by omega)]
  by_cases h : 0 < bl ζ t
  · rw [if_pos h, if_pos (by omega)]
  · rw [if_neg h, if_neg (by omega)]
theorem paZ_I (hI : zI ζ) (t : Nat) : zI (paZ ζ t) := by
  obtain ⟨i1, i2, i3, i4, i5, i6, i7⟩ := hI
  have n4 : paZ ζ t 4 = ζ 4 := paZ_o (by decide) (by decide) (by omega) (by omega)
  have n5 : paZ ζ t 5 = ζ 5 := paZ_o (by decide) (by decide) (by omega) (by omega)
  refine ⟨by rw [n4]; exact i1, by rw [n5]; exact i2, by rw [paZ_o (by decide) (by decide) (by omega) (by omega)]; exact i3, by rw [paZ_o (by decide) (by decide) (by omega) (by omega)]; exact i4, fun b hb => ?_, fun g hg => ?_, fun s hs => ?_⟩
  · rw [n4] at hb
    have := i5 b hb
    unfold bd at this ⊢
    rw [paZ_o (by omega) (by omega) (by omega) (by omega), paZ_o (by omega) (by omega) (by omega) (by omega), paZ_o (by omega) (by omega) (by omega) (by omega), paZ_o (by omega) (by omega) (by omega) (by omega)]
    exact this
  · have := i6 g hg
    rw [n4]
    unfold gh at this ⊢
    rw [paZ_o (by omega) (by omega) (by omega) (by omega), paZ_g hg]
    refine ⟨this.1, ?_⟩
    split
    · exact Nat.two_pow_pos _
    · exact this.2
  · rw [n5] at hs
    have := i7 s hs
    unfold sl
    rw [paZ_s hs, paZ_o (by omega) (by omega) (by omega) (by omega), paZ_o (by omega) (by omega) (by omega) (by omega)]
    refine ⟨this.1, this.2.1, ?_⟩
    have := this.2.2
    omega
theorem x_tire (hI : zI ζ) {t : Nat} (ht : t < 2 ^ 30) (hns : x 24 0 = nI (ζ 5)) (hs : ∀ s, s < ζ 5 → x 30 s = nI (sl ζ s 2)) : f_X7_tire (nI t) x = some (gU x 30 (fun s => if s < ζ 5 then nI (sl ζ s 2 - t) else x 30 s)) := by
  have h5 := hI.ns
  unfold f_X7_tire
  refine lp0 (fun n i => f_X7_tire_L2 (nI t) n (nI i) (gU x 30 (fun s => if s < i then nI (sl ζ s 2 - t) else x 30 s))) (ζ 5) _ (by omega) (fun n i hi => ?_) (fun n => ?_) |> Eq.trans (by
    congr 1
    funext j k
    by_cases hj : j = 30
    · subst hj
      rw [gU_eq, if_neg (Nat.not_lt_zero _)]
    · rw [gU_row hj])
  · have hsi := (hI.s hi).2.2
    have e0 : (if nI (sl ζ i 2) - nI t < 0 then 0 else nI (sl ζ i 2) - nI t) = nI (sl ζ i 2 - t) := by
      by_cases h : t ≤ sl ζ i 2
      · rw [pk_sub h, if_neg (nI_pos (by omega))]
      · rw [if_pos (pk_sneg ht (by omega)), show sl ζ i 2 - t = 0 by omega]
        rfl
    rw [f_X7_tire_L2_s, gU_row (show 24 ≠ 30 by decide), hns, if_neg (nI_ge hi (by omega)), at_nI (by omega) (by decide), ob_some, gU_eq, if_neg (Nat.lt_irrefl _), hs i hi]
    dsimp only
    rw [e0, store_nI (by omega) (by decide), ob_some, nI_1]
    congr 1
    funext j k
    by_cases hj : j = 30
    · subst hj
      by_cases hk : k = i
      · subst hk
        rw [gU_eq, if_pos (by omega)]
        exact up2_eq
      · rw [gU_eq]
        refine (up2_k hk).trans ?_
        rw [gU_eq]
        by_cases h1 : k < i
        · rw [if_pos h1, if_pos (by omega)]
        · rw [if_neg h1, if_neg (by omega)]
    · rw [gU_row hj]
      exact (up2_c hj).trans (by rw [gU_row hj])
  · rw [f_X7_tire_L2_s, gU_row (show 24 ≠ 30 by decide), hns, if_pos (Int32.le_refl _)]
theorem x_fill : f_X5_fill 20 4 0 x = some (gU x 21 (fun s => if s < 4 then 0 else x 21 s)) := by
  unfold f_X5_fill
  refine lp0 (fun n i => f_X5_fill_L2 20 4 0 n (nI i) (gU x 21 (fun s => if s < i then 0 else x 21 s))) 4 _ (by decide) (fun n i hi => ?_) (fun n => ?_) |> Eq.trans (by
    congr 1
    funext j k
    by_cases hj : j = 21
    · subst hj
      rw [gU_eq, if_neg (Nat.not_lt_zero _)]
    · rw [gU_row hj])
  · rw [f_X5_fill_L2_s, if_neg (show ¬ (Int32.ofNat 4) ≤ nI i from nI_ge (b := 4) hi (by decide)), gin_nI hi (by decide), gGd_t, gLet_eq, gil_nI (by omega), nI_1]
    congr 1
    funext j k
    by_cases hj : j = 21
    · subst hj
      by_cases hk : k = i
      · subst hk
        rw [gU_eq, if_pos (by omega)]
        exact up2_eq
      · rw [gU_eq]
        refine (up2_k hk).trans ?_
        rw [gU_eq]
        by_cases h1 : k < i
        · rw [if_pos h1, if_pos (by omega)]
        · rw [if_neg h1, if_neg (by omega)]
    · rw [gU_row hj]
      exact (up2_c hj).trans (by rw [gU_row hj])
  · rw [f_X5_fill_L2_s, if_pos (show (Int32.ofNat 4) ≤ nI 4 from Int32.le_refl _)]
theorem x_pass (hI : zI ζ) (hx : cX ζ x 1) {t : Nat} (ht : t < 2 ^ 30) (hb : ζ 2 + t < 2 ^ 31) : ∃ x', f_X0_letPass (nI t) x = some (nI (bl ζ t), x') ∧ cX (paZ ζ t) x' 1 ∧ atX x x' := by
  have h0 : 10 ≤ ζ 0 ∧ ζ 0 ≤ 200 := hI.2.2.1
  have hne : gne (nI (ζ 0)) = true := by simpa [gne] using nI_ne0 (show 0 < ζ 0 by omega) (by omega)
  have hmb : f_X0_minutesBetweenBells x = some (nI (ζ 0), x) := by
    unfold f_X0_minutesBetweenBells
    rw [a_bell hx, ob_some]
    dsimp only
    rw [if_neg (show ¬ nI (ζ 0) < 1 from nI_nlt (b := 1) (by omega) (by omega))]
  have hbl31 : bl ζ t < 2 ^ 31 := Nat.lt_of_le_of_lt (Nat.sub_le _ _) (Nat.lt_of_le_of_lt (Nat.div_le_self _ _) hb)
  have e1 : nI (ζ 2 + t) / nI (ζ 0) - nI (ζ 2) / nI (ζ 0) = nI (bl ζ t) := by
    rw [pk_div (by omega) (by omega) (by omega), pk_div (by omega) (by omega) (by omega), pk_sub (div_mono ζ t)]
    rfl
  obtain ⟨⟨c2, c3, c0, c1, c4, c5⟩, cb, cg, cs⟩ := id hx
  have hxb : x 1 0 = nI (ζ 2) := c2
  have hxc : x 1 1 = nI (ζ 3) := c3
  unfold f_X0_letPass
  rw [hmb, ob_some]
  dsimp only
  rw [hne, gGd_t, hmb, ob_some]
  dsimp only
  rw [hne, gGd_t, hxb, nI_add, e1, gLet_eq, gLet_eq, gLet_eq, up2_k (show 1 ≠ 0 by decide), hxc, nI_add]
  have r22 : up2 (up2 x 1 0 (nI (ζ 2 + t))) 1 1 (nI (ζ 3 + bl ζ t)) 24 0 = nI (ζ 5) := by rw [up2_c (by decide), up2_c (by decide)]; exact c5
  have r28 : ∀ s, s < ζ 5 → up2 (up2 x 1 0 (nI (ζ 2 + t))) 1 1 (nI (ζ 3 + bl ζ t)) 30 s = nI (sl ζ s 2) := fun s hs => by rw [up2_c (by decide), up2_c (by decide)]; exact (cs s hs).2.2.1
  rw [x_tire hI ht r22 r28, ob_some]
  have r1 : up2 (up2 x 1 0 (nI (ζ 2 + t))) 1 1 (nI (ζ 3 + bl ζ t)) 1 0 = nI (ζ 2 + t) := by rw [up2_k (by decide), up2_eq]
  have r2 : up2 (up2 x 1 0 (nI (ζ 2 + t))) 1 1 (nI (ζ 3 + bl ζ t)) 1 1 = nI (ζ 3 + bl ζ t) := up2_eq
  have r3 : ∀ j, j ≠ 1 → up2 (up2 x 1 0 (nI (ζ 2 + t))) 1 1 (nI (ζ 3 + bl ζ t)) j = x j := fun j hj => by rw [up2_row hj, up2_row hj]
  generalize up2 (up2 x 1 0 (nI (ζ 2 + t))) 1 1 (nI (ζ 3 + bl ζ t)) = y at *
  -- a state with these rows holds
  have fin : ∀ z : gS, z 1 0 = nI (ζ 2 + t) → z 1 1 = nI (ζ 3 + bl ζ t) → (∀ s, s < ζ 5 → z 30 s = nI (sl ζ s 2 - t)) → (∀ g, g < 4 → z 21 g = nI (if 0 < bl ζ t then 0 else gh ζ g 1)) → (∀ j, j ≠ 1 → j ≠ 30 → j ≠ 21 → z j = x j) → cX (paZ ζ t) z 1 ∧ atX x z := by
    intro z z1 z2 z3 z4 z5
    refine ⟨⟨⟨?_, ?_, ?_, ?_, ?_, ?_⟩, fun k hk => ?_, fun g hg => ?_, fun s hs => ?_⟩, fun j hj => z5 j (by omega) (by omega) (by omega)⟩
    · rw [paZ_2]; exact z1
    · exact z2.trans (by rw [show paZ ζ t 3 = ζ 3 + bl ζ t from upN_eq])
    · rw [paZ_o (by decide) (by decide) (by omega) (by omega), z5 3 (by decide) (by decide) (by decide)]; exact c0
    · rw [paZ_o (by decide) (by decide) (by omega) (by omega), z5 3 (by decide) (by decide) (by decide)]; exact c1
    · rw [paZ_o (by decide) (by decide) (by omega) (by omega), z5 4 (by decide) (by decide) (by decide)]; exact c4
    · rw [paZ_o (by decide) (by decide) (by omega) (by omega), z5 24 (by decide) (by decide) (by decide)]; exact c5
    · rw [paZ_o (by decide) (by decide) (by omega) (by omega)] at hk
      have hn := hI.nb
      unfold ends bd
      rw [paZ_o (by omega) (by omega) (by omega) (by omega), paZ_o (by omega) (by omega) (by omega) (by omega), paZ_o (by omega) (by omega) (by omega) (by omega), paZ_o (by omega) (by omega) (by omega) (by omega), paZ_o (by omega) (by omega) (by omega) (by omega), z5 6 (by decide) (by decide) (by decide), z5 8 (by decide) (by decide) (by decide), z5 10 (by decide) (by decide) (by decide), z5 12 (by decide) (by decide) (by decide), z5 14 (by decide) (by decide) (by decide), z5 16 (by decide) (by decide) (by decide)]
      exact cb k hk
    · unfold gh
      rw [paZ_g hg, paZ_o (by omega) (by omega) (by omega) (by omega), paZ_o (by omega) (by omega) (by omega) (by omega), z5 19 (by decide) (by decide) (by decide), z5 23 (by decide) (by decide) (by decide)]
      exact ⟨(cg g hg).1, z4 g hg, (cg g hg).2.2⟩
    · rw [paZ_o (by decide) (by decide) (by omega) (by omega)] at hs
      unfold sl
      rw [paZ_s hs, paZ_o (by omega) (by omega) (by omega) (by omega), paZ_o (by omega) (by omega) (by omega) (by omega), paZ_o (by omega) (by omega) (by omega) (by omega), z5 26 (by decide) (by decide) (by decide), z5 28 (by decide) (by decide) (by decide), z5 32 (by decide) (by decide) (by decide)]
      exact ⟨(cs s hs).1, (cs s hs).2.1, z3 s hs, (cs s hs).2.2.2⟩
  by_cases hbl : bl ζ t = 0
  · rw [if_pos (n_le0 hbl)]
    obtain ⟨f1, f2⟩ := fin (gU y 30 (fun s => if s < ζ 5 then nI (sl ζ s 2 - t) else y 30 s)) (by rw [gU_row (by decide)]; exact r1) (by rw [gU_row (by decide)]; exact r2) (fun s hs => by rw [gU_eq, if_pos hs]) (fun g hg => by
      rw [gU_row (by decide), r3 21 (by decide), if_neg (by omega)]
      exact (cg g hg).2.1) (fun j a b c => by rw [gU_row b, r3 j a])
    exact ⟨_, rfl, f1, f2⟩
  · rw [if_neg (nI_nle (by omega) hbl31), x_fill, ob_some]
    obtain ⟨f1, f2⟩ := fin (gU (gU y 30 (fun s => if s < ζ 5 then nI (sl ζ s 2 - t) else y 30 s)) 21 (fun s => if s < 4 then 0 else gU y 30 (fun s => if s < ζ 5 then nI (sl ζ s 2 - t) else y 30 s) 21 s)) (by rw [gU_row (by decide), gU_row (by decide)]; exact r1) (by rw [gU_row (by decide), gU_row (by decide)]; exact r2) (fun s hs => by rw [gU_row (by decide), gU_eq, if_pos hs]) (fun g hg => by
      rw [gU_eq, if_pos hg, if_pos (by omega)]
      rfl) (fun j a b c => by rw [gU_row c, gU_row b, r3 j a])
    exact ⟨_, rfl, f1, f2⟩
/-- the check's minute, sleeper by sleeper -/
def paS (ζ : Nat → Nat) (t s : Nat) : Nat → Nat := fun K => if 118 ≤ K ∧ K < 118 + 4 * s ∧ (K - 118) % 4 = 2 then ζ K - (t + 1) else upN (paL ζ t) 2 (ζ 2 + t + 1) K
theorem paS_5 {t s : Nat} : paS ζ t s 5 = ζ 5 := by
  unfold paS
  rw [if_neg (by omega), upN_ne (by decide), paL_o (by decide) (by omega) (by omega)]
end MI
