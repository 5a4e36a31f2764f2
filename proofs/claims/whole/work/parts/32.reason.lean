section RE
variable {ζ : Nat → Nat} {σ : gS}
theorem bc_of : ∀ m, m < 1024 → (((((((nI m - ((gush (nI m) 1) &&& 1431655765)) &&& 858993459) + ((gush (nI m - ((gush (nI m) 1) &&& 1431655765)) 2) &&& 858993459)) + (gush (((nI m - ((gush (nI m) 1) &&& 1431655765)) &&& 858993459) + ((gush (nI m - ((gush (nI m) 1) &&& 1431655765)) 2) &&& 858993459)) 4)) &&& 252645135) + (gush (((((nI m - ((gush (nI m) 1) &&& 1431655765)) &&& 858993459) + ((gush (nI m - ((gush (nI m) 1) &&& 1431655765)) 2) &&& 858993459)) + (gush (((nI m - ((gush (nI m) 1) &&& 1431655765)) &&& 858993459) + ((gush (nI m - ((gush (nI m) 1) &&& 1431655765)) 2) &&& 858993459)) 4)) &&& 252645135) 8)) + (gush ((((((nI m - ((gush (nI m) 1) &&& 1431655765)) &&& 858993459) + ((gush (nI m - ((gush (nI m) 1) &&& 1431655765)) 2) &&& 858993459)) + (gush (((nI m - ((gush (nI m) 1) &&& 1431655765)) &&& 858993459) + ((gush (nI m - ((gush (nI m) 1) &&& 1431655765)) 2) &&& 858993459)) 4)) &&& 252645135) + (gush (((((nI m - ((gush (nI m) 1) &&& 1431655765)) &&& 858993459) + ((gush (nI m - ((gush (nI m) 1) &&& 1431655765)) 2) &&& 858993459)) + (gush (((nI m - ((gush (nI m) 1) &&& 1431655765)) &&& 858993459) + ((gush (nI m - ((gush (nI m) 1) &&& 1431655765)) 2) &&& 858993459)) 4)) &&& 252645135) 8)) 16)) &&& 63 = nI (pc m) := by decide +kernel
theorem x_bc {m : Nat} (h : m < 2 ^ 10) : f_J6_bitCount_0f7a4 (nI m) σ = some (nI (pc m), σ) := by
  unfold f_J6_bitCount_0f7a4
  simp only [gLet_eq]
  exact congrArg (fun z => some (z, σ)) (bc_of m h)
theorem pc_le (m : Nat) : pc m ≤ 10 := cnt_le 10
theorem tch_succ {E n : Nat} : tch ζ E (n + 1) = tch ζ E n ||| (if E.testBit n = true then ends ζ n else 0) := rfl
theorem odm_st (hI : zI ζ) {E n : Nat} : nI (odm ζ E n) ^^^ nI (ends ζ n) = nI (odm ζ E n ^^^ ends ζ n) := n_xor _ _
theorem x_why (h : cX ζ σ 1) (hI : zI ζ) {E a : Nat} (hE : E < 2 ^ 31) (ha : a < 10) : f_X8_whyNot (nI E) (nI a) σ = some (nI (wn ζ E a), σ) := by
  have hn := hI.nb
  have ho := odm_lt hI E (ζ 4) (Nat.le_refl _)
  have ht := tch_lt hI E (Nat.le_refl (ζ 4))
  unfold f_X8_whyNot
  refine lp0 (fun n i => f_X8_whyNot_L8 (nI E) (nI a) _ n (nI (odm ζ E i)) (nI (tch ζ E i)) (nI i) σ) (ζ 4) _ (by omega) (fun n i hi => ?_) (fun n => ?_)
  · rw [f_X8_whyNot_L8_s, x_nb h, if_neg (nI_ge hi (by omega)), odm, tch_succ]
    by_cases he : E.testBit i = true
    · rw [holds_t hE (by omega) he, ob_some]
      dsimp only
      rw [if_neg i10, x_ends h hI hi, ob_some]
      dsimp only
      rw [gLet_eq, x_ends h hI hi, ob_some]
      dsimp only
      rw [gLet_eq, n_xor, n_or, if_pos he, nI_1]
    · rw [holds_f hE (by omega) he, ob_some]
      dsimp only
      rw [if_pos rfl, if_neg he, Nat.xor_zero, Nat.or_zero, nI_1]
  · rw [f_X8_whyNot_L8_s, x_nb h, if_pos (Int32.le_refl _)]
    unfold wn
    by_cases h1 : E = 0
    · subst h1
      rw [if_pos (show nI 0 = 0 from rfl), if_pos rfl]
      rfl
    rw [if_neg (fun z => h1 ((n_eq0 (by omega)).mp z)), if_neg h1]
    by_cases h2 : (tch ζ E (ζ 4)).testBit a = true
    · rw [holds_t (lt31 ht (by decide)) (by omega) h2, ob_some]
      dsimp only
      rw [if_neg i10, if_neg (show ¬ ¬ (tch ζ E (ζ 4)).testBit a = true by simpa using h2), x_rooms h hI hE ha, ob_some]
      dsimp only
      rw [n_dif]
      by_cases h3 : dif (tch ζ E (ζ 4)) (rea ζ E a) = 0
      · rw [h3, if_pos (show nI 0 = 0 from rfl), if_neg (show ¬ ¬ (0 : Nat) = 0 by simp), x_bc ho, ob_some]
        dsimp only
        have hp := pc_le (odm ζ E (ζ 4))
        by_cases h4 : 2 < pc (odm ζ E (ζ 4))
        · rw [if_neg (show ¬ nI (pc (odm ζ E (ζ 4))) ≤ 2 from nI_ge (b := pc (odm ζ E (ζ 4))) (a := 2) h4 (by omega)), if_pos h4]
          rfl
        · rw [if_pos (show nI (pc (odm ζ E (ζ 4))) ≤ 2 from (n_le (b := 2) (by omega) (by omega)).mpr (by omega)), if_neg h4]
          by_cases h5 : odm ζ E (ζ 4) = 0
          · rw [h5, if_pos (show nI 0 = 0 from rfl), if_pos rfl]
            rfl
          · rw [if_neg (fun z => h5 ((n_eq0 (Nat.lt_trans ho (by decide))).mp z)), if_neg h5]
            by_cases h6 : (odm ζ E (ζ 4)).testBit a = true
            · rw [holds_t (lt31 ho (by decide)) (by omega) h6, ob_some, if_pos h6]
              dsimp only
              rw [if_neg i10]
              rfl
            · rw [holds_f (lt31 ho (by decide)) (by omega) h6, ob_some, if_neg h6]
              dsimp only
              rw [if_pos rfl]
              rfl
      · have hd : dif (tch ζ E (ζ 4)) (rea ζ E a) < 2 ^ 10 := dif_le ht
        rw [if_neg (fun z => h3 ((n_eq0 (Nat.lt_trans hd (by decide))).mp z)), if_pos h3]
        rfl
    · rw [holds_f (lt31 ht (by decide)) (by omega) h2, ob_some]
      dsimp only
      rw [if_pos rfl, if_pos h2]
      rfl
theorem m_deg (h : cM ζ σ) (hI : zI ζ) {E r : Nat} (hE : E < 2 ^ 31) (hr : r < 10) : f_X11_boardsAt (nI r) (nI E) σ = some (nI (deg ζ E r (ζ 4)), σ) := by
  have hn := hI.nb
  unfold f_X11_boardsAt
  refine lp0 (fun n i => f_X11_boardsAt_L5 (nI r) (nI E) n (nI (deg ζ E r i)) (nI i) σ) (ζ 4) _ (by omega) (fun n i hi => ?_) (fun n => ?_)
  · unfold deg
    rw [f_X11_boardsAt_L5_s, m_nb h, if_neg (nI_ge hi (by omega)), cnt]
    by_cases he : E.testBit i = true
    · rw [if_pos ((hbit1 hE (by omega)).mpr he), m_isAt h hI hi (by omega), ob_some]
      dsimp only
      by_cases ha : atB ζ i r = true
      · rw [if_pos ha, if_neg (show ¬ nI 1 = 0 by decide), he, ha, if_pos (show (true && true) = true from rfl), nI_1, nI_1]
      · rw [if_neg ha, if_pos (show nI 0 = 0 by decide), if_neg (by simp [ha]), Nat.add_zero, Int32.add_zero, nI_1]
    · rw [if_neg (fun z => he ((hbit1 hE (by omega)).mp z)), if_neg (by simp [he]), Nat.add_zero, Int32.add_zero, nI_1]
  · rw [f_X11_boardsAt_L5_s, m_nb h, if_pos (Int32.le_refl _)]
theorem odd_of : ∀ d, d < 32 → nI d - nI d / 2 * 2 = nI (d % 2) := by decide +kernel
theorem deg_le (hI : zI ζ) (E r : Nat) : deg ζ E r (ζ 4) ≤ 20 := Nat.le_trans (cnt_le _) hI.nb
theorem m_why (h : cM ζ σ) (hI : zI ζ) {E a : Nat} (hE : E < 2 ^ 31) (ha : a < 10) : ∃ σ', f_X11_whyNot (nI a) (nI E) σ = some (nI (wn ζ E a), σ') ∧ eqM σ σ' := by
  have hn := hI.nb
  have ho := odm_lt hI E (ζ 4) (Nat.le_refl _)
  have ht := tch_lt hI E (Nat.le_refl (ζ 4))
  unfold f_X11_whyNot wn
  by_cases h1 : E = 0
  · subst h1
    rw [if_pos (show nI 0 = 0 from rfl), if_pos rfl]
    exact ⟨σ, rfl, eqM.rf⟩
  rw [if_neg (fun z => h1 ((n_eq0 (by omega)).mp z)), if_neg h1, m_deg h hI hE ha, ob_some]
  dsimp only
  have dl := deg_le hI E a
  by_cases h2 : (tch ζ E (ζ 4)).testBit a = true
  · have h2' := (tch_deg _).mp h2
    rw [if_neg (fun z => absurd ((n_eq0 (by omega)).mp z) (by omega)), if_neg (show ¬ ¬ (tch ζ E (ζ 4)).testBit a = true by simpa using h2), m_reached h hI hE ha, ob_some]
    dsimp only
    have hs := enc_cM (F := dst ζ E 0 a) h
    have hq : eqM σ (enc σ (dst ζ E 0 a)) := eqM_enc
    generalize enc σ (dst ζ E 0 a) = s at hs hq
    have step : ∀ n i K, i < 10 → ¬ (0 < deg ζ E i (ζ 4) ∧ ¬ (rea ζ E a).testBit i = true) → f_X11_whyNot_L30 (nI a) (nI E) (nI (rea ζ E a)) K (n + 1) (nI (cnt (fun i => (odm ζ E (ζ 4)).testBit i) i)) (nI i) s = f_X11_whyNot_L30 (nI a) (nI E) (nI (rea ζ E a)) K n (nI (cnt (fun i => (odm ζ E (ζ 4)).testBit i) (i + 1))) (nI (i + 1)) s := by
      intro n i K hi hbad
      have di := deg_le hI E i
      have e0 : nI (cnt (fun i => (odm ζ E (ζ 4)).testBit i) i) + (nI (deg ζ E i (ζ 4)) - nI (deg ζ E i (ζ 4)) / 2 * 2) = nI (cnt (fun i => (odm ζ E (ζ 4)).testBit i) (i + 1)) := by
        rw [odd_of _ (by omega), cnt, odm_bit hI _ (Nat.le_refl _), nI_add]
        by_cases q : deg ζ E i (ζ 4) % 2 = 1
        · rw [if_pos (decide_eq_true q), q]
        · rw [if_neg (by simpa using q), show deg ζ E i (ζ 4) % 2 = 0 by omega]
      rw [f_X11_whyNot_L30_s, if_neg (show ¬ (10 : Int32) ≤ nI i from nI_ge (b := 10) hi (by decide)), m_deg hs hI hE hi, ob_some]
      dsimp only
      rw [gLet_eq]
      by_cases q0 : 0 < deg ζ E i (ζ 4)
      · have q1 : (rea ζ E a).testBit i = true := Classical.byContradiction fun w => hbad ⟨q0, w⟩
        rw [if_neg (show ¬ nI (deg ζ E i (ζ 4)) ≤ 0 from nI_nle q0 (by omega)), if_neg (fun w => absurd ((hbit0 (lt31 rea_lt (by decide)) (by omega)).mp w) (by rw [q1]; decide))]
        dsimp only
        rw [gLet_eq, e0, nI_1]
      · rw [if_pos (show nI (deg ζ E i (ζ 4)) ≤ 0 from n_le0 (by omega))]
        dsimp only
        rw [gLet_eq, e0, nI_1]
    by_cases h3 : dif (tch ζ E (ζ 4)) (rea ζ E a) = 0
    · rw [if_neg (show ¬ ¬ dif (tch ζ E (ζ 4)) (rea ζ E a) = 0 by simpa using h3)]
      have hp := pc_le (odm ζ E (ζ 4))
      have hev := odd_even hI E
      refine ⟨s, ?_, hq⟩
      refine lp0 (fun n i => f_X11_whyNot_L30 (nI a) (nI E) (nI (rea ζ E a)) _ n (nI (cnt (fun i => (odm ζ E (ζ 4)).testBit i) i)) (nI i) s) 10 _ (by decide) (fun n i hi => step n i _ hi ?_) (fun n => ?_)
      · rintro ⟨w1, w2⟩
        obtain ⟨b, r', he⟩ := tch_ed.mp ((tch_deg _).mpr w1)
        exact w2 ((dif_z hI).mp h3 b i r' he)
      · rw [f_X11_whyNot_L30_s, if_pos (show (10 : Int32) ≤ nI 10 from Int32.le_refl _)]
        change (if nI (pc (odm ζ E (ζ 4))) ≤ 2 then (if nI (pc (odm ζ E (ζ 4))) = 2 then _ else _) else _) = _
        by_cases h4 : 2 < pc (odm ζ E (ζ 4))
        · rw [if_neg (show ¬ nI (pc (odm ζ E (ζ 4))) ≤ 2 from nI_ge (b := pc (odm ζ E (ζ 4))) (a := 2) h4 (by omega)), if_pos h4]
          rfl
        · rw [if_pos (show nI (pc (odm ζ E (ζ 4))) ≤ 2 from (n_le (b := 2) (by omega) (by omega)).mpr (by omega)), if_neg h4]
          by_cases h5 : odm ζ E (ζ 4) = 0
          · rw [if_neg (show ¬ nI (pc (odm ζ E (ζ 4))) = 2 by rw [h5]; decide), if_pos h5]
            rfl
          · have : pc (odm ζ E (ζ 4)) ≠ 0 := fun z => h5 ((pc_zero _ ho).mp z)
            rw [if_pos (show nI (pc (odm ζ E (ζ 4))) = 2 by rw [show pc (odm ζ E (ζ 4)) = 2 by omega]; rfl), m_deg hs hI hE ha, ob_some, if_neg h5]
            dsimp only
            rw [odd_of _ (by omega), odm_bit hI _ (Nat.le_refl _)]
            by_cases h6 : deg ζ E a (ζ 4) % 2 = 1
            · rw [if_pos (decide_eq_true h6), if_neg (show ¬ nI (deg ζ E a (ζ 4) % 2) = 0 by rw [h6]; decide)]
              rfl
            · rw [if_neg (show ¬ decide (deg ζ E a (ζ 4) % 2 = 1) = true by simpa using h6), if_pos (show nI (deg ζ E a (ζ 4) % 2) = 0 by rw [show deg ζ E a (ζ 4) % 2 = 0 by omega]; rfl)]
              rfl
    · rw [if_pos h3]
      have hbad : ∃ v, v < 10 ∧ (decide (0 < deg ζ E v (ζ 4)) && !(rea ζ E a).testBit v) = true := by
        obtain ⟨v, hv⟩ := Nat.exists_testBit_of_ne_zero h3
        rw [dif_bit (lt31 ht (by decide)), Bool.and_eq_true] at hv
        have hv10 : v < 10 := Nat.lt_of_not_le fun z => by
          rw [bit_big ht z] at hv
          exact absurd hv.1 (by decide)
        exact ⟨v, hv10, by rw [decide_eq_true ((tch_deg _).mp hv.1), hv.2]; rfl⟩
      obtain ⟨v, hv, hb⟩ := hbad
      have hN : ls (fun v => decide (0 < deg ζ E v (ζ 4)) && !(rea ζ E a).testBit v) 10 < 10 := ls_lt hv hb
      have hy := ls_yes _ _ hN
      refine ⟨s, ?_, hq⟩
      refine lp0 (fun n i => f_X11_whyNot_L30 (nI a) (nI E) (nI (rea ζ E a)) _ n (nI (cnt (fun i => (odm ζ E (ζ 4)).testBit i) i)) (nI i) s) (ls (fun v => decide (0 < deg ζ E v (ζ 4)) && !(rea ζ E a).testBit v) 10) _ (by omega) (fun n i hi => step n i _ (by omega) ?_) (fun n => ?_)
      · rintro ⟨w1, w2⟩
        refine ls_no _ _ i hi ?_
        rw [decide_eq_true w1, show (rea ζ E a).testBit i = false by simpa using w2]
        rfl
      · generalize ls (fun v => decide (0 < deg ζ E v (ζ 4)) && !(rea ζ E a).testBit v) 10 = k at hN hy
        rw [Bool.and_eq_true, decide_eq_true_eq, Bool.not_eq_true'] at hy
        have dk := deg_le hI E k
        rw [f_X11_whyNot_L30_s, if_neg (show ¬ (10 : Int32) ≤ nI k from nI_ge (b := 10) hN (by decide)), m_deg hs hI hE hN, ob_some]
        dsimp only
        rw [gLet_eq, if_neg (show ¬ nI (deg ζ E k (ζ 4)) ≤ 0 from nI_nle hy.1 (by omega)), if_pos ((hbit0 (lt31 rea_lt (by decide)) (by omega)).mpr hy.2)]
        rfl
  · have h2' : ¬ 0 < deg ζ E a (ζ 4) := fun z => h2 ((tch_deg _).mpr z)
    rw [if_pos (by rw [show deg ζ E a (ζ 4) = 0 by omega]; rfl), if_pos h2]
    exact ⟨σ, rfl, eqM.rf⟩
theorem q_reason {x m : gS} (hx : cX ζ x 1) (hm : cM ζ m) (hI : zI ζ) (p0 : Int32) : qOK (f_X10_reason p0 x) (f_X11_reason p0 m) x m := by
  unfold f_X10_reason f_X11_reason
  rcases ghC p0 x m with ⟨h1, h2⟩ | ⟨g, hg, rfl, h1, h2⟩
  · rw [h1, h2]; exact qOK.same rfl rfl
  rw [h1, h2, ob_some, ob_some]
  dsimp only
  have hE := lt31 (lft_lt hI g) (by decide)
  have hr := (hI.g hg).1
  obtain ⟨m', b1, b2⟩ := m_why hm hI hE hr
  rw [if_neg i10, if_neg i10, x_left hx hI hg, ob_some, m_roomOf hm hg, ob_some]
  dsimp only
  rw [a_grm hx hg, ob_some, m_left hm hI hg, ob_some]
  dsimp only
  rw [x_why hx hI hE hr, b1]
  exact qOK.mm rfl rfl b2
end RE
