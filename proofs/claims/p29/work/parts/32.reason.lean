section RE
variable {ζ : Nat → Nat} {σ : gS}
theorem bc_of : ∀ m, m < 1024 → (((((((nI m - ((gush (nI m) 1) &&& 1431655765)) &&& 858993459) + ((gush (nI m - ((gush (nI m) 1) &&& 1431655765)) 2) &&& 858993459)) + (gush (((nI m - ((gush (nI m) 1) &&& 1431655765)) &&& 858993459) + ((gush (nI m - ((gush (nI m) 1) &&& 1431655765)) 2) &&& 858993459)) 4)) &&& 252645135) + (gush (((((nI m - ((gush (nI m) 1) &&& 1431655765)) &&& 858993459) + ((gush (nI m - ((gush (nI m) 1) &&& 1431655765)) 2) &&& 858993459)) + (gush (((nI m - ((gush (nI m) 1) &&& 1431655765)) &&& 858993459) + ((gush (nI m - ((gush (nI m) 1) &&& 1431655765)) 2) &&& 858993459)) 4)) &&& 252645135) 8)) + (gush ((((((nI m - ((gush (nI m) 1) &&& 1431655765)) &&& 858993459) + ((gush (nI m - ((gush (nI m) 1) &&& 1431655765)) 2) &&& 858993459)) + (gush (((nI m - ((gush (nI m) 1) &&& 1431655765)) &&& 858993459) + ((gush (nI m - ((gush (nI m) 1) &&& 1431655765)) 2) &&& 858993459)) 4)) &&& 252645135) + (gush (((((nI m - ((gush (nI m) 1) &&& 1431655765)) &&& 858993459) + ((gush (nI m - ((gush (nI m) 1) &&& 1431655765)) 2) &&& 858993459)) + (gush (((nI m - ((gush (nI m) 1) &&& 1431655765)) &&& 858993459) + ((gush (nI m - ((gush (nI m) 1) &&& 1431655765)) 2) &&& 858993459)) 4)) &&& 252645135) 8)) 16)) &&& 63 = nI (pc m) := by decide +kernel
theorem x_bc {m : Nat} (h : m < 2 ^ 10) : f_J6_bitCount_0f7a4 (nI m) σ = some (nI (pc m), σ) := by
  unfold f_J6_bitCount_0f7a4
  simp only [gLet_eq]
  exact congrArg (fun z => some (z, σ)) (bc_of m h)
theorem pc_le (m : Nat) : pc m ≤ 10 := cnt_le 10
theorem tch_succ {E n : Nat} : tch ζ E (n + 1) = tch ζ E n ||| (if E.testBit n = true then ends ζ n else 0) := rfl
theorem odm_st (hI : zI ζ) {E n : Nat} : nI (odm ζ E n) ^^^ nI (ends ζ n) = nI (odm ζ E n ^^^ ends ζ n) := n_xor _ _
theorem x_why (h : cX ζ σ 1) (hI : zI ζ) {E a : Nat} (hE : E < 2 ^ 31) (ha : a < 10) : f_X8_whyNot (nI E) (nI a) σ = some (nI (wn ζ E a), σ) := by
  have hn := hI.nb
  have ho := odm_lt hI E (ζ 4) (Nat.le_refl _)
  have ht := tch_lt hI E (Nat.le_refl (ζ 4))
  unfold f_X8_whyNot
  refine lp0 (fun n i => f_X8_whyNot_L8 (nI E) (nI a) _ n (nI (odm ζ E i)) (nI (tch ζ E i)) (nI i) σ) (ζ 4) _ (by omega) (fun n i hi => ?_) (fun n => ?_)
  · rw [f_X8_whyNot_L8_s, x_nb h, if_neg (nI_ge hi (by omega)), odm, tch_succ]
    by_cases he : E.testBit i = true
    · rw [holds_t hE (by omega) he, ob_some]
      dsimp only
      rw [if_neg i10, x_ends h hI hi, ob_some]
      dsimp only
      rw [gLet_eq, x_ends h hI hi, ob_some]
      dsimp only
      rw [gLet_eq, n_xor, n_or, if_pos he, nI_1]
    · rw [holds_f hE (by omega) he, ob_some]
      dsimp only
      rw [if_pos rfl, if_neg he, Nat.xor_zero, Nat.or_zero, nI_1]
  · rw [f_X8_whyNot_L8_s, x_nb h, if_pos (Int32.le_refl _)]
    unfold wn
    by_cases h1 : E = 0
    · subst h1
      rw [if_pos (show nI 0 = 0 from rfl), if_pos rfl]
      rfl
    rw [if_neg (fun z => h1 ((n_eq0 (by omega)).mp z)), if_neg h1]
    by_cases h2 : (tch ζ E (ζ 4)).testBit a = true
    · rw [holds_t (lt31 ht (by decide)) (by omega) h2, ob_some]
      dsimp only
      rw [if_neg i10, if_neg (show ¬ ¬ (tch ζ E (ζ 4)).testBit a = true by simpa using h2), x_rooms h hI hE ha, ob_some]
      dsimp only
      rw [n_dif]
      by_cases h3 : dif (tch ζ E (ζ 4)) (rea ζ E a) = 0
      · rw [h3, if_pos (show nI 0 = 0 from rfl), if_neg (show ¬ ¬ (0 : Nat) = 0 by simp), x_bc ho, ob_some]
        dsimp only
        have hp := pc_le (odm ζ E (ζ 4))
        by_cases h4 : 2 < pc (odm ζ E (ζ 4))
        · rw [if_neg (show ¬ nI (pc (odm ζ E (ζ 4))) ≤ 2 from nI_ge (b := pc (odm ζ E (ζ 4))) (a := 2) h4 (by omega)), if_pos h4]
          rfl
        · rw [if_pos (show nI (pc (odm ζ E (ζ 4))) ≤ 2 from (n_le (b := 2) (by omega) (by omega)).mpr (by omega)), if_neg h4]
          by_cases h5 : odm ζ E (ζ 4) = 0
          · rw [h5, if_pos (show nI 0 = 0 from rfl), if_pos rfl]
            rfl
          · rw [if_neg (fun z => h5 ((n_eq0 (Nat.lt_trans ho (by decide))).mp z)), if_neg h5]
            by_cases h6 : (odm ζ E (ζ 4)).testBit a = true
            · rw [holds_t (lt31 ho (by decide)) (by omega) h6, ob_some, if_pos h6]
              dsimp only
              rw [if_neg i10]
              rfl
            · rw [holds_f (lt31 ho (by decide)) (by omega) h6, ob_some, if_neg h6]
              dsimp only
              rw [if_pos rfl]
              rfl
      · have hd : dif (tch ζ E (ζ 4)) (rea ζ E a) < 2 ^ 10 := dif_le ht
        rw [if_neg (fun z => h3 ((n_eq0 (Nat.lt_trans hd (by decide))).mp z)), if_pos h3]
        rfl
    · rw [holds_f (lt31 ht (by decide)) (by omega) h2, ob_some]
      dsimp only
      rw [if_pos rfl, if_pos h2]
      rfl
theorem odd_of : ∀ d, d < 32 → nI d - nI d / 2 * 2 = nI (d % 2) := by decide +kernel
theorem deg_le (hI : zI ζ) (E r : Nat) : deg ζ E r (ζ 4) ≤ 20 := Nat.le_trans (cnt_le _) hI.nb
end RE
