section EV
variable {ζ : Nat → Nat} {x : gS}
theorem hX.at {x' : gS} (h : hX x) (ha : atX x x') : hX x' := by
  unfold hX
  rw [ha 36 (Or.inr (by decide))]
  exact h
theorem hX.row {x' : gS} (h : hX x) (ha : x' 36 = x 36) : hX x' := by
  unfold hX
  rw [ha]
  exact h
theorem x_rem (hI : zI ζ) (hx : cX ζ x 1) (hh : hX x) : ∃ x', f_X3_remember x = some x' ∧ cX ζ x' 1 ∧ hX x' ∧ ∀ j, (j < 36 ∨ 231 ≤ j) → x' j = x j := by
  obtain ⟨K, N, hK, hN, a1, a2⟩ := hh
  obtain ⟨x1, k1, k2, k3⟩ := x_keep35 hI hx hN
  have hx34 : x1 36 = x 36 := k2 36 (by omega)
  have hx' : f_X3_remember x = some (up2 (up2 x1 36 1 (nI ((N + 1) % 6))) 36 2 (nI (if 6 < K + 1 then 6 else K + 1))) := by
    unfold f_X3_remember
    rw [a2, k1, ob_some, gLet_eq, hx34, a2, nI_1]
    have e2 : ∀ v : Int32, (if (6 : Int32) < up2 x1 36 1 v 36 2 + 1 then 6 else up2 x1 36 1 v 36 2 + 1) = nI (if 6 < K + 1 then 6 else K + 1) := by
      intro v
      rw [up2_k (by decide), hx34, a1, nI_1]
      by_cases h : 6 < K + 1
      · rw [if_pos h, if_pos (show (6 : Int32) < nI (K + 1) from nI_lt (a := 6) h (by omega))]
        rfl
      · rw [if_neg h, if_neg (show ¬ (6 : Int32) < nI (K + 1) from nI_nlt (a := 6) (by omega) (by decide))]
    by_cases h6 : 6 ≤ N + 1
    · rw [if_pos (show (6 : Int32) ≤ nI (N + 1) from nI_le (a := 6) h6 (by omega))]
      try dsimp only
      rw [gLet_eq, gLet_eq, e2, show (N + 1) % 6 = 0 by omega]
      rfl
    · rw [if_neg (show ¬ (6 : Int32) ≤ nI (N + 1) from nI_ge (b := 6) (by omega) (by decide))]
      try dsimp only
      rw [gLet_eq, gLet_eq, e2, Nat.mod_eq_of_lt (by omega)]
  have xfar : ∀ j, (j < 36 ∨ 231 ≤ j) → up2 (up2 x1 36 1 (nI ((N + 1) % 6))) 36 2 (nI (if 6 < K + 1 then 6 else K + 1)) j = x j := fun j hj => by rw [up2_row (by omega), up2_row (by omega), k2 j (by omega)]
  refine ⟨_, hx', cX_rows hI hx fun i h1 h2 => xfar i (by omega), ⟨if 6 < K + 1 then 6 else K + 1, (N + 1) % 6, by split <;> omega, Nat.mod_lt _ (by decide), up2_eq, by rw [up2_k (by decide), up2_eq]⟩, xfar⟩
theorem k_put (hI : zI ζ) (hx : cX ζ x 1) (hh : hX x) {g r : Nat} (hg : g < 4) (hr : r < 10) : ∃ x', f_X10_put (nI g) (nI r) x = some (nI (gh ζ g 0), x') ∧ zI (upN ζ (106 + 3 * g) r) ∧ cX (upN ζ (106 + 3 * g) r) x' 1 ∧ hX x' := by
  unfold f_X10_put
  rw [x_ghost hg, ob_some]
  dsimp only
  rw [if_neg i10, x_room hr, ob_some]
  dsimp only
  rw [if_neg i10]
  obtain ⟨x1, r1, hx1, hh1, -⟩ := x_rem hI hx hh
  have hl := loc_g g hg 0 (by decide)
  rw [r1, ob_some, a_grm hx1 hg, ob_some]
  dsimp only
  rw [store_nI hg (by decide), ob_some]
  have hI' : zI (upN ζ (106 + 3 * g) r) := zI_up hI (by omega) (by omega) (by omega) (by omega) (fun b hb j hj => by have := hI.nb; omega) (fun g' _ _ => hr) (fun g' _ e => by omega) (fun s hs j hj => by omega) (fun s hs e => by omega)
  exact ⟨_, rfl, hI', cP_to hI' (cP_up (cP_of hI hx1) (K := 106 + 3 * g) (by omega) (by rw [show 106 + 3 * g = 106 + 3 * g + 0 from rfl, hl.1]) (by rw [show 106 + 3 * g = 106 + 3 * g + 0 from rfl, hl.2])) (fun K hK hlv => Or.inl (by rwa [upN_ne (by omega), upN_ne (by omega)] at hlv)) (eL_up hI (cX_eL hx1) (by omega) (fun k _ => by omega) (by decide)), hh1.at (atX_up (by decide) (by decide))⟩
theorem k_set (hI : zI ζ) (hx : cX ζ x 1) (hh : hX x) {k v : Nat} (hk : k < 2) (v0 : k = 0 → 10 ≤ v ∧ v ≤ 200) (v1 : k = 1 → v ≤ 60) : ∃ x', f_X10_set (nI k) (nI v) x = some (nI (ζ k), x') ∧ zI (upN ζ k v) ∧ cX (upN ζ k v) x' 1 ∧ hX x' := by
  have hset : f_X10_isSetting (nI k) (nI v) x = some (1, x) := by
    unfold f_X10_isSetting
    rcases (show k = 0 ∨ k = 1 by omega) with rfl | rfl
    · rw [if_pos (show nI 0 = 0 from rfl), show (10 : Int32) = nI 10 from rfl, show (200 : Int32) = nI 200 from rfl, x_in (v0 rfl).1 (v0 rfl).2 (by decide), ob_some]
      rfl
    · rw [if_neg (show ¬ nI 1 = 0 by decide), if_pos (show nI 1 = 1 from rfl), show (0 : Int32) = nI 0 from rfl, show (60 : Int32) = nI 60 from rfl, x_in (Nat.zero_le _) (v1 rfl) (by decide), ob_some]
      rfl
  unfold f_X10_set
  rw [hset, ob_some]
  dsimp only
  rw [if_neg i10]
  obtain ⟨x1, r1, hx1, hh1, -⟩ := x_rem hI hx hh
  have ha : f_X5_at 2 2 (nI k) x1 = some (nI (ζ k), x1) := by
    rcases (show k = 0 ∨ k = 1 by omega) with rfl | rfl
    · exact a_bell hx1
    · exact a_awk hx1
  have hl : locR k = 2 ∧ locI k = k := by
    rcases (show k = 0 ∨ k = 1 by omega) with rfl | rfl <;> exact ⟨rfl, rfl⟩
  rw [r1, ob_some, ha, ob_some]
  dsimp only
  rw [store_nI hk (by decide), ob_some]
  have hI' : zI (upN ζ k v) := zI_up hI (by omega) (by omega) v0 v1 (fun b hb j hj => by omega) (fun g _ e => by omega) (fun g _ e => by omega) (fun s hs j hj => by omega) (fun s hs e => by omega)
  exact ⟨_, rfl, hI', cP_to hI' (cP_up (cP_of hI hx1) (K := k) (by omega) (by rw [hl.1]) (by rw [hl.2])) (fun K hK hlv => Or.inl (by rwa [upN_ne (by omega), upN_ne (by omega)] at hlv)) (eL_up hI (cX_eL hx1) (by omega) (fun k _ => by omega) (by decide)), hh1.at (atX_up (by decide) (by decide))⟩
theorem x_in1 {k hi : Nat} (h1 : 1 ≤ k) (h2 : k ≤ hi) (hh : hi < 2 ^ 31) (x : gS) : f_X10_isWithin (nI k) 1 (nI hi) x = some (1, x) := x_in (lo := 1) h1 h2 hh x
theorem k_sleeper (hI : zI ζ) (hx : cX ζ x 1) (hh : hX x) (h5 : ζ 5 < 5) {r e : Nat} (hr : r < 10) (he : 1 ≤ e ∧ e ≤ 9) : ∃ x', f_X10_sleeper (nI r) (nI e) x = some (nI (ζ 5), x') ∧ cX (slZ ζ r e) x' 1 ∧ hX x' := by
  unfold f_X10_sleeper
  rw [x_room hr, ob_some]
  dsimp only
  rw [if_neg i10, show (9 : Int32) = nI 9 from rfl, x_in1 he.1 he.2 (by decide), ob_some]
  dsimp only
  rw [if_neg i10, if_pos (show x 24 0 < 5 by rw [x_ns hx]; exact nI_lt (b := 5) h5 (by decide))]
  obtain ⟨x1, r1, hx1, hh1, -⟩ := x_rem hI hx hh
  obtain ⟨x2, q1, q2, q3⟩ := x_app7 hI hx1 h5 hr he
  rw [r1, ob_some, q1, ob_some]
  refine ⟨x2, ?_, q2, hh1.at q3⟩
  rw [x_ns q2, show slZ ζ r e 5 = ζ 5 + 1 from upN_eq, show (1 : Int32) = nI 1 from rfl, pk_sub (by omega), Nat.add_sub_cancel]
theorem k_lay (hI : zI ζ) (hx : cX ζ x 1) (hh : hX x) (h4 : ζ 4 < 20) {a b c d : Nat} (ha : a < 10) (hb : b < 10) (hab : a ≠ b) (hc : 1 ≤ c ∧ c ≤ 9) (hd : 1 ≤ d ∧ d ≤ 9) : ∃ x', f_X10_lay (nI a) (nI b) (nI c) (nI d) x = some (nI (ζ 4), x') ∧ cX (layZ ζ a b c d) x' 1 ∧ hX x' := by
  unfold f_X10_lay
  rw [x_room ha, ob_some]
  dsimp only
  rw [if_neg i10, x_room hb, ob_some]
  dsimp only
  rw [if_neg i10, if_neg (fun z => hab ((nI_eq (by omega) (by omega)).mp z)), show (9 : Int32) = nI 9 from rfl, x_in1 hc.1 hc.2 (by decide), ob_some]
  dsimp only
  rw [if_neg i10, x_in1 hd.1 hd.2 (by decide), ob_some]
  dsimp only
  rw [if_neg i10, if_pos (show x 4 0 < 20 by rw [x_nb hx]; exact nI_lt (b := 20) h4 (by decide))]
  obtain ⟨x1, r1, hx1, hh1, -⟩ := x_rem hI hx hh
  obtain ⟨x2, q1, q2, q3⟩ := x_app1 hI hx1 h4 ha hb hab hc hd
  rw [r1, ob_some, q1, ob_some]
  refine ⟨x2, ?_, q2, hh1.at q3⟩
  rw [x_nb q2, layZ_4, show (1 : Int32) = nI 1 from rfl, pk_sub (by omega), Nat.add_sub_cancel]
theorem k_layno {a c d : Nat} (ha : a < 10) : f_X10_lay (nI a) (nI a) (nI c) (nI d) x = some (-2, x) := by
  unfold f_X10_lay
  rw [x_room ha, ob_some]
  dsimp only
  rw [if_neg i10, x_room ha, ob_some]
  dsimp only
  rw [if_neg i10, if_pos rfl]
theorem k_takeUp (hI : zI ζ) (hx : cX ζ x 1) (hh : hX x) {b : Nat} (hb : b < ζ 4) : ∃ x', f_X10_takeUp (nI b) x = some (nI (ζ 4 - 1), x') ∧ cX (tkZ ζ b) x' 1 ∧ hX x' := by
  unfold f_X10_takeUp
  rw [x_has hx hI hb, ob_some]
  dsimp only
  rw [if_neg i10]
  obtain ⟨x1, r1, hx1, hh1, -⟩ := x_rem hI hx hh
  obtain ⟨x2, x3, q1, q2, q3, q4⟩ := x_take hI hx1 hb
  rw [r1, ob_some, q1, ob_some, q2, ob_some]
  exact ⟨x3, by rw [x_nb q3, tkZ_4], q3, hh1.at q4⟩
theorem k_takeno (hI : zI ζ) (hx : cX ζ x 1) : f_X10_takeUp (nI (ζ 4)) x = some (-1, x) := by
  unfold f_X10_takeUp
  rw [x_hasno hx hI, ob_some]
  dsimp only
  rw [if_pos rfl]
theorem k_pass (hI : zI ζ) (hx : cX ζ x 1) (hh : hX x) {t : Nat} (ht1 : 1 ≤ t) (ht2 : t ≤ 200) (hc : ζ 2 + t ≤ 99999) : ∃ x', f_X10_pass (nI t) x = some (nI (bl ζ t), x') ∧ cX (paZ ζ t) x' 1 ∧ hX x' := by
  unfold f_X10_pass
  rw [show (200 : Int32) = nI 200 from rfl, x_in1 ht1 ht2 (by decide), ob_some]
  dsimp only
  rw [if_neg i10, if_pos (show x 1 0 + nI t ≤ 99999 by rw [x_min hx, nI_add]; exact nI_le (b := 99999) hc (by decide))]
  obtain ⟨x1, r1, hx1, hh1, -⟩ := x_rem hI hx hh
  obtain ⟨x2, p1, p2, p3⟩ := x_pass hI hx1 (t := t) (by omega) (by omega)
  rw [r1, ob_some, p1, ob_some]
  exact ⟨x2, rfl, p2, hh1.at p3⟩
end EV
