section EVL
variable {ζ : Nat → Nat} {σ : gS}
theorem layZ_b {a b c d : Nat} : bd (layZ ζ a b c d) (ζ 4) 0 = loN a b ∧ bd (layZ ζ a b c d) (ζ 4) 1 = hiN a b ∧ bd (layZ ζ a b c d) (ζ 4) 2 = c ∧ bd (layZ ζ a b c d) (ζ 4) 3 = d ∧ bd (layZ ζ a b c d) (ζ 4) 4 = 0 := by
  unfold bd layZ
  refine ⟨?_, ?_, ?_, ?_, ?_⟩
  · rw [upN_ne (by omega), upN_ne (by omega), upN_ne (by omega), upN_ne (by omega), upN_ne (by omega)]
    exact upN_eq
  · rw [upN_ne (by omega), upN_ne (by omega), upN_ne (by omega), upN_ne (by omega)]
    exact upN_eq
  · rw [upN_ne (by omega), upN_ne (by omega), upN_ne (by omega)]
    exact upN_eq
  · rw [upN_ne (by omega), upN_ne (by omega)]
    exact upN_eq
  · rw [upN_ne (by omega)]
    exact upN_eq
theorem y_lay (hI : zI ζ) (hy : yL ζ σ) (h4 : ζ 4 < 20) {a b c d : Nat} : yL (layZ ζ a b c d) (up2 (up2 (up2 σ 302 (ζ 4) (nI (loN a b + 16 * hiN a b + 256 * c + 4096 * d))) 303 (ζ 4) 0) 306 4 (nI (ζ 4 + 1))) := by
  have hns := hI.ns
  obtain ⟨h1, h2, h3, h4'⟩ := hy
  unfold yL
  rw [layZ_4, layZ_n (K := 5) (by decide) (by omega)]
  obtain ⟨q0, q1, q2, q3, q4⟩ := layZ_b (ζ := ζ) (a := a) (b := b) (c := c) (d := d)
  refine ⟨fun k hk => ?_, fun k hk => ?_, fun g hg j hj => ?_, fun s hs j hj => ?_⟩
  · by_cases hk4 : k = 4
    · subst hk4
      rw [up2_eq, layZ_4]
    · rw [up2_k hk4, up2_c (by decide), up2_c (by decide), h1 k hk, layZ_n hk4 (by omega)]
  · rw [up2_c (by decide), up2_c (by decide), up2_c (show 303 ≠ 306 by decide)]
    by_cases hq : k = ζ 4
    · subst hq
      rw [up2_eq, up2_eq, q4]
      refine ⟨?_, rfl⟩
      unfold bw
      rw [q0, q1, q2, q3]
    · rw [up2_k hq, up2_k hq, up2_c (show 303 ≠ 302 by decide), (h2 k (by omega)).1, (h2 k (by omega)).2]
      have e : ∀ j, j < 5 → bd (layZ ζ a b c d) k j = bd ζ k j := fun j hj => layZ_n (by omega) (by omega)
      unfold bw
      rw [e 0 (by decide), e 1 (by decide), e 2 (by decide), e 3 (by decide), e 4 (by decide)]
      exact ⟨rfl, rfl⟩
  · rw [up2_c (by decide), up2_c (by decide), up2_c (by decide), h3 g hg j hj]
    unfold gh
    rw [layZ_n (by omega) (by omega)]
  · rw [up2_c (by decide), up2_c (by decide), up2_c (by decide), h4' s hs j hj]
    unfold sl
    rw [layZ_n (by omega) (by omega)]
theorem y_sleep (hI : zI ζ) (hy : yL ζ σ) (h5 : ζ 5 < 5) {r e : Nat} : yL (slZ ζ r e) (up2 (up2 (up2 (up2 (up2 σ 305 (ζ 5) (nI r)) 305 (5 + ζ 5) (nI e)) 305 (10 + ζ 5) 0) 305 (15 + ζ 5) 0) 306 5 (nI (ζ 5 + 1))) := by
  have hn := hI.nb
  obtain ⟨h1, h2, h3, h4⟩ := hy
  have n : ∀ K, K ≠ 5 → (K < 118 + 4 * ζ 5 ∨ 118 + 4 * ζ 5 + 4 ≤ K) → slZ ζ r e K = ζ K := fun K h1 h2 => by
    unfold slZ
    rw [upN_ne h1, upN_ne (by omega), upN_ne (by omega), upN_ne (by omega), upN_ne (by omega)]
  have n5 : slZ ζ r e 5 = ζ 5 + 1 := upN_eq
  have q0 : slZ ζ r e (118 + 4 * ζ 5 + 0) = r := by
    unfold slZ
    rw [upN_ne (by omega), upN_ne (by omega), upN_ne (by omega), upN_ne (by omega)]
    exact upN_eq
  have q1 : slZ ζ r e (118 + 4 * ζ 5 + 1) = e := by
    unfold slZ
    rw [upN_ne (by omega), upN_ne (by omega), upN_ne (by omega)]
    exact upN_eq
  have q2 : slZ ζ r e (118 + 4 * ζ 5 + 2) = 0 := by
    unfold slZ
    rw [upN_ne (by omega), upN_ne (by omega)]
    exact upN_eq
  have q3 : slZ ζ r e (118 + 4 * ζ 5 + 3) = 0 := by
    unfold slZ
    rw [upN_ne (by omega)]
    exact upN_eq
  unfold yL
  rw [n5, n 4 (by decide) (by omega)]
  refine ⟨fun k hk => ?_, fun k hk => ?_, fun g hg j hj => ?_, fun s hs j hj => ?_⟩
  · by_cases hk5 : k = 5
    · subst hk5
      rw [up2_eq, n5]
    · rw [up2_k hk5, up2_c (by decide), up2_c (by decide), up2_c (by decide), up2_c (by decide), h1 k hk, n k hk5 (by omega)]
  · rw [up2_c (by decide), up2_c (by decide), up2_c (by decide), up2_c (by decide), up2_c (by decide), up2_c (show 303 ≠ 306 by decide), up2_c (show 303 ≠ 305 by decide), up2_c (show 303 ≠ 305 by decide), up2_c (show 303 ≠ 305 by decide), up2_c (show 303 ≠ 305 by decide), (h2 k hk).1, (h2 k hk).2]
    unfold bw bd
    rw [n _ (by omega) (by omega), n _ (by omega) (by omega), n _ (by omega) (by omega), n _ (by omega) (by omega), n _ (by omega) (by omega)]
    exact ⟨rfl, rfl⟩
  · rw [up2_c (by decide), up2_c (by decide), up2_c (by decide), up2_c (by decide), up2_c (by decide), h3 g hg j hj]
    unfold gh
    rw [n _ (by omega) (by omega)]
  · rw [up2_c (show 305 ≠ 306 by decide)]
    unfold sl
    by_cases hq : s = ζ 5
    · subst hq
      rcases (show j = 0 ∨ j = 1 ∨ j = 2 ∨ j = 3 by omega) with rfl | rfl | rfl | rfl
      · rw [q0, up2_k (by omega), up2_k (by omega), up2_k (by omega)]
        exact up2_eq
      · rw [q1, up2_k (by omega), up2_k (by omega), show ζ 5 + 5 * 1 = 5 + ζ 5 by omega]
        exact up2_eq
      · rw [q2, up2_k (by omega), show ζ 5 + 5 * 2 = 10 + ζ 5 by omega]
        exact up2_eq
      · rw [q3, show ζ 5 + 5 * 3 = 15 + ζ 5 by omega]
        exact up2_eq
    · rw [up2_k (by omega), up2_k (by omega), up2_k (by omega), up2_k (by omega), h4 s (by omega) j hj, n _ (by omega) (by omega)]
theorem ev_sleep (hS : SS ζ σ) (h5 : ζ 5 < 5) (Lx : Nat) (xs : Nat → Int32) (e7 h gg : Int32) : ∃ ζ' σ', SS ζ' σ' ∧ ζ' 2 ≤ ζ 2 + 200 ∧ ∀ J, bSleep Lx xs e7 h gg J σ = J 1 σ' := by
  obtain ⟨hI, hx, hy, hh⟩ := hS
  obtain ⟨r, hr, er⟩ := l_low (h >>> (7 &&& 31)) (n := 10) (by decide) (by decide)
  obtain ⟨e, he, ee⟩ := l_low (h >>> (11 &&& 31)) (n := 9) (by decide) (by decide)
  have hY := y_sleep hI hy h5 (r := r) (e := 1 + e)
  have hrow : ∀ j, j < 302 → (up2 (up2 (up2 (up2 (up2 σ 305 (ζ 5) (nI r)) 305 (5 + ζ 5) (nI (1 + e))) 305 (10 + ζ 5) 0) 305 (15 + ζ 5) 0) 306 5 (nI (ζ 5 + 1))) j = σ j := fun j hj => by rw [up2_row (by omega), up2_row (by omega), up2_row (by omega), up2_row (by omega), up2_row (by omega)]
  have v0 : (up2 (up2 (up2 (up2 (up2 σ 305 (ζ 5) (nI r)) 305 (5 + ζ 5) (nI (1 + e))) 305 (10 + ζ 5) 0) 305 (15 + ζ 5) 0) 306 5 (nI (ζ 5 + 1))) 305 (ζ 5) = nI r := by
    rw [up2_c (by decide), up2_k (by omega), up2_k (by omega), up2_k (by omega), up2_eq]
  have v1 : (up2 (up2 (up2 (up2 (up2 σ 305 (ζ 5) (nI r)) 305 (5 + ζ 5) (nI (1 + e))) 305 (10 + ζ 5) 0) 305 (15 + ζ 5) 0) 306 5 (nI (ζ 5 + 1))) 305 (5 + ζ 5) = nI (1 + e) := by
    rw [up2_c (by decide), up2_k (by omega), up2_k (by omega), up2_eq]
  have v5 : (up2 (up2 (up2 (up2 σ 305 (ζ 5) (nI r)) 305 (5 + ζ 5) (nI (1 + e))) 305 (10 + ζ 5) 0) 305 (15 + ζ 5) 0) 306 5 + 1 = nI (ζ 5 + 1) := by
    rw [up2_c (by decide), up2_c (by decide), up2_c (by decide), up2_c (by decide), y_ns hy, nI_1]
  generalize hW : up2 (up2 (up2 (up2 (up2 σ 305 (ζ 5) (nI r)) 305 (5 + ζ 5) (nI (1 + e))) 305 (10 + ζ 5) 0) 305 (15 + ζ 5) 0) 306 5 (nI (ζ 5 + 1)) = τ at *
  have hxt : cX ζ τ 1 := cX_rows hI hx fun j _ _ => hrow j (by omega)
  have hht : hX τ := hh.row (hrow 36 (by decide))
  obtain ⟨x', k1, k2, k3⟩ := k_sleeper hI hxt hht h5 hr (e := 1 + e) ⟨by omega, by omega⟩
  refine ⟨slZ ζ r (1 + e), gMix τ x', SS.made (slZ_I hI h5 hr ⟨by omega, by omega⟩) k2 k3 hY.mix fun j hj => gMix_lt hj, ?_, fun J => ?_⟩
  · unfold slZ
    rw [upN_ne (by decide), upN_ne (by omega), upN_ne (by omega), upN_ne (by omega), upN_ne (by omega)]
    omega
  · unfold bSleep
    rw [y_ns hy, gLet_eq, show f_L_low (h >>> (7 &&& 31)) 10 σ = some (nI r, σ) from er σ, ob_some]
    dsimp only
    rw [show (5 : Int32) + nI (ζ 5) = nI (5 + ζ 5) from nI_add 5 _, show (10 : Int32) + nI (ζ 5) = nI (10 + ζ 5) from nI_add 10 _, show (15 : Int32) + nI (ζ 5) = nI (15 + ζ 5) from nI_add 15 _, gin_nI (show ζ 5 < 20 by omega) (by decide), gin_nI (show 5 + ζ 5 < 20 by omega) (by decide), gin_nI (show 10 + ζ 5 < 20 by omega) (by decide), gin_nI (show 15 + ζ 5 < 20 by omega) (by decide), gil_nI (show ζ 5 < 2 ^ 31 by omega), gil_nI (show 5 + ζ 5 < 2 ^ 31 by omega), gil_nI (show 10 + ζ 5 < 2 ^ 31 by omega), gil_nI (show 15 + ζ 5 < 2 ^ 31 by omega), gGd_t, gLet_eq, show ∀ τ, f_L_low (h >>> (11 &&& 31)) 9 τ = some (nI e, τ) from ee, ob_some]
    dsimp only
    rw [show (1 : Int32) + nI e = nI (1 + e) from nI_add 1 e]
    simp only [gGd_t, gLet_eq]
    rw [v5, hW, v0, v1, k1, ob_some]
    dsimp only
    rw [if_pos rfl]
theorem ev_lay (hS : SS ζ σ) (h4 : ζ 4 < 20) (Lx : Nat) (xs : Nat → Int32) (e7 h gg : Int32) : ∃ ζ' σ', SS ζ' σ' ∧ ζ' 2 ≤ ζ 2 + 200 ∧ ∀ J, bLay Lx xs e7 h gg J σ = J 1 σ' := by
  obtain ⟨hI, hx, hy, hh⟩ := id hS
  obtain ⟨w, hw, ew⟩ := l_low (h >>> (25 &&& 31)) (n := 2) (by decide) (by decide)
  obtain ⟨c, hc, ec⟩ := l_low (h >>> (15 &&& 31)) (n := 9) (by decide) (by decide)
  obtain ⟨d, hd, ed⟩ := l_low (h >>> (18 &&& 31)) (n := 9) (by decide) (by decide)
  have hM : ∃ M, (M = 10 ∨ M = 5) ∧ (if nI w = 0 then (10 : Int32) else 5) = nI M := by
    by_cases hw0 : nI w = 0
    · exact ⟨10, Or.inl rfl, if_pos hw0⟩
    · exact ⟨5, Or.inr rfl, if_neg hw0⟩
  obtain ⟨M, hM1, hM2⟩ := hM
  obtain ⟨a, ha, ea⟩ := l_low (h >>> (7 &&& 31)) (n := M) (by omega) (by omega)
  obtain ⟨b, hb, eb⟩ := l_low (h >>> (11 &&& 31)) (n := M) (by omega) (by omega)
  have ha10 : a < 10 := by omega
  have hb10 : b < 10 := by omega
  -- the round's text, up to the rooms
  have red : ∀ J, bLay Lx xs e7 h gg J σ = gLet (fun (j256 : Int32) (s257 : gS) => gLet (s257 306 4) (fun x259 => gLet (fun (s260 : gS) => Option.bind (f_L_low (h >>> (15 &&& 31)) 9 s260) (fun q262 => Option.bind (f_L_low (h >>> (18 &&& 31)) 9 q262.2) (fun q263 => Option.bind (f_X10_lay (nI a) (nI b) (1 + q262.1) (1 + q263.1) q263.2) (fun q264 => gLet (gMix q263.2 q264.2) (fun s265 => gLet (fun (j266 : Int32) (j267 : Int32) (s268 : gS) => gLet (fun (j270 : Int32) (s271 : gS) => J j270 s271) (fun J272 => if j266 = j267 then (J272 1 s268) else (J272 0 s268))) (fun J269 => if j256 = 0 then (J269 q264.1 x259 s265) else (J269 q264.1 (-2) s265))))))) (fun J261 => if j256 = 0 then (gLet (fun (j276 : Int32) (j277 : Int32) (s278 : gS) => gLet (fun (j280 : Int32) (j281 : Int32) (j282 : Int32) (j283 : Int32) (s284 : gS) => Option.bind (f_L_low (h >>> (15 &&& 31)) 9 s284) (fun q286 => Option.bind (f_L_low (h >>> (18 &&& 31)) 9 q286.2) (fun q287 => gGd (gin j280 20) (gLet (up2 q287.2 302 (gil j280) (((j281 + (j282 * j283)) + (256 * (1 + q286.1))) + (4096 * (1 + q287.1)))) (fun s288 => gGd (gin x259 20) (gLet (up2 s288 303 (gil x259) 0) (fun s289 => gLet (up2 s289 306 4 ((s289 306 4) + 1)) (fun s290 => J261 s290)))))))) (fun J285 => if nI b ≤ nI a then (J285 j276 j277 16 (nI a) s278) else (J285 j276 j277 16 (nI b) s278))) (fun J279 => if nI b ≤ nI a then (J279 x259 (nI b) s257) else (J279 x259 (nI a) s257))) else (J261 s257)))) (fun J258 => if nI a = nI b then (J258 1 σ) else (J258 0 σ)) := by
    intro J
    unfold bLay
    rw [show f_L_low (h >>> (25 &&& 31)) 2 σ = some (nI w, σ) from ew σ, ob_some, gLet_eq]
    dsimp only
    by_cases hw0 : nI w = 0
    · rw [if_pos hw0] at hM2
      rw [if_pos hw0]
      try dsimp only
      rw [hM2, ea, ob_some]
      dsimp only
      rw [show f_L_low (h >>> (25 &&& 31)) 2 σ = some (nI w, σ) from ew σ, ob_some, gLet_eq]
      dsimp only
      rw [if_pos hw0]
      try dsimp only
      rw [eb, ob_some]
    · rw [if_neg hw0] at hM2
      rw [if_neg hw0]
      try dsimp only
      rw [hM2, ea, ob_some]
      dsimp only
      rw [show f_L_low (h >>> (25 &&& 31)) 2 σ = some (nI w, σ) from ew σ, ob_some, gLet_eq]
      dsimp only
      rw [if_neg hw0]
      try dsimp only
      rw [eb, ob_some]
  have ec' : ∀ τ, f_L_low (h >>> (15 &&& 31)) 9 τ = some (nI c, τ) := ec
  have ed' : ∀ τ, f_L_low (h >>> (18 &&& 31)) 9 τ = some (nI d, τ) := ed
  by_cases hab : a = b
  · subst hab
    refine ⟨ζ, σ, hS, by omega, fun J => ?_⟩
    rw [red]
    simp only [gLet_eq, ec', ed', ob_some]
    rw [if_pos trivial, if_neg i10, show (1 : Int32) + nI c = nI (1 + c) from nI_add 1 c, show (1 : Int32) + nI d = nI (1 + d) from nI_add 1 d, k_layno ha10, ob_some]
    dsimp only
    rw [if_neg i10, if_pos rfl, mix_self]
  · have hY := y_lay hI hy h4 (a := a) (b := b) (c := 1 + c) (d := 1 + d)
    have hrow : ∀ j, j < 302 → (up2 (up2 (up2 σ 302 (ζ 4) (nI (loN a b + 16 * hiN a b + 256 * (1 + c) + 4096 * (1 + d)))) 303 (ζ 4) 0) 306 4 (nI (ζ 4 + 1))) j = σ j := fun j hj => by rw [up2_row (by omega), up2_row (by omega), up2_row (by omega)]
    have v4 : (up2 (up2 σ 302 (ζ 4) (nI (loN a b + 16 * hiN a b + 256 * (1 + c) + 4096 * (1 + d)))) 303 (ζ 4) 0) 306 4 + 1 = nI (ζ 4 + 1) := by rw [up2_c (by decide), up2_c (by decide), y_nb hy, nI_1]
    generalize hW : up2 (up2 (up2 σ 302 (ζ 4) (nI (loN a b + 16 * hiN a b + 256 * (1 + c) + 4096 * (1 + d)))) 303 (ζ 4) 0) 306 4 (nI (ζ 4 + 1)) = τ at *
    have hxt : cX ζ τ 1 := cX_rows hI hx fun j _ _ => hrow j (by omega)
    have hht : hX τ := hh.row (hrow 36 (by decide))
    obtain ⟨x', k1, k2, k3⟩ := k_lay hI hxt hht h4 ha10 hb10 hab (c := 1 + c) (d := 1 + d) ⟨by omega, by omega⟩ ⟨by omega, by omega⟩
    refine ⟨layZ ζ a b (1 + c) (1 + d), gMix τ x', SS.made (layZ_I hI h4 ha10 hb10 hab ⟨by omega, by omega⟩ ⟨by omega, by omega⟩) k2 k3 hY.mix fun j hj => gMix_lt hj, by rw [layZ_n (by decide) (by omega)]; omega, fun J => ?_⟩
    have hne : ¬ nI a = nI b := fun z => hab ((nI_eq (by omega) (by omega)).mp z)
    rw [red]
    simp only [gLet_eq, ec', ed', ob_some]
    rw [if_neg hne]
    simp only [if_true]
    rw [show (1 : Int32) + nI c = nI (1 + c) from nI_add 1 c, show (1 : Int32) + nI d = nI (1 + d) from nI_add 1 d, y_nb hy, gin_nI (show ζ 4 < 20 by omega) (by decide), gil_nI (show ζ 4 < 2 ^ 31 by omega)]
    simp only [gGd_t]
    have val : ∀ lo hi : Nat, lo = loN a b → hi = hiN a b → (((nI lo + 16 * nI hi) + 256 * nI (1 + c)) + 4096 * nI (1 + d)) = nI (loN a b + 16 * hiN a b + 256 * (1 + c) + 4096 * (1 + d)) := by
      intro lo hi h1 h2
      rw [h1, h2, show (16 : Int32) = nI 16 from rfl, show (256 : Int32) = nI 256 from rfl, show (4096 : Int32) = nI 4096 from rfl, pk_mul, pk_mul, pk_mul, nI_add, nI_add, nI_add]
    by_cases hle : b ≤ a
    · have hle' : nI b ≤ nI a := nI_le hle (by omega)
      rw [if_pos hle', if_pos hle', val b a (by unfold loN; split <;> omega) (by unfold hiN; split <;> omega), v4, hW, k1, ob_some]
      dsimp only
      rw [if_pos rfl]
    · have hle' : ¬ nI b ≤ nI a := nI_ge (by omega) (by omega)
      rw [if_neg hle', if_neg hle', val a b (by unfold loN; split <;> omega) (by unfold hiN; split <;> omega), v4, hW, k1, ob_some]
      dsimp only
      rw [if_pos rfl]
end EVL
