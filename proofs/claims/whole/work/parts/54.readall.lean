section RA
variable {ζ : Nat → Nat} {x m : gS} {B L : Nat} {c : Nat → Nat}
theorem fine_at (h : fine c L) {j : Nat} (hj : 5 * j + 3 < L) : (97 ≤ c (5 * j) ∧ c (5 * j) ≤ 106) ∧ (97 ≤ c (5 * j + 1) ∧ c (5 * j + 1) ≤ 106) ∧ c (5 * j + 1) ≠ c (5 * j) ∧ (49 ≤ c (5 * j + 2) ∧ c (5 * j + 2) ≤ 57) ∧ (49 ≤ c (5 * j + 3) ∧ c (5 * j + 3) ≤ 57) := by
  have h0 := h.1 (5 * j) (by omega)
  have h1 := h.1 (5 * j + 1) (by omega)
  have h2 := h.1 (5 * j + 2) (by omega)
  have h3 := h.1 (5 * j + 3) (by omega)
  unfold st at h0 h1 h2 h3
  rw [if_pos (show 5 * j % 5 = 0 by omega)] at h0
  rw [if_neg (show ¬ (5 * j + 1) % 5 = 0 by omega), if_pos (show (5 * j + 1) % 5 = 1 by omega), Nat.add_sub_cancel] at h1
  rw [if_neg (show ¬ (5 * j + 2) % 5 = 0 by omega), if_neg (show ¬ (5 * j + 2) % 5 = 1 by omega), if_neg (show ¬ (5 * j + 2) % 5 = 4 by omega)] at h2
  rw [if_neg (show ¬ (5 * j + 3) % 5 = 0 by omega), if_neg (show ¬ (5 * j + 3) % 5 = 1 by omega), if_neg (show ¬ (5 * j + 3) % 5 = 4 by omega)] at h3
  exact ⟨h0, h1.1, h1.2, h2, h3⟩
theorem tv_at {j k : Nat} (hk : k < 4) : tv c (4 * j + k) = nI (c (5 * j + k)) - (if k < 2 then 97 else 48) := by
  unfold tv
  rw [show (4 * j + k) / 4 = j by omega, show (4 * j + k) % 4 = k by omega]
theorem both_read (hL : L ≤ 60) (hf : fine c L) (K : gS → Option (Int32 × gS)) : ∀ d j n1 n2 (ξ : Nat → Nat) (x m : gS), j + d = (L + 1) / 5 → d < n1 → d < n2 → zI ξ → ξ 2 ≤ B → cX ξ x 1 → cM ξ m → ξ 4 + d ≤ 20 → x 33 0 = nI L → (∀ k, k < L → x 35 k = nI (c k)) → m 0 12 = nI ((L + 1) / 5) → (∀ i, i < 4 * ((L + 1) / 5) → m 8 i = tv c i) →
    ∃ x' m' ω, f_X4_layAllInto_L2 n1 (nI (5 * j)) x = some x' ∧ f_X11_read_L37 K n2 (nI (4 * j)) m = K m' ∧ zI ω ∧ ω 2 ≤ B ∧ cX ω x' 1 ∧ cM ω m' ∧ atX x x' ∧ (∀ j, j ≠ 1 → m' j = m j) := by
  intro d
  induction d with
  | zero =>
    intro j n1 n2 ξ x m hjd h1 h2 hI hB hx hm h4 e31 e33 e12 e8
    obtain ⟨n1, rfl⟩ := Nat.exists_eq_succ_of_ne_zero (show n1 ≠ 0 by omega)
    obtain ⟨n2, rfl⟩ := Nat.exists_eq_succ_of_ne_zero (show n2 ≠ 0 by omega)
    have hL5 := hf.2
    have e5 : (nI (5 * j) + 5) - 2 = nI (5 * j + 3) := by rw [show nI (5 * j) + 5 = nI (5 * j + 5) from nI_add _ 5, show (2 : Int32) = nI 2 from rfl, pk_sub (by omega), show 5 * j + 5 - 2 = 5 * j + 3 by omega]
    rw [f_X4_layAllInto_L2_s, f_X11_read_L37_s, e31, e5, if_pos (nI_le (by omega) (by omega)), e12, show (4 : Int32) * nI ((L + 1) / 5) = nI (4 * ((L + 1) / 5)) by rw [show (4 : Int32) = nI 4 from rfl, pk_mul], if_pos (nI_le (by omega) (by omega))]
    exact ⟨x, m, ξ, rfl, rfl, hI, hB, hx, hm, atX.rf, fun _ _ => rfl⟩
  | succ d ih =>
    intro j n1 n2 ξ x m hjd h1 h2 hI hB hx hm h4 e31 e33 e12 e8
    obtain ⟨n1, rfl⟩ := Nat.exists_eq_succ_of_ne_zero (show n1 ≠ 0 by omega)
    obtain ⟨n2, rfl⟩ := Nat.exists_eq_succ_of_ne_zero (show n2 ≠ 0 by omega)
    have hL5 := hf.2
    have hjL : 5 * j + 3 < L := by omega
    obtain ⟨g0, g1, gne, g2, g3⟩ := fine_at hf hjL
    have e5 : (nI (5 * j) + 5) - 2 = nI (5 * j + 3) := by rw [show nI (5 * j) + 5 = nI (5 * j + 5) from nI_add _ 5, show (2 : Int32) = nI 2 from rfl, pk_sub (by omega), show 5 * j + 5 - 2 = 5 * j + 3 by omega]
    have at_ : ∀ k, k < 4 → f_X5_at 34 60 (nI (5 * j + k)) x = some (nI (c (5 * j + k)), x) := fun k hk => by rw [at_nI (by omega) (by decide), show x (34 + 1) (5 * j + k) = nI (c (5 * j + k)) from e33 _ (by omega)]
    have a0 : f_X5_at 34 60 (nI (5 * j)) x = some (nI (c (5 * j)), x) := at_ 0 (by decide)
    have c0 : nI (c (5 * j)) - 97 = nI (c (5 * j) - 97) := pk_sub (b := 97) g0.1
    have c1 : nI (c (5 * j + 1)) - 97 = nI (c (5 * j + 1) - 97) := pk_sub (b := 97) g1.1
    have c2 : nI (c (5 * j + 2)) - 48 = nI (c (5 * j + 2) - 48) := pk_sub (b := 48) (by omega)
    have c3 : nI (c (5 * j + 3)) - 48 = nI (c (5 * j + 3) - 48) := pk_sub (b := 48) (by omega)
    obtain ⟨x1, p1, p2, p3⟩ := x_app1 hI hx (by omega) (a := c (5 * j) - 97) (b := c (5 * j + 1) - 97) (c := c (5 * j + 2) - 48) (d := c (5 * j + 3) - 48) (by omega) (by omega) (by omega) (by omega) (by omega)
    obtain ⟨m1, w1, w2, w3, w4⟩ := m_lies hI hm (by omega) (a := c (5 * j) - 97) (b := c (5 * j + 1) - 97) (c (5 * j + 2) - 48) (c (5 * j + 3) - 48) (by omega) (by omega)
    have m8 : ∀ k, k < 4 → m 8 (4 * j + k) = nI (c (5 * j + k)) - (if k < 2 then 97 else 48) := fun k hk => by rw [e8 _ (by omega), tv_at hk]
    have q0 : m 8 (4 * j) = nI (c (5 * j) - 97) := (m8 0 (by decide)).trans c0
    have q1 : m 8 (4 * j + 1) = nI (c (5 * j + 1) - 97) := (m8 1 (by decide)).trans c1
    have q2 : m 8 (4 * j + 2) = nI (c (5 * j + 2) - 48) := (m8 2 (by decide)).trans c2
    have q3 : m 8 (4 * j + 3) = nI (c (5 * j + 3) - 48) := (m8 3 (by decide)).trans c3
    rw [f_X4_layAllInto_L2_s, f_X11_read_L37_s, e31, e5, if_neg (nI_ge hjL (by omega)), e12, show (4 : Int32) * nI ((L + 1) / 5) = nI (4 * ((L + 1) / 5)) by rw [show (4 : Int32) = nI 4 from rfl, pk_mul], if_neg (nI_ge (by omega) (by omega))]
    rw [a0, ob_some]
    dsimp only
    rw [nI_1, at_ 1 (by decide), ob_some]
    dsimp only
    rw [show nI (5 * j) + 2 = nI (5 * j + 2) from nI_add _ 2, at_ 2 (by decide), ob_some]
    dsimp only
    rw [show nI (5 * j) + 3 = nI (5 * j + 3) from nI_add _ 3, at_ 3 (by decide), ob_some]
    dsimp only
    rw [c0, c1, c2, c3, p1, ob_some, show nI (5 * j) + 5 = nI (5 * (j + 1)) from nI_add _ 5]
    rw [nI_1, show nI (4 * j) + 2 = nI (4 * j + 2) from nI_add _ 2, show nI (4 * j) + 3 = nI (4 * j + 3) from nI_add _ 3, gin_nI (show 4 * j < 64 by omega) (by decide), gin_nI (show 4 * j + 1 < 64 by omega) (by decide), gin_nI (show 4 * j + 2 < 64 by omega) (by decide), gin_nI (show 4 * j + 3 < 64 by omega) (by decide), gGd_t, gGd_t, gGd_t, gGd_t, gil_nI (by omega), gil_nI (by omega), gil_nI (by omega), gil_nI (by omega), q0, q1, q2, q3, w1, ob_some]
    dsimp only
    rw [show nI (4 * j) + 4 = nI (4 * (j + 1)) from nI_add _ 4]
    have hI' := layZ_I hI (show ξ 4 < 20 by omega) (a := c (5 * j) - 97) (b := c (5 * j + 1) - 97) (c := c (5 * j + 2) - 48) (d := c (5 * j + 3) - 48) (by omega) (by omega) (by omega) (by omega) (by omega)
    obtain ⟨x', m', ω, r1, r2, r3, r4, r5, r6, r7, r8⟩ := ih (j + 1) n1 n2 _ x1 m1 (by omega) (by omega) (by omega) hI' (by rw [layZ_n (by decide) (by omega)]; exact hB) p2 w2 (by rw [layZ_4]; omega) (by rw [p3 33 (by decide)]; exact e31) (fun k hk => by rw [p3 35 (by decide)]; exact e33 k hk) (by rw [w4 0 (by decide)]; exact e12) (fun i hi => by rw [w4 8 (by decide)]; exact e8 i hi)
    exact ⟨x', m', ω, r1, r2, r3, r4, r5, r6, p3.tr r7, fun q hq => (r8 q hq).trans (w4 q hq)⟩
theorem o_read (hR : RR B x m) : oOK B (f_X10_read x) (f_X11_read m) := by
  obtain ⟨ζ, hI, hB, hx, hm, hh, hs, ⟨L, c, hL, l1, l2, l3⟩⟩ := id hR
  obtain ⟨r, m1, k1, k2, k3⟩ := m_readPad hL (fun k hk => ⟨(l3 k hk).2.1, (l3 k hk).2.2.2⟩) l2
  obtain ⟨f1, f2⟩ := x_fault hL l1 (fun k hk => ⟨(l3 k hk).2.1, (l3 k hk).2.2.1⟩)
  have hR1 := hR.eq eqX.rf k2
  have hm1 : cM ζ m1 := k2.cM hm
  unfold f_X10_read f_X11_read
  rw [k1, ob_some]
  dsimp only
  rcases k3 with ⟨f, q1, rfl⟩ | ⟨q1, rfl, q2, q3⟩
  · have hf6 : ¬ nI f = (-6) := nI_m6 (by have := q1.1; omega)
    rw [f1 f q1, ob_some]
    dsimp only
    rw [if_neg hf6, if_neg hf6]
    exact ⟨_, x, m1, rfl, rfl, hR1⟩
  · rw [f2 q1, ob_some]
    dsimp only
    have eb : f_X4_boardsInText x = some (nI ((L + 1) / 5), x) := by
      unfold f_X4_boardsInText
      rw [l1, nI_1, show (5 : Int32) = nI 5 from rfl, pk_div (by omega) (by decide) (by decide)]
    rw [if_pos rfl, if_pos rfl, eb, ob_some]
    dsimp only
    have hn := hI.nb
    have ex : x 4 0 + nI ((L + 1) / 5) = nI (ζ 4 + (L + 1) / 5) := by rw [x_nb hx, nI_add]
    have em : m1 1 4 + m1 0 12 = nI (ζ 4 + (L + 1) / 5) := by rw [m_nb hm1, q2, nI_add]
    by_cases hc : ζ 4 + (L + 1) / 5 ≤ 20
    · rw [if_pos (show x 4 0 + nI ((L + 1) / 5) ≤ 20 by rw [ex]; exact nI_le (b := 20) hc (by decide)), if_pos (show m1 1 4 + m1 0 12 ≤ 20 by rw [em]; exact nI_le (b := 20) hc (by decide))]
      have hrest1 : rest B x m1 := (show rest B x m from ⟨hh, hs, L, c, hL, l1, l2, l3⟩).fr rfl (fun _ _ _ => rfl) (fun j a b => k2.1 j (by omega) b) k2.2.1 k2.2.2
      obtain ⟨x2, m2, r1, r2, r3, r4, r5, r6, r7, r8⟩ := record_ok hI hB hx hm1 hrest1
      rw [r1, r2, ob_some, ob_some]
      have hm28 : m2 8 = m1 8 := r7 8 (by decide) (by decide)
      unfold f_X4_layAllInto
      obtain ⟨x3, m3, ω, s1, s2, s3, s4, s5, s6, s7, s8⟩ := both_read hL q1 (fun (s11 : gS) => gLet (up2 s11 0 6 0) (fun s12 => some ((s12 1 4), s12))) ((L + 1) / 5) 0 gFu gFu ζ x2 m2 (Nat.zero_add _) (by show (L + 1) / 5 < 1000000; omega) (by show (L + 1) / 5 < 1000000; omega) hI hB r3 r4 hc (by rw [r6 33 (by decide)]; exact l1) (fun k hk => by rw [r6 35 (by decide)]; exact (l3 k hk).2.2.1) (by rw [r8 12 (by decide)]; exact q2) (fun i hi => by rw [hm28]; exact q3 i hi)
      have s1' : f_X4_layAllInto_L2 gFu 0 x2 = some x3 := s1
      have s2' : f_X11_read_L37 (fun (s11 : gS) => gLet (up2 s11 0 6 0) (fun s12 => some ((s12 1 4), s12))) gFu 0 m2 = _ := s2
      rw [s1', s2', ob_some, gLet_eq, gLet_eq]
      have hx' : ∀ j, j ≠ 33 → up2 x3 33 0 0 j = x3 j := fun j hj => up2_row hj
      have hm' : ∀ j, j ≠ 0 → up2 m3 0 6 0 j = m3 j := fun j hj => up2_row hj
      refine ⟨nI (ω 4), up2 x3 33 0 0, up2 m3 0 6 0, by rw [hx' 4 (by decide), x_nb s5], by rw [hm' 1 (by decide), m_nb s6], ω, s3, s4, cX_rows s3 s5 fun j a b => hx' j (by omega), fun q hq => by rw [hm' 1 (by decide)]; exact s6 q hq, ?_, ?_, 0, c, by decide, up2_eq, up2_eq, fun q hq => absurd hq (Nat.not_lt_zero _)⟩
      · exact r5.1.fr (fun j a b => by rw [hx' j (by omega), s7 j (by omega)]) (by rw [hm' 2 (by decide), s8 2 (by decide)]) (by rw [up2_k (show 2 ≠ 6 by decide), s8 0 (by decide)])
      · exact r5.2.1.fr (by rw [hx' 0 (by decide), s7 0 (by decide)]) (fun j a b => by rw [hx' j (by omega), s7 j (by omega)]) (by rw [hm' 3 (by decide), s8 3 (by decide)]) (by rw [hm' 4 (by decide), s8 4 (by decide)])
    · rw [if_neg (show ¬ x 4 0 + nI ((L + 1) / 5) ≤ 20 by rw [ex]; exact nI_ge (a := 20) (by omega) (by omega)), if_neg (show ¬ m1 1 4 + m1 0 12 ≤ 20 by rw [em]; exact nI_ge (a := 20) (by omega) (by omega))]
      exact ⟨_, x, m1, rfl, rfl, hR1⟩
end RA
