section RP
variable {ζ : Nat → Nat} {x m : gS} {B L : Nat} {c : Nat → Nat}
/-- what the check's reading says -/
def told (m : gS) (c : Nat → Nat) (L : Nat) (r : Int32) (s' : gS) : Prop := eqM m s' ∧ ((∃ f, flt c L f ∧ r = nI f) ∨ (fine c L ∧ r = -6 ∧ s' 0 12 = nI ((L + 1) / 5) ∧ ∀ i, i < 4 * ((L + 1) / 5) → s' 8 i = tv c i))
theorem pad_end {n : Nat} {s : gS} : f_X11_readPad_L18 (n + 1) 0 s = some (s 0 14, s) := by
  rw [f_X11_readPad_L18_s, if_pos rfl]
theorem pad_loop (hL : L ≤ 60) (hc : ∀ k, k < L → c k ≤ 126 ∧ m 5 k = nI (c k)) (h6 : m 0 6 = nI L) : ∀ d g n (s : gS), g + d = 13 → d + 1 < n → okS m c L g 0 s → ∃ r s', f_X11_readPad_L18 n 1 s = some (r, s') ∧ told m c L r s' := by
  intro d
  induction d with
  | zero =>
    intro g n s hgd hn h
    have := h.2.2.2.2.2.2
    omega
  | succ d ih =>
    intro g n s hgd hn h
    obtain ⟨n, rfl⟩ := Nat.exists_eq_succ_of_ne_zero (show n ≠ 0 by omega)
    have hg : g ≤ 12 := by have := h.2.2.2.2.2.2; omega
    have e4 : (4 : Int32) * nI g = nI (4 * g) := by rw [show (4 : Int32) = nI 4 from rfl, pk_mul]
    rw [f_X11_readPad_L18_s, if_neg i10, h.2.1, e4, gLet_eq]
    obtain ⟨r0, s0, a0, b0⟩ := step_room hL hc h6 hg (show 0 < 2 by decide) (v := -6) (fun _ => rfl) (fun z => absurd z (by decide)) (Or.inl h)
    rw [Nat.add_zero] at b0
    rw [a0, ob_some, gin_nI (show 4 * g < 64 by omega) (by decide), gGd_t, gLet_eq, gGd_t, gil_nI (by omega), nI_1, show nI (4 * g) + 2 = nI (4 * g + 2) from nI_add _ 2, show nI (4 * g) + 3 = nI (4 * g + 3) from nI_add _ 3]
    dsimp only
    generalize up2 s0 8 (4 * g) r0 = t1 at *
    obtain ⟨r1, s1, a1, b1⟩ := step_room hL hc h6 hg (show 1 < 2 by decide) (v := t1 8 (4 * g)) (fun z => absurd z (by decide)) (fun _ hok => by
      have := hok.2.2.2.2.1 (4 * g) (by omega)
      rw [this]
      unfold tv
      rw [show 4 * g / 4 = g by omega, show 4 * g % 4 = 0 by omega, if_pos (by decide), Nat.add_zero]) b0
    rw [a1, ob_some, gin_nI (show 4 * g + 1 < 64 by omega) (by decide), gGd_t, gLet_eq, gil_nI (by omega)]
    dsimp only
    generalize up2 s1 8 (4 * g + 1) r1 = t2 at *
    obtain ⟨r2, s2, a2, b2⟩ := step_digit hL hc h6 hg (Or.inl rfl) b1
    rw [a2, ob_some, gin_nI (show 4 * g + 2 < 64 by omega) (by decide), gGd_t, gLet_eq, gil_nI (by omega)]
    dsimp only
    generalize up2 s2 8 (4 * g + 2) r2 = t3 at *
    obtain ⟨r3, s3, a3, b3⟩ := step_digit hL hc h6 hg (Or.inr rfl) b2
    rw [a3, ob_some, gin_nI (show 4 * g + 3 < 64 by omega) (by decide), gGd_t, gLet_eq, gil_nI (by omega)]
    dsimp only
    generalize up2 s3 8 (4 * g + 3) r3 = t4 at *
    have h12 : t4 0 12 = nI g := b3.elim (fun z => z.2.1) (fun z => z.2.1)
    rw [gLet_eq, h12, nI_1, gLet_eq, gLet_eq]
    have u12 : up2 t4 0 12 (nI (g + 1)) 0 12 = nI (g + 1) := up2_eq
    have uo : ∀ i, i ≠ 12 → up2 t4 0 12 (nI (g + 1)) 0 i = t4 0 i := fun i hi => up2_k hi
    have ur : ∀ j, j ≠ 0 → up2 t4 0 12 (nI (g + 1)) j = t4 j := fun j hj => up2_row hj
    have ue : eqM m (up2 t4 0 12 (nI (g + 1))) := eqM_0 (b3.elim (fun z => z.1) (fun z => z.1)) (by decide) (by decide)
    generalize up2 t4 0 12 (nI (g + 1)) = t5 at *
    obtain ⟨n, rfl⟩ := Nat.exists_eq_succ_of_ne_zero (show n ≠ 0 by omega)
    rcases b3 with b3 | b3
    · obtain ⟨-, -, q3, q4, q5, q6, q7⟩ := b3
      rw [if_pos (show t5 0 14 = -6 by rw [uo 14 (by decide)]; exact q4)]
      by_cases hend : L = 5 * g + 4
      · rw [if_pos (show t5 0 6 ≤ t5 0 13 by rw [ue.2.2, h6, uo 13 (by decide), q3]; exact nI_le (by omega) (by omega))]
        dsimp only
        rw [if_pos rfl, pad_end]
        refine ⟨_, _, rfl, ue, Or.inr ⟨⟨fun i hi => q6 i (by omega), by omega⟩, by rw [uo 14 (by decide)]; exact q4, by rw [u12, show (L + 1) / 5 = g + 1 by omega], fun i hi => ?_⟩⟩
        rw [ur 8 (by decide)]
        exact q5 i (by omega)
      · rw [if_neg (show ¬ t5 0 6 ≤ t5 0 13 by rw [ue.2.2, h6, uo 13 (by decide), q3]; exact nI_ge (by omega) (by omega))]
        have h13 : t5 0 13 = nI (5 * g + 4) := by rw [uo 13 (by decide)]; exact q3
        have h14 : t5 0 14 = -6 := by rw [uo 14 (by decide)]; exact q4
        obtain ⟨w1, w0⟩ := m_wants h13 h14
        have hcp := hc (5 * g + 4) (by omega)
        have hst : st c (5 * g + 4) ↔ c (5 * g + 4) = 59 := by
          unfold st
          rw [if_neg (show ¬ (5 * g + 4) % 5 = 0 by omega), if_neg (show ¬ (5 * g + 4) % 5 = 1 by omega), if_pos (show (5 * g + 4) % 5 = 4 by omega)]
        dsimp only
        rw [if_neg i10, m_letter hL (fun k hk => (hc k hk).2) h6 ue (by omega) h13, ob_some, if_neg (show ¬ L ≤ 5 * g + 4 by omega)]
        dsimp only
        rw [gLet_eq]
        by_cases h59 : c (5 * g + 4) = 59
        · rw [if_pos (show nI (c (5 * g + 4)) = 59 by rw [h59]; rfl)]
          dsimp only
          rw [w1, ob_some, if_pos (show up2 (up2 t5 0 14 (-6)) 0 13 (nI (5 * g + 4 + 1)) 0 14 = -6 by rw [up2_k (by decide), up2_eq])]
          refine ih (g + 1) _ _ (by omega) (by omega) ⟨eqM_0 (eqM_0 ue (by decide) (by decide)) (by decide) (by decide), ?_, ?_, ?_, fun i hi => ?_, fun i hi => ?_, by omega⟩
          · rw [up2_k (by decide), up2_k (by decide), u12]
          · rw [up2_eq]
            rfl
          · rw [up2_k (by decide), up2_eq]
          · rw [up2_row (show 8 ≠ 0 by decide), up2_row (show 8 ≠ 0 by decide), ur 8 (by decide)]
            exact q5 i (by omega)
          · by_cases hi2 : i = 5 * g + 4
            · rw [hi2]
              exact hst.mpr h59
            · exact q6 i (by omega)
        · rw [if_neg (show ¬ nI (c (5 * g + 4)) = 59 from fun z => h59 ((nI_eq (b := 59) (by omega) (by decide)).mp z))]
          dsimp only
          have e14 : up2 (up2 t5 0 14 (nI (5 * g + 4))) 0 13 (nI (5 * g + 4 + 1)) 0 14 = nI (5 * g + 4) := by rw [up2_k (by decide), up2_eq]
          rw [w0, ob_some, if_neg (show ¬ up2 (up2 t5 0 14 (nI (5 * g + 4))) 0 13 (nI (5 * g + 4 + 1)) 0 14 = -6 by rw [e14]; exact nI_m6 (by omega)), pad_end, e14]
          exact ⟨_, _, rfl, eqM_0 (eqM_0 ue (by decide) (by decide)) (by decide) (by decide), Or.inl ⟨5 * g + 4, ⟨by omega, q6, fun _ z => h59 (hst.mp z), fun z => by omega⟩, rfl⟩⟩
    · obtain ⟨-, -, -, f, q3, q4⟩ := id b3
      have h14 : t5 0 14 = nI f := by rw [uo 14 (by decide)]; exact q4
      rw [if_neg (show ¬ t5 0 14 = -6 by rw [h14]; exact nI_m6 (by have := q3.1; omega))]
      dsimp only
      rw [if_pos rfl, pad_end, h14]
      exact ⟨_, _, rfl, ue, Or.inl ⟨f, q3, rfl⟩⟩
theorem m_readPad (hL : L ≤ 60) (hc : ∀ k, k < L → c k ≤ 126 ∧ m 5 k = nI (c k)) (h6 : m 0 6 = nI L) : ∃ r s', f_X11_readPad m = some (r, s') ∧ told m c L r s' := by
  unfold f_X11_readPad
  rw [gLet_eq, gLet_eq, gLet_eq]
  refine pad_loop hL hc h6 13 0 gFu _ rfl (by show 14 < 1000000; decide) ⟨eqM_0 (eqM_0 (eqM_0 eqM.rf (by decide) (by decide)) (by decide) (by decide)) (by decide) (by decide), ?_, ?_, ?_, fun i hi => absurd hi (by omega), fun i hi => absurd hi (by omega), Nat.zero_le _⟩
  · rw [up2_k (by decide), up2_k (by decide), up2_eq]
    rfl
  · rw [up2_k (by decide), up2_eq]
    rfl
  · rw [up2_eq]
theorem flt_fine {f : Nat} (h1 : flt c L f) (h2 : fine c L) : False := by
  obtain ⟨a, b, d, e⟩ := h1
  by_cases h : f < L
  · exact d h (h2.1 f h)
  · exact e (by omega) h2.2
theorem o_fault (hR : RR B x m) : oOK B (f_X10_fault x) (f_X11_fault m) := by
  obtain ⟨ζ, hI, hB, hx, hm, hh, hs, ⟨L, c, hL, l1, l2, l3⟩⟩ := id hR
  obtain ⟨r, s', k1, k2, k3⟩ := m_readPad hL (fun k hk => ⟨(l3 k hk).2.1, (l3 k hk).2.2.2⟩) l2
  obtain ⟨f1, f2⟩ := x_fault hL l1 (fun k hk => ⟨(l3 k hk).2.1, (l3 k hk).2.2.1⟩)
  unfold f_X10_fault f_X11_fault
  rw [k1]
  rcases k3 with ⟨f, q1, rfl⟩ | ⟨q1, rfl, -⟩
  · rw [f1 f q1]
    exact ⟨_, x, s', rfl, rfl, hR.eq eqX.rf k2⟩
  · rw [f2 q1]
    exact ⟨_, x, s', rfl, rfl, hR.eq eqX.rf k2⟩
end RP
