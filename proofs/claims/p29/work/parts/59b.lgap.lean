section LGP
variable {ζ : Nat → Nat} {σ : gS}
def gdN (ζ : Nat → Nat) : Nat → Nat × Nat
  | 0 => (0, 0)
  | c + 1 => if gap ζ (2 ^ ζ 4 - 1) (ζ 4 - (c + 1)) = 0 ∨ gap ζ (2 ^ ζ 4 - 1) (ζ 4 - (c + 1)) < (gdN ζ c).2 then gdN ζ c else (ζ 4 - (c + 1), gap ζ (2 ^ ζ 4 - 1) (ζ 4 - (c + 1)))
theorem gbN_I : ∀ n, (∀ i, i < n → gap ζ (2 ^ ζ 4 - 1) i ≤ (gbN ζ n).2) ∧ ((gbN ζ n).2 = 0 ∨ ((gbN ζ n).1 < n ∧ gap ζ (2 ^ ζ 4 - 1) (gbN ζ n).1 = (gbN ζ n).2 ∧ ∀ i, i < (gbN ζ n).1 → gap ζ (2 ^ ζ 4 - 1) i < (gbN ζ n).2))
  | 0 => ⟨fun i hi => absurd hi (Nat.not_lt_zero i), Or.inl rfl⟩
  | n + 1 => by
    obtain ⟨h1, h2⟩ := gbN_I n
    rw [gbN]
    by_cases hc : gap ζ (2 ^ ζ 4 - 1) n ≤ (gbN ζ n).2
    · rw [if_pos hc]
      refine ⟨fun i hi => ?_, h2.elim Or.inl fun ⟨a, b, c⟩ => Or.inr ⟨by omega, b, c⟩⟩
      rcases Nat.lt_or_ge i n with h | h
      · exact h1 i h
      · rw [show i = n by omega]; exact hc
    · rw [if_neg hc]
      refine ⟨fun i hi => ?_, Or.inr ⟨Nat.lt_succ_self n, rfl, fun i hi => ?_⟩⟩
      · show gap ζ (2 ^ ζ 4 - 1) i ≤ gap ζ (2 ^ ζ 4 - 1) n
        rcases Nat.lt_or_ge i n with h | h
        · have := h1 i h
          omega
        · rw [show i = n by omega]
          exact Nat.le_refl _
      · have := h1 i hi
        show gap ζ (2 ^ ζ 4 - 1) i < gap ζ (2 ^ ζ 4 - 1) n
        omega
theorem gdN_I : ∀ c, c ≤ ζ 4 → (∀ i, ζ 4 - c ≤ i → i < ζ 4 → gap ζ (2 ^ ζ 4 - 1) i ≤ (gdN ζ c).2) ∧ ((gdN ζ c).2 = 0 ∨ (ζ 4 - c ≤ (gdN ζ c).1 ∧ (gdN ζ c).1 < ζ 4 ∧ gap ζ (2 ^ ζ 4 - 1) (gdN ζ c).1 = (gdN ζ c).2 ∧ ∀ i, ζ 4 - c ≤ i → i < (gdN ζ c).1 → gap ζ (2 ^ ζ 4 - 1) i < (gdN ζ c).2))
  | 0, _ => ⟨fun i hi h => by omega, Or.inl rfl⟩
  | c + 1, hcz => by
    obtain ⟨h1, h2⟩ := gdN_I c (by omega)
    rw [gdN]
    by_cases hc : gap ζ (2 ^ ζ 4 - 1) (ζ 4 - (c + 1)) = 0 ∨ gap ζ (2 ^ ζ 4 - 1) (ζ 4 - (c + 1)) < (gdN ζ c).2
    · rw [if_pos hc]
      refine ⟨fun i hi hi4 => ?_, ?_⟩
      · rcases Nat.lt_or_ge i (ζ 4 - c) with h | h
        · rw [show i = ζ 4 - (c + 1) by omega]
          rcases hc with hc | hc <;> omega
        · exact h1 i h hi4
      · rcases h2 with h2 | ⟨a, b, d, e⟩
        · exact Or.inl h2
        · by_cases hz : (gdN ζ c).2 = 0
          · exact Or.inl hz
          · refine Or.inr ⟨by omega, b, d, fun i hi hib => ?_⟩
            rcases Nat.lt_or_ge i (ζ 4 - c) with h | h
            · rw [show i = ζ 4 - (c + 1) by omega]
              rcases hc with hc | hc <;> omega
            · exact e i h hib
    · rw [if_neg hc]
      refine ⟨fun i hi hi4 => ?_, Or.inr ⟨Nat.le_refl _, by show ζ 4 - (c + 1) < ζ 4; omega, rfl, fun i hi hib => ?_⟩⟩
      · show gap ζ (2 ^ ζ 4 - 1) i ≤ gap ζ (2 ^ ζ 4 - 1) (ζ 4 - (c + 1))
        rcases Nat.lt_or_ge i (ζ 4 - c) with h | h
        · rw [show i = ζ 4 - (c + 1) by omega]
          exact Nat.le_refl _
        · have := h1 i h hi4
          omega
      · have hib : i < ζ 4 - (c + 1) := hib
        omega
theorem gdN_gbN : (gdN ζ (ζ 4)).2 = (gbN ζ (ζ 4)).2 ∧ ((gbN ζ (ζ 4)).2 = 0 ∨ (gdN ζ (ζ 4)).1 = (gbN ζ (ζ 4)).1) := by
  obtain ⟨a1, a2⟩ := gbN_I (ζ := ζ) (ζ 4)
  obtain ⟨b1, b2⟩ := gdN_I (ζ := ζ) (ζ 4) (Nat.le_refl _)
  rw [Nat.sub_self] at b1 b2
  have e : (gdN ζ (ζ 4)).2 = (gbN ζ (ζ 4)).2 := by
    apply Nat.le_antisymm
    · rcases b2 with b2 | ⟨-, c2, c3, -⟩
      · rw [b2]; exact Nat.zero_le _
      · rw [← c3]; exact a1 _ c2
    · rcases a2 with a2 | ⟨c2, c3, -⟩
      · rw [a2]; exact Nat.zero_le _
      · rw [← c3]; exact b1 _ (Nat.zero_le _) c2
  refine ⟨e, ?_⟩
  rcases a2 with a2 | ⟨c2, c3, c4⟩
  · exact Or.inl a2
  · rcases b2 with b2 | ⟨-, d2, d3, d4⟩
    · exact Or.inl (by rw [← e]; exact b2)
    · right
      rcases Nat.lt_trichotomy (gdN ζ (ζ 4)).1 (gbN ζ (ζ 4)).1 with h | h | h
      · have := c4 _ h
        omega
      · exact h
      · have := d4 _ (Nat.zero_le _) h
        omega
def gvI (p : Nat × Nat) : Int32 := if p.2 = 0 then (-6) else nI p.1
def gmI (p : Nat × Nat) : Int32 := if p.2 = 0 then (-6) else nI p.2
theorem gdN_le (c : Nat) : (gdN ζ c).2 ≤ 100 := by
  induction c with
  | zero => exact Nat.zero_le _
  | succ c ih =>
    rw [gdN]
    split
    · exact ih
    · exact gap_le _ _
theorem l_gapL (h : yB ζ σ) (hI : zI ζ) (K : Int32 → Int32 → gS → Option (Int32 × gS)) : f_L_gap_L25 (nI (prs ζ (2 ^ ζ 4 - 1) 10)) K gFu (-6) (-6) (nI (ζ 4) - 1) σ = K (gvI (gdN ζ (ζ 4))) (gmI (gdN ζ (ζ 4))) σ := by
  have hn := hI.nb
  have hE := lt31 (all_lt hI) (by decide)
  have key : ∀ d c n, c + d = ζ 4 → d < n → f_L_gap_L25 (nI (prs ζ (2 ^ ζ 4 - 1) 10)) K n (gvI (gdN ζ c)) (gmI (gdN ζ c)) (nI d - 1) σ = K (gvI (gdN ζ (ζ 4))) (gmI (gdN ζ (ζ 4))) σ := by
    intro d
    induction d with
    | zero =>
      intro c n hc hnn
      obtain ⟨n, rfl⟩ := Nat.exists_eq_succ_of_ne_zero (show n ≠ 0 by omega)
      rw [f_L_gap_L25_s, if_pos (show nI 0 - 1 < 0 by decide), show c = ζ 4 by omega]
    | succ d ih =>
      intro c n hc hnn
      obtain ⟨n, rfl⟩ := Nat.exists_eq_succ_of_ne_zero (show n ≠ 0 by omega)
      have hd : d < ζ 4 := by omega
      have hdE : (2 ^ ζ 4 - 1).testBit d = true := by rw [Nat.testBit_two_pow_sub_one]; exact decide_eq_true hd
      have hgap := prs_gap hI hE hd hdE
      have hg100 := gap_le (ζ := ζ) (2 ^ ζ 4 - 1) d
      have hm := gdN_le (ζ := ζ) c
      have hs := ih (c + 1) n (by omega) (by omega)
      rw [gdN, show ζ 4 - (c + 1) = d by omega] at hs
      rw [show (1 : Int32) = nI 1 from rfl, pk_sub (show 1 ≤ d + 1 by omega), Nat.add_sub_cancel, f_L_gap_L25_s, if_neg (nI_pos (by omega)), l_all h hI, ob_some]
      dsimp only
      rw [n_rm (by omega), l_pairs h hI (rm_lt hE), ob_some]
      dsimp only
      rw [hgap, pk_sub (Nat.le_add_right _ _), Nat.add_sub_cancel_left, gLet_eq, ← hgap]
      simp only [gLet_eq]
      rw [dn_step]
      by_cases h0 : gap ζ (2 ^ ζ 4 - 1) d = 0
      · rw [if_pos (Or.inl h0)] at hs
        rw [if_pos (n_le0 h0), if_pos (n_le0 h0)]
        exact hs
      · have hp : ¬ nI (gap ζ (2 ^ ζ 4 - 1) d) ≤ 0 := nI_nle (by omega) (by omega)
        rw [if_neg hp]
        by_cases h1 : gap ζ (2 ^ ζ 4 - 1) d < (gdN ζ c).2
        · rw [if_pos (Or.inr h1)] at hs
          have hq : nI (gap ζ (2 ^ ζ 4 - 1) d) < gmI (gdN ζ c) := by
            unfold gmI
            rw [if_neg (by omega)]
            exact nI_lt h1 (by omega)
          rw [if_pos hq, if_neg hp, if_pos hq]
          exact hs
        · rw [if_neg (by omega)] at hs
          have hq : ¬ nI (gap ζ (2 ^ ζ 4 - 1) d) < gmI (gdN ζ c) := by
            unfold gmI
            by_cases hz : (gdN ζ c).2 = 0
            · rw [if_pos hz]
              intro z
              have := Int32.lt_trans z (show (-6 : Int32) < 0 by decide)
              exact absurd this (nI_pos (by omega))
            · rw [if_neg hz]
              exact nI_nlt (by omega) (by omega)
          rw [if_neg hq, if_neg hp, if_neg hq]
          have e1 : gvI (d, gap ζ (2 ^ ζ 4 - 1) d) = nI d := if_neg h0
          have e2 : gmI (d, gap ζ (2 ^ ζ 4 - 1) d) = nI (gap ζ (2 ^ ζ 4 - 1) d) := if_neg h0
          rw [e1, e2] at hs
          exact hs
  exact key (ζ 4) 0 gFu (Nat.zero_add _) (by show ζ 4 < 1000000; omega)
theorem l_gap (hS : SS ζ σ) : f_L_gap σ = some (1, σ) := by
  obtain ⟨hI, hx, hy, hh⟩ := hS
  have hE := lt31 (all_lt hI) (by decide)
  obtain ⟨e2, e1⟩ := gdN_gbN (ζ := ζ)
  have ev : gvI (gdN ζ (ζ 4)) = if (gbN ζ (ζ 4)).2 = 0 then (-6) else nI (gbN ζ (ζ 4)).1 := by
    unfold gvI
    rw [e2]
    by_cases hz : (gbN ζ (ζ 4)).2 = 0
    · rw [if_pos hz, if_pos hz]
    · rw [if_neg hz, if_neg hz, e1.resolve_left hz]
  have em : gmI (gdN ζ (ζ 4)) = if (gbN ζ (ζ 4)).2 = 0 then (-6) else nI (gbN ζ (ζ 4)).2 := by
    unfold gmI
    rw [e2]
  unfold f_L_gap
  rw [l_all hy.B hI, ob_some]
  dsimp only
  rw [l_pairs hy.B hI hE, ob_some]
  dsimp only
  rw [y_nb hy, gLet_eq, l_gapL hy.B hI, ev, em, k_gap0 hx hI, ob_some]
  dsimp only
  rw [mix_self, gLet_eq, if_pos rfl, k_gap1 hx hI, ob_some]
  dsimp only
  rw [mix_self, gLet_eq, if_pos rfl]
end LGP
