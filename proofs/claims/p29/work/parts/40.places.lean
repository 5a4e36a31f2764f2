section PL
variable {ζ : Nat → Nat} {σ m : gS} {b : Nat}
/-- where the class keeps what the check keeps at K -/
def locR (K : Nat) : Nat := if K < 2 then 2 else if K < 4 then 0 else if K = 4 then 3 else if K = 5 then 23 else if K < 106 then 5 + 2 * ((K - 6) % 5) + 2 * (((K - 6) % 5 + 2) / 4) else if K < 118 then 18 + 2 * ((K - 106) % 3) else 25 + 2 * ((K - 118) % 4)
def locI (K : Nat) : Nat := if K < 2 then K else if K < 4 then K - 2 else if K < 6 then 0 else if K < 106 then (K - 6) / 5 else if K < 118 then (K - 106) / 3 else (K - 118) / 4
theorem loc_inj' : ∀ K, K < 138 → ∀ L, L < 138 → locR K = locR L → locI K = locI L → K = L := by decide +kernel
theorem locR_lt : ∀ K, K < 138 → locR K < 32 := by decide +kernel
theorem loc_b : ∀ k, k < 20 → ∀ j, j < 5 → locR (6 + 5 * k + j) = 5 + 2 * j + 2 * ((j + 2) / 4) ∧ locI (6 + 5 * k + j) = k := by decide +kernel
theorem loc_g : ∀ k, k < 4 → ∀ j, j < 3 → locR (106 + 3 * k + j) = 18 + 2 * j ∧ locI (106 + 3 * k + j) = k := by decide +kernel
theorem loc_s : ∀ k, k < 5 → ∀ j, j < 4 → locR (118 + 4 * k + j) = 25 + 2 * j ∧ locI (118 + 4 * k + j) = k := by decide +kernel
/-- the places that count -/
def liv (nb ns K : Nat) : Prop := K < 6 + 5 * nb ∨ (106 ≤ K ∧ K < 118 + 4 * ns)
def cL (ζ : Nat → Nat) (σ : gS) (b : Nat) : Prop := ∀ K, K < 138 → liv (ζ 4) (ζ 5) K → σ (b + locR K) (locI K) = nI (ζ K)
/-- the row of both rooms of a board -/
def eL (ζ : Nat → Nat) (σ : gS) (b : Nat) : Prop := ∀ k, k < ζ 4 → σ (b + 9) k = nI (ends ζ k)
theorem cX_eL (h : cX ζ σ b) : eL ζ σ b := fun k hk => (h.2.1 k hk).2.2.2.2.2
theorem loc_ne9 : ∀ K, K < 138 → locR K ≠ 9 := by decide +kernel
theorem cL_cX (h4 : ζ 4 ≤ 20) (h5 : ζ 5 ≤ 5) (h : cL ζ σ b) (he : eL ζ σ b) : cX ζ σ b := by
  refine ⟨⟨h 2 (by decide) (Or.inl (by omega)), h 3 (by decide) (Or.inl (by omega)), h 0 (by decide) (Or.inl (by omega)), h 1 (by decide) (Or.inl (by omega)), h 4 (by decide) (Or.inl (by omega)), h 5 (by decide) (Or.inl (by omega))⟩, fun k hk => ?_, fun g hg => ?_, fun s hs => ?_⟩
  · have q : ∀ j, j < 5 → σ (b + (5 + 2 * j + 2 * ((j + 2) / 4))) k = nI (bd ζ k j) := fun j hj => by
      have := h (6 + 5 * k + j) (by omega) (Or.inl (by omega))
      rwa [(loc_b k (by omega) j hj).1, (loc_b k (by omega) j hj).2] at this
    exact ⟨q 0 (by decide), q 1 (by decide), q 2 (by decide), q 3 (by decide), q 4 (by decide), he k hk⟩
  · have q : ∀ j, j < 3 → σ (b + (18 + 2 * j)) g = nI (gh ζ g j) := fun j hj => by
      have := h (106 + 3 * g + j) (by omega) (Or.inr (by omega))
      rwa [(loc_g g hg j hj).1, (loc_g g hg j hj).2] at this
    exact ⟨q 0 (by decide), q 1 (by decide), q 2 (by decide)⟩
  · have q : ∀ j, j < 4 → σ (b + (25 + 2 * j)) s = nI (sl ζ s j) := fun j hj => by
      have := h (118 + 4 * s + j) (by omega) (Or.inr (by omega))
      rwa [(loc_s s (by omega) j hj).1, (loc_s s (by omega) j hj).2] at this
    exact ⟨q 0 (by decide), q 1 (by decide), q 2 (by decide), q 3 (by decide)⟩
theorem cX_cL (h4 : ζ 4 ≤ 20) (h5 : ζ 5 ≤ 5) (h : cX ζ σ b) : cL ζ σ b := by
  obtain ⟨⟨a2, a3, a0, a1, a4, a5⟩, hb, hg, hs⟩ := h
  intro K hK hl
  by_cases k6 : K < 6
  · match K, k6 with
    | 0, _ => exact a0
    | 1, _ => exact a1
    | 2, _ => exact a2
    | 3, _ => exact a3
    | 4, _ => exact a4
    | 5, _ => exact a5
  by_cases k106 : K < 106
  · have hlt : (K - 6) / 5 < ζ 4 := by
      rcases hl with h | h <;> omega
    have e : K = 6 + 5 * ((K - 6) / 5) + (K - 6) % 5 := by omega
    have hj : (K - 6) % 5 < 5 := Nat.mod_lt _ (by decide)
    generalize (K - 6) / 5 = k at e hlt
    generalize (K - 6) % 5 = j at e hj
    subst e
    rw [(loc_b k (by omega) j hj).1, (loc_b k (by omega) j hj).2]
    obtain ⟨q0, q1, q2, q3, q4, -⟩ := hb k hlt
    match j, hj with
    | 0, _ => exact q0
    | 1, _ => exact q1
    | 2, _ => exact q2
    | 3, _ => exact q3
    | 4, _ => exact q4
  by_cases k118 : K < 118
  · have hlt : (K - 106) / 3 < 4 := by omega
    have e : K = 106 + 3 * ((K - 106) / 3) + (K - 106) % 3 := by omega
    have hj : (K - 106) % 3 < 3 := Nat.mod_lt _ (by decide)
    generalize (K - 106) / 3 = k at e hlt
    generalize (K - 106) % 3 = j at e hj
    subst e
    rw [(loc_g k hlt j hj).1, (loc_g k hlt j hj).2]
    obtain ⟨q0, q1, q2⟩ := hg k hlt
    match j, hj with
    | 0, _ => exact q0
    | 1, _ => exact q1
    | 2, _ => exact q2
  · have hlt : (K - 118) / 4 < ζ 5 := by
      rcases hl with h | h <;> omega
    have e : K = 118 + 4 * ((K - 118) / 4) + (K - 118) % 4 := by omega
    have hj : (K - 118) % 4 < 4 := Nat.mod_lt _ (by decide)
    generalize (K - 118) / 4 = k at e hlt
    generalize (K - 118) % 4 = j at e hj
    subst e
    rw [(loc_s k (by omega) j hj).1, (loc_s k (by omega) j hj).2]
    obtain ⟨q0, q1, q2, q3⟩ := hs k hlt
    match j, hj with
    | 0, _ => exact q0
    | 1, _ => exact q1
    | 2, _ => exact q2
    | 3, _ => exact q3
/-- one place is written on both sides -/
theorem up_cL (h : cL ζ σ b) {K v : Nat} (hK : K < 138) (h4 : K ≠ 4) (h5 : K ≠ 5) : cL (upN ζ K v) (up2 σ (b + locR K) (locI K) (nI v)) b := by
  intro L hL hl
  rw [upN_ne (Ne.symm h4), upN_ne (Ne.symm h5)] at hl
  by_cases hKL : L = K
  · subst hKL
    rw [up2_eq, upN_eq]
  · rw [upN_ne hKL]
    by_cases hr : locR L = locR K
    · have hi : locI L ≠ locI K := fun z => hKL (loc_inj' L hL K hK hr z)
      rw [hr, up2_k hi, ← hr]
      exact h L hL hl
    · rw [up2_c (show b + locR L ≠ b + locR K by omega)]
      exact h L hL hl
/-- the number of boards, of sleepers is written -/
theorem up4_cL (h : cL ζ σ b) {v : Nat} (hn : ∀ K, K < 138 → K ≠ 4 → K < 6 + 5 * v → ¬ liv (ζ 4) (ζ 5) K → σ (b + locR K) (locI K) = nI (ζ K)) : cL (upN ζ 4 v) (up2 σ (b + 3) 0 (nI v)) b := by
  intro L hL hl
  rw [upN_eq, upN_ne (show 5 ≠ 4 by decide)] at hl
  by_cases hKL : L = 4
  · subst hKL
    exact (up2_eq (c := b + 3) (k := 0)).trans (by rw [upN_eq])
  · rw [upN_ne hKL]
    have : ¬ (locR L = 3 ∧ locI L = 0) := fun z => hKL (loc_inj' L hL 4 (by decide) z.1 z.2)
    have e : up2 σ (b + 3) 0 (nI v) (b + locR L) (locI L) = σ (b + locR L) (locI L) := by
      by_cases hr : locR L = 3
      · rw [hr, up2_k (fun z => this ⟨hr, z⟩)]
      · rw [up2_c (show b + locR L ≠ b + 3 by omega)]
    rw [e]
    by_cases hlv : liv (ζ 4) (ζ 5) L
    · exact h L hL hlv
    · refine hn L hL hKL ?_ hlv
      rcases hl with w | w
      · exact w
      · exact absurd (Or.inr w) hlv
theorem up5_cL (h : cL ζ σ b) {v : Nat} (hn : ∀ K, 118 ≤ K → K < 118 + 4 * v → K < 138 → ¬ liv (ζ 4) (ζ 5) K → σ (b + locR K) (locI K) = nI (ζ K)) : cL (upN ζ 5 v) (up2 σ (b + 23) 0 (nI v)) b := by
  intro L hL hl
  rw [upN_eq, upN_ne (show 4 ≠ 5 by decide)] at hl
  by_cases hKL : L = 5
  · subst hKL
    exact (up2_eq (c := b + 23) (k := 0)).trans (by rw [upN_eq])
  · rw [upN_ne hKL]
    have : ¬ (locR L = 23 ∧ locI L = 0) := fun z => hKL (loc_inj' L hL 5 (by decide) z.1 z.2)
    have e : up2 σ (b + 23) 0 (nI v) (b + locR L) (locI L) = σ (b + locR L) (locI L) := by
      by_cases hr : locR L = 23
      · rw [hr, up2_k (fun z => this ⟨hr, z⟩)]
      · rw [up2_c (show b + locR L ≠ b + 23 by omega)]
    rw [e]
    by_cases hlv : liv (ζ 4) (ζ 5) L
    · exact h L hL hlv
    · have h118 : 118 ≤ L := by
        refine Nat.le_of_not_lt fun z => hlv ?_
        rcases hl with w | w
        · exact Or.inl w
        · exact Or.inr (by omega)
      refine hn L h118 ?_ hL hlv
      rcases hl with w | w
      · exact absurd (Or.inl w) hlv
      · exact w.2
theorem cL_rows (h : cL ζ σ b) {σ' : gS} (hs : ∀ j, b ≤ j → j < b + 32 → σ' j = σ j) : cL ζ σ' b := fun K hK hl => by
  rw [hs (b + locR K) (by omega) (by have := locR_lt K hK; omega)]
  exact h K hK hl
theorem cX_rows (hI : zI ζ) (h : cX ζ σ b) {σ' : gS} (hs : ∀ j, b ≤ j → j < b + 32 → σ' j = σ j) : cX ζ σ' b := cL_cX hI.nb hI.ns (cL_rows (cX_cL hI.nb hI.ns h) hs) fun k hk => by
  rw [hs (b + 9) (by omega) (by omega)]
  exact cX_eL h k hk
end PL
