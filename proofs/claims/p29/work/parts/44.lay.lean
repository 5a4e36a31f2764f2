section LA
variable {ζ : Nat → Nat} {x m : gS} {B : Nat}
/-- the places P of the class hold ζ -/
def cP (P : Nat → Prop) (ζ : Nat → Nat) (σ : gS) : Prop := ∀ K, K < 138 → P K → σ (1 + locR K) (locI K) = nI (ζ K)
theorem cP_of (hI : zI ζ) (h : cX ζ x 1) : cP (liv (ζ 4) (ζ 5)) ζ x := cX_cL hI.nb hI.ns h
theorem cP_to {P : Nat → Prop} (hI : zI ζ) (h : cP P ζ x) (hP : ∀ K, K < 138 → liv (ζ 4) (ζ 5) K → P K) (he : eL ζ x 1) : cX ζ x 1 := cL_cX hI.nb hI.ns (fun K hK hl => h K hK (hP K hK hl)) he
/-- what is no room of a board leaves the row of both rooms as it was -/
theorem eL_up (hI : zI ζ) (he : eL ζ x 1) {K v r i : Nat} {w : Int32} (h4 : K ≠ 4) (hb : ∀ k, k < 20 → K ≠ 6 + 5 * k ∧ K ≠ 6 + 5 * k + 1) (hr : r ≠ 10) : eL (upN ζ K v) (up2 x r i w) 1 := by
  intro k hk
  have hn := hI.nb
  rw [upN_ne (Ne.symm h4)] at hk
  have h2 := hb k (by omega)
  rw [up2_c (show 1 + 9 ≠ r by omega), he k hk]
  unfold ends bd
  rw [upN_ne (show 6 + 5 * k + 0 ≠ K by omega), upN_ne (show 6 + 5 * k + 1 ≠ K by omega)]
theorem cP_up {P : Nat → Prop} (h : cP P ζ x) {K v r i : Nat} (hK : K < 138) (hr : r = 1 + locR K) (hi : i = locI K) : cP (fun L => P L ∨ L = K) (upN ζ K v) (up2 x r i (nI v)) := by
  subst hr
  subst hi
  intro L hL hl
  by_cases hKL : L = K
  · subst hKL
    rw [up2_eq, upN_eq]
  · rw [upN_ne hKL]
    have hP := hl.resolve_right hKL
    by_cases hrr : locR L = locR K
    · have hii : locI L ≠ locI K := fun z => hKL (loc_inj' L hL K hK hrr z)
      rw [hrr, up2_k hii, ← hrr]
      exact h L hL hP
    · rw [up2_c (show 1 + locR L ≠ 1 + locR K by omega)]
      exact h L hL hP
/-- the class's rows beside the attic -/
def atX (x x' : gS) : Prop := ∀ j, (j = 0 ∨ 33 ≤ j) → x' j = x j
theorem atX.rf : atX x x := fun _ _ => rfl
theorem atX.tr {a b c : gS} (h1 : atX a b) (h2 : atX b c) : atX a c := fun j h => (h2 j h).trans (h1 j h)
theorem atX_up {r i : Nat} {v : Int32} (h0 : 0 < r) (h1 : r < 33) : atX x (up2 x r i v) := fun j h => up2_row (by omega)
/-- the check's rows beside its first -/
def atM (m m' : gS) : Prop := (∀ j, 2 ≤ j → j ≤ 5 → m' j = m j) ∧ m' 0 2 = m 0 2 ∧ m' 0 6 = m 0 6
theorem atM.rf : atM m m := ⟨fun _ _ _ => rfl, rfl, rfl⟩
theorem atM.tr {a b c : gS} (h1 : atM a b) (h2 : atM b c) : atM a c := ⟨fun j x y => (h2.1 j x y).trans (h1.1 j x y), h2.2.1.trans h1.2.1, h2.2.2.trans h1.2.2⟩
theorem rest.at {x' m' : gS} (h : rest B x m) (hx : atX x x') (hm : atM m m') : rest B x' m' := h.fr (by rw [hx 0 (Or.inl rfl)]) (fun j a _ => hx j (Or.inr a)) hm.1 hm.2.1 hm.2.2
theorem zI_up {K v : Nat} (hI : zI ζ) (h4 : K ≠ 4) (h5 : K ≠ 5) (k0 : K = 0 → 10 ≤ v ∧ v ≤ 200) (k1 : K = 1 → v ≤ 60) (hb : ∀ b, b < ζ 4 → ∀ j, j < 4 → K ≠ 6 + 5 * b + j) (hg0 : ∀ g, g < 4 → K = 106 + 3 * g → v < 10) (hg1 : ∀ g, g < 4 → K = 106 + 3 * g + 1 → v < 2 ^ ζ 4) (hs : ∀ s, s < ζ 5 → ∀ j, j < 2 → K ≠ 118 + 4 * s + j) (hs2 : ∀ s, s < ζ 5 → K = 118 + 4 * s + 2 → v ≤ 60) : zI (upN ζ K v) := by
  obtain ⟨i1, i2, i3, i4, i5, i6, i7⟩ := hI
  have n4 : upN ζ K v 4 = ζ 4 := upN_ne (Ne.symm h4)
  have n5 : upN ζ K v 5 = ζ 5 := upN_ne (Ne.symm h5)
  refine ⟨by rw [n4]; exact i1, by rw [n5]; exact i2, ?_, ?_, fun b hb4 => ?_, fun g hg => ?_, fun s hs5 => ?_⟩
  · by_cases q : K = 0
    · subst q
      rw [upN_eq]
      exact k0 rfl
    · rw [upN_ne (Ne.symm q)]
      exact i3
  · by_cases q : K = 1
    · subst q
      rw [upN_eq]
      exact k1 rfl
    · rw [upN_ne (Ne.symm q)]
      exact i4
  · rw [n4] at hb4
    have := i5 b hb4
    unfold bd at this ⊢
    rw [upN_ne (Ne.symm (hb b hb4 0 (by decide))), upN_ne (Ne.symm (hb b hb4 1 (by decide))), upN_ne (Ne.symm (hb b hb4 2 (by decide))), upN_ne (Ne.symm (hb b hb4 3 (by decide)))]
    exact this
  · have := i6 g hg
    rw [n4]
    unfold gh at this ⊢
    constructor
    · by_cases q : K = 106 + 3 * g + 0
      · subst q
        rw [upN_eq]
        exact hg0 g hg rfl
      · rw [upN_ne (Ne.symm q)]
        exact this.1
    · by_cases q : K = 106 + 3 * g + 1
      · subst q
        rw [upN_eq]
        exact hg1 g hg rfl
      · rw [upN_ne (Ne.symm q)]
        exact this.2
  · rw [n5] at hs5
    have := i7 s hs5
    unfold sl at this ⊢
    rw [upN_ne (Ne.symm (hs s hs5 0 (by decide))), upN_ne (Ne.symm (hs s hs5 1 (by decide)))]
    refine ⟨this.1, this.2.1, ?_⟩
    by_cases q : K = 118 + 4 * s + 2
    · subst q
      rw [upN_eq]
      exact hs2 s hs5 rfl
    · rw [upN_ne (Ne.symm q)]
      exact this.2.2
theorem atM_up {m : gS} {K : Nat} {v : Int32} : atM m (up2 m 1 K v) := ⟨fun j a b => up2_row (by omega), by rw [up2_row (show 0 ≠ 1 by decide)], by rw [up2_row (show 0 ≠ 1 by decide)]⟩
/-- one sleeper more -/
def slZ (ζ : Nat → Nat) (r e : Nat) : Nat → Nat := upN (upN (upN (upN (upN ζ (118 + 4 * ζ 5) r) (118 + 4 * ζ 5 + 1) e) (118 + 4 * ζ 5 + 2) 0) (118 + 4 * ζ 5 + 3) 0) 5 (ζ 5 + 1)
theorem slZ_I (hI : zI ζ) (h5 : ζ 5 < 5) {r e : Nat} (hr : r < 10) (he : 1 ≤ e ∧ e ≤ 9) : zI (slZ ζ r e) := by
  obtain ⟨i1, i2, i3, i4, i5, i6, i7⟩ := hI
  have n : ∀ K, K ≠ 5 → (K < 118 + 4 * ζ 5 ∨ 118 + 4 * ζ 5 + 4 ≤ K) → slZ ζ r e K = ζ K := fun K h1 h2 => by
    unfold slZ
    rw [upN_ne h1, upN_ne (by omega), upN_ne (by omega), upN_ne (by omega), upN_ne (by omega)]
  have n5 : slZ ζ r e 5 = ζ 5 + 1 := upN_eq
  refine ⟨by rw [n 4 (by decide) (by omega)]; exact i1, by rw [n5]; omega, by rw [n 0 (by decide) (by omega)]; exact i3, by rw [n 1 (by decide) (by omega)]; exact i4, fun b hb => ?_, fun g hg => ?_, fun s hs => ?_⟩
  · rw [n 4 (by decide) (by omega)] at hb
    have := i5 b hb
    unfold bd at this ⊢
    rw [n _ (by omega) (by omega), n _ (by omega) (by omega), n _ (by omega) (by omega), n _ (by omega) (by omega)]
    exact this
  · have := i6 g hg
    rw [n 4 (by decide) (by omega)]
    unfold gh at this ⊢
    rw [n _ (by omega) (by omega), n _ (by omega) (by omega)]
    exact this
  · rw [n5] at hs
    unfold sl
    by_cases hq : s = ζ 5
    · subst hq
      have q0 : slZ ζ r e (118 + 4 * ζ 5 + 0) = r := by
        unfold slZ
        rw [upN_ne (by omega), upN_ne (by omega), upN_ne (by omega), upN_ne (by omega)]
        exact upN_eq
      have q1 : slZ ζ r e (118 + 4 * ζ 5 + 1) = e := by
        unfold slZ
        rw [upN_ne (by omega), upN_ne (by omega), upN_ne (by omega)]
        exact upN_eq
      have q2 : slZ ζ r e (118 + 4 * ζ 5 + 2) = 0 := by
        unfold slZ
        rw [upN_ne (by omega), upN_ne (by omega)]
        exact upN_eq
      rw [q0, q1, q2]
      exact ⟨hr, he, by decide⟩
    · have := i7 s (by omega)
      unfold sl at this
      rw [n _ (by omega) (by omega), n _ (by omega) (by omega), n _ (by omega) (by omega)]
      exact this
theorem x_app7 (hI : zI ζ) (hx : cX ζ x 1) (h5 : ζ 5 < 5) {r e : Nat} (hr : r < 10) (he : 1 ≤ e ∧ e ≤ 9) : ∃ x', f_X7_append (nI r) (nI e) x = some x' ∧ cX (slZ ζ r e) x' 1 ∧ atX x x' := by
  have hl : ∀ j, j < 4 → locR (118 + 4 * ζ 5 + j) = 25 + 2 * j ∧ locI (118 + 4 * ζ 5 + j) = ζ 5 := fun j hj => loc_s _ h5 j hj
  have e22 : x 24 0 = nI (ζ 5) := x_ns hx
  unfold f_X7_append
  rw [if_pos (show x 24 0 < 5 by rw [e22]; exact nI_lt (b := 5) h5 (by decide)), e22, store_nI h5 (by decide), ob_some, up2_c (show 24 ≠ 25 + 1 by decide), e22, store_nI h5 (by decide), ob_some, up2_c (show 24 ≠ 27 + 1 by decide), up2_c (show 24 ≠ 25 + 1 by decide), e22, store_nI h5 (by decide), ob_some, up2_c (show 24 ≠ 29 + 1 by decide), up2_c (show 24 ≠ 27 + 1 by decide), up2_c (show 24 ≠ 25 + 1 by decide), e22, store_nI h5 (by decide), ob_some, gLet_eq, up2_c (show 24 ≠ 31 + 1 by decide), up2_c (show 24 ≠ 29 + 1 by decide), up2_c (show 24 ≠ 27 + 1 by decide), up2_c (show 24 ≠ 25 + 1 by decide), e22, nI_1]
  have c1 := cP_up (cP_of hI hx) (K := 118 + 4 * ζ 5) (v := r) (r := 25 + 1) (i := ζ 5) (by omega) (by have := (hl 0 (by decide)).1; rw [Nat.add_zero] at this; rw [this]) (by have := (hl 0 (by decide)).2; rw [Nat.add_zero] at this; rw [this])
  have c2 := cP_up c1 (K := 118 + 4 * ζ 5 + 1) (v := e) (r := 27 + 1) (i := ζ 5) (by omega) (by rw [(hl 1 (by decide)).1]) (by rw [(hl 1 (by decide)).2])
  have c3 := cP_up c2 (K := 118 + 4 * ζ 5 + 2) (v := 0) (r := 29 + 1) (i := ζ 5) (by omega) (by rw [(hl 2 (by decide)).1]) (by rw [(hl 2 (by decide)).2])
  have c4 := cP_up c3 (K := 118 + 4 * ζ 5 + 3) (v := 0) (r := 31 + 1) (i := ζ 5) (by omega) (by rw [(hl 3 (by decide)).1]) (by rw [(hl 3 (by decide)).2])
  have c5 := cP_up c4 (K := 5) (v := ζ 5 + 1) (r := 24) (i := 0) (by decide) (by rfl) (by rfl)
  have hz4 : slZ ζ r e 4 = ζ 4 := by
    unfold slZ
    rw [upN_ne (by decide), upN_ne (by omega), upN_ne (by omega), upN_ne (by omega), upN_ne (by omega)]
  have hz5 : slZ ζ r e 5 = ζ 5 + 1 := upN_eq
  refine ⟨_, rfl, cP_to (slZ_I hI h5 hr he) c5 (fun K hK hlv => ?_) (fun k hk => ?_), ((((atX_up (by decide) (by decide)).tr (atX_up (by decide) (by decide))).tr (atX_up (by decide) (by decide))).tr (atX_up (by decide) (by decide))).tr (atX_up (by decide) (by decide))⟩
  · rw [hz4, hz5] at hlv
    unfold liv at hlv ⊢
    omega
  · rw [hz4] at hk
    have hn := hI.nb
    rw [up2_c (by decide), up2_c (by decide), up2_c (by decide), up2_c (by decide), up2_c (by decide), cX_eL hx k hk]
    have e0 : ∀ j, j < 2 → slZ ζ r e (6 + 5 * k + j) = ζ (6 + 5 * k + j) := fun j hj => by
      unfold slZ
      rw [upN_ne (by omega), upN_ne (by omega), upN_ne (by omega), upN_ne (by omega), upN_ne (by omega)]
    unfold ends bd
    rw [e0 0 (by decide), e0 1 (by decide)]
end LA
