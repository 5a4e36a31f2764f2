/-! the view: the check's row of 138 numbers, as naturals; what the class's attic at a cell and the check's row are to it -/
abbrev bd (ζ : Nat → Nat) (b k : Nat) : Nat := ζ (6 + 5 * b + k)
abbrev gh (ζ : Nat → Nat) (g k : Nat) : Nat := ζ (106 + 3 * g + k)
abbrev sl (ζ : Nat → Nat) (s k : Nat) : Nat := ζ (118 + 4 * s + k)
def zI (ζ : Nat → Nat) : Prop := ζ 4 ≤ 20 ∧ ζ 5 ≤ 5 ∧ (10 ≤ ζ 0 ∧ ζ 0 ≤ 200) ∧ ζ 1 ≤ 60 ∧ (∀ b, b < ζ 4 → bd ζ b 0 < bd ζ b 1 ∧ bd ζ b 1 < 10 ∧ (1 ≤ bd ζ b 2 ∧ bd ζ b 2 ≤ 9) ∧ (1 ≤ bd ζ b 3 ∧ bd ζ b 3 ≤ 9)) ∧ (∀ g, g < 4 → gh ζ g 0 < 10 ∧ gh ζ g 1 < 2 ^ ζ 4) ∧ (∀ s, s < ζ 5 → sl ζ s 0 < 10 ∧ (1 ≤ sl ζ s 1 ∧ sl ζ s 1 ≤ 9) ∧ sl ζ s 2 ≤ 60)
def ends (ζ : Nat → Nat) (b : Nat) : Nat := 2 ^ bd ζ b 0 ||| 2 ^ bd ζ b 1
def cX (ζ : Nat → Nat) (σ : gS) (b : Nat) : Prop := (σ b 0 = nI (ζ 2) ∧ σ b 1 = nI (ζ 3) ∧ σ (b + 2) 0 = nI (ζ 0) ∧ σ (b + 2) 1 = nI (ζ 1) ∧ σ (b + 3) 0 = nI (ζ 4) ∧ σ (b + 23) 0 = nI (ζ 5)) ∧ (∀ k, k < ζ 4 → σ (b + 5) k = nI (bd ζ k 0) ∧ σ (b + 7) k = nI (bd ζ k 1) ∧ σ (b + 11) k = nI (bd ζ k 2) ∧ σ (b + 13) k = nI (bd ζ k 3) ∧ σ (b + 15) k = nI (bd ζ k 4) ∧ σ (b + 9) k = nI (ends ζ k)) ∧ (∀ g, g < 4 → σ (b + 18) g = nI (gh ζ g 0) ∧ σ (b + 20) g = nI (gh ζ g 1) ∧ σ (b + 22) g = nI (gh ζ g 2)) ∧ (∀ s, s < ζ 5 → σ (b + 25) s = nI (sl ζ s 0) ∧ σ (b + 27) s = nI (sl ζ s 1) ∧ σ (b + 29) s = nI (sl ζ s 2) ∧ σ (b + 31) s = nI (sl ζ s 3))
theorem zI.b {ζ : Nat → Nat} (h : zI ζ) {b : Nat} (hb : b < ζ 4) : bd ζ b 0 < bd ζ b 1 ∧ bd ζ b 1 < 10 ∧ (1 ≤ bd ζ b 2 ∧ bd ζ b 2 ≤ 9) ∧ (1 ≤ bd ζ b 3 ∧ bd ζ b 3 ≤ 9) := h.2.2.2.2.1 b hb
theorem zI.g {ζ : Nat → Nat} (h : zI ζ) {g : Nat} (hg : g < 4) : gh ζ g 0 < 10 ∧ gh ζ g 1 < 2 ^ ζ 4 := h.2.2.2.2.2.1 g hg
theorem zI.s {ζ : Nat → Nat} (h : zI ζ) {s : Nat} (hs : s < ζ 5) : sl ζ s 0 < 10 ∧ (1 ≤ sl ζ s 1 ∧ sl ζ s 1 ≤ 9) ∧ sl ζ s 2 ≤ 60 := h.2.2.2.2.2.2 s hs
theorem zI.nb {ζ : Nat → Nat} (h : zI ζ) : ζ 4 ≤ 20 := h.1
theorem zI.ns {ζ : Nat → Nat} (h : zI ζ) : ζ 5 ≤ 5 := h.2.1
theorem zI.cr {ζ : Nat → Nat} (h : zI ζ) {g : Nat} (hg : g < 4) : gh ζ g 1 < 2 ^ 20 := Nat.lt_of_lt_of_le (h.g hg).2 (Nat.pow_le_pow_right (by decide) h.nb)
section VX
variable {ζ : Nat → Nat} {σ : gS}
theorem x_nb (h : cX ζ σ 1) : σ 4 0 = nI (ζ 4) := h.1.2.2.2.2.1
theorem x_ns (h : cX ζ σ 1) : σ 24 0 = nI (ζ 5) := h.1.2.2.2.2.2
theorem x_min (h : cX ζ σ 1) : σ 1 0 = nI (ζ 2) := h.1.1
theorem x_bls (h : cX ζ σ 1) : σ 1 1 = nI (ζ 3) := h.1.2.1
theorem a_bell (h : cX ζ σ 1) : f_X5_at 2 2 0 σ = some (nI (ζ 0), σ) := by
  rw [show (0 : Int32) = nI 0 from rfl, at_nI (by decide) (by decide)]
  exact congrArg (fun x => some (x, σ)) h.1.2.2.1
theorem a_awk (h : cX ζ σ 1) : f_X5_at 2 2 1 σ = some (nI (ζ 1), σ) := by
  rw [show (1 : Int32) = nI 1 from rfl, at_nI (by decide) (by decide)]
  exact congrArg (fun x => some (x, σ)) h.1.2.2.2.1
theorem a_lo (h : cX ζ σ 1) (hI : zI ζ) {b : Nat} (hb : b < ζ 4) : f_X5_at 5 20 (nI b) σ = some (nI (bd ζ b 0), σ) := by
  rw [at_nI (by have := hI.nb; omega) (by decide)]
  exact congrArg (fun x => some (x, σ)) (h.2.1 b hb).1
theorem a_hi (h : cX ζ σ 1) (hI : zI ζ) {b : Nat} (hb : b < ζ 4) : f_X5_at 7 20 (nI b) σ = some (nI (bd ζ b 1), σ) := by
  rw [at_nI (by have := hI.nb; omega) (by decide)]
  exact congrArg (fun x => some (x, σ)) (h.2.1 b hb).2.1
theorem a_cr (h : cX ζ σ 1) (hI : zI ζ) {b : Nat} (hb : b < ζ 4) : f_X5_at 11 20 (nI b) σ = some (nI (bd ζ b 2), σ) := by
  rw [at_nI (by have := hI.nb; omega) (by decide)]
  exact congrArg (fun x => some (x, σ)) (h.2.1 b hb).2.2.1
theorem a_mi (h : cX ζ σ 1) (hI : zI ζ) {b : Nat} (hb : b < ζ 4) : f_X5_at 13 20 (nI b) σ = some (nI (bd ζ b 3), σ) := by
  rw [at_nI (by have := hI.nb; omega) (by decide)]
  exact congrArg (fun x => some (x, σ)) (h.2.1 b hb).2.2.2.1
theorem a_ck (h : cX ζ σ 1) (hI : zI ζ) {b : Nat} (hb : b < ζ 4) : f_X5_at 15 20 (nI b) σ = some (nI (bd ζ b 4), σ) := by
  rw [at_nI (by have := hI.nb; omega) (by decide)]
  exact congrArg (fun x => some (x, σ)) (h.2.1 b hb).2.2.2.2.1
theorem a_grm (h : cX ζ σ 1) {g : Nat} (hg : g < 4) : f_X5_at 18 4 (nI g) σ = some (nI (gh ζ g 0), σ) := by
  rw [at_nI hg (by decide)]
  exact congrArg (fun x => some (x, σ)) (h.2.2.1 g hg).1
theorem a_gcr (h : cX ζ σ 1) {g : Nat} (hg : g < 4) : f_X5_at 20 4 (nI g) σ = some (nI (gh ζ g 1), σ) := by
  rw [at_nI hg (by decide)]
  exact congrArg (fun x => some (x, σ)) (h.2.2.1 g hg).2.1
theorem a_gcs (h : cX ζ σ 1) {g : Nat} (hg : g < 4) : f_X5_at 22 4 (nI g) σ = some (nI (gh ζ g 2), σ) := by
  rw [at_nI hg (by decide)]
  exact congrArg (fun x => some (x, σ)) (h.2.2.1 g hg).2.2
theorem a_srm (h : cX ζ σ 1) (hI : zI ζ) {s : Nat} (hs : s < ζ 5) : f_X5_at 25 5 (nI s) σ = some (nI (sl ζ s 0), σ) := by
  rw [at_nI (by have := hI.ns; omega) (by decide)]
  exact congrArg (fun x => some (x, σ)) (h.2.2.2 s hs).1
theorem a_ear (h : cX ζ σ 1) (hI : zI ζ) {s : Nat} (hs : s < ζ 5) : f_X5_at 27 5 (nI s) σ = some (nI (sl ζ s 1), σ) := by
  rw [at_nI (by have := hI.ns; omega) (by decide)]
  exact congrArg (fun x => some (x, σ)) (h.2.2.2 s hs).2.1
theorem a_saw (h : cX ζ σ 1) (hI : zI ζ) {s : Nat} (hs : s < ζ 5) : f_X5_at 29 5 (nI s) σ = some (nI (sl ζ s 2), σ) := by
  rw [at_nI (by have := hI.ns; omega) (by decide)]
  exact congrArg (fun x => some (x, σ)) (h.2.2.2 s hs).2.2.1
theorem a_swk (h : cX ζ σ 1) (hI : zI ζ) {s : Nat} (hs : s < ζ 5) : f_X5_at 31 5 (nI s) σ = some (nI (sl ζ s 3), σ) := by
  rw [at_nI (by have := hI.ns; omega) (by decide)]
  exact congrArg (fun x => some (x, σ)) (h.2.2.2 s hs).2.2.2
/-! the class: sets of boards and rooms -/
theorem x_all (h : cX ζ σ 1) (hI : zI ζ) : f_X1_all σ = some (nI (2 ^ ζ 4 - 1), σ) := by
  unfold f_X1_all
  rw [x_nb h, shl1 _ (by have := hI.nb; omega), show (1 : Int32) = nI 1 from rfl, pk_sub (Nat.two_pow_pos _)]
theorem ends_lt (hI : zI ζ) {b : Nat} (hb : b < ζ 4) : ends ζ b < 2 ^ 10 := Nat.or_lt_two_pow (p2_lt (by have := hI.b hb; omega)) (p2_lt (hI.b hb).2.1)
theorem ends_bit {b r : Nat} : (ends ζ b).testBit r = (decide (bd ζ b 0 = r) || decide (bd ζ b 1 = r)) := by
  unfold ends
  rw [Nat.testBit_or, Nat.testBit_two_pow, Nat.testBit_two_pow]
theorem x_ends (h : cX ζ σ 1) (hI : zI ζ) {b : Nat} (hb : b < ζ 4) : f_X5_at 9 20 (nI b) σ = some (nI (ends ζ b), σ) := by
  rw [at_nI (by have := hI.nb; omega) (by decide)]
  exact congrArg (fun x => some (x, σ)) (h.2.1 b hb).2.2.2.2.2
def oth (ζ : Nat → Nat) (b r : Nat) : Nat := if bd ζ b 0 = r then bd ζ b 1 else bd ζ b 0
theorem oth_lt (hI : zI ζ) {b r : Nat} (hb : b < ζ 4) : oth ζ b r < 10 := by
  have hh := hI.b hb
  unfold oth
  split <;> omega
theorem x_beyond (h : cX ζ σ 1) (hI : zI ζ) {b r : Nat} (hb : b < ζ 4) (hr : r < 2 ^ 31) : f_X1_beyond (nI b) (nI r) σ = some (nI (oth ζ b r), σ) := by
  have hh := hI.b hb
  unfold f_X1_beyond oth
  rw [a_lo h hI hb, ob_some]
  dsimp only
  by_cases hc : bd ζ b 0 = r
  · rw [if_pos (by rw [hc]), if_pos hc, a_hi h hI hb]
    rfl
  · rw [if_neg (fun z => hc ((n_inj (by omega) (by omega)).mp z)), if_neg hc, a_lo h hI hb]
    rfl
def touch (ζ : Nat → Nat) (R : Nat) : Nat := mk (fun b => decide (ends ζ b &&& R ≠ 0)) (ζ 4)
theorem x_touching (h : cX ζ σ 1) (hI : zI ζ) {R : Nat} (hR : R < 2 ^ 31) : f_X1_touching (nI R) σ = some (nI (touch ζ R), σ) := by
  have hn := hI.nb
  unfold f_X1_touching
  refine lp0 (fun n i => f_X1_touching_L4 (nI R) n (nI (mk (fun b => decide (ends ζ b &&& R ≠ 0)) i)) (nI i) σ) (ζ 4) _ (by omega) (fun n i hi => ?_) (fun n => ?_)
  · rw [f_X1_touching_L4_s, x_nb h, if_neg (nI_ge hi (by omega)), x_ends h hI hi, ob_some]
    dsimp only
    rw [n_and, nI_1, mk_succ]
    have hlt : ends ζ i &&& R < 2 ^ 32 := Nat.lt_trans (Nat.and_lt_two_pow _ hR) (by decide)
    by_cases hc : ends ζ i &&& R = 0
    · rw [if_pos ((n_eq0 hlt).mpr hc), if_neg (by simp [hc]), Nat.or_zero]
    · rw [if_neg (fun z => hc ((n_eq0 hlt).mp z)), gLet_eq, shl1 _ (by omega), n_or, if_pos (by simpa using hc)]
  · rw [f_X1_touching_L4_s, x_nb h, if_pos (Int32.le_refl _)]
    rfl
end VX
