theorem n_le0 {a : Nat} (h : a = 0) : nI a ≤ 0 := by
  subst h
  exact Int32.le_refl _
section SX
variable {ζ : Nat → Nat} {σ : gS}
theorem holds_nI {m k : Nat} (hm : m < 2 ^ 31) (hk : k < 32) : f_X10_holds (nI m) (nI k) σ = some (nI (if m.testBit k then 1 else 0), σ) := by
  unfold f_X10_holds
  by_cases hc : m.testBit k = true
  · rw [if_neg (by rw [hbit0 hm hk, hc]; decide), if_pos hc]
    rfl
  · rw [if_pos ((hbit0 hm hk).mpr (by simpa using hc)), if_neg hc]
    rfl
theorem holds_t {m k : Nat} (hm : m < 2 ^ 31) (hk : k < 32) (h : m.testBit k = true) : f_X10_holds (nI m) (nI k) σ = some (1, σ) := by
  rw [holds_nI hm hk, if_pos h]
  rfl
theorem holds_f {m k : Nat} (hm : m < 2 ^ 31) (hk : k < 32) (h : ¬ m.testBit k = true) : f_X10_holds (nI m) (nI k) σ = some (0, σ) := by
  rw [holds_nI hm hk, if_neg h]
  rfl
/-- rooms that are watched -/
def wat (ζ : Nat → Nat) : Nat := orF (fun s => if 0 < sl ζ s 2 then 2 ^ sl ζ s 0 else 0) (ζ 5)
theorem wat_lt (hI : zI ζ) : wat ζ < 2 ^ 10 := orF_lt fun i hi => by
  have := hI.s hi
  split
  · exact p2_lt this.1
  · decide
theorem x_wat (h : cX ζ σ 1) (hI : zI ζ) : f_X7_watchedRooms σ = some (nI (wat ζ), σ) := by
  have hn := hI.ns
  unfold f_X7_watchedRooms
  refine lp0 (fun n i => f_X7_watchedRooms_L4 n (nI (orF (fun s => if 0 < sl ζ s 2 then 2 ^ sl ζ s 0 else 0) i)) (nI i) σ) (ζ 5) _ (by omega) (fun n i hi => ?_) (fun n => ?_)
  · have hs := hI.s hi
    rw [f_X7_watchedRooms_L4_s, x_ns h, if_neg (nI_ge hi (by omega)), a_saw h hI hi, ob_some]
    dsimp only
    rw [nI_1, orF]
    by_cases hc : 0 < sl ζ i 2
    · rw [if_neg (show ¬ nI (sl ζ i 2) ≤ 0 from nI_nle hc (by omega)), a_srm h hI hi, ob_some]
      dsimp only
      rw [gLet_eq, shl1 _ (by omega), n_or, if_pos hc]
    · rw [if_pos (show nI (sl ζ i 2) ≤ (0 : Int32) from n_le0 (by omega)), if_neg hc, Nat.or_zero]
  · rw [f_X7_watchedRooms_L4_s, x_ns h, if_pos (Int32.le_refl _)]
    rfl
def awk (ζ : Nat → Nat) : Nat := mk (fun s => decide (0 < sl ζ s 2)) (ζ 5)
theorem x_awake (h : cX ζ σ 1) (hI : zI ζ) : f_X7_whoAreAwake σ = some (nI (awk ζ), σ) := by
  have hn := hI.ns
  unfold f_X7_whoAreAwake
  refine lp0 (fun n i => f_X7_whoAreAwake_L4 n (nI (mk (fun s => decide (0 < sl ζ s 2)) i)) (nI i) σ) (ζ 5) _ (by omega) (fun n i hi => ?_) (fun n => ?_)
  · have hs := hI.s hi
    rw [f_X7_whoAreAwake_L4_s, x_ns h, if_neg (nI_ge hi (by omega)), a_saw h hI hi, ob_some]
    dsimp only
    rw [nI_1, mk_succ]
    by_cases hc : 0 < sl ζ i 2
    · rw [if_neg (show ¬ nI (sl ζ i 2) ≤ 0 from nI_nle hc (by omega)), gLet_eq, shl1 _ (by omega), n_or, if_pos (decide_eq_true hc)]
    · rw [if_pos (show nI (sl ζ i 2) ≤ (0 : Int32) from n_le0 (by omega)), if_neg (by simpa using hc), Nat.or_zero]
  · rw [f_X7_whoAreAwake_L4_s, x_ns h, if_pos (Int32.le_refl _)]
    rfl
/-- the boards that are left to a ghost, that are free to it, that are free to it at its room -/
def lft (ζ : Nat → Nat) (g : Nat) : Nat := dif (2 ^ ζ 4 - 1) (gh ζ g 1)
theorem all_lt (hI : zI ζ) : 2 ^ ζ 4 - 1 < 2 ^ 20 := by
  have h1 : 2 ^ ζ 4 ≤ 2 ^ 20 := Nat.pow_le_pow_right (by decide) hI.nb
  have h2 := Nat.two_pow_pos (ζ 4)
  omega
theorem lft_lt (hI : zI ζ) (g : Nat) : lft ζ g < 2 ^ 20 := dif_le (all_lt hI)
theorem lft_bit (hI : zI ζ) {g b : Nat} : (lft ζ g).testBit b = (decide (b < ζ 4) && !(gh ζ g 1).testBit b) := by
  unfold lft
  rw [dif_bit (lt31 (all_lt hI) (by decide)), Nat.testBit_two_pow_sub_one]
def fre (ζ : Nat → Nat) (g : Nat) : Nat := mk (fun b => !(gh ζ g 1).testBit b && (!(wat ζ).testBit (bd ζ b 0) && !(wat ζ).testBit (bd ζ b 1))) (ζ 4)
theorem fre_lt (hI : zI ζ) (g : Nat) : fre ζ g < 2 ^ 20 := mk_lt' hI.nb
theorem touch_lt (hI : zI ζ) (R : Nat) : touch ζ R < 2 ^ 20 := mk_lt' hI.nb
theorem and_ne {a b : Nat} : a &&& b ≠ 0 ↔ ∃ i, a.testBit i = true ∧ b.testBit i = true := by
  constructor
  · intro h
    obtain ⟨i, hi⟩ := Nat.exists_testBit_of_ne_zero h
    rw [Nat.testBit_and, Bool.and_eq_true] at hi
    exact ⟨i, hi⟩
  · rintro ⟨i, h1, h2⟩ h0
    have : (a &&& b).testBit i = true := by rw [Nat.testBit_and, h1, h2]; rfl
    rw [h0] at this
    simp at this
theorem ends_and {b R : Nat} : ends ζ b &&& R ≠ 0 ↔ R.testBit (bd ζ b 0) = true ∨ R.testBit (bd ζ b 1) = true := by
  rw [and_ne]
  simp only [ends_bit, Bool.or_eq_true, decide_eq_true_eq]
  constructor
  · rintro ⟨i, (rfl | rfl), h⟩
    · exact Or.inl h
    · exact Or.inr h
  · rintro (h | h)
    · exact ⟨_, Or.inl rfl, h⟩
    · exact ⟨_, Or.inr rfl, h⟩
theorem touch_bit {R b : Nat} : (touch ζ R).testBit b = (decide (b < ζ 4) && (R.testBit (bd ζ b 0) || R.testBit (bd ζ b 1))) := by
  unfold touch
  rw [mk_bit]
  congr 1
  rw [Bool.eq_iff_iff, decide_eq_true_eq, ends_and, Bool.or_eq_true]
theorem x_left (h : cX ζ σ 1) (hI : zI ζ) {g : Nat} (hg : g < 4) : f_X0_leftTo (nI g) σ = some (nI (lft ζ g), σ) := by
  unfold f_X0_leftTo
  rw [x_all h hI, ob_some, a_gcr h hg, ob_some]
  dsimp only
  rw [n_dif]
  rfl
theorem x_free (h : cX ζ σ 1) (hI : zI ζ) {g : Nat} (hg : g < 4) : f_X0_freeTo (nI g) σ = some (nI (fre ζ g), σ) := by
  unfold f_X0_freeTo
  rw [x_left h hI hg, ob_some, x_wat h hI, ob_some, x_touching h hI (lt31 (wat_lt hI) (by decide)), ob_some]
  dsimp only
  rw [n_dif]
  congr 3
  apply bit_ext
  intro i
  rw [dif_bit (lt31 (lft_lt hI g) (by decide)), lft_bit hI, touch_bit, fre, mk_bit]
  cases decide (i < ζ 4) <;> cases (gh ζ g 1).testBit i <;> cases (wat ζ).testBit (bd ζ i 0) <;> cases (wat ζ).testBit (bd ζ i 1) <;> rfl
def fat (ζ : Nat → Nat) (g : Nat) : Nat := fre ζ g &&& touch ζ (2 ^ gh ζ g 0)
theorem fat_lt (hI : zI ζ) (g : Nat) : fat ζ g < 2 ^ 20 := Nat.and_lt_two_pow _ (touch_lt hI _)
theorem x_fat (h : cX ζ σ 1) (hI : zI ζ) {g : Nat} (hg : g < 4) : f_X0_freeAtRoomOf (nI g) σ = some (nI (fat ζ g), σ) := by
  have hh := hI.g hg
  unfold f_X0_freeAtRoomOf
  rw [x_free h hI hg, ob_some, a_grm h hg, ob_some]
  dsimp only
  rw [shl1 _ (by omega), x_touching h hI (lt31 (p2_lt hh.1) (by decide)), ob_some]
  dsimp only
  rw [n_and]
  rfl
def ffo (ζ : Nat → Nat) (b : Nat) : Nat := mk (fun g => (fre ζ g).testBit b) 4
theorem x_ffo (h : cX ζ σ 1) (hI : zI ζ) {b : Nat} (hb : b < ζ 4) : f_X0_ghostsFreeFor (nI b) σ = some (nI (ffo ζ b), σ) := by
  have hn := hI.nb
  unfold f_X0_ghostsFreeFor
  refine lp0 (fun n i => f_X0_ghostsFreeFor_L4 (nI b) n (nI (mk (fun g => (fre ζ g).testBit b) i)) (nI i) σ) 4 _ (by omega) (fun n i hi => ?_) (fun n => ?_)
  · rw [f_X0_ghostsFreeFor_L4_s, if_neg (show ¬ (4 : Int32) ≤ nI i from nI_ge hi (by decide)), x_free h hI hi, ob_some]
    dsimp only
    rw [nI_1, mk_succ]
    by_cases hc : (fre ζ i).testBit b = true
    · rw [holds_t (lt31 (fre_lt hI i) (by decide)) (by omega) hc, ob_some]
      dsimp only
      rw [if_neg (by decide), gLet_eq, shl1 _ (by omega), n_or, if_pos hc]
    · rw [holds_f (lt31 (fre_lt hI i) (by decide)) (by omega) hc, ob_some]
      dsimp only
      rw [if_pos rfl, if_neg hc, Nat.or_zero]
  · rw [f_X0_ghostsFreeFor_L4_s, if_pos (show (4 : Int32) ≤ nI 4 from Int32.le_refl _)]
    rfl
def whc (ζ : Nat → Nat) (b : Nat) : Nat := mk (fun g => (gh ζ g 1).testBit b) 4
theorem x_whc (h : cX ζ σ 1) (hI : zI ζ) {b : Nat} (hb : b < ζ 4) : f_X2_whoCrossed (nI b) σ = some (nI (whc ζ b), σ) := by
  have hn := hI.nb
  unfold f_X2_whoCrossed
  refine lp0 (fun n i => f_X2_whoCrossed_L4 (nI b) n (nI (mk (fun g => (gh ζ g 1).testBit b) i)) (nI i) σ) 4 _ (by omega) (fun n i hi => ?_) (fun n => ?_)
  · rw [f_X2_whoCrossed_L4_s, if_neg (show ¬ (4 : Int32) ≤ nI i from nI_ge hi (by decide)), a_gcr h hi, ob_some]
    dsimp only
    rw [nI_1, mk_succ]
    by_cases hc : (gh ζ i 1).testBit b = true
    · rw [holds_t (lt31 (hI.cr hi) (by decide)) (by omega) hc, ob_some]
      dsimp only
      rw [if_neg (by decide), gLet_eq, shl1 _ (by omega), n_or, if_pos hc]
    · rw [holds_f (lt31 (hI.cr hi) (by decide)) (by omega) hc, ob_some]
      dsimp only
      rw [if_pos rfl, if_neg hc, Nat.or_zero]
  · rw [f_X2_whoCrossed_L4_s, if_pos (show (4 : Int32) ≤ nI 4 from Int32.le_refl _)]
    rfl
def qui (ζ : Nat → Nat) (k : Nat) : Nat := mk (fun b => decide (bd ζ b 2 ≤ k)) (ζ 4)
theorem x_qui (h : cX ζ σ 1) (hI : zI ζ) {k : Nat} (hk : k < 2 ^ 31) : f_X1_atMostAsLoud (nI k) σ = some (nI (qui ζ k), σ) := by
  have hn := hI.nb
  unfold f_X1_atMostAsLoud
  refine lp0 (fun n i => f_X1_atMostAsLoud_L4 (nI k) n (nI (mk (fun b => decide (bd ζ b 2 ≤ k)) i)) (nI i) σ) (ζ 4) _ (by omega) (fun n i hi => ?_) (fun n => ?_)
  · have hb := hI.b hi
    rw [f_X1_atMostAsLoud_L4_s, x_nb h, if_neg (nI_ge hi (by omega)), a_cr h hI hi, ob_some]
    dsimp only
    rw [nI_1, mk_succ]
    by_cases hc : bd ζ i 2 ≤ k
    · rw [if_neg (nI_nlt hc hk), gLet_eq, shl1 _ (by omega), n_or, if_pos (decide_eq_true hc)]
    · rw [if_pos (nI_lt (by omega) (by omega)), if_neg (by simpa using hc), Nat.or_zero]
  · rw [f_X1_atMostAsLoud_L4_s, x_nb h, if_pos (Int32.le_refl _)]
    rfl
def atB (ζ : Nat → Nat) (b r : Nat) : Bool := decide (bd ζ b 0 = r) || decide (bd ζ b 1 = r)
def frB (ζ : Nat → Nat) (g b : Nat) : Bool := !(gh ζ g 1).testBit b && (!(wat ζ).testBit (bd ζ b 0) && !(wat ζ).testBit (bd ζ b 1))
theorem fre_frB {g b : Nat} : (fre ζ g).testBit b = (decide (b < ζ 4) && frB ζ g b) := mk_bit
end SX
