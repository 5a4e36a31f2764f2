section RD
variable {ζ : Nat → Nat} {x m : gS} {B L : Nat} {c : Nat → Nat}
/-- sign i can stand where it stands -/
def st (c : Nat → Nat) (i : Nat) : Prop := if i % 5 = 0 then 97 ≤ c i ∧ c i ≤ 106 else if i % 5 = 1 then (97 ≤ c i ∧ c i ≤ 106) ∧ c i ≠ c (i - 1) else if i % 5 = 4 then c i = 59 else 49 ≤ c i ∧ c i ≤ 57
theorem wN {n a b : Nat} (hn : n < 2 ^ 31) (ha : a < 2 ^ 31) (hb : b < 2 ^ 31) : (a ≤ n ∧ n ≤ b → f_X10_isWithin (nI n) (nI a) (nI b) x = some (1, x) ∧ f_X11_in (nI n) (nI a) (nI b) m = some (1, m)) ∧ (¬ (a ≤ n ∧ n ≤ b) → f_X10_isWithin (nI n) (nI a) (nI b) x = some (0, x) ∧ f_X11_in (nI n) (nI a) (nI b) m = some (0, m)) := by
  rcases wi (nI n) (nI a) (nI b) a b rfl rfl ha hb x m with ⟨h1, h2⟩ | ⟨k, k1, k2, k3, h1, h2⟩
  · refine ⟨fun h => ?_, fun _ => ⟨h1, h2⟩⟩
    unfold f_X11_in at h2
    rw [if_neg (nI_nlt h.1 hn), if_neg (nI_nlt h.2 hb)] at h2
    exact absurd h2 (by simp)
  · have : n = k := (nI_eq hn (by omega)).mp k3
    exact ⟨fun _ => ⟨h1, h2⟩, fun h => absurd ⟨by omega, by omega⟩ h⟩
theorem x_letter {n : Nat} (hn : n < 2 ^ 31) : f_X4_isLetter (nI n) x = some ((if 97 ≤ n ∧ n ≤ 106 then 1 else 0), x) := by
  unfold f_X4_isLetter
  have := wN (x := x) (m := x) hn (show 97 < 2 ^ 31 by decide) (show 106 < 2 ^ 31 by decide)
  by_cases h : 97 ≤ n ∧ n ≤ 106
  · rw [show (97 : Int32) = nI 97 from rfl, show (106 : Int32) = nI 106 from rfl, (this.1 h).1, if_pos h]
    rfl
  · rw [show (97 : Int32) = nI 97 from rfl, show (106 : Int32) = nI 106 from rfl, (this.2 h).1, if_neg h]
    rfl
theorem x_stand (hL : L ≤ 60) (hc : ∀ k, k < L → c k ≤ 126 ∧ x 35 k = nI (c k)) {i : Nat} (hi : i < L) : ∃ r : Int32, f_X4_canStand (nI i) x = some (r, x) ∧ (st c i → r = 1) ∧ (¬ st c i → r = 0) := by
  have hci := hc i hi
  have hat : f_X5_at 34 60 (nI i) x = some (nI (c i), x) := by rw [at_nI (by omega) (by decide), hci.2]
  have hr : nI i - nI i / 5 * 5 = nI (i % 5) := pk_rem (d := 5) (by omega) (by decide) (by decide)
  have h5 : i % 5 < 5 := Nat.mod_lt _ (by decide)
  have dig : (Option.bind (f_X10_isWithin (nI (c i)) 49 57 x) (fun q4 => gGd (gbo q4.1) (some (q4.1, q4.2)))) = some ((if 49 ≤ c i ∧ c i ≤ 57 then 1 else 0), x) := by
    have := wN (x := x) (m := x) (show c i < 2 ^ 31 by omega) (show 49 < 2 ^ 31 by decide) (show 57 < 2 ^ 31 by decide)
    by_cases h : 49 ≤ c i ∧ c i ≤ 57
    · rw [show (49 : Int32) = nI 49 from rfl, show (57 : Int32) = nI 57 from rfl, (this.1 h).1, if_pos h]
      rfl
    · rw [show (49 : Int32) = nI 49 from rfl, show (57 : Int32) = nI 57 from rfl, (this.2 h).1, if_neg h]
      rfl
  unfold f_X4_canStand st
  rw [hat, ob_some]
  dsimp only
  rw [gLet_eq, hr]
  by_cases h0 : i % 5 = 0
  · rw [if_pos (show nI (i % 5) = 0 by rw [h0]; rfl), x_letter (by omega), ob_some, if_pos h0]
    dsimp only
    by_cases h : 97 ≤ c i ∧ c i ≤ 106
    · rw [if_pos h]
      exact ⟨1, rfl, fun _ => rfl, fun z => absurd h z⟩
    · rw [if_neg h]
      exact ⟨0, rfl, fun z => absurd z h, fun _ => rfl⟩
  · rw [if_neg (show ¬ nI (i % 5) = 0 from nI_ne0 (by omega) (by omega)), if_neg h0]
    by_cases h1 : i % 5 = 1
    · have hc1 := hc (i - 1) (by omega)
      rw [if_pos (show nI (i % 5) = 1 by rw [h1]; rfl), x_letter (by omega), ob_some, if_pos h1]
      dsimp only
      by_cases h : 97 ≤ c i ∧ c i ≤ 106
      · rw [if_pos h, if_neg i10, show (1 : Int32) = nI 1 from rfl, pk_sub (by omega), at_nI (show i - 1 < 60 by omega) (by decide), ob_some, show x (34 + 1) (i - 1) = nI (c (i - 1)) from hc1.2]
        dsimp only
        by_cases hq : c i = c (i - 1)
        · rw [if_pos (show nI (c i) = nI (c (i - 1)) by rw [hq])]
          exact ⟨0, rfl, fun z => absurd hq z.2, fun _ => rfl⟩
        · rw [if_neg (fun z => hq ((nI_eq (by omega) (by omega)).mp z))]
          exact ⟨1, rfl, fun _ => rfl, fun z => absurd ⟨h, hq⟩ z⟩
      · rw [if_neg h, if_pos rfl]
        exact ⟨0, rfl, fun z => absurd z.1 h, fun _ => rfl⟩
    · have n1 : ¬ nI (i % 5) = 1 := fun z => h1 ((nI_eq (b := 1) (by omega) (by decide)).mp z)
      rw [if_neg n1, if_neg h1]
      by_cases h4 : i % 5 = 4
      · rw [h4, if_neg (show ¬ nI 4 = 2 by decide), if_neg (show ¬ nI 4 = 3 by decide), if_pos (show nI 4 = 4 from rfl), if_pos rfl]
        by_cases h : c i = 59
        · rw [if_pos (show nI (c i) = 59 by rw [h]; rfl)]
          exact ⟨1, rfl, fun _ => rfl, fun z => absurd h z⟩
        · rw [if_neg (show ¬ nI (c i) = 59 from fun z => h ((nI_eq (b := 59) (by omega) (by decide)).mp z))]
          exact ⟨0, rfl, fun z => absurd z h, fun _ => rfl⟩
      · rw [if_neg h4]
        have fin : ∃ r : Int32, some ((if 49 ≤ c i ∧ c i ≤ 57 then (1 : Int32) else 0), x) = some (r, x) ∧ (49 ≤ c i ∧ c i ≤ 57 → r = 1) ∧ (¬ (49 ≤ c i ∧ c i ≤ 57) → r = 0) := by
          by_cases h : 49 ≤ c i ∧ c i ≤ 57
          · rw [if_pos h]
            exact ⟨1, rfl, fun _ => rfl, fun z => absurd h z⟩
          · rw [if_neg h]
            exact ⟨0, rfl, fun z => absurd z h, fun _ => rfl⟩
        rcases (show i % 5 = 2 ∨ i % 5 = 3 by omega) with h2 | h2
        · rw [h2, if_pos (show nI 2 = 2 from rfl)]
          dsimp only
          rw [dig]
          exact fin
        · rw [h2, if_neg (show ¬ nI 3 = 2 by decide), if_pos (show nI 3 = 3 from rfl)]
          dsimp only
          rw [dig]
          exact fin
/-- where the text is at fault -/
def flt (c : Nat → Nat) (L f : Nat) : Prop := f ≤ L ∧ (∀ i, i < f → st c i) ∧ (f < L → ¬ st c f) ∧ (f = L → L % 5 ≠ 4)
def fine (c : Nat → Nat) (L : Nat) : Prop := (∀ i, i < L → st c i) ∧ L % 5 = 4
theorem x_fault (hL : L ≤ 60) (h31 : x 33 0 = nI L) (hc : ∀ k, k < L → c k ≤ 126 ∧ x 35 k = nI (c k)) : (∀ f, flt c L f → f_X4_firstFault x = some (nI f, x)) ∧ (fine c L → f_X4_firstFault x = some (-6, x)) := by
  have step : ∀ n i K, i < L → st c i → f_X4_firstFault_L2 K (n + 1) (nI i) x = f_X4_firstFault_L2 K n (nI (i + 1)) x := by
    intro n i K hi hs
    obtain ⟨r, r1, r2, -⟩ := x_stand hL hc hi
    rw [f_X4_firstFault_L2_s, h31, if_neg (nI_ge hi (by omega)), r1, ob_some, r2 hs]
    dsimp only
    rw [if_neg i10, nI_1]
  have hr : nI L - nI L / 5 * 5 = nI (L % 5) := pk_rem (d := 5) (by omega) (by decide) (by decide)
  unfold f_X4_firstFault
  constructor
  · rintro f ⟨h1, h2, h3, h4⟩
    refine lp0 (fun n i => f_X4_firstFault_L2 _ n (nI i) x) f _ (by omega) (fun n i hi => step n i _ (by omega) (h2 i hi)) (fun n => ?_)
    by_cases hf : f < L
    · obtain ⟨r, r1, -, r2⟩ := x_stand hL hc hf
      rw [f_X4_firstFault_L2_s, h31, if_neg (nI_ge hf (by omega)), r1, ob_some, r2 (h3 hf)]
      dsimp only
      rw [if_pos rfl]
    · have hfL : f = L := by omega
      subst hfL
      rw [f_X4_firstFault_L2_s, h31, if_pos (Int32.le_refl _)]
      rw [hr, if_neg (show ¬ nI (f % 5) = 4 from fun z => h4 rfl ((nI_eq (b := 4) (by omega) (by decide)).mp z))]
  · rintro ⟨h1, h2⟩
    refine lp0 (fun n i => f_X4_firstFault_L2 _ n (nI i) x) L _ (by omega) (fun n i hi => step n i _ hi (h1 i hi)) (fun n => ?_)
    rw [f_X4_firstFault_L2_s, h31, if_pos (Int32.le_refl _)]
    rw [hr, h2, if_pos (show nI 4 = 4 from rfl)]
/-- what is told -/
def tv (c : Nat → Nat) (i : Nat) : Int32 := nI (c (5 * (i / 4) + i % 4)) - (if i % 4 < 2 then 97 else 48)
def okS (m : gS) (c : Nat → Nat) (L g k : Nat) (s : gS) : Prop := eqM m s ∧ s 0 12 = nI g ∧ s 0 13 = nI (5 * g + k) ∧ s 0 14 = -6 ∧ (∀ i, i < 4 * g + k → s 8 i = tv c i) ∧ (∀ i, i < 5 * g + k → st c i) ∧ 5 * g + k ≤ L
def badS (m : gS) (c : Nat → Nat) (L g : Nat) (s : gS) : Prop := eqM m s ∧ s 0 12 = nI g ∧ (∃ p, p ≤ 100 ∧ s 0 13 = nI p) ∧ ∃ f, flt c L f ∧ s 0 14 = nI f
theorem nI_m6 {f : Nat} (h : f < 2 ^ 31) : ¬ nI f = (-6) := fun z => absurd (show nI f < 0 by rw [z]; decide) (nI_pos h)
/-- a sign is asked for -/
theorem m_wants {s : gS} {p : Nat} (h13 : s 0 13 = nI p) (h14 : s 0 14 = -6) : f_X11_wants 1 s = some (up2 (up2 s 0 14 (-6)) 0 13 (nI (p + 1))) ∧ f_X11_wants 0 s = some (up2 (up2 s 0 14 (nI p)) 0 13 (nI (p + 1))) := by
  have e : ∀ v : Int32, up2 s 0 14 v 0 13 + 1 = nI (p + 1) := fun v => by rw [up2_k (by decide), h13, nI_1]
  unfold f_X11_wants
  constructor
  · rw [if_pos h14, gLet_eq, if_neg i10]
    dsimp only
    rw [gLet_eq, gLet_eq, e]
  · rw [if_pos h14, gLet_eq, if_pos rfl]
    dsimp only
    rw [gLet_eq, gLet_eq, e, h13]
theorem m_wants' {s : gS} (h14 : ¬ s 0 14 = -6) (v : Int32) : f_X11_wants v s = some s := by
  unfold f_X11_wants
  rw [if_neg h14]
theorem m_letter (hL : L ≤ 60) (hc : ∀ k, k < L → m 5 k = nI (c k)) (h6 : m 0 6 = nI L) {s : gS} (he : eqM m s) {p : Nat} (hp : p < 2 ^ 31) (h13 : s 0 13 = nI p) : f_X11_letter s = some ((if L ≤ p then -6 else nI (c p)), s) := by
  unfold f_X11_letter
  rw [he.2.2, h6, h13]
  by_cases h : L ≤ p
  · rw [if_pos (nI_le h hp), if_pos h]
  · rw [if_neg (nI_ge (by omega) (by omega)), if_neg h, gin_nI (show p < 60 by omega) (by decide), gGd_t, gil_nI hp, he.1 5 (by decide) (by decide), hc p (by omega)]
/-- a room is read -/
theorem m_room (hL : L ≤ 60) (hc : ∀ k, k < L → c k ≤ 126 ∧ m 5 k = nI (c k)) (h6 : m 0 6 = nI L) {s : gS} (he : eqM m s) {p : Nat} (hp : p ≤ 60) (h13 : s 0 13 = nI p) (h14 : s 0 14 = -6) (v : Int32) : ∃ r s', f_X11_roomRead v s = some (r, s') ∧ (p < L → r = nI (c p) - 97) ∧
    (p < L ∧ (97 ≤ c p ∧ c p ≤ 106) ∧ ¬ nI (c p) - 97 = v → s' = up2 (up2 s 0 14 (-6)) 0 13 (nI (p + 1))) ∧ (¬ (p < L ∧ (97 ≤ c p ∧ c p ≤ 106) ∧ ¬ nI (c p) - 97 = v) → s' = up2 (up2 s 0 14 (nI p)) 0 13 (nI (p + 1))) := by
  obtain ⟨w1, w0⟩ := m_wants h13 h14
  unfold f_X11_roomRead
  rw [m_letter hL (fun k hk => (hc k hk).2) h6 he (by omega) h13, ob_some]
  dsimp only
  by_cases hpL : p < L
  · have hcp := hc p hpL
    rw [if_neg (show ¬ L ≤ p by omega)]
    by_cases hr : 97 ≤ c p ∧ c p ≤ 106
    · have e97 : nI (c p) - 97 = nI (c p - 97) := pk_sub (b := 97) hr.1
      have := (wN (x := s) (m := s) (show c p - 97 < 2 ^ 31 by omega) (show 0 < 2 ^ 31 by decide) (show 9 < 2 ^ 31 by decide)).1 ⟨by omega, by omega⟩
      have e1 : f_X11_isRoom (nI (c p - 97)) s = some (1, s) := by
        unfold f_X11_isRoom
        rw [show (0 : Int32) = nI 0 from rfl, show (9 : Int32) = nI 9 from rfl, this.2]
        rfl
      rw [e97, e1, ob_some]
      dsimp only
      rw [gLet_eq, gLet_eq, if_neg i10]
      by_cases hv : nI (c p - 97) = v
      · rw [if_pos hv]
        dsimp only
        rw [w0, ob_some]
        exact ⟨_, _, rfl, fun _ => rfl, fun z => absurd hv z.2.2, fun _ => rfl⟩
      · rw [if_neg hv]
        dsimp only
        rw [w1, ob_some]
        exact ⟨_, _, rfl, fun _ => rfl, fun _ => rfl, fun z => absurd ⟨hpL, hr, hv⟩ z⟩
    · have e1 : f_X11_isRoom (nI (c p) - 97) s = some (0, s) := by
        rcases rmC (nI (c p) - 97) s s with ⟨-, h⟩ | ⟨k, hk, hkk, -, -⟩
        · exact h
        · exfalso
          have : nI (c p) = nI (k + 97) := by
            rw [← nI_add, ← hkk, show nI 97 = (97 : Int32) from rfl, Int32.sub_add_cancel]
          have := (nI_eq (by omega) (by omega)).mp this
          omega
      rw [e1, ob_some]
      dsimp only
      rw [gLet_eq, gLet_eq, if_pos rfl]
      dsimp only
      rw [w0, ob_some]
      exact ⟨_, _, rfl, fun _ => rfl, fun z => absurd z.2.1 hr, fun _ => rfl⟩
  · rw [if_pos (show L ≤ p by omega)]
    have e1 : f_X11_isRoom ((-6) - 97) s = some (0, s) := by
      unfold f_X11_isRoom f_X11_in
      rw [if_pos (by decide)]
      rfl
    rw [e1, ob_some]
    dsimp only
    rw [gLet_eq, gLet_eq, if_pos rfl]
    dsimp only
    rw [w0, ob_some]
    exact ⟨_, _, rfl, fun z => absurd z hpL, fun z => absurd z.1 hpL, fun _ => rfl⟩
theorem m_digit (hL : L ≤ 60) (hc : ∀ k, k < L → c k ≤ 126 ∧ m 5 k = nI (c k)) (h6 : m 0 6 = nI L) {s : gS} (he : eqM m s) {p : Nat} (hp : p ≤ 60) (h13 : s 0 13 = nI p) (h14 : s 0 14 = -6) : ∃ r s', f_X11_digit s = some (r, s') ∧ (p < L → r = nI (c p) - 48) ∧
    (p < L ∧ (49 ≤ c p ∧ c p ≤ 57) → s' = up2 (up2 s 0 14 (-6)) 0 13 (nI (p + 1))) ∧ (¬ (p < L ∧ (49 ≤ c p ∧ c p ≤ 57)) → s' = up2 (up2 s 0 14 (nI p)) 0 13 (nI (p + 1))) := by
  obtain ⟨w1, w0⟩ := m_wants h13 h14
  unfold f_X11_digit
  rw [m_letter hL (fun k hk => (hc k hk).2) h6 he (by omega) h13, ob_some]
  dsimp only
  by_cases hpL : p < L
  · have hcp := hc p hpL
    rw [if_neg (show ¬ L ≤ p by omega)]
    rcases wi (nI (c p) - 48) 1 9 1 9 rfl rfl (by decide) (by decide) s s with ⟨-, h⟩ | ⟨k, k1, k2, hkk, -, h⟩
    · have hr : ¬ (49 ≤ c p ∧ c p ≤ 57) := by
        intro hr
        rw [show nI (c p) - 48 = nI (c p - 48) from pk_sub (b := 48) (by omega)] at h
        have := (wN (x := s) (m := s) (show c p - 48 < 2 ^ 31 by omega) (show 1 < 2 ^ 31 by decide) (show 9 < 2 ^ 31 by decide)).1 ⟨by omega, by omega⟩
        exact absurd (h.symm.trans this.2) (by simp)
      rw [h, ob_some]
      dsimp only
      rw [w0, ob_some]
      exact ⟨_, _, rfl, fun _ => rfl, fun z => absurd z.2 hr, fun _ => rfl⟩
    · have hr : 49 ≤ c p ∧ c p ≤ 57 := by
        have : nI (c p) = nI (k + 48) := by
          rw [← nI_add, ← hkk, show nI 48 = (48 : Int32) from rfl, Int32.sub_add_cancel]
        have := (nI_eq (by omega) (by omega)).mp this
        omega
      rw [h, ob_some]
      dsimp only
      rw [w1, ob_some]
      exact ⟨_, _, rfl, fun _ => rfl, fun _ => rfl, fun z => absurd ⟨hpL, hr⟩ z⟩
  · rw [if_pos (show L ≤ p by omega)]
    have e1 : f_X11_in ((-6) - 48) 1 9 s = some (0, s) := by
      unfold f_X11_in
      rw [if_pos (by decide)]
    rw [e1, ob_some]
    dsimp only
    rw [w0, ob_some]
    exact ⟨_, _, rfl, fun z => absurd z hpL, fun z => absurd z.1 hpL, fun _ => rfl⟩
theorem eqM_0 {s : gS} (he : eqM m s) {i : Nat} {v : Int32} (h2 : i ≠ 2) (h6 : i ≠ 6) : eqM m (up2 s 0 i v) := ⟨fun j a b => (up2_row (by omega)).trans (he.1 j a b), (up2_k (Ne.symm h2)).trans he.2.1, (up2_k (Ne.symm h6)).trans he.2.2⟩
theorem eqM_8 {s : gS} (he : eqM m s) {i : Nat} {v : Int32} : eqM m (up2 s 8 i v) := ⟨fun j a b => (up2_row (by omega)).trans (he.1 j a b), by rw [up2_row (show 0 ≠ 8 by decide)]; exact he.2.1, by rw [up2_row (show 0 ≠ 8 by decide)]; exact he.2.2⟩
/-- a sign is read and told: what holds then -/
theorem told_ok {s : gS} {g k : Nat} (hk : k < 4) (h : okS m c L g k s) (hp : 5 * g + k < L) (hst : st c (5 * g + k)) {v : Int32} (hv : v = tv c (4 * g + k)) : okS m c L g (k + 1) (up2 (up2 (up2 s 0 14 (-6)) 0 13 (nI (5 * g + k + 1))) 8 (4 * g + k) v) := by
  obtain ⟨a1, a2, a3, a4, a5, a6, a7⟩ := h
  refine ⟨eqM_8 (eqM_0 (eqM_0 a1 (by decide) (by decide)) (by decide) (by decide)), ?_, ?_, ?_, fun i hi => ?_, fun i hi => ?_, by omega⟩
  · rw [up2_row (show 0 ≠ 8 by decide), up2_k (by decide), up2_k (by decide), a2]
  · rw [up2_row (show 0 ≠ 8 by decide), up2_eq]
    rfl
  · rw [up2_row (show 0 ≠ 8 by decide), up2_k (by decide), up2_eq]
  · by_cases hi2 : i = 4 * g + k
    · subst hi2
      rw [up2_eq, hv]
    · rw [up2_k hi2, up2_row (show 8 ≠ 0 by decide), up2_row (show 8 ≠ 0 by decide)]
      exact a5 i (by omega)
  · by_cases hi2 : i = 5 * g + k
    · subst hi2
      exact hst
    · exact a6 i (by omega)
theorem told_bad {s : gS} {g k : Nat} (hL : L ≤ 60) (hk : k < 4) (h : okS m c L g k s) (hb : 5 * g + k < L → ¬ st c (5 * g + k)) {v : Int32} {j : Nat} : badS m c L g (up2 (up2 (up2 s 0 14 (nI (5 * g + k))) 0 13 (nI (5 * g + k + 1))) 8 j v) := by
  obtain ⟨a1, a2, a3, a4, a5, a6, a7⟩ := h
  refine ⟨eqM_8 (eqM_0 (eqM_0 a1 (by decide) (by decide)) (by decide) (by decide)), ?_, ⟨5 * g + k + 1, by omega, by rw [up2_row (show 0 ≠ 8 by decide), up2_eq]⟩, 5 * g + k, ⟨a7, a6, hb, fun z => by omega⟩, ?_⟩
  · rw [up2_row (show 0 ≠ 8 by decide), up2_k (by decide), up2_k (by decide), a2]
  · rw [up2_row (show 0 ≠ 8 by decide), up2_k (by decide), up2_eq]
theorem bad_told {s : gS} {g j : Nat} {v : Int32} (h : badS m c L g s) : badS m c L g (up2 s 8 j v) := by
  obtain ⟨a1, a2, ⟨p, p1, p2⟩, f, a3, a4⟩ := h
  exact ⟨eqM_8 a1, by rw [up2_row (show 0 ≠ 8 by decide)]; exact a2, ⟨p, p1, by rw [up2_row (show 0 ≠ 8 by decide)]; exact p2⟩, f, a3, by rw [up2_row (show 0 ≠ 8 by decide)]; exact a4⟩
theorem bad_14 {s : gS} {g : Nat} (hL : L ≤ 60) (h : badS m c L g s) : ¬ s 0 14 = -6 := by
  obtain ⟨-, -, -, f, ⟨q, -⟩, a4⟩ := h
  rw [a4]
  exact nI_m6 (by omega)
theorem bad_room {s : gS} {g : Nat} (hL : L ≤ 60) (hc : ∀ k, k < L → c k ≤ 126 ∧ m 5 k = nI (c k)) (h6 : m 0 6 = nI L) (h : badS m c L g s) (v : Int32) : ∃ r, f_X11_roomRead v s = some (r, s) := by
  have h14 := bad_14 hL h
  obtain ⟨p, hp, h13⟩ := h.2.2.1
  unfold f_X11_roomRead
  rw [m_letter hL (fun k hk => (hc k hk).2) h6 h.1 (by omega) h13, ob_some]
  dsimp only
  generalize ((if L ≤ p then (-6 : Int32) else nI (c p)) - 97) = z
  rcases rmC z s s with ⟨-, e⟩ | ⟨k, hk, rfl, -, e⟩
  · rw [e, ob_some]
    dsimp only
    rw [gLet_eq, gLet_eq, if_pos rfl]
    dsimp only
    rw [m_wants' h14]
    exact ⟨_, rfl⟩
  · rw [e, ob_some]
    dsimp only
    rw [gLet_eq, gLet_eq, if_neg i10]
    by_cases hv : nI k = v
    · rw [if_pos hv]
      dsimp only
      rw [m_wants' h14]
      exact ⟨_, rfl⟩
    · rw [if_neg hv]
      dsimp only
      rw [m_wants' h14]
      exact ⟨_, rfl⟩
theorem bad_digit {s : gS} {g : Nat} (hL : L ≤ 60) (hc : ∀ k, k < L → c k ≤ 126 ∧ m 5 k = nI (c k)) (h6 : m 0 6 = nI L) (h : badS m c L g s) : ∃ r, f_X11_digit s = some (r, s) := by
  have h14 := bad_14 hL h
  obtain ⟨p, hp, h13⟩ := h.2.2.1
  unfold f_X11_digit
  rw [m_letter hL (fun k hk => (hc k hk).2) h6 h.1 (by omega) h13, ob_some]
  dsimp only
  generalize ((if L ≤ p then (-6 : Int32) else nI (c p)) - 48) = z
  rcases wi z 1 9 1 9 rfl rfl (by decide) (by decide) s s with ⟨-, e⟩ | ⟨k, k1, k2, rfl, -, e⟩
  · rw [e, ob_some]
    dsimp only
    rw [m_wants' h14]
    exact ⟨_, rfl⟩
  · rw [e, ob_some]
    dsimp only
    rw [m_wants' h14]
    exact ⟨_, rfl⟩
/-- the four signs of a board: one step each -/
theorem step_room (hL : L ≤ 60) (hc : ∀ k, k < L → c k ≤ 126 ∧ m 5 k = nI (c k)) (h6 : m 0 6 = nI L) {s : gS} {g k : Nat} (hg : g ≤ 12) (hk : k < 2) {v : Int32} (hv0 : k = 0 → v = -6) (hv1 : k = 1 → okS m c L g 1 s → v = nI (c (5 * g)) - 97) (h : okS m c L g k s ∨ badS m c L g s) : ∃ r s', f_X11_roomRead v s = some (r, s') ∧ (okS m c L g (k + 1) (up2 s' 8 (4 * g + k) r) ∨ badS m c L g (up2 s' 8 (4 * g + k) r)) := by
  rcases h with h | h
  · obtain ⟨a1, a2, a3, a4, a5, a6, a7⟩ := id h
    obtain ⟨r, s', q1, q2, q3, q4⟩ := m_room hL hc h6 a1 (by omega) a3 a4 v
    refine ⟨r, s', q1, ?_⟩
    have hst : (5 * g + k < L ∧ (97 ≤ c (5 * g + k) ∧ c (5 * g + k) ≤ 106) ∧ ¬ nI (c (5 * g + k)) - 97 = v) ↔ (5 * g + k < L ∧ st c (5 * g + k)) := by
      unfold st
      rcases (show k = 0 ∨ k = 1 by omega) with rfl | rfl
      · rw [if_pos (show (5 * g + 0) % 5 = 0 by omega), hv0 rfl]
        constructor
        · rintro ⟨w1, w2, -⟩
          exact ⟨w1, w2⟩
        · rintro ⟨w1, w2⟩
          refine ⟨w1, w2, fun z => ?_⟩
          rw [show nI (c (5 * g + 0)) - 97 = nI (c (5 * g + 0) - 97) from pk_sub (b := 97) w2.1] at z
          exact nI_m6 (by omega) z
      · rw [if_neg (show ¬ (5 * g + 1) % 5 = 0 by omega), if_pos (show (5 * g + 1) % 5 = 1 by omega), hv1 rfl h, Nat.add_sub_cancel]
        have cc : ∀ a b : Nat, a ≤ 126 → b ≤ 126 → (nI a - 97 = nI b - 97 ↔ a = b) := fun a b ha hb => by
          constructor
          · intro z
            have z2 := congrArg (fun q => q + 97) z
            rw [Int32.sub_add_cancel, Int32.sub_add_cancel] at z2
            exact (nI_eq (by omega) (by omega)).mp z2
          · rintro rfl
            rfl
        constructor
        · rintro ⟨w1, w2, w3⟩
          exact ⟨w1, w2, fun z => w3 ((cc _ _ (hc _ w1).1 (hc (5 * g) (by omega)).1).mpr z)⟩
        · rintro ⟨w1, w2, w3⟩
          exact ⟨w1, w2, fun z => w3 ((cc _ _ (hc _ w1).1 (hc (5 * g) (by omega)).1).mp z)⟩
    by_cases hgood : 5 * g + k < L ∧ st c (5 * g + k)
    · rw [q3 (hst.mpr hgood)]
      refine Or.inl (told_ok (by omega) h hgood.1 hgood.2 ?_)
      rw [q2 hgood.1]
      unfold tv
      rw [show (4 * g + k) / 4 = g by omega, show (4 * g + k) % 4 = k by omega, if_pos hk]
    · rw [q4 (fun z => hgood (hst.mp z))]
      exact Or.inr (told_bad hL (by omega) h fun w z => hgood ⟨w, z⟩)
  · obtain ⟨r, hr⟩ := bad_room hL hc h6 h v
    exact ⟨r, s, hr, Or.inr (bad_told h)⟩
theorem step_digit (hL : L ≤ 60) (hc : ∀ k, k < L → c k ≤ 126 ∧ m 5 k = nI (c k)) (h6 : m 0 6 = nI L) {s : gS} {g k : Nat} (hg : g ≤ 12) (hk : k = 2 ∨ k = 3) (h : okS m c L g k s ∨ badS m c L g s) : ∃ r s', f_X11_digit s = some (r, s') ∧ (okS m c L g (k + 1) (up2 s' 8 (4 * g + k) r) ∨ badS m c L g (up2 s' 8 (4 * g + k) r)) := by
  rcases h with h | h
  · obtain ⟨a1, a2, a3, a4, a5, a6, a7⟩ := id h
    obtain ⟨r, s', q1, q2, q3, q4⟩ := m_digit hL hc h6 a1 (by omega) a3 a4
    refine ⟨r, s', q1, ?_⟩
    have hst : st c (5 * g + k) ↔ (49 ≤ c (5 * g + k) ∧ c (5 * g + k) ≤ 57) := by
      unfold st
      rw [if_neg (show ¬ (5 * g + k) % 5 = 0 by omega), if_neg (show ¬ (5 * g + k) % 5 = 1 by omega), if_neg (show ¬ (5 * g + k) % 5 = 4 by omega)]
    by_cases hgood : 5 * g + k < L ∧ st c (5 * g + k)
    · rw [q3 ⟨hgood.1, hst.mp hgood.2⟩]
      refine Or.inl (told_ok (by omega) h hgood.1 hgood.2 ?_)
      rw [q2 hgood.1]
      unfold tv
      rw [show (4 * g + k) / 4 = g by omega, show (4 * g + k) % 4 = k by omega, if_neg (by omega)]
    · rw [q4 (fun z => hgood ⟨z.1, hst.mpr z.2⟩)]
      exact Or.inr (told_bad hL (by omega) h fun w z => hgood ⟨w, z⟩)
  · obtain ⟨r, hr⟩ := bad_digit hL hc h6 h
    exact ⟨r, s, hr, Or.inr (bad_told h)⟩
end RD
