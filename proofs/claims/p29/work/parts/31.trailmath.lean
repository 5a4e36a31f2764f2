section TM
variable {ζ : Nat → Nat}
/-- r can be reached from t by boards of E -/
def cn (ζ : Nat → Nat) (E t r : Nat) : Prop := (rea ζ E t).testBit r = true
theorem cn_iff {E t r : Nat} : cn ζ E t r ↔ r < 10 ∧ dst ζ E 0 t r < gINF := by
  unfold cn rea
  rw [mk_bit, Bool.and_eq_true, decide_eq_true_eq, decide_eq_true_eq]
theorem cn_rf {E t : Nat} (ht : t < 10) : cn ζ E t t := cn_iff.mpr ⟨ht, by
  have : dst ζ E 0 t t = 0 := gD_t 9
  rw [this]; decide⟩
theorem edg_sm {E b r r' : Nat} (h : edg ζ E b r r') : edg ζ E b r' r := ⟨h.1, h.2.1, h.2.2.elim (fun z => Or.inr ⟨z.2, z.1⟩) (fun z => Or.inl ⟨z.2, z.1⟩)⟩
theorem edg_lt (hI : zI ζ) {E b r r' : Nat} (h : edg ζ E b r r') : r < 10 ∧ r' < 10 ∧ r ≠ r' := by
  have hb := hI.b h.1
  rcases h.2.2 with ⟨h1, h2⟩ | ⟨h1, h2⟩ <;> omega
theorem cn_ed (hI : zI ζ) {E t b r r' : Nat} (ht : t < 10) (h : edg ζ E b r r') (hc : cn ζ E t r) : cn ζ E t r' := by
  rw [cn_iff] at hc ⊢
  refine ⟨(edg_lt hI h).2.1, ?_⟩
  have h1 : dst ζ E 0 t r ≤ 9 := by
    rcases u_small (ζ := ζ) (E := E) (t := t) 9 r with h | h
    · exact h
    · exact absurd hc.2 (by rw [gz_dst, h]; exact Nat.lt_irrefl _)
  have h2 : dst ζ E 0 t r' ≤ dst ζ E 0 t r + 1 := by
    rcases h.2.2 with ⟨q1, q2⟩ | ⟨q1, q2⟩
    · have := gD_fix_hi (t := t) (ok_z hI E 0) ht h.1 h.2.1
      rw [← q1, ← q2]
      exact this
    · have := gD_fix_lo (t := t) (ok_z hI E 0) ht h.1 h.2.1
      rw [← q1, ← q2]
      exact this
  exact Nat.lt_of_le_of_lt h2 (by unfold gINF; omega)
theorem cn_in {E t : Nat} {P : Nat → Prop} (h0 : P t) (hs : ∀ b r r', edg ζ E b r r' → P r → P r') : ∀ r, cn ζ E t r → P r := by
  have key : ∀ k r, gDz ζ E t k r < gINF → P r := by
    intro k
    induction k with
    | zero =>
      intro r h
      by_cases hr : r = t
      · rw [hr]; exact h0
      · exact absurd h (by rw [show gDz ζ E t 0 r = gINF from if_neg hr]; exact Nat.lt_irrefl _)
    | succ k ih =>
      intro r h
      rcases gz_from (ζ := ζ) (E := E) (t := t) k r with h1 | ⟨b, r', hb, he, hbr, h1⟩
      · exact ih r (by rw [← h1]; exact h)
      · exact hs b r' r (edg_sm ⟨hb, he, hbr⟩) (ih r' (by omega))
  intro r h
  exact key 9 r (cn_iff.mp h).2
theorem cn_tr (hI : zI ζ) {E a b c : Nat} (ha : a < 10) (h1 : cn ζ E a b) (h2 : cn ζ E b c) : cn ζ E a c := cn_in (P := fun v => cn ζ E a v) h1 (fun _ _ _ he hp => cn_ed hI ha he hp) c h2
theorem cn_sy (hI : zI ζ) {E a b : Nat} (ha : a < 10) (h : cn ζ E a b) : cn ζ E b a := by
  refine cn_in (P := fun v => v < 10 ∧ cn ζ E v a) ⟨ha, cn_rf ha⟩ (fun f r r' he hp => ?_) b h |>.2
  have hl := edg_lt hI he
  exact ⟨hl.2.1, cn_tr hI hl.2.1 (cn_ed hI hl.2.1 (edg_sm he) (cn_rf hl.2.1)) hp.2⟩
theorem cn_mo (hI : zI ζ) {E F a b : Nat} (ha : a < 10) (hs : ∀ b, E.testBit b = true → F.testBit b = true) (h : cn ζ E a b) : cn ζ F a b :=
  cn_in (P := fun v => cn ζ F a v) (cn_rf ha) (fun f _ _ he hp => cn_ed hI ha ⟨he.1, hs f he.2.1, he.2.2⟩ hp) b h
/-- parity of a set of rooms -/
def par (m : Nat) : Nat → Bool
  | 0 => false
  | n + 1 => (par m n).xor (m.testBit n)
theorem par_xor (a b : Nat) : ∀ n, par (a ^^^ b) n = (par a n).xor (par b n)
  | 0 => rfl
  | n + 1 => by
    rw [par, par, par, par_xor a b n, Nat.testBit_xor]
    cases par a n <;> cases par b n <;> cases a.testBit n <;> cases b.testBit n <;> rfl
theorem par_one (i K : Nat) : ∀ n, par (2 ^ i &&& K) n = (decide (i < n) && K.testBit i)
  | 0 => by simp [par]
  | n + 1 => by
    rw [par, par_one i K n, Nat.testBit_and, Nat.testBit_two_pow]
    by_cases h : i < n
    · rw [decide_eq_true h, decide_eq_true (show i < n + 1 by omega), decide_eq_false (show ¬ i = n by omega)]
      cases K.testBit i <;> rfl
    · by_cases h2 : i = n
      · subst h2
        simp
      · rw [decide_eq_false h, decide_eq_false (show ¬ i < n + 1 by omega), decide_eq_false h2]
        rfl
theorem par_cnt (m : Nat) : ∀ n, par m n = decide (cnt (fun i => m.testBit i) n % 2 = 1)
  | 0 => rfl
  | n + 1 => by
    rw [par, par_cnt m n, cnt]
    by_cases h : m.testBit n = true
    · rw [h, if_pos rfl]
      rcases Nat.mod_two_eq_zero_or_one (cnt (fun i => m.testBit i) n) with q | q
      · rw [decide_eq_false (by omega), decide_eq_true (by omega)]; rfl
      · rw [decide_eq_true (by omega), decide_eq_false (by omega)]; rfl
    · rw [if_neg h, (by simpa using h : m.testBit n = false), Nat.add_zero, Bool.xor_false]
theorem ends_xor (hI : zI ζ) {b : Nat} (hb : b < ζ 4) : ends ζ b = 2 ^ bd ζ b 0 ^^^ 2 ^ bd ζ b 1 := by
  have h := hI.b hb
  apply bit_ext
  intro i
  rw [ends_bit, Nat.testBit_xor, Nat.testBit_two_pow, Nat.testBit_two_pow]
  by_cases h1 : bd ζ b 0 = i
  · rw [decide_eq_true h1, decide_eq_false (show ¬ bd ζ b 1 = i by omega)]; rfl
  · rw [decide_eq_false h1, Bool.false_or, Bool.false_xor]
/-- the odd rooms, the rooms that are touched -/
def odm (ζ : Nat → Nat) (E : Nat) : Nat → Nat
  | 0 => 0
  | n + 1 => odm ζ E n ^^^ (if E.testBit n = true then ends ζ n else 0)
def tch (ζ : Nat → Nat) (E n : Nat) : Nat := orF (fun b => if E.testBit b = true then ends ζ b else 0) n
theorem odm_lt (hI : zI ζ) (E : Nat) : ∀ n, n ≤ ζ 4 → odm ζ E n < 2 ^ 10
  | 0, _ => Nat.two_pow_pos _
  | n + 1, h => Nat.xor_lt_two_pow (odm_lt hI E n (by omega)) (by
    split
    · exact ends_lt hI (by omega)
    · exact Nat.two_pow_pos _)
theorem tch_lt (hI : zI ζ) (E : Nat) {n : Nat} (hn : n ≤ ζ 4) : tch ζ E n < 2 ^ 10 := orF_lt fun b hb => by
  split
  · exact ends_lt hI (by omega)
  · exact Nat.two_pow_pos _
theorem tch_bit {E n r : Nat} : (tch ζ E n).testBit r = true ↔ ∃ b, b < n ∧ E.testBit b = true ∧ (bd ζ b 0 = r ∨ bd ζ b 1 = r) := by
  unfold tch
  rw [orF_bit]
  constructor
  · rintro ⟨b, hb, h⟩
    by_cases he : E.testBit b = true
    · rw [if_pos he, ends_bit, Bool.or_eq_true, decide_eq_true_eq, decide_eq_true_eq] at h
      exact ⟨b, hb, he, h⟩
    · rw [if_neg he] at h
      simp at h
  · rintro ⟨b, hb, he, h⟩
    exact ⟨b, hb, by rw [if_pos he, ends_bit, Bool.or_eq_true, decide_eq_true_eq, decide_eq_true_eq]; exact h⟩
theorem tch_ed {E r : Nat} : (tch ζ E (ζ 4)).testBit r = true ↔ ∃ b r', edg ζ E b r r' := by
  rw [tch_bit]
  constructor
  · rintro ⟨b, hb, he, h | h⟩
    · exact ⟨b, _, hb, he, Or.inl ⟨h, rfl⟩⟩
    · exact ⟨b, _, hb, he, Or.inr ⟨h, rfl⟩⟩
  · rintro ⟨b, r', hb, he, h⟩
    exact ⟨b, hb, he, h.elim (fun z => Or.inl z.1) (fun z => Or.inr z.1)⟩
/-- how many boards of E lead from a room -/
def deg (ζ : Nat → Nat) (E r n : Nat) : Nat := cnt (fun b => E.testBit b && atB ζ b r) n
theorem odm_bit (hI : zI ζ) {E r : Nat} : ∀ n, n ≤ ζ 4 → (odm ζ E n).testBit r = decide (deg ζ E r n % 2 = 1)
  | 0, _ => by simp [odm, deg, cnt]
  | n + 1, h => by
    have ih := odm_bit hI (E := E) (r := r) n (by omega)
    unfold deg at ih ⊢
    rw [odm, Nat.testBit_xor, ih, cnt]
    have e1 : ((if E.testBit n = true then ends ζ n else 0) : Nat).testBit r = (E.testBit n && atB ζ n r) := by
      by_cases he : E.testBit n = true
      · rw [if_pos he, ends_bit, he]; rfl
      · rw [if_neg he, show E.testBit n = false by simpa using he]; simp
    rw [e1]
    generalize cnt (fun b => E.testBit b && atB ζ b r) n = q
    rcases Nat.mod_two_eq_zero_or_one q with z | z
    · cases hb : (E.testBit n && atB ζ n r)
      · rw [decide_eq_false (by omega), if_neg (by decide), decide_eq_false (by omega)]; rfl
      · rw [decide_eq_false (by omega), if_pos rfl, decide_eq_true (by omega)]; rfl
    · cases hb : (E.testBit n && atB ζ n r)
      · rw [decide_eq_true (by omega), if_neg (by decide), decide_eq_true (by omega)]; rfl
      · rw [decide_eq_true (by omega), if_pos rfl, decide_eq_false (by omega)]; rfl
theorem tch_deg {E r : Nat} : ∀ n, (tch ζ E n).testBit r = true ↔ 0 < deg ζ E r n
  | 0 => by simp [tch, deg, cnt, orF]
  | n + 1 => by
    have ih := tch_deg (E := E) (r := r) n
    unfold tch deg at ih ⊢
    rw [orF, Nat.testBit_or, Bool.or_eq_true, ih, cnt]
    have e1 : ((if E.testBit n = true then ends ζ n else 0) : Nat).testBit r = (E.testBit n && atB ζ n r) := by
      by_cases he : E.testBit n = true
      · rw [if_pos he, ends_bit, he]; rfl
      · rw [if_neg he, show E.testBit n = false by simpa using he]; simp
    rw [e1]
    by_cases h : (E.testBit n && atB ζ n r) = true
    · rw [if_pos h]; exact ⟨fun _ => by omega, fun _ => Or.inr h⟩
    · rw [if_neg h]; exact ⟨fun z => z.elim (fun w => by omega) (fun w => absurd w h), fun z => Or.inl (by omega)⟩
/-- in a set of rooms that no board leads out of, the odd rooms are even -/
theorem handshake (hI : zI ζ) {E K : Nat} (hK : ∀ b r r', edg ζ E b r r' → K.testBit r = true → K.testBit r' = true) : ∀ n, n ≤ ζ 4 → par (odm ζ E n &&& K) 10 = false
  | 0, _ => by rw [odm, Nat.zero_and]; rfl
  | n + 1, h => by
    have ih := handshake hI hK n (by omega)
    rw [odm, Nat.and_xor_distrib_right, par_xor, ih, Bool.false_xor]
    by_cases he : E.testBit n = true
    · have hb := hI.b (show n < ζ 4 by omega)
      rw [if_pos he, ends_xor hI (by omega), Nat.and_xor_distrib_right, par_xor, par_one, par_one, decide_eq_true (show bd ζ n 0 < 10 by omega), decide_eq_true hb.2.1, Bool.true_and, Bool.true_and]
      have h1 : K.testBit (bd ζ n 0) = K.testBit (bd ζ n 1) := by
        rw [Bool.eq_iff_iff]
        exact ⟨hK n _ _ ⟨by omega, he, Or.inl ⟨rfl, rfl⟩⟩, hK n _ _ ⟨by omega, he, Or.inr ⟨rfl, rfl⟩⟩⟩
      rw [h1, Bool.xor_self]
    · rw [if_neg he, Nat.zero_and]
      rfl
def pc (m : Nat) : Nat := cnt (fun i => m.testBit i) 10
theorem all_in {m n : Nat} (h : m < 2 ^ n) : m &&& (2 ^ n - 1) = m := by
  apply bit_ext
  intro i
  rw [Nat.testBit_and, Nat.testBit_two_pow_sub_one]
  by_cases hi : i < n
  · rw [decide_eq_true hi, Bool.and_true]
  · rw [decide_eq_false hi, bit_big h (by omega)]; rfl
theorem odd_even (hI : zI ζ) (E : Nat) : pc (odm ζ E (ζ 4)) % 2 = 0 := by
  have h1 := handshake hI (E := E) (K := 2 ^ 10 - 1) (fun b r r' he _ => by rw [Nat.testBit_two_pow_sub_one]; exact decide_eq_true (edg_lt hI he).2.1) (ζ 4) (Nat.le_refl _)
  rw [all_in (odm_lt hI E _ (Nat.le_refl _)), par_cnt, decide_eq_false_iff_not] at h1
  unfold pc
  omega
theorem pc_two' : ∀ m, m < 1024 → pc m = 2 → ∀ a, a < 10 → m.testBit a = true → ((List.range 10).any fun z => decide (z ≠ a ∧ m = 2 ^ a ^^^ 2 ^ z)) = true := by decide +kernel
theorem pc_two (m : Nat) (hm : m < 1024) (h : pc m = 2) (a : Nat) (ha : a < 10) (hb : m.testBit a = true) : ∃ z, z < 10 ∧ z ≠ a ∧ m = 2 ^ a ^^^ 2 ^ z := by
  obtain ⟨z, hz, h2⟩ := List.any_eq_true.mp (pc_two' m hm h a ha hb)
  rw [decide_eq_true_eq] at h2
  exact ⟨z, List.mem_range.mp hz, h2⟩
theorem pc_zero : ∀ m, m < 1024 → (pc m = 0 ↔ m = 0) := by decide +kernel
theorem pc_pair : ∀ a, a < 10 → ∀ b, b < 10 → a ≠ b → pc (2 ^ a ^^^ 2 ^ b) = 2 := by decide +kernel
/-- why a ghost cannot cross all of E, from room a -/
def wn (ζ : Nat → Nat) (E a : Nat) : Nat := if E = 0 then 1 else if ¬ (tch ζ E (ζ 4)).testBit a = true then 2 else if ¬ dif (tch ζ E (ζ 4)) (rea ζ E a) = 0 then 3 else if 2 < pc (odm ζ E (ζ 4)) then 4 else if odm ζ E (ζ 4) = 0 then 0 else if (odm ζ E (ζ 4)).testBit a = true then 0 else 5
theorem wn_le (E a : Nat) : wn ζ E a ≤ 5 := by
  unfold wn
  repeat' split
  all_goals decide
theorem wn_lt2 {E a : Nat} : wn ζ E a < 2 ↔ E = 0 ∨ wn ζ E a = 0 := by
  unfold wn
  by_cases h : E = 0
  · rw [if_pos h]; simp [h]
  · rw [if_neg h]
    repeat' split
    all_goals simp_all
theorem dif_z (hI : zI ζ) {E a : Nat} : dif (tch ζ E (ζ 4)) (rea ζ E a) = 0 ↔ ∀ b r r', edg ζ E b r r' → cn ζ E a r := by
  have hl := lt31 (tch_lt hI E (Nat.le_refl _)) (by decide)
  constructor
  · intro h b r r' he
    have h1 : (dif (tch ζ E (ζ 4)) (rea ζ E a)).testBit r = false := by rw [h]; simp
    rw [dif_bit hl, tch_ed.mpr ⟨b, r', he⟩] at h1
    simpa [cn] using h1
  · intro h
    apply bit_ext
    intro r
    rw [dif_bit hl]
    cases ht : (tch ζ E (ζ 4)).testBit r
    · simp
    · obtain ⟨b, r', he⟩ := tch_ed.mp ht
      have : (rea ζ E a).testBit r = true := h b r r' he
      simp [this]
theorem wn_zero (hI : zI ζ) {E a : Nat} : wn ζ E a = 0 ↔ E ≠ 0 ∧ (∃ b r', edg ζ E b a r') ∧ (∀ b r r', edg ζ E b r r' → cn ζ E a r) ∧ pc (odm ζ E (ζ 4)) ≤ 2 ∧ (odm ζ E (ζ 4) = 0 ∨ (odm ζ E (ζ 4)).testBit a = true) := by
  unfold wn
  rw [← dif_z hI, ← tch_ed]
  by_cases h1 : E = 0
  · rw [if_pos h1]; simp [h1]
  rw [if_neg h1]
  by_cases h2 : (tch ζ E (ζ 4)).testBit a = true
  · rw [if_neg (by simpa using h2)]
    by_cases h3 : dif (tch ζ E (ζ 4)) (rea ζ E a) = 0
    · rw [if_neg (by simpa using h3)]
      by_cases h4 : 2 < pc (odm ζ E (ζ 4))
      · rw [if_pos h4]
        exact ⟨fun z => absurd z (by decide), fun z => absurd z.2.2.2.1 (by omega)⟩
      · rw [if_neg h4]
        by_cases h5 : odm ζ E (ζ 4) = 0
        · rw [if_pos h5]
          exact ⟨fun _ => ⟨h1, h2, h3, by omega, Or.inl h5⟩, fun _ => rfl⟩
        · rw [if_neg h5]
          by_cases h6 : (odm ζ E (ζ 4)).testBit a = true
          · rw [if_pos h6]
            exact ⟨fun _ => ⟨h1, h2, h3, by omega, Or.inr h6⟩, fun _ => rfl⟩
          · rw [if_neg h6]
            exact ⟨fun z => absurd z (by decide), fun z => (z.2.2.2.2.elim (fun w => absurd w h5) (fun w => absurd w h6))⟩
    · rw [if_pos h3]
      exact ⟨fun z => absurd z (by decide), fun z => absurd z.2.2.1 h3⟩
  · rw [if_pos h2]
    exact ⟨fun z => absurd z (by decide), fun z => absurd z.2.1 h2⟩
theorem rm_bit {E e i : Nat} (hE : E < 2 ^ 31) : (dif E (2 ^ e)).testBit i = (E.testBit i && !decide (e = i)) := by
  rw [dif_bit hE, Nat.testBit_two_pow]
theorem odm_rm (hI : zI ζ) {E e : Nat} (hE : E < 2 ^ 31) (he : E.testBit e = true) : ∀ n, n ≤ ζ 4 → odm ζ (dif E (2 ^ e)) n = odm ζ E n ^^^ (if e < n then ends ζ e else 0)
  | 0, _ => by simp [odm]
  | n + 1, h => by
    rw [odm, odm, odm_rm hI hE he n (by omega), rm_bit hE]
    by_cases h1 : e = n
    · subst h1
      rw [he, if_neg (Nat.lt_irrefl _), decide_eq_true rfl, if_neg (by decide), if_pos rfl, if_pos (show e < e + 1 by omega), Nat.xor_zero, Nat.xor_assoc, Nat.xor_self, Nat.xor_zero]
    · rw [decide_eq_false h1, Bool.not_false, Bool.and_true]
      by_cases h2 : e < n
      · rw [if_pos h2, if_pos (show e < n + 1 by omega), Nat.xor_assoc, Nat.xor_assoc, Nat.xor_comm (ends ζ e)]
      · rw [if_neg h2, if_neg (show ¬ e < n + 1 by omega), Nat.xor_zero, Nat.xor_zero]
/-- a trail always has a board to go on with -/
theorem sub_rm {E e : Nat} (hE : E < 2 ^ 31) {b : Nat} (h : (dif E (2 ^ e)).testBit b = true) : E.testBit b = true ∧ e ≠ b := by
  rw [rm_bit hE, Bool.and_eq_true, Bool.not_eq_true', decide_eq_false_iff_not] at h
  exact h
theorem edg_rm {E e b r r' : Nat} (hE : E < 2 ^ 31) : edg ζ (dif E (2 ^ e)) b r r' ↔ edg ζ E b r r' ∧ e ≠ b := by
  constructor
  · intro h
    have h2 := sub_rm hE h.2.1
    exact ⟨⟨h.1, h2.1, h.2.2⟩, h2.2⟩
  · rintro ⟨h, hne⟩
    refine ⟨h.1, ?_, h.2.2⟩
    rw [rm_bit hE, h.2.1, decide_eq_false hne]
    rfl
theorem edg_un {E F b x y u v : Nat} (h : edg ζ E b x y) (g : edg ζ F b u v) : (x = u ∧ y = v) ∨ (x = v ∧ y = u) := by
  rcases h.2.2 with ⟨h1, h2⟩ | ⟨h1, h2⟩ <;> rcases g.2.2 with ⟨g1, g2⟩ | ⟨g1, g2⟩
  · exact Or.inl ⟨h1.symm.trans g1, h2.symm.trans g2⟩
  · exact Or.inr ⟨h1.symm.trans g2, h2.symm.trans g1⟩
  · exact Or.inr ⟨h1.symm.trans g2, h2.symm.trans g1⟩
  · exact Or.inl ⟨h1.symm.trans g1, h2.symm.trans g2⟩
theorem odm_rm' (hI : zI ζ) {E e a b : Nat} (hE : E < 2 ^ 31) (he : edg ζ E e a b) : odm ζ (dif E (2 ^ e)) (ζ 4) = odm ζ E (ζ 4) ^^^ (2 ^ a ^^^ 2 ^ b) := by
  rw [odm_rm hI hE he.2.1 (ζ 4) (Nat.le_refl _), if_pos he.1, ends_xor hI he.1]
  rcases he.2.2 with ⟨h1, h2⟩ | ⟨h1, h2⟩
  · rw [← h1, ← h2]
  · rw [← h1, ← h2, Nat.xor_comm (2 ^ bd ζ e 1)]
theorem xor_mid (x y z : Nat) : x ^^^ y ^^^ (x ^^^ z) = y ^^^ z := by
  rw [Nat.xor_comm x y, Nat.xor_assoc, ← Nat.xor_assoc x x z, Nat.xor_self, Nat.zero_xor]
/-- the board e may go next -/
theorem next_ok (hI : zI ζ) {E e a b : Nat} (hE : E < 2 ^ 31) (he : edg ζ E e a b) (hw : wn ζ E a = 0) (hne : dif E (2 ^ e) ≠ 0) (hc : ∀ f r r', edg ζ (dif E (2 ^ e)) f r r' → cn ζ (dif E (2 ^ e)) b r) (hex : ∃ f r r', edg ζ (dif E (2 ^ e)) f r r') : wn ζ (dif E (2 ^ e)) b = 0 := by
  obtain ⟨h1, h2, h3, h4, h5⟩ := (wn_zero hI).mp hw
  have hl := edg_lt hI he
  have hev := odd_even hI E
  refine (wn_zero hI).mpr ⟨hne, ?_, hc, ?_⟩
  · obtain ⟨f, r, r', hf⟩ := hex
    have := cn_in (P := fun v => v = b ∨ ∃ f r', edg ζ (dif E (2 ^ e)) f b r') (Or.inl rfl) (fun f r r' q hp => by
      rcases hp with rfl | hp
      · exact Or.inr ⟨f, r', q⟩
      · exact Or.inr hp) r (hc f r r' hf)
    rcases this with rfl | h
    · exact ⟨f, r', hf⟩
    · exact h
  · rw [odm_rm' hI hE he]
    by_cases hz : odm ζ E (ζ 4) = 0
    · rw [hz, Nat.zero_xor, pc_pair a hl.1 b hl.2.1 hl.2.2]
      refine ⟨Nat.le_refl _, Or.inr ?_⟩
      rw [Nat.testBit_xor, Nat.testBit_two_pow, Nat.testBit_two_pow, decide_eq_false (by omega), decide_eq_true rfl]
      rfl
    · have hb := h5.resolve_left hz
      have hlt := odm_lt hI E (ζ 4) (Nat.le_refl _)
      have h2' : pc (odm ζ E (ζ 4)) = 2 := by
        have : pc (odm ζ E (ζ 4)) ≠ 0 := fun z => hz ((pc_zero _ hlt).mp z)
        omega
      obtain ⟨z, hz10, hza, hzz⟩ := pc_two _ hlt h2' a hl.1 hb
      rw [hzz, xor_mid]
      by_cases hzb : z = b
      · rw [hzb, Nat.xor_self]
        exact ⟨by decide, Or.inl rfl⟩
      · rw [pc_pair z hz10 b hl.2.1 hzb]
        refine ⟨Nat.le_refl _, Or.inr ?_⟩
        rw [Nat.testBit_xor, Nat.testBit_two_pow, Nat.testBit_two_pow, decide_eq_false hzb, decide_eq_true rfl]
        rfl
/-- a bridge at the room where the trail stands leads to the trail's end -/
theorem bridge_end (hI : zI ζ) {E e a b : Nat} (hE : E < 2 ^ 31) (he : edg ζ E e a b) (hw : wn ζ E a = 0) (hbr : ¬ cn ζ (dif E (2 ^ e)) b a) : ∃ z, z < 10 ∧ z ≠ a ∧ odm ζ E (ζ 4) = 2 ^ a ^^^ 2 ^ z ∧ cn ζ (dif E (2 ^ e)) b z := by
  obtain ⟨h1, h2, h3, h4, h5⟩ := (wn_zero hI).mp hw
  have hl := edg_lt hI he
  have hev := odd_even hI E
  have hs := handshake hI (E := dif E (2 ^ e)) (K := rea ζ (dif E (2 ^ e)) b) (fun f r r' q hp => cn_ed hI hl.2.1 q hp) (ζ 4) (Nat.le_refl _)
  rw [odm_rm' hI hE he] at hs
  have ka : (rea ζ (dif E (2 ^ e)) b).testBit a = false := by simpa [cn] using hbr
  have kb : (rea ζ (dif E (2 ^ e)) b).testBit b = true := cn_rf hl.2.1
  by_cases hz : odm ζ E (ζ 4) = 0
  · rw [hz, Nat.zero_xor, Nat.and_xor_distrib_right, par_xor, par_one, par_one, ka, kb, decide_eq_true hl.2.1] at hs
    simp at hs
  · have hb := h5.resolve_left hz
    have hlt := odm_lt hI E (ζ 4) (Nat.le_refl _)
    have h2' : pc (odm ζ E (ζ 4)) = 2 := by
      have : pc (odm ζ E (ζ 4)) ≠ 0 := fun z => hz ((pc_zero _ hlt).mp z)
      omega
    obtain ⟨z, hz10, hza, hzz⟩ := pc_two _ hlt h2' a hl.1 hb
    refine ⟨z, hz10, hza, hzz, ?_⟩
    rw [hzz, xor_mid, Nat.and_xor_distrib_right, par_xor, par_one, par_one, kb, decide_eq_true hl.2.1, decide_eq_true hz10] at hs
    show (rea ζ (dif E (2 ^ e)) b).testBit z = true
    cases hq : (rea ζ (dif E (2 ^ e)) b).testBit z
    · rw [hq] at hs
      exact absurd hs (by decide)
    · rfl
theorem fleury (hI : zI ζ) {E a : Nat} (ha : a < 10) (hE : E < 2 ^ ζ 4) (hw : wn ζ E a = 0) : ∃ e b, edg ζ E e a b ∧ (dif E (2 ^ e) = 0 ∨ wn ζ (dif E (2 ^ e)) b = 0) := by
  have hE31 : E < 2 ^ 31 := Nat.lt_of_lt_of_le hE (Nat.pow_le_pow_right (by decide) (by have := hI.nb; omega))
  obtain ⟨h1, ⟨e1, b1, he1⟩, h3, h4, h5⟩ := (wn_zero hI).mp hw
  have hb1 := (edg_lt hI he1).2.1
  -- boards that are left have ends
  have hex : ∀ e, dif E (2 ^ e) ≠ 0 → ∃ f r r', edg ζ (dif E (2 ^ e)) f r r' := by
    intro e h
    obtain ⟨f, hf⟩ := Nat.exists_testBit_of_ne_zero h
    have hf4 : f < ζ 4 := by
      refine Nat.lt_of_not_le fun z => ?_
      have := (sub_rm hE31 hf).1
      rw [bit_big hE z] at this
      exact absurd this (by decide)
    exact ⟨f, _, _, hf4, hf, Or.inl ⟨rfl, rfl⟩⟩
  -- no bridge
  have good : ∀ e b, edg ζ E e a b → cn ζ (dif E (2 ^ e)) b a → dif E (2 ^ e) = 0 ∨ wn ζ (dif E (2 ^ e)) b = 0 := by
    intro e b he hc
    by_cases hz : dif E (2 ^ e) = 0
    · exact Or.inl hz
    refine Or.inr (next_ok hI hE31 he hw hz (fun f r r' hf => ?_) (hex e hz))
    have hb := (edg_lt hI he).2.1
    refine cn_in (P := fun v => cn ζ (dif E (2 ^ e)) b v) hc (fun g x y hg hp => ?_) r (h3 f r r' ((edg_rm hE31).mp hf).1)
    by_cases hge : e = g
    · subst hge
      rcases edg_un hg he with ⟨-, rfl⟩ | ⟨-, rfl⟩
      · exact cn_rf hb
      · exact hc
    · exact cn_ed hI hb ((edg_rm hE31).mpr ⟨hg, hge⟩) hp
  by_cases c1 : cn ζ (dif E (2 ^ e1)) b1 a
  · exact ⟨e1, b1, he1, good e1 b1 he1 c1⟩
  by_cases honly : ∃ e2 b2, edg ζ E e2 a b2 ∧ e2 ≠ e1
  · obtain ⟨e2, b2, he2, hne⟩ := honly
    have hb2 := (edg_lt hI he2).2.1
    refine ⟨e2, b2, he2, good e2 b2 he2 ?_⟩
    refine Classical.byContradiction fun c2 => ?_
    obtain ⟨z, hz10, hza, hzz, cz1⟩ := bridge_end hI hE31 he1 hw c1
    obtain ⟨z', hz10', hza', hzz', cz2⟩ := bridge_end hI hE31 he2 hw c2
    have hzeq : z' = z := by
      have hq : 2 ^ a ^^^ 2 ^ z = 2 ^ a ^^^ 2 ^ z' := hzz.symm.trans hzz'
      have hq2 := congrArg (fun m => m.testBit z') hq
      simp only [Nat.testBit_xor, Nat.testBit_two_pow] at hq2
      rw [decide_eq_false (show ¬ a = z' by omega)] at hq2
      have : z = z' := by simpa using hq2
      exact this.symm
    subst hzeq
    have key : ∀ v, cn ζ (dif E (2 ^ e2)) b2 v → cn ζ (dif E (2 ^ e2)) b2 v ∧ cn ζ (dif E (2 ^ e1)) b2 v := by
      refine cn_in ⟨cn_rf hb2, cn_rf hb2⟩ (fun g x y hg hp => ?_)
      have h2y := cn_ed hI hb2 hg hp.1
      refine ⟨h2y, ?_⟩
      by_cases hge : e1 = g
      · subst hge
        rcases edg_un hg he1 with ⟨rfl, -⟩ | ⟨-, rfl⟩
        · exact absurd hp.1 c2
        · exact absurd h2y c2
      · exact cn_ed hI hb2 ((edg_rm hE31).mpr ⟨((edg_rm hE31).mp hg).1, hge⟩) hp.2
    have q1 := (key z' cz2).2
    have q2 := cn_tr hI hb1 cz1 (cn_sy hI hb2 q1)
    exact c1 (cn_ed hI hb1 ((edg_rm hE31).mpr ⟨edg_sm he2, fun w => hne w.symm⟩) q2)
  · have only : ∀ f r', edg ζ E f a r' → f = e1 := fun f r' hf => Classical.byContradiction fun w => honly ⟨f, r', hf, w⟩
    refine ⟨e1, b1, he1, ?_⟩
    by_cases hz : dif E (2 ^ e1) = 0
    · exact Or.inl hz
    refine Or.inr (next_ok hI hE31 he1 hw hz (fun f r r' hf => ?_) (hex e1 hz))
    have hr := (edg_rm hE31).mp hf
    have := cn_in (P := fun v => v = a ∨ cn ζ (dif E (2 ^ e1)) b1 v) (Or.inl rfl) (fun g x y hg hp => by
      by_cases hge : e1 = g
      · subst hge
        rcases edg_un hg he1 with ⟨-, rfl⟩ | ⟨-, rfl⟩
        · exact Or.inr (cn_rf hb1)
        · exact Or.inl rfl
      · rcases hp with rfl | hp
        · exact absurd (only g y hg).symm hge
        · exact Or.inr (cn_ed hI hb1 ((edg_rm hE31).mpr ⟨hg, hge⟩) hp)) r (h3 f r r' hr.1)
    rcases this with rfl | h
    · exact absurd (only f r' hr.1).symm hr.2
    · exact h
end TM
