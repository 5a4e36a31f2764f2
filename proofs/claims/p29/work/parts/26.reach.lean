section RC
variable {ζ : Nat → Nat} {σ : gS}
def wid (ζ : Nat → Nat) (E R : Nat) : Nat := R ||| orF (fun b => if E.testBit b = true ∧ ends ζ b &&& R ≠ 0 then ends ζ b else 0) (ζ 4)
theorem wid_lt (hI : zI ζ) {E R : Nat} (hR : R < 2 ^ 10) : wid ζ E R < 2 ^ 10 := Nat.or_lt_two_pow hR (orF_lt fun b hb => by
  split
  · exact ends_lt hI hb
  · decide)
theorem wid_bit {E R r : Nat} : (wid ζ E R).testBit r = true ↔ R.testBit r = true ∨ ∃ b, b < ζ 4 ∧ E.testBit b = true ∧ (R.testBit (bd ζ b 0) = true ∨ R.testBit (bd ζ b 1) = true) ∧ (bd ζ b 0 = r ∨ bd ζ b 1 = r) := by
  unfold wid
  rw [Nat.testBit_or, Bool.or_eq_true, orF_bit]
  refine or_congr Iff.rfl ⟨?_, ?_⟩
  · rintro ⟨b, hb, h⟩
    by_cases hc : E.testBit b = true ∧ ends ζ b &&& R ≠ 0
    · rw [if_pos hc, ends_bit, Bool.or_eq_true, decide_eq_true_eq, decide_eq_true_eq] at h
      exact ⟨b, hb, hc.1, ends_and.mp hc.2, h⟩
    · rw [if_neg hc] at h
      simp at h
  · rintro ⟨b, hb, he, hr, h⟩
    refine ⟨b, hb, ?_⟩
    rw [if_pos ⟨he, ends_and.mpr hr⟩, ends_bit, Bool.or_eq_true, decide_eq_true_eq, decide_eq_true_eq]
    exact h
theorem x_widened (h : cX ζ σ 1) (hI : zI ζ) {R E : Nat} (hR : R < 2 ^ 10) (hE : E < 2 ^ 31) : f_X1_widened (nI R) (nI E) σ = some (nI (wid ζ E R), σ) := by
  have hn := hI.nb
  unfold f_X1_widened
  have := lp0 (fun n i => f_X1_widened_L5 (nI R) (nI E) n (nI (R ||| orF (fun b => if E.testBit b = true ∧ ends ζ b &&& R ≠ 0 then ends ζ b else 0) i)) (nI i) σ) (ζ 4) (some (nI (wid ζ E R), σ)) (by omega) (fun n i hi => ?_) (fun n => ?_)
  · rw [show orF (fun b => if E.testBit b = true ∧ ends ζ b &&& R ≠ 0 then ends ζ b else 0) 0 = 0 from rfl, Nat.or_zero] at this
    exact this
  · rw [f_X1_widened_L5_s, x_nb h, if_neg (nI_ge hi (by omega)), orF]
    by_cases he : E.testBit i = true
    · rw [holds_t hE (by omega) he, ob_some]
      dsimp only
      rw [if_neg (by decide), x_ends h hI hi, ob_some]
      dsimp only
      rw [n_and]
      have hlt : ends ζ i &&& R < 2 ^ 32 := Nat.lt_trans (Nat.and_lt_two_pow _ hR) (by decide)
      by_cases hc : ends ζ i &&& R = 0
      · rw [if_pos ((n_eq0 hlt).mpr hc), if_neg (fun z => z.2 hc), Nat.or_zero, nI_1]
      · rw [if_neg (fun z => hc ((n_eq0 hlt).mp z)), x_ends h hI hi, ob_some]
        dsimp only
        rw [gLet_eq, n_or, if_pos ⟨he, hc⟩, nI_1, Nat.or_assoc]
    · rw [holds_f hE (by omega) he, ob_some]
      dsimp only
      rw [if_pos rfl, if_neg (fun z => he z.1), Nat.or_zero, nI_1]
  · rw [f_X1_widened_L5_s, x_nb h, if_pos (Int32.le_refl _)]
    rfl
def Wk (ζ : Nat → Nat) (E t : Nat) : Nat → Nat
  | 0 => 2 ^ t
  | k + 1 => wid ζ E (Wk ζ E t k)
theorem Wk_lt (hI : zI ζ) {E t : Nat} (ht : t < 10) : ∀ k, Wk ζ E t k < 2 ^ 10
  | 0 => p2_lt ht
  | k + 1 => wid_lt hI (Wk_lt hI ht k)
theorem Wk_stop {E t k : Nat} (h : Wk ζ E t (k + 1) = Wk ζ E t k) : ∀ m, k ≤ m → Wk ζ E t m = Wk ζ E t k := by
  intro m hm
  induction m with
  | zero => rw [show k = 0 by omega]
  | succ m ih =>
    rcases Nat.lt_or_ge k (m + 1) with h1 | h1
    · rw [Wk, ih (by omega)]
      exact h
    · rw [show k = m + 1 by omega]
def gDz (ζ : Nat → Nat) (E t k r : Nat) : Nat := gD (ζ 4) (fun b => E.testBit b) (zlo ζ) (zhi ζ) (cst ζ 0) t k r
theorem gz_from {E t : Nat} (k r : Nat) : gDz ζ E t (k + 1) r = gDz ζ E t k r ∨ ∃ b r', b < ζ 4 ∧ E.testBit b = true ∧ ((bd ζ b 0 = r ∧ bd ζ b 1 = r') ∨ (bd ζ b 1 = r ∧ bd ζ b 0 = r')) ∧ gDz ζ E t (k + 1) r = gDz ζ E t k r' + 1 := gD_from k r
theorem gz_mono1 {E t : Nat} (k r : Nat) : gDz ζ E t (k + 1) r ≤ gDz ζ E t k r := gD_mono1 k r
theorem gz_mono {E t j k : Nat} (h : j ≤ k) (r : Nat) : gDz ζ E t k r ≤ gDz ζ E t j r := gD_mono h r
theorem gz_le {E t : Nat} (k r : Nat) : gDz ζ E t k r ≤ gINF := gD_le k r
theorem gz_lo (hI : zI ζ) {E t : Nat} (k : Nat) {b : Nat} (hb : b < ζ 4) (he : E.testBit b = true) : gDz ζ E t (k + 1) (bd ζ b 0) ≤ gDz ζ E t k (bd ζ b 1) + 1 := gD_rlo (t := t) (ok_z hI E 0) k hb he
theorem gz_hi (hI : zI ζ) {E t : Nat} (k : Nat) {b : Nat} (hb : b < ζ 4) (he : E.testBit b = true) : gDz ζ E t (k + 1) (bd ζ b 1) ≤ gDz ζ E t k (bd ζ b 0) + 1 := gD_rhi (t := t) (ok_z hI E 0) k hb he
theorem gz_dst {E t r : Nat} : dst ζ E 0 t r = gDz ζ E t 9 r := rfl
theorem u_small {E t : Nat} : ∀ k r, gDz ζ E t k r ≤ k ∨ gDz ζ E t k r = gINF
  | 0, r => by
    by_cases h : r = t
    · exact Or.inl (by show (if r = t then 0 else gINF) ≤ 0; rw [if_pos h]; exact Nat.le_refl _)
    · exact Or.inr (if_neg h)
  | k + 1, r => by
    rcases gz_from (ζ := ζ) (E := E) (t := t) k r with h | ⟨b, r', hb, he, hbr, h⟩
    · rcases u_small (E := E) (t := t) k r with h1 | h1
      · exact Or.inl (by rw [h]; omega)
      · exact Or.inr (by rw [h]; exact h1)
    · rcases u_small (E := E) (t := t) k r' with h1 | h1
      · exact Or.inl (by rw [h]; omega)
      · have := gz_le (ζ := ζ) (E := E) (t := t) (k + 1) r
        omega
theorem Wk_bit (hI : zI ζ) {E t : Nat} : ∀ k, k ≤ 100 → ∀ r, (Wk ζ E t k).testBit r = true ↔ gDz ζ E t k r ≤ k
  | 0, _ => fun r => by
    rw [Wk, Nat.testBit_two_pow, decide_eq_true_eq]
    show t = r ↔ (if r = t then 0 else gINF) ≤ 0
    by_cases h : r = t
    · rw [if_pos h]; exact ⟨fun _ => Nat.le_refl _, fun _ => h.symm⟩
    · rw [if_neg h]; exact ⟨fun z => absurd z.symm h, fun z => absurd z (by decide)⟩
  | k + 1, hk => fun r => by
    have ih := Wk_bit hI (E := E) (t := t) k (by omega)
    rw [Wk, wid_bit, ih r]
    constructor
    · rintro (h | ⟨b, hb, he, hR, hr⟩)
      · exact Nat.le_trans (gz_mono1 k r) (by omega)
      · rw [ih, ih] at hR
        have m0 := gz_mono1 (ζ := ζ) (E := E) (t := t) k (bd ζ b 0)
        have m1 := gz_mono1 (ζ := ζ) (E := E) (t := t) k (bd ζ b 1)
        have r0 : gDz ζ E t (k + 1) (bd ζ b 0) ≤ gDz ζ E t k (bd ζ b 1) + 1 := gz_lo hI k hb he
        have r1 : gDz ζ E t (k + 1) (bd ζ b 1) ≤ gDz ζ E t k (bd ζ b 0) + 1 := gz_hi hI k hb he
        rcases hr with rfl | rfl <;> rcases hR with q | q <;> omega
    · intro h
      rcases gz_from (ζ := ζ) (E := E) (t := t) k r with h1 | ⟨b, r', hb, he, hbr, h1⟩
      · rcases u_small (ζ := ζ) (E := E) (t := t) k r with h2 | h2
        · exact Or.inl h2
        · unfold gINF at h2
          omega
      · have hd : gDz ζ E t k r' ≤ k := by omega
        refine Or.inr ⟨b, hb, he, ?_, ?_⟩
        · rcases hbr with ⟨-, h2⟩ | ⟨-, h2⟩
          · exact Or.inr ((ih _).mpr (by rw [show bd ζ b 1 = r' from h2]; exact hd))
          · exact Or.inl ((ih _).mpr (by rw [show bd ζ b 0 = r' from h2]; exact hd))
        · rcases hbr with ⟨h2, -⟩ | ⟨h2, -⟩
          · exact Or.inl h2
          · exact Or.inr h2
theorem Wk_rea (hI : zI ζ) {E t : Nat} (ht : t < 10) : Wk ζ E t 9 = rea ζ E t := by
  apply bit_ext
  intro r
  rw [rea, mk_bit]
  by_cases hr : r < 10
  · rw [Bool.eq_iff_iff, Wk_bit hI 9 (by decide) r, decide_eq_true hr, Bool.true_and, decide_eq_true_eq]
    rcases u_small (ζ := ζ) (E := E) (t := t) 9 r with h | h
    · exact ⟨fun _ => Nat.lt_of_le_of_lt h (by decide), fun _ => h⟩
    · rw [h]
      exact ⟨fun z => absurd z (by decide), fun z => absurd (show gDz ζ E t 9 r < gINF from z) (by rw [h]; exact Nat.lt_irrefl _)⟩
  · rw [bit_big (Wk_lt hI ht 9) (by omega), decide_eq_false hr, Bool.false_and]
theorem rea_lt {E t : Nat} : rea ζ E t < 2 ^ 10 := mk_lt
theorem x_rooms (h : cX ζ σ 1) (hI : zI ζ) {E t : Nat} (hE : E < 2 ^ 31) (ht : t < 10) : f_X1_roomsFrom (nI t) (nI E) σ = some (nI (rea ζ E t), σ) := by
  have key : ∀ d i n, i + d = 9 → d < n → f_X1_roomsFrom_L7 (nI E) n (nI (Wk ζ E t i)) (nI (i + 1)) σ = some (nI (Wk ζ E t 9), σ) := by
    intro d
    induction d with
    | zero =>
      intro i n hi hn
      obtain ⟨k, rfl⟩ : ∃ k, n = k + 1 := ⟨n - 1, by omega⟩
      have : i = 9 := by omega
      subst this
      rw [f_X1_roomsFrom_L7_s, if_pos (show (10 : Int32) ≤ nI (9 + 1) from Int32.le_refl _)]
    | succ d ih =>
      intro i n hi hn
      obtain ⟨k, rfl⟩ : ∃ k, n = k + 1 := ⟨n - 1, by omega⟩
      rw [f_X1_roomsFrom_L7_s, if_neg (show ¬ (10 : Int32) ≤ nI (i + 1) from nI_ge (a := i + 1) (b := 10) (by omega) (by decide)), x_widened h hI (Wk_lt hI ht i) hE, ob_some]
      dsimp only
      by_cases hq : wid ζ E (Wk ζ E t i) = Wk ζ E t i
      · rw [if_pos (by rw [hq]), Wk_stop hq 9 (by omega)]
      · rw [if_neg (fun z => hq ((n_inj (Nat.lt_trans (wid_lt hI (Wk_lt hI ht i)) (by decide)) (Nat.lt_trans (Wk_lt hI ht i) (by decide))).mp z)), nI_1]
        exact ih (i + 1) k (by omega) (by omega)
  unfold f_X1_roomsFrom
  rw [gLet_eq, shl1 _ (by omega), ← Wk_rea hI ht]
  exact key 9 0 gFu rfl (gFu_lt (by decide))
theorem u_walk (hI : zI ζ) {E t : Nat} : ∀ k r, gDz ζ E t k r < gINF → gDz ζ E t (gDz ζ E t k r) r = gDz ζ E t k r
  | 0, r, h => by
    by_cases hr : r = t
    · have h0 : gDz ζ E t 0 r = 0 := if_pos hr
      rw [h0]; exact h0
    · have h0 : gDz ζ E t 0 r = gINF := if_neg hr
      omega
  | k + 1, r, h => by
    rcases gz_from (ζ := ζ) (E := E) (t := t) k r with h1 | ⟨b, r', hb, he, hbr, h1⟩
    · have h1' : gDz ζ E t (k + 1) r = gDz ζ E t k r := h1
      rw [h1']
      exact u_walk hI k r (by omega)
    · have h1' : gDz ζ E t (k + 1) r = gDz ζ E t k r' + 1 := h1
      have hw := u_walk hI (E := E) (t := t) k r' (by omega)
      have hs : gDz ζ E t k r' ≤ k := by
        rcases u_small (ζ := ζ) (E := E) (t := t) k r' with q | q
        · exact q
        · omega
      have hx : gDz ζ E t (gDz ζ E t k r' + 1) r ≤ gDz ζ E t (gDz ζ E t k r') r' + 1 := by
        rcases hbr with ⟨rfl, rfl⟩ | ⟨rfl, rfl⟩
        · exact gz_lo hI _ hb he
        · exact gz_hi hI _ hb he
      have hm := gz_mono (ζ := ζ) (E := E) (t := t) (show gDz ζ E t k r' + 1 ≤ k + 1 by omega) r
      rw [h1']
      have hm' : gDz ζ E t (k + 1) r ≤ gDz ζ E t (gDz ζ E t k r' + 1) r := hm
      omega
/-- the fewest boards to one of the goals -/
theorem x_fewest (h : cX ζ σ 1) (hI : zI ζ) {t G d : Nat} (ht : t < 10) (hG : G < 2 ^ 10) (h1 : ∀ r, r < 10 → G.testBit r = true → d ≤ dst ζ (2 ^ ζ 4 - 1) 0 t r) (h2 : d = gINF ∨ ∃ r, r < 10 ∧ G.testBit r = true ∧ dst ζ (2 ^ ζ 4 - 1) 0 t r = d) (h3 : d ≤ gINF) :
    f_X1_fewestTo (nI t) (nI G) σ = some (if d < gINF then nI d else (-6), σ) := by
  have hit : ∀ i, i ≤ 9 → (Wk ζ (2 ^ ζ 4 - 1) t i &&& G ≠ 0 ↔ d ≤ i) := by
    intro i hi
    rw [and_ne]
    constructor
    · rintro ⟨r, hr1, hr2⟩
      have hr : r < 10 := by
        refine Nat.lt_of_not_le fun hle => ?_
        rw [bit_big hG hle] at hr2
        cases hr2
      have q1 := (Wk_bit hI i (by omega) r).mp hr1
      have q2 : dst ζ (2 ^ ζ 4 - 1) 0 t r ≤ gDz ζ (2 ^ ζ 4 - 1) t i r := gz_mono hi r
      have q3 := h1 r hr hr2
      omega
    · intro hd
      rcases h2 with q | ⟨r, hr, hr2, q⟩
      · unfold gINF at q; omega
      · refine ⟨r, (Wk_bit hI i (by omega) r).mpr ?_, hr2⟩
        have q0 : gDz ζ (2 ^ ζ 4 - 1) t 9 r = d := q
        have q1 := u_walk hI (E := 2 ^ ζ 4 - 1) (t := t) 9 r (by rw [q0]; unfold gINF; omega)
        rw [q0] at q1
        have q2 : gDz ζ (2 ^ ζ 4 - 1) t i r ≤ gDz ζ (2 ^ ζ 4 - 1) t d r := gz_mono hd r
        omega
  have key : ∀ m i n, i + m = 10 → m < n → ¬ (d < i) → f_X1_fewestTo_L7 (nI G) n (nI (Wk ζ (2 ^ ζ 4 - 1) t i)) (nI i) σ = some (if d < gINF then nI d else (-6), σ) := by
    intro m
    induction m with
    | zero =>
      intro i n hi hn hd
      obtain ⟨k, rfl⟩ : ∃ k, n = k + 1 := ⟨n - 1, by omega⟩
      have : i = 10 := by omega
      subst this
      have hInf : d = gINF := by
        rcases h2 with q | ⟨r, hr, hr2, q⟩
        · exact q
        · rcases u_small (ζ := ζ) (E := 2 ^ ζ 4 - 1) (t := t) 9 r with w | w
          · have : dst ζ (2 ^ ζ 4 - 1) 0 t r ≤ 9 := w
            omega
          · exact q.symm.trans w
      rw [f_X1_fewestTo_L7_s, if_pos (show (10 : Int32) ≤ nI 10 from Int32.le_refl _), if_neg (by omega)]
    | succ m ih =>
      intro i n hi hn hd
      obtain ⟨k, rfl⟩ : ∃ k, n = k + 1 := ⟨n - 1, by omega⟩
      rw [f_X1_fewestTo_L7_s, if_neg (show ¬ (10 : Int32) ≤ nI i from nI_ge (a := i) (b := 10) (by omega) (by decide)), n_and]
      have hlt : Wk ζ (2 ^ ζ 4 - 1) t i &&& G < 2 ^ 32 := Nat.lt_trans (Nat.and_lt_two_pow _ hG) (by decide)
      by_cases hz : Wk ζ (2 ^ ζ 4 - 1) t i &&& G = 0
      · have hdi : ¬ d ≤ i := fun z => (hit i (by omega)).mpr z hz
        rw [if_pos ((n_eq0 hlt).mpr hz), x_all h hI, ob_some]
        dsimp only
        rw [x_widened h hI (Wk_lt hI ht i) (lt31 (all_lt hI) (by decide)), ob_some]
        dsimp only
        by_cases hq : wid ζ (2 ^ ζ 4 - 1) (Wk ζ (2 ^ ζ 4 - 1) t i) = Wk ζ (2 ^ ζ 4 - 1) t i
        · rw [if_pos (by rw [hq])]
          have : ¬ d < gINF := by
            intro hlt2
            have hd9 : d ≤ 9 := by
              rcases h2 with q | ⟨r, hr, hr2, q⟩
              · omega
              · rcases u_small (ζ := ζ) (E := 2 ^ ζ 4 - 1) (t := t) 9 r with w | w
                · have : dst ζ (2 ^ ζ 4 - 1) 0 t r ≤ 9 := w
                  omega
                · have : dst ζ (2 ^ ζ 4 - 1) 0 t r = gINF := w
                  omega
            have := (hit d hd9).mpr (Nat.le_refl _)
            rw [Wk_stop hq d (by omega)] at this
            exact this hz
          rw [if_neg this]
        · rw [if_neg (fun z => hq ((n_inj (Nat.lt_trans (wid_lt hI (Wk_lt hI ht i)) (by decide)) (Nat.lt_trans (Wk_lt hI ht i) (by decide))).mp z)), nI_1]
          exact ih (i + 1) k (by omega) (by omega) (by omega)
      · have hdi : d ≤ i := (hit i (by omega)).mp hz
        have : d = i := by omega
        subst this
        rw [if_neg (fun z => hz ((n_eq0 hlt).mp z)), if_pos (by unfold gINF; omega)]
  unfold f_X1_fewestTo
  rw [gLet_eq, shl1 _ (by omega)]
  exact key 10 0 gFu rfl (gFu_lt (by decide)) (Nat.not_lt_zero d)
theorem x_far1 (h : cX ζ σ 1) (hI : zI ζ) {t r : Nat} (ht : t < 10) (hr : r < 10) : f_X1_fewestTo (nI t) (nI (2 ^ r)) σ = some (if dst ζ (2 ^ ζ 4 - 1) 0 t r < gINF then nI (dst ζ (2 ^ ζ 4 - 1) 0 t r) else (-6), σ) := by
  refine x_fewest h hI ht (p2_lt hr) (fun r' _ hb => ?_) (Or.inr ⟨r, hr, Nat.testBit_two_pow_self, rfl⟩) (dst_le _ _ _ _ _)
  rw [Nat.testBit_two_pow, decide_eq_true_eq] at hb
  rw [hb]
  exact Nat.le_refl _
theorem x_loudIn (h : cX ζ σ 1) (hI : zI ζ) {b t : Nat} (hb : b < ζ 4) (ht : t < 10) : f_X1_loudnessIn (nI t) (nI b) σ = some (nI (ldn ζ b t), σ) := by
  have hbb := hI.b hb
  have l0 := dst_le ζ (2 ^ ζ 4 - 1) 0 t (bd ζ b 0)
  have l1 := dst_le ζ (2 ^ ζ 4 - 1) 0 t (bd ζ b 1)
  unfold f_X1_loudnessIn
  rw [x_ends h hI hb, ob_some]
  dsimp only
  rw [x_fewest (d := min (dst ζ (2 ^ ζ 4 - 1) 0 t (bd ζ b 0)) (dst ζ (2 ^ ζ 4 - 1) 0 t (bd ζ b 1))) h hI ht (ends_lt hI hb) ?_ ?_ (by omega), ob_some]
  · dsimp only
    unfold ldn
    generalize hm : min (dst ζ (2 ^ ζ 4 - 1) 0 t (bd ζ b 0)) (dst ζ (2 ^ ζ 4 - 1) 0 t (bd ζ b 1)) = d
    have hd : d ≤ gINF := by omega
    by_cases hc : d < gINF
    · have hne : ¬ nI d = (-6 : Int32) := by
        rw [show (-6 : Int32) = nI (2 ^ 32 - 6) by decide, n_inj (by unfold gINF at hc; omega) (by decide)]
        unfold gINF at hc
        omega
      rw [if_pos hc, if_neg hne, a_cr h hI hb, ob_some]
      dsimp only
      unfold gINF at hc
      by_cases hq : d ≤ bd ζ b 2
      · rw [pk_sub hq, if_neg (nI_pos (by omega))]
      · rw [if_pos (pk_sneg (by omega) (by omega)), show bd ζ b 2 - d = 0 by omega]
        rfl
    · rw [if_neg hc, if_pos rfl, show bd ζ b 2 - d = 0 by unfold gINF at hc; omega]
      rfl
  · intro r _ hr
    rw [ends_bit, Bool.or_eq_true, decide_eq_true_eq, decide_eq_true_eq] at hr
    rcases hr with rfl | rfl
    · exact Nat.min_le_left _ _
    · exact Nat.min_le_right _ _
  · rcases Nat.le_total (dst ζ (2 ^ ζ 4 - 1) 0 t (bd ζ b 0)) (dst ζ (2 ^ ζ 4 - 1) 0 t (bd ζ b 1)) with q | q
    · exact Or.inr ⟨bd ζ b 0, by omega, by rw [ends_bit]; simp, by omega⟩
    · exact Or.inr ⟨bd ζ b 1, by omega, by rw [ends_bit]; simp, by omega⟩
/-- does the board wake the sleeper -/
def wkB (ζ : Nat → Nat) (b s : Nat) : Bool := decide (sl ζ s 1 ≤ ldn ζ b (sl ζ s 0))
theorem ldn_le (hI : zI ζ) {b t : Nat} (hb : b < ζ 4) : ldn ζ b t ≤ 9 := by
  have := hI.b hb
  unfold ldn
  omega
def btw (ζ : Nat → Nat) (s : Nat) : Nat := mk (fun b => wkB ζ b s) (ζ 4)
theorem x_btw (h : cX ζ σ 1) (hI : zI ζ) {s : Nat} (hs : s < ζ 5) : f_X0_boardsThatWake (nI s) σ = some (nI (btw ζ s), σ) := by
  have hn := hI.nb
  have hss := hI.s hs
  unfold f_X0_boardsThatWake
  rw [a_srm h hI hs, ob_some]
  dsimp only
  refine lp0 (fun n i => f_X0_boardsThatWake_L17 (nI s) (nI (sl ζ s 0)) n (nI (mk (fun b => wkB ζ b s) i)) (nI i) σ) (ζ 4) _ (by omega) (fun n i hi => ?_) (fun n => ?_)
  · have hl := ldn_le hI (t := sl ζ s 0) hi
    rw [f_X0_boardsThatWake_L17_s, x_nb h, if_neg (nI_ge hi (by omega)), x_loudIn h hI hi hss.1, ob_some]
    dsimp only
    rw [a_ear h hI hs, ob_some]
    dsimp only
    rw [nI_1, mk_succ]
    by_cases hc : sl ζ s 1 ≤ ldn ζ i (sl ζ s 0)
    · have hw : wkB ζ i s = true := decide_eq_true hc
      rw [if_neg (nI_nlt hc (by omega)), gLet_eq, shl1 _ (by omega), n_or]
      simp [hw]
    · have hw : wkB ζ i s = false := by unfold wkB; simpa using hc
      rw [if_pos (nI_lt (by omega) (by omega))]
      simp [hw]
  · rw [f_X0_boardsThatWake_L17_s, x_nb h, if_pos (Int32.le_refl _)]
    rfl
theorem own_enc (σ : gS) : enc σ (fun r => (σ 6 r).toBitVec.toNat) = σ := by
  funext j k
  by_cases hj : j = 6
  · subst hj
    by_cases hk : k < 10
    · rw [enc_at hk]
      apply Int32.toBitVec_inj.mp
      show BitVec.ofNat 32 _ = _
      rw [BitVec.ofNat_toNat, BitVec.setWidth_eq]
    · simp [enc, gU, hk]
  · rw [enc_row hj]
end RC
