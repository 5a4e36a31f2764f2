section YL
variable {ζ : Nat → Nat} {σ : gS}
/-- a board as the law packs it -/
def bw (ζ : Nat → Nat) (b : Nat) : Nat := bd ζ b 0 + 16 * bd ζ b 1 + 256 * bd ζ b 2 + 4096 * bd ζ b 3
/-- the law's rows hold ζ -/
def yL (ζ : Nat → Nat) (σ : gS) : Prop := (∀ k, k < 6 → σ 306 k = nI (ζ k)) ∧ (∀ b, b < ζ 4 → σ 302 b = nI (bw ζ b) ∧ σ 303 b = nI (bd ζ b 4)) ∧ (∀ g, g < 4 → ∀ j, j < 3 → σ 304 (g + 4 * j) = nI (gh ζ g j)) ∧ (∀ s, s < ζ 5 → ∀ j, j < 4 → σ 305 (s + 5 * j) = nI (sl ζ s j))
theorem y_g (h : yL ζ σ) {g : Nat} (hg : g < 4) : σ 304 g = nI (gh ζ g 0) ∧ σ 304 (4 + g) = nI (gh ζ g 1) ∧ σ 304 (8 + g) = nI (gh ζ g 2) := by
  have h1 := h.2.2.1 g hg 1 (by decide)
  have h2 := h.2.2.1 g hg 2 (by decide)
  rw [show g + 4 * 1 = 4 + g by omega] at h1
  rw [show g + 4 * 2 = 8 + g by omega] at h2
  exact ⟨h.2.2.1 g hg 0 (by decide), h1, h2⟩
theorem y_s (h : yL ζ σ) {s : Nat} (hs : s < ζ 5) : σ 305 s = nI (sl ζ s 0) ∧ σ 305 (5 + s) = nI (sl ζ s 1) ∧ σ 305 (10 + s) = nI (sl ζ s 2) ∧ σ 305 (15 + s) = nI (sl ζ s 3) := by
  have h1 := h.2.2.2 s hs 1 (by decide)
  have h2 := h.2.2.2 s hs 2 (by decide)
  have h3 := h.2.2.2 s hs 3 (by decide)
  rw [show s + 5 * 1 = 5 + s by omega] at h1
  rw [show s + 5 * 2 = 10 + s by omega] at h2
  rw [show s + 5 * 3 = 15 + s by omega] at h3
  exact ⟨h.2.2.2 s hs 0 (by decide), h1, h2, h3⟩
theorem yL.rows (h : yL ζ σ) {σ' : gS} (hs : ∀ j, 302 ≤ j → j < 307 → σ' j = σ j) : yL ζ σ' := by
  unfold yL
  rw [hs 302 (by decide) (by decide), hs 303 (by decide) (by decide), hs 304 (by decide) (by decide), hs 305 (by decide) (by decide), hs 306 (by decide) (by decide)]
  exact h
/-- the boards alone -/
def yB (ζ : Nat → Nat) (σ : gS) : Prop := σ 306 4 = nI (ζ 4) ∧ ∀ b, b < ζ 4 → σ 302 b = nI (bw ζ b)
theorem yL.B (h : yL ζ σ) : yB ζ σ := ⟨h.1 4 (by decide), fun b hb => (h.2.1 b hb).1⟩
theorem y_nb (h : yL ζ σ) : σ 306 4 = nI (ζ 4) := h.1 4 (by decide)
theorem y_ns (h : yL ζ σ) : σ 306 5 = nI (ζ 5) := h.1 5 (by decide)
theorem bw_lt (hI : zI ζ) {b : Nat} (hb : b < ζ 4) : bw ζ b < 2 ^ 31 := by
  have := hI.b hb
  unfold bw
  omega
theorem or0 (x : Int32) : x ||| 0 = x := by
  apply Int32.toBitVec_inj.mp
  show x.toBitVec ||| 0#32 = x.toBitVec
  simp
theorem b01_1 (b : Bool) : nI (if b = true then 1 else 0) = 1 ↔ b = true := by cases b <;> decide
theorem b01_0 (b : Bool) : nI (if b = true then 1 else 0) = 0 ↔ b = false := by cases b <;> decide
theorem l_one (h : yB ζ σ) (hI : zI ζ) {b : Nat} (hb : b < ζ 4) : f_L_one (nI b) σ = some (nI (bd ζ b 0), σ) := by
  have hh := hI.b hb
  have hn := hI.nb
  unfold f_L_one
  rw [gin_nI (show b < 20 by omega) (by decide), gGd_t, gil_nI (by omega), h.2 b hb, show (16 : Int32) = nI 16 from rfl, pk_rem (bw_lt hI hb) (by decide) (by decide), show bw ζ b % 16 = bd ζ b 0 by unfold bw; omega]
theorem l_two (h : yB ζ σ) (hI : zI ζ) {b : Nat} (hb : b < ζ 4) : f_L_two (nI b) σ = some (nI (bd ζ b 1), σ) := by
  have hh := hI.b hb
  have hn := hI.nb
  have hw := bw_lt hI hb
  unfold f_L_two
  rw [gin_nI (show b < 20 by omega) (by decide), gGd_t, gil_nI (by omega), h.2 b hb, show (16 : Int32) = nI 16 from rfl, pk_div hw (by decide) (by decide), pk_rem (Nat.lt_of_le_of_lt (Nat.div_le_self _ _) hw) (by decide) (by decide), show bw ζ b / 16 % 16 = bd ζ b 1 by unfold bw; omega]
theorem l_creak (h : yB ζ σ) (hI : zI ζ) {b : Nat} (hb : b < ζ 4) : f_L_creak (nI b) σ = some (nI (bd ζ b 2), σ) := by
  have hh := hI.b hb
  have hn := hI.nb
  have hw := bw_lt hI hb
  unfold f_L_creak
  rw [gin_nI (show b < 20 by omega) (by decide), gGd_t, gil_nI (by omega), h.2 b hb, show (256 : Int32) = nI 256 from rfl, show (16 : Int32) = nI 16 from rfl, pk_div hw (by decide) (by decide), pk_rem (Nat.lt_of_le_of_lt (Nat.div_le_self _ _) hw) (by decide) (by decide), show bw ζ b / 256 % 16 = bd ζ b 2 by unfold bw; omega]
theorem l_min (h : yB ζ σ) (hI : zI ζ) {b : Nat} (hb : b < ζ 4) : f_L_minutes (nI b) σ = some (nI (bd ζ b 3), σ) := by
  have hh := hI.b hb
  have hn := hI.nb
  have hw := bw_lt hI hb
  unfold f_L_minutes
  rw [gin_nI (show b < 20 by omega) (by decide), gGd_t, gil_nI (by omega), h.2 b hb, show (4096 : Int32) = nI 4096 from rfl, pk_div hw (by decide) (by decide), show bw ζ b / 4096 = bd ζ b 3 by unfold bw; omega]
theorem l_all (h : yB ζ σ) (hI : zI ζ) : f_L_all σ = some (nI (2 ^ ζ 4 - 1), σ) := by
  unfold f_L_all
  rw [h.1, shl1 _ (by have := hI.nb; omega), show (1 : Int32) = nI 1 from rfl, pk_sub (Nat.two_pow_pos _)]
/-! rooms that are come to -/
def rcA (ζ : Nat → Nat) (E R : Nat) : Nat → Nat
  | 0 => R
  | i + 1 => (rcA ζ E R i ||| (if (E.testBit i && R.testBit (bd ζ i 0)) = true then 2 ^ bd ζ i 1 else 0)) ||| (if (E.testBit i && R.testBit (bd ζ i 1)) = true then 2 ^ bd ζ i 0 else 0)
theorem rcA_bit {E R r : Nat} : ∀ n, (rcA ζ E R n).testBit r = true ↔ R.testBit r = true ∨ ∃ b, b < n ∧ E.testBit b = true ∧ ((R.testBit (bd ζ b 0) = true ∧ bd ζ b 1 = r) ∨ (R.testBit (bd ζ b 1) = true ∧ bd ζ b 0 = r))
  | 0 => by simp [rcA]
  | n + 1 => by
    have ih := rcA_bit (E := E) (R := R) (r := r) n
    have e : ∀ (c : Bool) (k : Nat), ((if c = true then 2 ^ k else 0 : Nat).testBit r = true) ↔ (c = true ∧ k = r) := fun c k => by
      cases c
      · simp
      · rw [if_pos rfl, Nat.testBit_two_pow]
        simp
    rw [rcA, Nat.testBit_or, Nat.testBit_or, Bool.or_eq_true, Bool.or_eq_true, ih, e, e, Bool.and_eq_true, Bool.and_eq_true]
    constructor
    · rintro (((h | ⟨b, h1, h2, h3⟩) | ⟨⟨h1, h2⟩, h3⟩) | ⟨⟨h1, h2⟩, h3⟩)
      · exact Or.inl h
      · exact Or.inr ⟨b, by omega, h2, h3⟩
      · exact Or.inr ⟨n, by omega, h1, Or.inl ⟨h2, h3⟩⟩
      · exact Or.inr ⟨n, by omega, h1, Or.inr ⟨h2, h3⟩⟩
    · rintro (h | ⟨b, h1, h2, h3⟩)
      · exact Or.inl (Or.inl (Or.inl h))
      · rcases Nat.lt_or_ge b n with h4 | h4
        · exact Or.inl (Or.inl (Or.inr ⟨b, h4, h2, h3⟩))
        · have hb : b = n := by omega
          subst hb
          rcases h3 with ⟨h5, h6⟩ | ⟨h5, h6⟩
          · exact Or.inl (Or.inr ⟨⟨h2, h5⟩, h6⟩)
          · exact Or.inr ⟨⟨h2, h5⟩, h6⟩
theorem rcA_wid {E R : Nat} : rcA ζ E R (ζ 4) = wid ζ E R := by
  apply bit_ext
  intro r
  rw [Bool.eq_iff_iff, rcA_bit, wid_bit]
  constructor
  · rintro (h | ⟨b, h1, h2, ⟨h3, h4⟩ | ⟨h3, h4⟩⟩)
    · exact Or.inl h
    · exact Or.inr ⟨b, h1, h2, Or.inl h3, Or.inr h4⟩
    · exact Or.inr ⟨b, h1, h2, Or.inr h3, Or.inl h4⟩
  · rintro (h | ⟨b, h1, h2, h3, h4⟩)
    · exact Or.inl h
    · rcases h3 with h3 | h3 <;> rcases h4 with h4 | h4
      · exact Or.inl (by rw [← h4]; exact h3)
      · exact Or.inr ⟨b, h1, h2, Or.inl ⟨h3, h4⟩⟩
      · exact Or.inr ⟨b, h1, h2, Or.inr ⟨h3, h4⟩⟩
      · exact Or.inl (by rw [← h4]; exact h3)
theorem l_reach1 (h : yB ζ σ) (hI : zI ζ) {E R : Nat} (hE : E < 2 ^ 31) (hR : R < 2 ^ 10) (w4 w6 : Int32) (K : Int32 → gS → Option (Int32 × gS)) : f_L_reach_L22 (nI E) w4 w6 (nI R) K gFu (nI R) 0 σ = K (nI (wid ζ E R)) σ := by
  have hn := hI.nb
  rw [← rcA_wid]
  refine lp0 (fun n i => f_L_reach_L22 (nI E) w4 w6 (nI R) K n (nI (rcA ζ E R i)) (nI i) σ) (ζ 4) _ (by omega) (fun n i hi => ?_) (fun n => ?_)
  · have hb := hI.b hi
    rw [f_L_reach_L22_s, h.1, if_neg (nI_ge hi (by omega)), hbit hE (show i < 32 by omega), rcA]
    simp only [gLet_eq, l_one h hI hi, l_two h hI hi, ob_some, hbit (lt31 hR (by decide)) (show bd ζ i 0 < 32 by omega), hbit (lt31 hR (by decide)) (show bd ζ i 1 < 32 by omega), b01_1, shl1 _ (show bd ζ i 0 < 32 by omega), shl1 _ (show bd ζ i 1 < 32 by omega)]
    cases hE1 : E.testBit i <;> cases hR0 : R.testBit (bd ζ i 0) <;> cases hR1 : R.testBit (bd ζ i 1) <;> simp [or0, n_or, nI_1]
  · rw [f_L_reach_L22_s, h.1, if_pos (Int32.le_refl _)]
theorem l_reach (h : yB ζ σ) (hI : zI ζ) {E t k : Nat} (hE : E < 2 ^ 31) (ht : t < 10) (hk : k < 1000) : f_L_reach (nI t) (nI E) (nI k) σ = some (nI (Wk ζ E t k), σ) := by
  unfold f_L_reach
  rw [shl1 t (by omega), gLet_eq]
  refine lp0 (fun n i => f_L_reach_L8 (nI E) (nI k) n (nI (Wk ζ E t i)) (nI i) σ) k _ (by omega) (fun n i hi => ?_) (fun n => ?_)
  · rw [f_L_reach_L8_s, if_neg (nI_ge hi (by omega)), l_reach1 h hI hE (Wk_lt hI ht i), nI_1]
    rfl
  · rw [f_L_reach_L8_s, if_pos (Int32.le_refl _)]
/-! how far -/
theorem dn_step (x : Int32) : x + (-1) = x - 1 := by rw [Int32.sub_eq_add_neg]
theorem Wk_ls (hI : zI ζ) {E t r : Nat} : (ls (fun k => (Wk ζ E t k).testBit r) 10 < 10 ∧ dst ζ E 0 t r < gINF ∧ ls (fun k => (Wk ζ E t k).testBit r) 10 = dst ζ E 0 t r) ∨ (¬ ls (fun k => (Wk ζ E t k).testBit r) 10 < 10 ∧ ¬ dst ζ E 0 t r < gINF) := by
  have hp : ∀ k, k < 10 → ((Wk ζ E t k).testBit r = true ↔ gDz ζ E t k r ≤ k) := fun k hk => Wk_bit hI k (by omega) r
  have hd : dst ζ E 0 t r = gDz ζ E t 9 r := gz_dst
  rw [hd]
  have hle := ls_le (fun k => (Wk ζ E t k).testBit r) 10
  rcases u_small (ζ := ζ) (E := E) (t := t) 9 r with h9 | h9
  · left
    have hlt : gDz ζ E t 9 r < gINF := by unfold gINF; omega
    have hw := u_walk hI (E := E) (t := t) 9 r hlt
    have hy : (Wk ζ E t (gDz ζ E t 9 r)).testBit r = true := (hp _ (by omega)).mpr (by omega)
    have h1 : ls (fun k => (Wk ζ E t k).testBit r) 10 < 10 := ls_lt (p := fun k => (Wk ζ E t k).testBit r) (show gDz ζ E t 9 r < 10 by omega) hy
    refine ⟨h1, hlt, ?_⟩
    have h2 := ls_yes (fun k => (Wk ζ E t k).testBit r) 10 h1
    have h3 : ¬ gDz ζ E t 9 r < ls (fun k => (Wk ζ E t k).testBit r) 10 := fun z => ls_no (fun k => (Wk ζ E t k).testBit r) 10 _ z hy
    have h4 := (hp _ h1).mp h2
    have h5 := gz_mono (ζ := ζ) (E := E) (t := t) (show ls (fun k => (Wk ζ E t k).testBit r) 10 ≤ 9 by omega) r
    omega
  · right
    refine ⟨fun h1 => ?_, by rw [h9]; exact Nat.lt_irrefl _⟩
    have h2 := ls_yes (fun k => (Wk ζ E t k).testBit r) 10 h1
    have h4 := (hp _ h1).mp h2
    have h5 := gz_mono (ζ := ζ) (E := E) (t := t) (show ls (fun k => (Wk ζ E t k).testBit r) 10 ≤ 9 by omega) r
    rw [h9] at h5
    unfold gINF at h5
    omega
theorem l_far1 (h : yB ζ σ) (hI : zI ζ) {t r : Nat} (ht : t < 10) (hr : r < 10) : ∀ j n v, j ≤ 10 → j < n → f_L_far_L8 (nI t) (nI r) n v (nI j - 1) σ = some (if ls (fun k => (Wk ζ (2 ^ ζ 4 - 1) t k).testBit r) j < j then nI (ls (fun k => (Wk ζ (2 ^ ζ 4 - 1) t k).testBit r) j) else v, σ) := by
  intro j
  induction j with
  | zero =>
    intro n v _ hn
    obtain ⟨n, rfl⟩ := Nat.exists_eq_succ_of_ne_zero (show n ≠ 0 by omega)
    rw [f_L_far_L8_s, if_pos (show nI 0 - 1 < 0 by decide), if_neg (Nat.not_lt_zero _)]
  | succ j ih =>
    intro n v hj hn
    obtain ⟨n, rfl⟩ := Nat.exists_eq_succ_of_ne_zero (show n ≠ 0 by omega)
    have hE := lt31 (all_lt hI) (by decide)
    rw [show (1 : Int32) = nI 1 from rfl, pk_sub (show 1 ≤ j + 1 by omega), Nat.add_sub_cancel, f_L_far_L8_s, if_neg (nI_pos (by omega)), l_all h hI, ob_some]
    dsimp only
    rw [l_reach h hI hE ht (by omega), ob_some]
    dsimp only
    rw [hbit (lt31 (Wk_lt hI ht j) (by decide)) (by omega), dn_step, ls]
    by_cases hb : (Wk ζ (2 ^ ζ 4 - 1) t j).testBit r = true
    · rw [if_pos ((b01_1 _).mpr hb), ih n _ (by omega) (by omega)]
      by_cases hl : ls (fun k => (Wk ζ (2 ^ ζ 4 - 1) t k).testBit r) j < j
      · rw [if_pos hl, if_pos hl, if_pos (by omega)]
      · rw [if_neg hl, if_neg hl, if_pos hb, if_pos (by omega)]
    · rw [if_neg (fun z => hb ((b01_1 _).mp z)), ih n _ (by omega) (by omega)]
      by_cases hl : ls (fun k => (Wk ζ (2 ^ ζ 4 - 1) t k).testBit r) j < j
      · rw [if_pos hl, if_pos hl, if_pos (by omega)]
      · rw [if_neg hl, if_neg hl, if_neg hb, if_neg (by omega)]
def fvl (d : Nat) : Int32 := if d < gINF then nI d else (-6)
theorem l_far (h : yB ζ σ) (hI : zI ζ) {t r : Nat} (ht : t < 10) (hr : r < 10) : f_L_far (nI t) (nI r) σ = some (fvl (dst ζ (2 ^ ζ 4 - 1) 0 t r), σ) := by
  unfold f_L_far fvl
  rw [show (9 : Int32) = nI 10 - 1 from rfl, l_far1 h hI ht hr 10 gFu _ (Nat.le_refl _) (by decide)]
  rcases Wk_ls hI (E := 2 ^ ζ 4 - 1) (t := t) (r := r) with ⟨h1, h2, h3⟩ | ⟨h1, h2⟩
  · rw [if_pos h1, if_pos h2, h3]
  · rw [if_neg h1, if_neg h2]
theorem fvl_fin {d : Nat} (h : d < gINF) : fvl d = nI d := if_pos h
theorem fvl_inf {d : Nat} (h : ¬ d < gINF) : fvl d = (-6) := if_neg h
theorem l_loud (h : yL ζ σ) (hI : zI ζ) {b s : Nat} (hb : b < ζ 4) (hs : s < ζ 5) : f_L_loud (nI b) (nI s) σ = some (nI (ldn ζ b (sl ζ s 0)), σ) := by
  have hh := hI.b hb
  have hn := hI.ns
  have hss := hI.s hs
  have hlo : bd ζ b 0 < 10 := by omega
  have d0 := dst_le ζ (2 ^ ζ 4 - 1) 0 (sl ζ s 0) (bd ζ b 0)
  have d1 := dst_le ζ (2 ^ ζ 4 - 1) 0 (sl ζ s 0) (bd ζ b 1)
  have hn6 : (-6 : Int32) < 0 := by decide
  have hn6' : ¬ (0 : Int32) ≤ (-6) := by decide
  unfold f_L_loud ldn
  rw [gin_nI (show s < 20 by omega) (by decide), gGd_t, l_one h.B hI hb, ob_some]
  dsimp only
  rw [gil_nI (by omega), (y_s h hs).1, l_far h.B hI hss.1 hlo, ob_some]
  dsimp only
  rw [gGd_t, l_two h.B hI hb, ob_some]
  dsimp only
  rw [(y_s h hs).1, l_far h.B hI hss.1 hh.2.1, ob_some]
  dsimp only
  generalize dst ζ (2 ^ ζ 4 - 1) 0 (sl ζ s 0) (bd ζ b 0) = a at *
  generalize dst ζ (2 ^ ζ 4 - 1) 0 (sl ζ s 0) (bd ζ b 1) = c at *
  simp only [gLet_eq, l_creak h.B hI hb, ob_some]
  have e1 : gINF = 1000000 := rfl
  have fin : ∀ d, d < gINF → (if nI d < 0 then some ((0 : Int32), σ) else if nI d ≤ nI (bd ζ b 2) then some (nI (bd ζ b 2) - nI d, σ) else some (0, σ)) = some (nI (bd ζ b 2 - d), σ) := by
    intro d hd
    rw [if_neg (nI_pos (by omega))]
    by_cases hc : d ≤ bd ζ b 2
    · rw [if_pos (nI_le hc (by omega)), pk_sub hc]
    · rw [if_neg (nI_ge (by omega) (by omega)), show bd ζ b 2 - d = 0 by omega]
      rfl
  by_cases ha : a < gINF
  · rw [fvl_fin ha, if_pos (show (0 : Int32) ≤ nI a from nI_pos' (by omega))]
    by_cases hc : c < gINF
    · rw [fvl_fin hc, if_neg (nI_pos (by omega))]
      by_cases hca : c ≤ a
      · rw [if_pos (nI_le hca (by omega)), fin c hc, Nat.min_eq_right hca]
      · rw [if_neg (nI_ge (by omega) (by omega)), fin a ha, Nat.min_eq_left (by omega)]
    · rw [fvl_inf hc, if_pos hn6, fin a ha, Nat.min_eq_left (by omega)]
  · rw [fvl_inf ha, if_neg hn6']
    by_cases hc : c < gINF
    · rw [fvl_fin hc, fin c hc, Nat.min_eq_right (by omega)]
    · rw [fvl_inf hc, if_pos hn6, show bd ζ b 2 - min a c = 0 by rw [Nat.min_def]; split <;> omega]
      rfl
/-! what is watched, what is free -/
theorem l_wat (h : yL ζ σ) (hI : zI ζ) : f_L_watched σ = some (nI (wat ζ), σ) := by
  have hn := hI.ns
  unfold f_L_watched
  refine lp0 (fun n i => f_L_watched_L4 n (nI (orF (fun s => if 0 < sl ζ s 2 then 2 ^ sl ζ s 0 else 0) i)) (nI i) σ) (ζ 5) _ (by omega) (fun n i hi => ?_) (fun n => ?_)
  · have hs := hI.s hi
    have hy := y_s h hi
    rw [f_L_watched_L4_s, y_ns h, if_neg (nI_ge hi (by omega)), show (10 : Int32) + nI i = nI (10 + i) from nI_add 10 i, gin_nI (show 10 + i < 20 by omega) (by decide), gGd_t, gil_nI (by omega), hy.2.2.1, nI_1, orF]
    by_cases hc : 0 < sl ζ i 2
    · rw [if_neg (nI_nle hc (by omega)), gin_nI (show i < 20 by omega) (by decide), gGd_t, gLet_eq, gil_nI (by omega), hy.1, shl1 _ (by omega), n_or, if_pos hc]
    · rw [if_pos (n_le0 (by omega)), gLet_eq, or0, if_neg hc, Nat.or_zero]
  · rw [f_L_watched_L4_s, y_ns h, if_pos (Int32.le_refl _)]
    rfl
theorem l_free (h : yL ζ σ) (hI : zI ζ) {g b : Nat} (hg : g < 4) (hb : b < ζ 4) : f_L_free (nI g) (nI b) σ = some (nI (if frB ζ g b = true then 1 else 0), σ) := by
  have hh := hI.b hb
  have hn := hI.nb
  have hy := y_g h hg
  have hR : 2 ^ bd ζ b 0 ||| 2 ^ bd ζ b 1 < 2 ^ 10 := ends_lt hI hb
  unfold f_L_free
  rw [l_one h.B hI hb, ob_some]
  dsimp only
  rw [l_two h.B hI hb, ob_some]
  dsimp only
  rw [shl1 _ (by omega), shl1 _ (by omega), n_or, gLet_eq, show (4 : Int32) + nI g = nI (4 + g) from nI_add 4 g, gin_nI (show 4 + g < 12 by omega) (by decide), gGd_t, gil_nI (by omega)]
  have e : ((σ 304 (4 + g)) >>> (nI b &&& 31)) &&& 1 = nI (if (gh ζ g 1).testBit b = true then 1 else 0) := by
    rw [hy.2.1]
    exact hbit (lt31 (hI.cr hg) (by decide)) (show b < 32 by omega)
  unfold frB
  cases hc : (gh ζ g 1).testBit b
  · rw [if_pos (e.trans (by rw [hc]; rfl)), l_wat h hI, ob_some]
    dsimp only
    rw [n_and]
    have hw : wat ζ &&& (2 ^ bd ζ b 0 ||| 2 ^ bd ζ b 1) = ends ζ b &&& wat ζ := Nat.and_comm _ _
    have hlt : ends ζ b &&& wat ζ < 2 ^ 32 := Nat.lt_trans (Nat.and_lt_two_pow _ (wat_lt hI)) (by decide)
    rw [hw]
    by_cases he : ends ζ b &&& wat ζ = 0
    · rw [if_pos ((n_eq0 hlt).mpr he)]
      have h2 : ¬ (ends ζ b &&& wat ζ ≠ 0) := fun z => z he
      rw [ends_and] at h2
      rw [if_pos (by
        cases q0 : (wat ζ).testBit (bd ζ b 0)
        · cases q1 : (wat ζ).testBit (bd ζ b 1)
          · rfl
          · exact absurd (Or.inr q1) h2
        · exact absurd (Or.inl q0) h2)]
      rfl
    · rw [if_neg (fun z => he ((n_eq0 hlt).mp z))]
      have h2 := ends_and.mp he
      rw [if_neg (by rcases h2 with h2 | h2 <;> simp [h2])]
      rfl
  · rw [if_neg (by rw [e, hc]; decide), if_neg (by simp)]
    rfl
theorem l_open (h : yL ζ σ) (hI : zI ζ) {g : Nat} (hg : g < 4) : f_L_open (nI g) σ = some (nI (fre ζ g), σ) := by
  have hn := hI.nb
  unfold f_L_open
  refine lp0 (fun n i => f_L_open_L6 (nI g) n (nI (mk (frB ζ g) i)) (nI i) σ) (ζ 4) _ (by omega) (fun n i hi => ?_) (fun n => ?_)
  · rw [f_L_open_L6_s, y_nb h, if_neg (nI_ge hi (by omega)), l_free h hI hg hi, ob_some]
    dsimp only
    rw [nI_1, mk_succ]
    by_cases hc : frB ζ g i = true
    · rw [if_pos hc, if_neg (by decide), gLet_eq, shl1 _ (by omega), n_or, if_pos hc]
    · rw [if_neg hc, if_pos (by decide), gLet_eq, or0, if_neg hc, Nat.or_zero]
  · rw [f_L_open_L6_s, y_nb h, if_pos (Int32.le_refl _)]
    rfl
end YL
