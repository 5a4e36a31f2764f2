section GQ
variable {ζ : Nat → Nat} {x m : gS}
def sm (f : Nat → Nat) : Nat → Nat
  | 0 => 0
  | n + 1 => sm f n + f n
theorem sm_cong {f g : Nat → Nat} : ∀ {n}, (∀ i, i < n → f i = g i) → sm f n = sm g n
  | 0, _ => rfl
  | n + 1, h => by rw [sm, sm, sm_cong fun i hi => h i (by omega), h n (by omega)]
theorem sm_add (f g : Nat → Nat) : ∀ n, sm (fun i => f i + g i) n = sm f n + sm g n
  | 0 => rfl
  | n + 1 => by
    rw [sm, sm, sm, sm_add f g n]
    omega
theorem sm_zero : ∀ n, sm (fun _ => 0) n = 0
  | 0 => rfl
  | n + 1 => by rw [sm, sm_zero n]
theorem sm_swap (h : Nat → Nat → Nat) (m : Nat) : ∀ n, sm (fun i => sm (h i) m) n = sm (fun k => sm (fun i => h i k) n) m
  | 0 => (sm_zero m).symm
  | n + 1 => by
    rw [sm, sm_swap h m n, ← sm_add]
    rfl
theorem sm_le {f : Nat → Nat} {c : Nat} (h : ∀ i, f i ≤ c) : ∀ n, sm f n ≤ n * c
  | 0 => by rw [sm]; exact Nat.zero_le _
  | n + 1 => by
    have := sm_le h n
    have := h n
    rw [sm, Nat.succ_mul]
    omega
theorem sm_cnt (p : Nat → Bool) : ∀ n, cnt p n = sm (fun i => if p i = true then 1 else 0) n
  | 0 => rfl
  | n + 1 => by rw [cnt, sm, sm_cnt p n]
theorem sm_low (f : Nat → Nat) (k : Nat) : ∀ n, n ≤ k → sm (fun i => if i < k then f i else 0) n = sm f n
  | 0, _ => rfl
  | n + 1, h => by rw [sm, sm, sm_low f k n (by omega), if_pos (by omega)]
theorem sm_low' (f : Nat → Nat) (k : Nat) : ∀ d, sm (fun i => if i < k then f i else 0) (k + d) = sm f k
  | 0 => sm_low f k k (Nat.le_refl _)
  | d + 1 => by rw [show k + (d + 1) = (k + d) + 1 by omega, sm, sm_low' f k d, if_neg (by omega), Nat.add_zero]
theorem sm_mulr (f : Nat → Nat) (c : Nat) : ∀ n, sm (fun i => f i * c) n = sm f n * c
  | 0 => by rw [sm, sm, Nat.zero_mul]
  | n + 1 => by rw [sm, sm, sm_mulr f c n, Nat.add_mul]
/-- two sets apart: the pairs between them -/
theorem sm_pairs {f g : Nat → Nat} (hd : ∀ i, f i * g i = 0) (n : Nat) : sm (fun i => sm (fun k => if i < k then f i * g k + g i * f k else 0) n) n = sm f n * sm g n := by
  rw [sm_swap]
  have inner : ∀ k, k < n → sm (fun i => if i < k then f i * g k + g i * f k else 0) n = sm f k * g k + sm g k * f k := by
    intro k hk
    have := sm_low' (fun i => f i * g k + g i * f k) k (n - k)
    rw [show k + (n - k) = n by omega] at this
    rw [this, sm_add, sm_mulr, sm_mulr]
  rw [sm_cong inner]
  clear inner
  induction n with
  | zero => rfl
  | succ n ih =>
    rw [sm, sm, sm, ih, Nat.add_mul, Nat.mul_add, Nat.mul_add, hd n, Nat.mul_comm (sm g n) (f n)]
    omega
/-- pairs of rooms that can be reached from each other -/
def prs (ζ : Nat → Nat) (E : Nat) (n : Nat) : Nat := sm (fun i => sm (fun k => if (decide (i < k) && (rea ζ E i).testBit k) = true then 1 else 0) 10) n
theorem prs_le (E : Nat) {n : Nat} (hn : n ≤ 10) : prs ζ E n ≤ 100 := by
  have := sm_le (f := fun i => sm (fun k => if (decide (i < k) && (rea ζ E i).testBit k) = true then 1 else 0) 10) (c := 10) (fun i => sm_le (c := 1) (fun k => by split <;> decide) 10) n
  unfold prs
  omega
theorem m_pairs (h : cM ζ m) (hI : zI ζ) {E : Nat} (hE : E < 2 ^ 31) : ∃ m', f_X11_pairs (nI E) m = some (nI (prs ζ E 10), m') ∧ eqM m m' := by
  have inner : ∀ i (K : Int32 → gS → Option (Int32 × gS)) (B : Nat) (s : gS), i < 10 → f_X11_pairs_L23 (nI E) (nI i) (nI (rea ζ E i)) K gFu (nI B) (nI i + 1) s = K (nI (B + sm (fun k => if (decide (i < k) && (rea ζ E i).testBit k) = true then 1 else 0) 10)) s := by
    intro i K B s hi
    have z : ∀ n, n ≤ i + 1 → sm (fun k => if (decide (i < k) && (rea ζ E i).testBit k) = true then 1 else 0) n = 0 := by
      intro n
      induction n with
      | zero => intro _; rfl
      | succ n ih =>
        intro hn
        rw [sm, ih (by omega), if_neg (by simp; omega)]
    have := lp0 (fun n j => f_X11_pairs_L23 (nI E) (nI i) (nI (rea ζ E i)) K n (nI (B + sm (fun k => if (decide (i < k) && (rea ζ E i).testBit k) = true then 1 else 0) (i + 1 + j))) (nI (i + 1 + j)) s) (9 - i) (K (nI (B + sm (fun k => if (decide (i < k) && (rea ζ E i).testBit k) = true then 1 else 0) 10)) s) (by omega) (fun n j hj => by
      rw [f_X11_pairs_L23_s, if_neg (show ¬ (10 : Int32) ≤ nI (i + 1 + j) from nI_ge (b := 10) (by omega) (by decide)), hbit (lt31 rea_lt (by decide)) (by omega), gLet_eq, nI_add, nI_1, show i + 1 + (j + 1) = i + 1 + j + 1 by omega, sm, decide_eq_true (show i < i + 1 + j by omega), Bool.true_and, Nat.add_assoc]) (fun n => by
      rw [f_X11_pairs_L23_s, show i + 1 + (9 - i) = 10 by omega, if_pos (show (10 : Int32) ≤ nI 10 from Int32.le_refl _)])
    rw [Nat.add_zero, z (i + 1) (Nat.le_refl _), Nat.add_zero, ← nI_1] at this
    exact this
  have key : ∀ d i n (s : gS), i + d = 10 → d < n → cM ζ s → eqM m s → ∃ m', f_X11_pairs_L4 (nI E) n (nI (prs ζ E i)) (nI i) s = some (nI (prs ζ E 10), m') ∧ eqM m m' := by
    intro d
    induction d with
    | zero =>
      intro i n s hid hn hs he
      obtain ⟨n, rfl⟩ := Nat.exists_eq_succ_of_ne_zero (show n ≠ 0 by omega)
      rw [f_X11_pairs_L4_s, show i = 10 by omega, if_pos (show (10 : Int32) ≤ nI 10 from Int32.le_refl _)]
      exact ⟨s, rfl, he⟩
    | succ d ih =>
      intro i n s hid hn hs he
      obtain ⟨n, rfl⟩ := Nat.exists_eq_succ_of_ne_zero (show n ≠ 0 by omega)
      rw [f_X11_pairs_L4_s, if_neg (show ¬ (10 : Int32) ≤ nI i from nI_ge (b := 10) (by omega) (by decide)), m_reached hs hI hE (by omega), ob_some]
      dsimp only
      rw [inner i _ _ _ (by omega)]
      have e1 : prs ζ E (i + 1) = prs ζ E i + sm (fun k => if (decide (i < k) && (rea ζ E i).testBit k) = true then 1 else 0) 10 := rfl
      rw [← e1, nI_1]
      exact ih (i + 1) n _ (by omega) (by omega) (enc_cM hs) (he.tr eqM_enc)
  exact key 10 0 gFu m rfl (by show 10 < 1000000; decide) h eqM.rf
/-- a board that splits, splits one set into two -/
theorem cn_split (hI : zI ζ) {E b u v : Nat} (hE : E < 2 ^ 31) (he : edg ζ E b u v) {i k : Nat} (hi : i < 10) : cn ζ E i k ↔ cn ζ (dif E (2 ^ b)) i k ∨ (cn ζ (dif E (2 ^ b)) i u ∧ cn ζ (dif E (2 ^ b)) v k) ∨ (cn ζ (dif E (2 ^ b)) i v ∧ cn ζ (dif E (2 ^ b)) u k) := by
  have hl := edg_lt hI he
  have mo : ∀ {p q}, p < 10 → cn ζ (dif E (2 ^ b)) p q → cn ζ E p q := fun hp h => cn_mo hI hp (fun f hf => (sub_rm hE hf).1) h
  constructor
  · refine cn_in (P := fun k => cn ζ (dif E (2 ^ b)) i k ∨ (cn ζ (dif E (2 ^ b)) i u ∧ cn ζ (dif E (2 ^ b)) v k) ∨ (cn ζ (dif E (2 ^ b)) i v ∧ cn ζ (dif E (2 ^ b)) u k)) (Or.inl (cn_rf hi)) (fun f p q hf hp => ?_) k
    by_cases hfb : b = f
    · subst hfb
      rcases edg_un hf he with ⟨rfl, rfl⟩ | ⟨rfl, rfl⟩
      · rcases hp with h | ⟨h1, -⟩ | ⟨h1, -⟩
        · exact Or.inr (Or.inl ⟨h, cn_rf hl.2.1⟩)
        · exact Or.inr (Or.inl ⟨h1, cn_rf hl.2.1⟩)
        · exact Or.inl h1
      · rcases hp with h | ⟨h1, -⟩ | ⟨h1, -⟩
        · exact Or.inr (Or.inr ⟨h, cn_rf hl.1⟩)
        · exact Or.inl h1
        · exact Or.inr (Or.inr ⟨h1, cn_rf hl.1⟩)
    · have hf' : edg ζ (dif E (2 ^ b)) f p q := (edg_rm hE).mpr ⟨hf, hfb⟩
      rcases hp with h | ⟨h1, h2⟩ | ⟨h1, h2⟩
      · exact Or.inl (cn_ed hI hi hf' h)
      · exact Or.inr (Or.inl ⟨h1, cn_ed hI hl.2.1 hf' h2⟩)
      · exact Or.inr (Or.inr ⟨h1, cn_ed hI hl.1 hf' h2⟩)
  · rintro (h | ⟨h1, h2⟩ | ⟨h1, h2⟩)
    · exact mo hi h
    · exact cn_tr hI hi (cn_ed hI hi he (mo hi h1)) (mo hl.2.1 h2)
    · exact cn_tr hI hi (cn_ed hI hi (edg_sm he) (mo hi h1)) (mo hl.1 h2)
def gap (ζ : Nat → Nat) (E b : Nat) : Nat := if (rea ζ (dif E (2 ^ b)) (bd ζ b 0)).testBit (bd ζ b 1) = true then 0 else pc (rea ζ (dif E (2 ^ b)) (bd ζ b 0)) * pc (rea ζ (dif E (2 ^ b)) (bd ζ b 1))
theorem ind_b {A : Bool} {B : Prop} (h : A = true ↔ B) {D : Decidable B} : (if A = true then 1 else 0 : Nat) = if B then 1 else 0 := by
  by_cases hb : B
  · rw [if_pos (h.mpr hb), if_pos hb]
  · rw [if_neg (fun z => hb (h.mp z)), if_neg hb]
theorem prs_gap (hI : zI ζ) {E b : Nat} (hE : E < 2 ^ 31) (hb : b < ζ 4) (hbE : E.testBit b = true) : prs ζ E 10 = prs ζ (dif E (2 ^ b)) 10 + gap ζ E b := by
  have he : edg ζ E b (bd ζ b 0) (bd ζ b 1) := ⟨hb, hbE, Or.inl ⟨rfl, rfl⟩⟩
  have hl := edg_lt hI he
  generalize hu : bd ζ b 0 = u at he hl
  generalize hv : bd ζ b 1 = v at he hl
  unfold gap
  rw [hu, hv]
  by_cases hc : cn ζ (dif E (2 ^ b)) u v
  · rw [if_pos (show (rea ζ (dif E (2 ^ b)) u).testBit v = true from hc), Nat.add_zero]
    unfold prs
    refine sm_cong fun i hi => sm_cong fun k hk => ?_
    have : (rea ζ E i).testBit k = (rea ζ (dif E (2 ^ b)) i).testBit k := by
      rw [Bool.eq_iff_iff]
      show cn ζ E i k ↔ cn ζ (dif E (2 ^ b)) i k
      rw [cn_split hI hE he hi]
      constructor
      · rintro (h | ⟨h1, h2⟩ | ⟨h1, h2⟩)
        · exact h
        · exact cn_tr hI hi (cn_tr hI hi h1 hc) h2
        · exact cn_tr hI hi (cn_tr hI hi h1 (cn_sy hI hl.1 hc)) h2
      · exact Or.inl
    rw [this]
  · rw [if_neg (show ¬ (rea ζ (dif E (2 ^ b)) u).testBit v = true from hc)]
    have hd : ∀ i, (if (rea ζ (dif E (2 ^ b)) u).testBit i = true then 1 else 0 : Nat) * (if (rea ζ (dif E (2 ^ b)) v).testBit i = true then 1 else 0) = 0 := by
      intro i
      by_cases h1 : (rea ζ (dif E (2 ^ b)) u).testBit i = true
      · by_cases h2 : (rea ζ (dif E (2 ^ b)) v).testBit i = true
        · exact absurd (cn_tr hI hl.1 h1 (cn_sy hI hl.2.1 h2)) hc
        · rw [if_neg h2, Nat.mul_zero]
      · rw [if_neg h1, Nat.zero_mul]
    unfold pc
    rw [sm_cnt, sm_cnt, ← sm_pairs hd 10]
    unfold prs
    rw [← sm_add]
    refine sm_cong fun i hi => ?_
    rw [← sm_add]
    refine sm_cong fun k hk => ?_
    by_cases hik : i < k
    · rw [if_pos hik, decide_eq_true hik, Bool.true_and, Bool.true_and]
      have iu : (rea ζ (dif E (2 ^ b)) u).testBit i = true ↔ cn ζ (dif E (2 ^ b)) i u := ⟨fun h => cn_sy hI hl.1 h, fun h => cn_sy hI hi h⟩
      have iv : (rea ζ (dif E (2 ^ b)) v).testBit i = true ↔ cn ζ (dif E (2 ^ b)) i v := ⟨fun h => cn_sy hI hl.2.1 h, fun h => cn_sy hI hi h⟩
      have main : (rea ζ E i).testBit k = true ↔ (rea ζ (dif E (2 ^ b)) i).testBit k = true ∨ ((rea ζ (dif E (2 ^ b)) u).testBit i = true ∧ (rea ζ (dif E (2 ^ b)) v).testBit k = true) ∨ ((rea ζ (dif E (2 ^ b)) v).testBit i = true ∧ (rea ζ (dif E (2 ^ b)) u).testBit k = true) := by
        rw [iu, iv]
        exact cn_split hI hE he hi
      have n12 : ¬ ((rea ζ (dif E (2 ^ b)) u).testBit i = true ∧ (rea ζ (dif E (2 ^ b)) v).testBit i = true) := fun w => hc (cn_tr hI hl.1 w.1 (iv.mp w.2))
      have m12 : ¬ ((rea ζ (dif E (2 ^ b)) u).testBit k = true ∧ (rea ζ (dif E (2 ^ b)) v).testBit k = true) := fun w => hc (cn_tr hI hl.1 w.1 (cn_sy hI hl.2.1 w.2))
      have k1 : (rea ζ (dif E (2 ^ b)) i).testBit k = true → (rea ζ (dif E (2 ^ b)) u).testBit i = true → (rea ζ (dif E (2 ^ b)) u).testBit k = true := fun w1 w2 => cn_tr hI hl.1 w2 w1
      have k2 : (rea ζ (dif E (2 ^ b)) i).testBit k = true → (rea ζ (dif E (2 ^ b)) v).testBit i = true → (rea ζ (dif E (2 ^ b)) v).testBit k = true := fun w1 w2 => cn_tr hI hl.2.1 w2 w1
      revert main n12 m12 k1 k2
      clear iu iv
      generalize (rea ζ E i).testBit k = A
      generalize (rea ζ (dif E (2 ^ b)) i).testBit k = B
      generalize (rea ζ (dif E (2 ^ b)) u).testBit i = C
      generalize (rea ζ (dif E (2 ^ b)) u).testBit k = D
      generalize (rea ζ (dif E (2 ^ b)) v).testBit i = F
      generalize (rea ζ (dif E (2 ^ b)) v).testBit k = G
      clear hd hc hl he hu hv hbE hb hE hik hi hk
      cases A <;> cases B <;> cases C <;> cases D <;> cases F <;> cases G <;> decide
    · rw [if_neg hik, decide_eq_false hik]
      rfl
theorem x_gap (h : cX ζ x 1) (hI : zI ζ) {b : Nat} (hb : b < ζ 4) : f_X1_pairsApartWithout (nI b) x = some (nI (gap ζ (2 ^ ζ 4 - 1) b), x) := by
  have hn := hI.nb
  have hbb := hI.b hb
  have hE := lt31 (all_lt hI) (by decide)
  unfold f_X1_pairsApartWithout gap
  rw [x_all h hI, ob_some]
  dsimp only
  rw [gLet_eq, n_rm (by omega), a_lo h hI hb, ob_some]
  dsimp only
  rw [x_rooms h hI (rm_lt hE) (by omega), ob_some]
  dsimp only
  rw [a_hi h hI hb, ob_some]
  dsimp only
  by_cases hc : (rea ζ (dif (2 ^ ζ 4 - 1) (2 ^ b)) (bd ζ b 0)).testBit (bd ζ b 1) = true
  · rw [holds_t (lt31 rea_lt (by decide)) (by omega) hc, ob_some, if_pos hc]
    dsimp only
    rw [if_neg i10]
    rfl
  · rw [holds_f (lt31 rea_lt (by decide)) (by omega) hc, ob_some, if_neg hc]
    dsimp only
    rw [if_pos rfl, a_hi h hI hb, ob_some]
    dsimp only
    rw [x_rooms h hI (rm_lt hE) hbb.2.1, ob_some]
    dsimp only
    rw [x_bc rea_lt, ob_some]
    dsimp only
    rw [x_bc rea_lt, ob_some]
    dsimp only
    rw [pk_mul]
theorem gap_le (E b : Nat) : gap ζ E b ≤ 100 := by
  unfold gap
  split
  · decide
  · exact Nat.mul_le_mul (pc_le _) (pc_le _)
theorem q_gap (hx : cX ζ x 1) (hm : cM ζ m) (hI : zI ζ) (p0 : Int32) : qOK (f_X10_worstGap p0 x) (f_X11_worstGap p0 m) x m := by
  have hn := hI.nb
  have hE := lt31 (all_lt hI) (by decide)
  unfold f_X10_worstGap f_X11_worstGap
  have body : ∀ p : Int32, qOK (f_X10_worstGap_L20 p (fun (k5 : Int32) (k6 : Int32) (s7 : gS) => if k6 = 0 then (some ((-6), s7)) else (if p = 0 then (some (k5, s7)) else (some (k6, s7)))) gFu (-6) 0 0 x) (Option.bind (f_X11_all m) (fun q3 => Option.bind (f_X11_pairs q3.1 q3.2) (fun q4 => f_X11_worstGap_L30 p q4.1 (fun (k14 : Int32) (k15 : Int32) (s16 : gS) => if k14 = (-6) then (some ((-6), s16)) else (if p = 0 then (some (k14, s16)) else (some (k15, s16)))) gFu (-6) 0 0 q4.2))) x m := by
    intro p
    obtain ⟨m', b1, b2⟩ := m_pairs hm hI hE
    rw [m_all hm hI, ob_some]
    dsimp only
    rw [b1, ob_some]
    dsimp only
    have key : ∀ d i n1 n2 (w : Int32) B (s : gS), i + d = ζ 4 → d < n1 → d < n2 → B ≤ 100 → (w = -6 ↔ B = 0) → cM ζ s → eqM m s →
        qOK (f_X10_worstGap_L20 p (fun (k5 : Int32) (k6 : Int32) (s7 : gS) => if k6 = 0 then (some ((-6), s7)) else (if p = 0 then (some (k5, s7)) else (some (k6, s7)))) n1 w (nI B) (nI i) x) (f_X11_worstGap_L30 p (nI (prs ζ (2 ^ ζ 4 - 1) 10)) (fun (k14 : Int32) (k15 : Int32) (s16 : gS) => if k14 = (-6) then (some ((-6), s16)) else (if p = 0 then (some (k14, s16)) else (some (k15, s16)))) n2 w (nI B) (nI i) s) x m := by
      intro d
      induction d with
      | zero =>
        intro i n1 n2 w B s hid h1 h2 hB hw hs he
        obtain ⟨n1, rfl⟩ := Nat.exists_eq_succ_of_ne_zero (show n1 ≠ 0 by omega)
        obtain ⟨n2, rfl⟩ := Nat.exists_eq_succ_of_ne_zero (show n2 ≠ 0 by omega)
        rw [f_X10_worstGap_L20_s, f_X11_worstGap_L30_s, x_nb hx, m_nb hs, show i = ζ 4 by omega, if_pos (Int32.le_refl _), if_pos (Int32.le_refl _)]
        by_cases hB0 : B = 0
        · rw [if_pos (show nI B = 0 by rw [hB0]; rfl), if_pos (hw.mpr hB0)]
          exact qOK.mm rfl rfl he
        · rw [if_neg (nI_ne0 (by omega) (by omega)), if_neg (fun z => hB0 (hw.mp z))]
          by_cases hp : p = 0
          · rw [if_pos hp, if_pos hp]
            exact qOK.mm rfl rfl he
          · rw [if_neg hp, if_neg hp]
            exact qOK.mm rfl rfl he
      | succ d ih =>
        intro i n1 n2 w B s hid h1 h2 hB hw hs he
        obtain ⟨n1, rfl⟩ := Nat.exists_eq_succ_of_ne_zero (show n1 ≠ 0 by omega)
        obtain ⟨n2, rfl⟩ := Nat.exists_eq_succ_of_ne_zero (show n2 ≠ 0 by omega)
        have hi : i < ζ 4 := by omega
        have hiE : (2 ^ ζ 4 - 1).testBit i = true := by rw [Nat.testBit_two_pow_sub_one]; exact decide_eq_true hi
        obtain ⟨s', c1, c2⟩ := m_pairs hs hI (rm_lt (e := i) hE)
        have hgap := prs_gap hI hE hi hiE
        have hg100 := gap_le (ζ := ζ) (2 ^ ζ 4 - 1) i
        rw [f_X10_worstGap_L20_s, f_X11_worstGap_L30_s, x_nb hx, m_nb hs, if_neg (nI_ge hi (by omega)), if_neg (nI_ge hi (by omega)), x_gap hx hI hi, m_all hs hI, ob_some, ob_some]
        dsimp only
        rw [n_rm (by omega), c1, ob_some]
        dsimp only
        rw [gLet_eq, gLet_eq, hgap, pk_sub (Nat.le_add_right _ _), Nat.add_sub_cancel_left, nI_1, ← hgap]
        by_cases hle : gap ζ (2 ^ ζ 4 - 1) i ≤ B
        · rw [if_pos (nI_le hle (by omega)), if_pos (nI_le hle (by omega))]
          dsimp only
          rw [if_pos (nI_le hle (by omega))]
          exact ih (i + 1) n1 n2 w B s' (by omega) (by omega) (by omega) hB hw (c2.cM hs) (he.tr c2)
        · rw [if_neg (nI_ge (by omega) (by omega)), if_neg (nI_ge (by omega) (by omega))]
          dsimp only
          rw [if_neg (nI_ge (by omega) (by omega))]
          refine ih (i + 1) n1 n2 (nI i) _ s' (by omega) (by omega) (by omega) hg100 ⟨fun z => ?_, fun z => by omega⟩ (c2.cM hs) (he.tr c2)
          exact absurd (show nI i < 0 by rw [z]; decide) (nI_pos (by omega))
    exact key (ζ 4) 0 gFu gFu (-6) 0 m' (Nat.zero_add _) (by show ζ 4 < 1000000; omega) (by show ζ 4 < 1000000; omega) (by decide) ⟨fun _ => rfl, fun _ => rfl⟩ (b2.cM hm) b2
  by_cases h0 : p0 = 0
  · subst h0
    rw [if_pos rfl, show f_X11_in 0 0 1 m = some (1, m) from rfl, ob_some]
    dsimp only
    rw [if_neg i10]
    exact body 0
  · rw [if_neg h0]
    by_cases h1 : p0 = 1
    · subst h1
      rw [if_pos rfl, show f_X11_in 1 0 1 m = some (1, m) from rfl, ob_some]
      dsimp only
      rw [if_neg i10]
      exact body 1
    · rw [if_neg h1]
      rcases wi p0 0 1 0 1 rfl rfl (by decide) (by decide) x m with ⟨-, g2⟩ | ⟨k, -, hk, rfl, -, g2⟩
      · rw [g2, ob_some]
        dsimp only
        rw [if_pos rfl]
        exact qOK.same rfl rfl
      · rcases (show k = 0 ∨ k = 1 by omega) with rfl | rfl
        · exact absurd rfl h0
        · exact absurd rfl h1
theorem q_count (hx : cX ζ x 1) (hm : cM ζ m) (hI : zI ζ) (hB : ζ 2 < 2 ^ 31) (hp : x 33 0 = m 0 6) (hk : x 36 2 = m 0 2) (p0 : Int32) : qOK (f_X10_count p0 x) (f_X11_count p0 m) x m := by
  have hz : 10 ≤ ζ 0 ∧ ζ 0 ≤ 200 := hI.2.2.1
  unfold f_X10_count f_X11_count
  rw [gLet_eq]
  dsimp only
  by_cases c0 : p0 = 0
  · subst c0
    rw [if_pos rfl, if_pos rfl, a_bell hx]
    exact qOK.same rfl (show _ = some (nI (ζ 0), m) by rw [← hm 0 (by decide)]; rfl)
  rw [if_neg c0, if_neg c0]
  by_cases c1 : p0 = 1
  · subst c1
    rw [if_pos rfl, if_pos rfl, a_awk hx]
    exact qOK.same rfl (show _ = some (nI (ζ 1), m) by rw [← hm 1 (by decide)]; rfl)
  rw [if_neg c1, if_neg c1]
  by_cases c2 : p0 = 2
  · subst c2
    rw [if_pos rfl, if_pos rfl, x_min hx]
    exact qOK.same rfl (show _ = some (nI (ζ 2), m) by rw [← hm 2 (by decide)]; rfl)
  rw [if_neg c2, if_neg c2]
  by_cases c3 : p0 = 3
  · rw [if_pos c3, if_pos c3, x_nb hx, m_nb hm]
    exact qOK.same rfl rfl
  rw [if_neg c3, if_neg c3]
  by_cases c4 : p0 = 4
  · rw [if_pos c4, if_pos c4, x_ns hx, m_ns hm]
    exact qOK.same rfl rfl
  rw [if_neg c4, if_neg c4]
  by_cases c5 : p0 = 5
  · rw [if_pos c5, if_pos c5, x_awake hx hI, m_awake hm hI]
    exact qOK.same rfl rfl
  rw [if_neg c5, if_neg c5]
  by_cases c6 : p0 = 6
  · rw [if_pos c6, if_pos c6, x_wat hx hI, m_wat hm hI]
    exact qOK.same rfl rfl
  rw [if_neg c6, if_neg c6]
  by_cases c7 : p0 = 7
  · rw [if_pos c7, if_pos c7, x_bls hx, hm 3 (by decide)]
    exact qOK.same rfl rfl
  rw [if_neg c7, if_neg c7]
  by_cases c8 : p0 = 8
  · rw [if_pos c8, if_pos c8, hm 0 (by decide), hm 2 (by decide)]
    have hne : ¬ nI (ζ 0) = 0 := nI_ne0 (by omega) (by omega)
    unfold f_X0_minutesToBell f_X0_minutesBetweenBells
    rw [a_bell hx, ob_some]
    dsimp only
    rw [if_neg (show ¬ nI (ζ 0) < 1 from nI_nlt (b := 1) (by omega) (by omega)), ob_some]
    dsimp only
    rw [a_bell hx, ob_some]
    dsimp only
    rw [if_neg (show ¬ nI (ζ 0) < 1 from nI_nlt (b := 1) (by omega) (by omega)), ob_some]
    dsimp only
    rw [show gne (nI (ζ 0)) = true by simpa [gne] using hne, gGd_t, gGd_t, x_min hx]
    exact qOK.same rfl rfl
  rw [if_neg c8, if_neg c8]
  by_cases c9 : p0 = 9
  · rw [if_pos c9, if_pos c9, hp]
    exact qOK.same rfl rfl
  rw [if_neg c9, if_neg c9]
  by_cases c10 : p0 = 10
  · rw [if_pos c10, if_pos c10, hk]
    exact qOK.same rfl rfl
  rw [if_neg c10, if_neg c10]
  exact qOK.same rfl rfl
end GQ
