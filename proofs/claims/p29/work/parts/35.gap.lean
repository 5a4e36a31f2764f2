section GQ
variable {ζ : Nat → Nat} {x m : gS}
def sm (f : Nat → Nat) : Nat → Nat
  | 0 => 0
  | n + 1 => sm f n + f n
theorem sm_cong {f g : Nat → Nat} : ∀ {n}, (∀ i, i < n → f i = g i) → sm f n = sm g n
  | 0, _ => rfl
  | n + 1, h => by rw [sm, sm, sm_cong fun i hi => h i (by omega), h n (by omega)]
theorem sm_add (f g : Nat → Nat) : ∀ n, sm (fun i => f i + g i) n = sm f n + sm g n
  | 0 => rfl
  | n + 1 => by
    rw [sm, sm, sm, sm_add f g n]
    omega
theorem sm_zero : ∀ n, sm (fun _ => 0) n = 0
  | 0 => rfl
  | n + 1 => by rw [sm, sm_zero n]
theorem sm_swap (h : Nat → Nat → Nat) (m : Nat) : ∀ n, sm (fun i => sm (h i) m) n = sm (fun k => sm (fun i => h i k) n) m
  | 0 => (sm_zero m).symm
  | n + 1 => by
    rw [sm, sm_swap h m n, ← sm_add]
    rfl
theorem sm_le {f : Nat → Nat} {c : Nat} (h : ∀ i, f i ≤ c) : ∀ n, sm f n ≤ n * c
  | 0 => by rw [sm]; exact Nat.zero_le _
  | n + 1 => by
    have := sm_le h n
    have := h n
    rw [sm, Nat.succ_mul]
    omega
theorem sm_cnt (p : Nat → Bool) : ∀ n, cnt p n = sm (fun i => if p i = true then 1 else 0) n
  | 0 => rfl
  | n + 1 => by rw [cnt, sm, sm_cnt p n]
theorem sm_low (f : Nat → Nat) (k : Nat) : ∀ n, n ≤ k → sm (fun i => if i < k then f i else 0) n = sm f n
  | 0, _ => rfl
  | n + 1, h => by rw [sm, sm, sm_low f k n (by omega), if_pos (by omega)]
theorem sm_low' (f : Nat → Nat) (k : Nat) : ∀ d, sm (fun i => if i < k then f i else 0) (k + d) = sm f k
  | 0 => sm_low f k k (Nat.le_refl _)
  | d + 1 => by rw [show k + (d + 1) = (k + d) + 1 by omega, sm, sm_low' f k d, if_neg (by omega), Nat.add_zero]
theorem sm_mulr (f : Nat → Nat) (c : Nat) : ∀ n, sm (fun i => f i * c) n = sm f n * c
  | 0 => by rw [sm, sm, Nat.zero_mul]
  | n + 1 => by rw [sm, sm, sm_mulr f c n, Nat.add_mul]
/-- two sets apart: the pairs between them -/
theorem sm_pairs {f g : Nat → Nat} (hd : ∀ i, f i * g i = 0) (n : Nat) : sm (fun i => sm (fun k => if i < k then f i * g k + g i * f k else 0) n) n = sm f n * sm g n := by
  rw [sm_swap]
  have inner : ∀ k, k < n → sm (fun i => if i < k then f i * g k + g i * f k else 0) n = sm f k * g k + sm g k * f k := by
    intro k hk
    have := sm_low' (fun i => f i * g k + g i * f k) k (n - k)
    rw [show k + (n - k) = n by omega] at this
    rw [this, sm_add, sm_mulr, sm_mulr]
  rw [sm_cong inner]
  clear inner
  induction n with
  | zero => rfl
  | succ n ih =>
    rw [sm, sm, sm, ih, Nat.add_mul, Nat.mul_add, Nat.mul_add, hd n, Nat.mul_comm (sm g n) (f n)]
    omega
/-- pairs of rooms that can be reached from each other -/
def prs (ζ : Nat → Nat) (E : Nat) (n : Nat) : Nat := sm (fun i => sm (fun k => if (decide (i < k) && (rea ζ E i).testBit k) = true then 1 else 0) 10) n
theorem prs_le (E : Nat) {n : Nat} (hn : n ≤ 10) : prs ζ E n ≤ 100 := by
  have := sm_le (f := fun i => sm (fun k => if (decide (i < k) && (rea ζ E i).testBit k) = true then 1 else 0) 10) (c := 10) (fun i => sm_le (c := 1) (fun k => by split <;> decide) 10) n
  unfold prs
  omega
/-- a board that splits, splits one set into two -/
theorem cn_split (hI : zI ζ) {E b u v : Nat} (hE : E < 2 ^ 31) (he : edg ζ E b u v) {i k : Nat} (hi : i < 10) : cn ζ E i k ↔ cn ζ (dif E (2 ^ b)) i k ∨ (cn ζ (dif E (2 ^ b)) i u ∧ cn ζ (dif E (2 ^ b)) v k) ∨ (cn ζ (dif E (2 ^ b)) i v ∧ cn ζ (dif E (2 ^ b)) u k) := by
  have hl := edg_lt hI he
  have mo : ∀ {p q}, p < 10 → cn ζ (dif E (2 ^ b)) p q → cn ζ E p q := fun hp h => cn_mo hI hp (fun f hf => (sub_rm hE hf).1) h
  constructor
  · refine cn_in (P := fun k => cn ζ (dif E (2 ^ b)) i k ∨ (cn ζ (dif E (2 ^ b)) i u ∧ cn ζ (dif E (2 ^ b)) v k) ∨ (cn ζ (dif E (2 ^ b)) i v ∧ cn ζ (dif E (2 ^ b)) u k)) (Or.inl (cn_rf hi)) (fun f p q hf hp => ?_) k
    by_cases hfb : b = f
    · subst hfb
      rcases edg_un hf he with ⟨rfl, rfl⟩ | ⟨rfl, rfl⟩
      · rcases hp with h | ⟨h1, -⟩ | ⟨h1, -⟩
        · exact Or.inr (Or.inl ⟨h, cn_rf hl.2.1⟩)
        · exact Or.inr (Or.inl ⟨h1, cn_rf hl.2.1⟩)
        · exact Or.inl h1
      · rcases hp with h | ⟨h1, -⟩ | ⟨h1, -⟩
        · exact Or.inr (Or.inr ⟨h, cn_rf hl.1⟩)
        · exact Or.inl h1
        · exact Or.inr (Or.inr ⟨h1, cn_rf hl.1⟩)
    · have hf' : edg ζ (dif E (2 ^ b)) f p q := (edg_rm hE).mpr ⟨hf, hfb⟩
      rcases hp with h | ⟨h1, h2⟩ | ⟨h1, h2⟩
      · exact Or.inl (cn_ed hI hi hf' h)
      · exact Or.inr (Or.inl ⟨h1, cn_ed hI hl.2.1 hf' h2⟩)
      · exact Or.inr (Or.inr ⟨h1, cn_ed hI hl.1 hf' h2⟩)
  · rintro (h | ⟨h1, h2⟩ | ⟨h1, h2⟩)
    · exact mo hi h
    · exact cn_tr hI hi (cn_ed hI hi he (mo hi h1)) (mo hl.2.1 h2)
    · exact cn_tr hI hi (cn_ed hI hi (edg_sm he) (mo hi h1)) (mo hl.1 h2)
def gap (ζ : Nat → Nat) (E b : Nat) : Nat := if (rea ζ (dif E (2 ^ b)) (bd ζ b 0)).testBit (bd ζ b 1) = true then 0 else pc (rea ζ (dif E (2 ^ b)) (bd ζ b 0)) * pc (rea ζ (dif E (2 ^ b)) (bd ζ b 1))
theorem ind_b {A : Bool} {B : Prop} (h : A = true ↔ B) {D : Decidable B} : (if A = true then 1 else 0 : Nat) = if B then 1 else 0 := by
  by_cases hb : B
  · rw [if_pos (h.mpr hb), if_pos hb]
  · rw [if_neg (fun z => hb (h.mp z)), if_neg hb]
theorem prs_gap (hI : zI ζ) {E b : Nat} (hE : E < 2 ^ 31) (hb : b < ζ 4) (hbE : E.testBit b = true) : prs ζ E 10 = prs ζ (dif E (2 ^ b)) 10 + gap ζ E b := by
  have he : edg ζ E b (bd ζ b 0) (bd ζ b 1) := ⟨hb, hbE, Or.inl ⟨rfl, rfl⟩⟩
  have hl := edg_lt hI he
  generalize hu : bd ζ b 0 = u at he hl
  generalize hv : bd ζ b 1 = v at he hl
  unfold gap
  rw [hu, hv]
  by_cases hc : cn ζ (dif E (2 ^ b)) u v
  · rw [if_pos (show (rea ζ (dif E (2 ^ b)) u).testBit v = true from hc), Nat.add_zero]
    unfold prs
    refine sm_cong fun i hi => sm_cong fun k hk => ?_
    have : (rea ζ E i).testBit k = (rea ζ (dif E (2 ^ b)) i).testBit k := by
      rw [Bool.eq_iff_iff]
      show cn ζ E i k ↔ cn ζ (dif E (2 ^ b)) i k
      rw [cn_split hI hE he hi]
      constructor
      · rintro (h | ⟨h1, h2⟩ | ⟨h1, h2⟩)
        · exact h
        · exact cn_tr hI hi (cn_tr hI hi h1 hc) h2
        · exact cn_tr hI hi (cn_tr hI hi h1 (cn_sy hI hl.1 hc)) h2
      · exact Or.inl
    rw [this]
  · rw [if_neg (show ¬ (rea ζ (dif E (2 ^ b)) u).testBit v = true from hc)]
    have hd : ∀ i, (if (rea ζ (dif E (2 ^ b)) u).testBit i = true then 1 else 0 : Nat) * (if (rea ζ (dif E (2 ^ b)) v).testBit i = true then 1 else 0) = 0 := by
      intro i
      by_cases h1 : (rea ζ (dif E (2 ^ b)) u).testBit i = true
      · by_cases h2 : (rea ζ (dif E (2 ^ b)) v).testBit i = true
        · exact absurd (cn_tr hI hl.1 h1 (cn_sy hI hl.2.1 h2)) hc
        · rw [if_neg h2, Nat.mul_zero]
      · rw [if_neg h1, Nat.zero_mul]
    unfold pc
    rw [sm_cnt, sm_cnt, ← sm_pairs hd 10]
    unfold prs
    rw [← sm_add]
    refine sm_cong fun i hi => ?_
    rw [← sm_add]
    refine sm_cong fun k hk => ?_
    by_cases hik : i < k
    · rw [if_pos hik, decide_eq_true hik, Bool.true_and, Bool.true_and]
      have iu : (rea ζ (dif E (2 ^ b)) u).testBit i = true ↔ cn ζ (dif E (2 ^ b)) i u := ⟨fun h => cn_sy hI hl.1 h, fun h => cn_sy hI hi h⟩
      have iv : (rea ζ (dif E (2 ^ b)) v).testBit i = true ↔ cn ζ (dif E (2 ^ b)) i v := ⟨fun h => cn_sy hI hl.2.1 h, fun h => cn_sy hI hi h⟩
      have main : (rea ζ E i).testBit k = true ↔ (rea ζ (dif E (2 ^ b)) i).testBit k = true ∨ ((rea ζ (dif E (2 ^ b)) u).testBit i = true ∧ (rea ζ (dif E (2 ^ b)) v).testBit k = true) ∨ ((rea ζ (dif E (2 ^ b)) v).testBit i = true ∧ (rea ζ (dif E (2 ^ b)) u).testBit k = true) := by
        rw [iu, iv]
        exact cn_split hI hE he hi
      have n12 : ¬ ((rea ζ (dif E (2 ^ b)) u).testBit i = true ∧ (rea ζ (dif E (2 ^ b)) v).testBit i = true) := fun w => hc (cn_tr hI hl.1 w.1 (iv.mp w.2))
      have m12 : ¬ ((rea ζ (dif E (2 ^ b)) u).testBit k = true ∧ (rea ζ (dif E (2 ^ b)) v).testBit k = true) := fun w => hc (cn_tr hI hl.1 w.1 (cn_sy hI hl.2.1 w.2))
      have k1 : (rea ζ (dif E (2 ^ b)) i).testBit k = true → (rea ζ (dif E (2 ^ b)) u).testBit i = true → (rea ζ (dif E (2 ^ b)) u).testBit k = true := fun w1 w2 => cn_tr hI hl.1 w2 w1
      have k2 : (rea ζ (dif E (2 ^ b)) i).testBit k = true → (rea ζ (dif E (2 ^ b)) v).testBit i = true → (rea ζ (dif E (2 ^ b)) v).testBit k = true := fun w1 w2 => cn_tr hI hl.2.1 w2 w1
      revert main n12 m12 k1 k2
      clear iu iv
      generalize (rea ζ E i).testBit k = A
      generalize (rea ζ (dif E (2 ^ b)) i).testBit k = B
      generalize (rea ζ (dif E (2 ^ b)) u).testBit i = C
      generalize (rea ζ (dif E (2 ^ b)) u).testBit k = D
      generalize (rea ζ (dif E (2 ^ b)) v).testBit i = F
      generalize (rea ζ (dif E (2 ^ b)) v).testBit k = G
      clear hd hc hl he hu hv hbE hb hE hik hi hk
      cases A <;> cases B <;> cases C <;> cases D <;> cases F <;> cases G <;> decide
    · rw [if_neg hik, decide_eq_false hik]
      rfl
theorem x_gap (h : cX ζ x 1) (hI : zI ζ) {b : Nat} (hb : b < ζ 4) : f_X1_pairsApartWithout (nI b) x = some (nI (gap ζ (2 ^ ζ 4 - 1) b), x) := by
  have hn := hI.nb
  have hbb := hI.b hb
  have hE := lt31 (all_lt hI) (by decide)
  unfold f_X1_pairsApartWithout gap
  rw [x_all h hI, ob_some]
  dsimp only
  rw [gLet_eq, n_rm (by omega), a_lo h hI hb, ob_some]
  dsimp only
  rw [x_rooms h hI (rm_lt hE) (by omega), ob_some]
  dsimp only
  rw [a_hi h hI hb, ob_some]
  dsimp only
  by_cases hc : (rea ζ (dif (2 ^ ζ 4 - 1) (2 ^ b)) (bd ζ b 0)).testBit (bd ζ b 1) = true
  · rw [holds_t (lt31 rea_lt (by decide)) (by omega) hc, ob_some, if_pos hc]
    dsimp only
    rw [if_neg i10]
    rfl
  · rw [holds_f (lt31 rea_lt (by decide)) (by omega) hc, ob_some, if_neg hc]
    dsimp only
    rw [if_pos rfl, a_hi h hI hb, ob_some]
    dsimp only
    rw [x_rooms h hI (rm_lt hE) hbb.2.1, ob_some]
    dsimp only
    rw [x_bc rea_lt, ob_some]
    dsimp only
    rw [x_bc rea_lt, ob_some]
    dsimp only
    rw [pk_mul]
theorem gap_le (E b : Nat) : gap ζ E b ≤ 100 := by
  unfold gap
  split
  · decide
  · exact Nat.mul_le_mul (pc_le _) (pc_le _)
end GQ
