/-! numbers, masks, loops -/
theorem ob_some {α β : Type} {a : α} {f : α → Option β} : Option.bind (some a) f = f a := rfl
theorem gGd_t {α : Type} {x : Option α} : gGd true x = x := rfl
theorem gLet_eq {α β : Type} {a : α} {f : α → β} : gLet a f = f a := rfl
theorem gFu_lt {n : Nat} (h : n < 1000000) : n < gFu := h
theorem lpN {R : Type} (F : Nat → Nat → R) (N : Nat) (r : R) (hs : ∀ n i, i < N → F (n + 1) i = F n (i + 1)) (hx : ∀ n, F (n + 1) N = r) : ∀ (i n : Nat), i ≤ N → N - i < n → F n i = r := by
  have key : ∀ (d i n : Nat), i + d = N → d < n → F n i = r := by
    intro d
    induction d with
    | zero =>
      intro i n hi hn
      obtain ⟨k, rfl⟩ : ∃ k, n = k + 1 := ⟨n - 1, by omega⟩
      rw [show i = N by omega]
      exact hx k
    | succ d ih =>
      intro i n hi hn
      obtain ⟨k, rfl⟩ : ∃ k, n = k + 1 := ⟨n - 1, by omega⟩
      rw [hs k i (by omega)]
      exact ih (i + 1) k (by omega) (by omega)
  intro i n hi hn
  exact key (N - i) i n (by omega) hn
theorem lp0 {R : Type} (F : Nat → Nat → R) (N : Nat) (r : R) (hN : N < 1000000) (hs : ∀ n i, i < N → F (n + 1) i = F n (i + 1)) (hx : ∀ n, F (n + 1) N = r) : F gFu 0 = r := lpN F N r hs hx 0 gFu (Nat.zero_le _) (by rw [Nat.sub_zero]; exact hN)
theorem gil_nI {n : Nat} (h : n < 2 ^ 31) : gil (nI n) = n := nI_clamp h
theorem gin_nI {n N : Nat} (h : n < N) (hN : N < 2 ^ 31) : gin (nI n) N = true := by
  unfold gin
  rw [nI_toInt (by omega)]
  exact decide_eq_true ⟨by omega, by omega⟩
theorem gin_of {i : Int32} {N : Nat} (h : gin i N = true) : ∃ n, n < N ∧ i = nI n := by
  have h1 := of_decide_eq_true h
  refine ⟨i.toInt.toNat, by omega, ?_⟩
  apply Int32.toInt_inj.mp
  have := Int32.toInt_lt i
  rw [nI_toInt (by omega)]
  omega
theorem shl1 : ∀ k, k < 32 → (1 : Int32) <<< (nI k &&& 31) = nI (2 ^ k) := by decide +kernel
theorem sm31 : ∀ k, k < 32 → ((nI k &&& 31).toBitVec.smod 32).toNat = k := by decide +kernel
theorem n_or (a b : Nat) : nI a ||| nI b = nI (a ||| b) := by
  apply Int32.toBitVec_inj.mp
  show BitVec.ofNat 32 a ||| BitVec.ofNat 32 b = BitVec.ofNat 32 (a ||| b)
  apply BitVec.eq_of_getLsbD_eq
  intro i hi
  simp [BitVec.getLsbD_ofNat, hi]
theorem n_and (a b : Nat) : nI a &&& nI b = nI (a &&& b) := by
  apply Int32.toBitVec_inj.mp
  show BitVec.ofNat 32 a &&& BitVec.ofNat 32 b = BitVec.ofNat 32 (a &&& b)
  apply BitVec.eq_of_getLsbD_eq
  intro i hi
  simp [BitVec.getLsbD_ofNat, hi]
theorem n_xor (a b : Nat) : nI a ^^^ nI b = nI (a ^^^ b) := by
  apply Int32.toBitVec_inj.mp
  show BitVec.ofNat 32 a ^^^ BitVec.ofNat 32 b = BitVec.ofNat 32 (a ^^^ b)
  apply BitVec.eq_of_getLsbD_eq
  intro i hi
  simp [BitVec.getLsbD_ofNat, hi]
/-- a without b -/
def dif (a b : Nat) : Nat := a &&& (b ^^^ (2 ^ 32 - 1))
theorem dif_bit {a b i : Nat} (ha : a < 2 ^ 31) : (dif a b).testBit i = (a.testBit i && !b.testBit i) := by
  unfold dif
  rw [Nat.testBit_and, Nat.testBit_xor, Nat.testBit_two_pow_sub_one]
  by_cases h : i < 32
  · simp [h]
  · have : a.testBit i = false := Nat.testBit_lt_two_pow (Nat.lt_of_lt_of_le ha (Nat.pow_le_pow_right (by decide) (by omega)))
    simp [this]
theorem n_dif (a b : Nat) : nI a &&& (nI b ^^^ (-1)) = nI (dif a b) := by
  rw [show ((-1) : Int32) = nI (2 ^ 32 - 1) by decide, n_xor, n_and]
  rfl
theorem dif_le {a b n : Nat} (ha : a < 2 ^ n) : dif a b < 2 ^ n := by
  unfold dif
  rw [Nat.and_comm]
  exact Nat.and_lt_two_pow _ ha
theorem hbit {m k : Nat} (hm : m < 2 ^ 31) (hk : k < 32) : (nI m >>> (nI k &&& 31)) &&& 1 = nI (if m.testBit k then 1 else 0) := by
  rw [pk_shrN hm _ k (sm31 k hk)]
  rw [pk_andN (m := 1) (k := 1) (by
    have := Nat.div_le_self m (2 ^ k)
    omega) (by decide)]
  congr 1
  rw [Nat.testBit_eq_decide_div_mod_eq]
  have h2 : m / 2 ^ k % 2 < 2 := Nat.mod_lt _ (by decide)
  by_cases h : m / 2 ^ k % 2 = 1
  · simp [h]
  · simp [h]
    omega
theorem hbit0 {m k : Nat} (hm : m < 2 ^ 31) (hk : k < 32) : ((nI m >>> (nI k &&& 31)) &&& 1 = 0) ↔ m.testBit k = false := by
  rw [hbit hm hk]
  cases m.testBit k <;> decide
theorem hbit1 {m k : Nat} (hm : m < 2 ^ 31) (hk : k < 32) : ((nI m >>> (nI k &&& 31)) &&& 1 = 1) ↔ m.testBit k = true := by
  rw [hbit hm hk]
  cases m.testBit k <;> decide
theorem n_eq0 {a : Nat} (h : a < 2 ^ 32) : nI a = 0 ↔ a = 0 := by
  constructor
  · intro h0
    have h1 : (nI a).toBitVec.toNat = (0 : Int32).toBitVec.toNat := by rw [h0]
    rw [pk_tn h] at h1
    simpa using h1
  · rintro rfl; rfl
theorem n_inj {a b : Nat} (ha : a < 2 ^ 32) (hb : b < 2 ^ 32) : nI a = nI b ↔ a = b := by
  constructor
  · intro h0
    have h1 : (nI a).toBitVec.toNat = (nI b).toBitVec.toNat := by rw [h0]
    rwa [pk_tn ha, pk_tn hb] at h1
  · rintro rfl; rfl
/-- what is put together by or -/
def orF (f : Nat → Nat) : Nat → Nat
  | 0 => 0
  | n + 1 => orF f n ||| f n
theorem orF_lt {f : Nat → Nat} {k : Nat} : ∀ {n : Nat}, (∀ i, i < n → f i < 2 ^ k) → orF f n < 2 ^ k
  | 0, _ => Nat.two_pow_pos k
  | n + 1, h => Nat.or_lt_two_pow (orF_lt fun i hi => h i (by omega)) (h n (by omega))
theorem orF_bit {f : Nat → Nat} {i : Nat} : ∀ {n : Nat}, (orF f n).testBit i = true ↔ ∃ k, k < n ∧ (f k).testBit i = true
  | 0 => by simp [orF]
  | n + 1 => by
    rw [orF, Nat.testBit_or, Bool.or_eq_true, orF_bit]
    constructor
    · rintro (⟨k, h1, h2⟩ | h)
      · exact ⟨k, by omega, h2⟩
      · exact ⟨n, by omega, h⟩
    · rintro ⟨k, h1, h2⟩
      rcases Nat.lt_or_ge k n with h | h
      · exact Or.inl ⟨k, h, h2⟩
      · rw [show k = n by omega] at h2
        exact Or.inr h2
theorem orF_cong {f g : Nat → Nat} : ∀ {n : Nat}, (∀ i, i < n → f i = g i) → orF f n = orF g n
  | 0, _ => rfl
  | n + 1, h => by rw [orF, orF, orF_cong fun i hi => h i (by omega), h n (by omega)]
/-- the set of the numbers below n that p holds of -/
def mk (p : Nat → Bool) (n : Nat) : Nat := orF (fun k => if p k then 2 ^ k else 0) n
theorem mk_succ (p : Nat → Bool) (n : Nat) : mk p (n + 1) = mk p n ||| (if p n then 2 ^ n else 0) := rfl
theorem mk_bit {p : Nat → Bool} {n i : Nat} : (mk p n).testBit i = (decide (i < n) && p i) := by
  rw [Bool.eq_iff_iff]
  unfold mk
  rw [orF_bit]
  constructor
  · rintro ⟨k, h1, h2⟩
    by_cases hp : p k = true
    · rw [if_pos hp, Nat.testBit_two_pow, decide_eq_true_eq] at h2
      subst h2
      simp [h1, hp]
    · rw [if_neg hp] at h2
      simp at h2
  · intro h
    simp only [Bool.and_eq_true, decide_eq_true_eq] at h
    exact ⟨i, h.1, by rw [if_pos h.2, Nat.testBit_two_pow]; simp⟩
theorem mk_lt {p : Nat → Bool} {n : Nat} : mk p n < 2 ^ n := by
  apply Nat.lt_pow_two_of_testBit
  intro i hi
  rw [mk_bit]
  simp [Nat.not_lt.mpr hi]
theorem mk_lt' {p : Nat → Bool} {n k : Nat} (h : n ≤ k) : mk p n < 2 ^ k := Nat.lt_of_lt_of_le mk_lt (Nat.pow_le_pow_right (by decide) h)
theorem mk_cong {p q : Nat → Bool} {n : Nat} (h : ∀ i, i < n → p i = q i) : mk p n = mk q n := orF_cong fun i hi => by rw [h i hi]
theorem bit_ext {a b : Nat} (h : ∀ i, a.testBit i = b.testBit i) : a = b := Nat.eq_of_testBit_eq h
theorem bit_big {a n i : Nat} (ha : a < 2 ^ n) (hi : n ≤ i) : a.testBit i = false := Nat.testBit_lt_two_pow (Nat.lt_of_lt_of_le ha (Nat.pow_le_pow_right (by decide) hi))
theorem p2_lt {k n : Nat} (h : k < n) : 2 ^ k < 2 ^ n := Nat.pow_lt_pow_right (by decide) h
theorem lt31 {a n : Nat} (h : a < 2 ^ n) (hn : n ≤ 31) : a < 2 ^ 31 := Nat.lt_of_lt_of_le h (Nat.pow_le_pow_right (by decide) hn)
theorem n_lt {a b : Nat} (ha : a < 2 ^ 31) (hb : b < 2 ^ 31) : nI a < nI b ↔ a < b := nI_ltI ha hb
theorem n_le {a b : Nat} (ha : a < 2 ^ 31) (hb : b < 2 ^ 31) : nI a ≤ nI b ↔ a ≤ b := nI_leI ha hb
/-- ranges of the arguments -/
theorem rng (x : Int32) (N : Nat) (hN : N < 2 ^ 31) : x < 0 ∨ nI N ≤ x ∨ ∃ k, k < N ∧ x = nI k := pk_ix x hN
/-- rows of the class -/
theorem at_nI {r L k : Nat} {σ : gS} (hk : k < L) (hL : L < 2 ^ 31) : f_X5_at r L (nI k) σ = some (σ (r + 1) k, σ) := by
  unfold f_X5_at
  rw [if_neg (nI_pos (by omega)), if_neg (show ¬ Int32.ofNat L ≤ nI k from nI_ge hk hL), gin_nI hk hL, gil_nI (by omega)]
  rfl
theorem store_nI {r L k : Nat} {x : Int32} {σ : gS} (hk : k < L) (hL : L < 2 ^ 31) : f_X5_store r L (nI k) x σ = some (up2 σ (r + 1) k x) := by
  unfold f_X5_store
  rw [if_neg (nI_pos (by omega)), if_neg (show ¬ Int32.ofNat L ≤ nI k from nI_ge hk hL), gin_nI hk hL, gil_nI (by omega)]
  rfl
theorem inc_nI {r L k : Nat} {σ : gS} (hk : k < L) (hL : L < 2 ^ 31) : f_X5_increase r L (nI k) σ = some (up2 σ (r + 1) k (σ (r + 1) k + 1)) := by
  unfold f_X5_increase
  rw [at_nI hk hL]
  show Option.bind (f_X5_store r L (nI k) (σ (r + 1) k + 1) σ) _ = _
  rw [store_nI hk hL]
  rfl
theorem up2_eq {σ : gS} {c k : Nat} {x : Int32} : up2 σ c k x c k = x := by simp [up2, gU, upd]
theorem up2_c {σ : gS} {c k d j : Nat} {x : Int32} (h : d ≠ c) : up2 σ c k x d j = σ d j := by simp [up2, gU, h]
theorem up2_k {σ : gS} {c k j : Nat} {x : Int32} (h : j ≠ k) : up2 σ c k x c j = σ c j := by simp [up2, gU, upd, h]
theorem up2_row {σ : gS} {c k d : Nat} {x : Int32} (h : d ≠ c) : up2 σ c k x d = σ d := by simp [up2, gU, h]
theorem gU_eq {σ : gS} {c : Nat} {f : Nat → Int32} : gU σ c f c = f := by simp [gU]
theorem gU_row {σ : gS} {c d : Nat} {f : Nat → Int32} (h : d ≠ c) : gU σ c f d = σ d := by simp [gU, h]
