/-! how far rooms are, by boards with costs: rounds of looking at all boards -/
def gINF : Nat := 1000000
def mnF (f : Nat → Nat) (x : Nat) : Nat → Nat
  | 0 => x
  | n + 1 => min (mnF f x n) (f n)
theorem mnF_le0 {f : Nat → Nat} {x : Nat} : ∀ n, mnF f x n ≤ x
  | 0 => Nat.le_refl _
  | n + 1 => Nat.le_trans (Nat.min_le_left _ _) (mnF_le0 n)
theorem mnF_le {f : Nat → Nat} {x b : Nat} : ∀ {n}, b < n → mnF f x n ≤ f b
  | n + 1, h => by
    rcases Nat.lt_or_ge b n with h1 | h1
    · exact Nat.le_trans (Nat.min_le_left _ _) (mnF_le h1)
    · rw [show b = n by omega]
      exact Nat.min_le_right _ _
theorem mnF_at {f : Nat → Nat} {x : Nat} : ∀ n, mnF f x n = x ∨ ∃ b, b < n ∧ mnF f x n = f b
  | 0 => Or.inl rfl
  | n + 1 => by
    rw [mnF]
    rcases Nat.le_total (mnF f x n) (f n) with h | h
    · rw [Nat.min_eq_left h]
      rcases mnF_at (f := f) (x := x) n with h1 | ⟨b, h1, h2⟩
      · exact Or.inl h1
      · exact Or.inr ⟨b, by omega, h2⟩
    · rw [Nat.min_eq_right h]
      exact Or.inr ⟨n, by omega, rfl⟩
section GB
variable (N : Nat) (e : Nat → Bool) (lo hi c : Nat → Nat) (t : Nat)
def gcand (D : Nat → Nat) (r b : Nat) : Nat := if e b = true ∧ lo b = r then D (hi b) + c b else if e b = true ∧ hi b = r then D (lo b) + c b else gINF
def gD : Nat → Nat → Nat
  | 0, r => if r = t then 0 else gINF
  | k + 1, r => mnF (gcand e lo hi c (gD k) r) (gD k r) N
def gOK : Prop := ∀ b, b < N → e b = true → lo b < 10 ∧ hi b < 10 ∧ lo b ≠ hi b ∧ 1 ≤ c b
end GB
section GB2
variable {N : Nat} {e : Nat → Bool} {lo hi c : Nat → Nat} {t : Nat}
theorem gD_mono1 (k r : Nat) : gD N e lo hi c t (k + 1) r ≤ gD N e lo hi c t k r := mnF_le0 N
theorem gD_mono {j k : Nat} (h : j ≤ k) (r : Nat) : gD N e lo hi c t k r ≤ gD N e lo hi c t j r := by
  induction k with
  | zero => rw [show j = 0 by omega]; exact Nat.le_refl _
  | succ k ih =>
    rcases Nat.lt_or_ge j (k + 1) with h1 | h1
    · exact Nat.le_trans (gD_mono1 k r) (ih (by omega))
    · rw [show j = k + 1 by omega]; exact Nat.le_refl _
theorem gD_le (k r : Nat) : gD N e lo hi c t k r ≤ gINF := by
  refine Nat.le_trans (gD_mono (Nat.zero_le k) r) ?_
  show (if r = t then 0 else gINF) ≤ gINF
  split
  · exact Nat.zero_le _
  · exact Nat.le_refl _
theorem gD_t (k : Nat) : gD N e lo hi c t k t = 0 := by
  have h := gD_mono (N := N) (e := e) (lo := lo) (hi := hi) (c := c) (t := t) (Nat.zero_le k) t
  have h0 : gD N e lo hi c t 0 t = 0 := if_pos rfl
  omega
theorem gD_rlo (ok : gOK N e lo hi c) (k : Nat) {b : Nat} (hb : b < N) (he : e b = true) : gD N e lo hi c t (k + 1) (lo b) ≤ gD N e lo hi c t k (hi b) + c b := by
  refine Nat.le_trans (mnF_le hb) ?_
  unfold gcand
  rw [if_pos ⟨he, rfl⟩]
  exact Nat.le_refl _
theorem gD_rhi (ok : gOK N e lo hi c) (k : Nat) {b : Nat} (hb : b < N) (he : e b = true) : gD N e lo hi c t (k + 1) (hi b) ≤ gD N e lo hi c t k (lo b) + c b := by
  refine Nat.le_trans (mnF_le hb) ?_
  unfold gcand
  rw [if_neg (fun h => (ok b hb he).2.2.1 h.2), if_pos ⟨he, rfl⟩]
  exact Nat.le_refl _
/-- where a value comes from -/
theorem gD_from (k r : Nat) : gD N e lo hi c t (k + 1) r = gD N e lo hi c t k r ∨ ∃ b r', b < N ∧ e b = true ∧ ((lo b = r ∧ hi b = r') ∨ (hi b = r ∧ lo b = r')) ∧ gD N e lo hi c t (k + 1) r = gD N e lo hi c t k r' + c b := by
  rcases mnF_at (f := gcand e lo hi c (gD N e lo hi c t k) r) (x := gD N e lo hi c t k r) N with h | ⟨b, hb, h⟩
  · exact Or.inl h
  · have h' : gD N e lo hi c t (k + 1) r = gcand e lo hi c (gD N e lo hi c t k) r b := h
    unfold gcand at h'
    by_cases h1 : e b = true ∧ lo b = r
    · rw [if_pos h1] at h'
      exact Or.inr ⟨b, hi b, hb, h1.1, Or.inl ⟨h1.2, rfl⟩, h'⟩
    · rw [if_neg h1] at h'
      by_cases h2 : e b = true ∧ hi b = r
      · rw [if_pos h2] at h'
        exact Or.inr ⟨b, lo b, hb, h2.1, Or.inr ⟨h2.2, rfl⟩, h'⟩
      · rw [if_neg h2] at h'
        refine Or.inl (Nat.le_antisymm (gD_mono1 k r) ?_)
        rw [h']
        exact gD_le k r
/-- how many of the first n -/
def cnt (p : Nat → Bool) : Nat → Nat
  | 0 => 0
  | n + 1 => cnt p n + (if p n = true then 1 else 0)
theorem cnt_le {p : Nat → Bool} : ∀ n, cnt p n ≤ n
  | 0 => Nat.le_refl _
  | n + 1 => by
    have := cnt_le (p := p) n
    rw [cnt]
    split <;> omega
theorem cnt_sub {p q : Nat → Bool} (h : ∀ r, p r = true → q r = true) : ∀ n, cnt p n ≤ cnt q n
  | 0 => Nat.le_refl _
  | n + 1 => by
    have := cnt_sub h n
    rw [cnt, cnt]
    by_cases h1 : p n = true
    · rw [if_pos h1, if_pos (h n h1)]
      omega
    · rw [if_neg h1]
      omega
theorem cnt_lt {p q : Nat → Bool} (h : ∀ r, p r = true → q r = true) {x : Nat} (h1 : ¬ p x = true) (h2 : q x = true) : ∀ {n : Nat}, x < n → cnt p n < cnt q n
  | n + 1, hx => by
    rw [cnt, cnt]
    rcases Nat.lt_or_ge x n with h3 | h3
    · have := cnt_lt h h1 h2 h3
      by_cases h4 : p n = true
      · rw [if_pos h4, if_pos (h n h4)]
        omega
      · rw [if_neg h4]
        omega
    · rw [show x = n by omega] at h1 h2
      have := cnt_sub h n
      rw [if_neg h1, if_pos h2]
      omega
theorem cnt_all {p : Nat → Bool} : ∀ {n : Nat}, cnt p n = n → ∀ r, r < n → p r = true
  | n + 1, h, r, hr => by
    rw [cnt] at h
    have h1 := cnt_le (p := p) n
    by_cases h2 : p n = true
    · rw [if_pos h2] at h
      rcases Nat.lt_or_ge r n with h3 | h3
      · exact cnt_all (by omega) r h3
      · rw [show r = n by omega]; exact h2
    · rw [if_neg h2] at h
      omega
theorem seq_min (f : Nat → Nat) : ∃ K, ∀ m, f K ≤ f m := by
  have key : ∀ v K, f K ≤ v → ∃ K, ∀ m, f K ≤ f m := by
    intro v
    induction v with
    | zero =>
      intro K h
      exact ⟨K, fun m => by omega⟩
    | succ v ih =>
      intro K h
      by_cases hc : ∃ m, f m ≤ v
      · obtain ⟨m, hm⟩ := hc
        exact ih m hm
      · refine ⟨K, fun m => ?_⟩
        have : ¬ f m ≤ v := fun z => hc ⟨m, z⟩
        omega
  exact key (f 0) 0 (Nat.le_refl _)
theorem gD_stop (n : Nat) : ∃ K, ∀ m, K ≤ m → ∀ r, r < n → gD N e lo hi c t m r = gD N e lo hi c t K r := by
  induction n with
  | zero => exact ⟨0, fun m _ r hr => absurd hr (Nat.not_lt_zero r)⟩
  | succ n ih =>
    obtain ⟨K1, h1⟩ := ih
    obtain ⟨K2, h2⟩ := seq_min (fun k => gD N e lo hi c t k n)
    refine ⟨max K1 K2, fun m hm r hr => ?_⟩
    have a1 : K1 ≤ m := by omega
    have a2 : K2 ≤ m := by omega
    rcases Nat.lt_or_ge r n with h3 | h3
    · rw [h1 m a1 r h3, h1 (max K1 K2) (Nat.le_max_left _ _) r h3]
    · rw [show r = n by omega]
      exact Nat.le_antisymm (gD_mono hm n) (Nat.le_trans (gD_mono (Nat.le_max_right K1 K2) n) (h2 m))
/-- nine rounds are enough -/
theorem gD_nine (ok : gOK N e lo hi c) (ht : t < 10) : ∀ m, 9 ≤ m → ∀ r, r < 10 → gD N e lo hi c t m r = gD N e lo hi c t 9 r := by
  obtain ⟨K, hK⟩ := gD_stop (N := N) (e := e) (lo := lo) (hi := hi) (c := c) (t := t) 10
  have least : ∀ k r, r < 10 → gD N e lo hi c t K r ≤ gD N e lo hi c t k r := by
    intro k r hr
    rcases Nat.le_total K k with h | h
    · rw [hK k h r hr]; exact Nat.le_refl _
    · exact gD_mono h r
  have from' : ∀ r, r < 10 → r ≠ t → gD N e lo hi c t K r < gINF → ∃ b r', b < N ∧ e b = true ∧ ((lo b = r ∧ hi b = r') ∨ (hi b = r ∧ lo b = r')) ∧ gD N e lo hi c t K r = gD N e lo hi c t K r' + c b := by
    intro r hr hrt hlt
    have key : ∀ k, gD N e lo hi c t k r = gD N e lo hi c t K r → ∃ b r', b < N ∧ e b = true ∧ ((lo b = r ∧ hi b = r') ∨ (hi b = r ∧ lo b = r')) ∧ gD N e lo hi c t K r = gD N e lo hi c t K r' + c b := by
      intro k
      induction k with
      | zero =>
        intro h
        have h0 : gD N e lo hi c t 0 r = gINF := if_neg hrt
        omega
      | succ k ih =>
        intro h
        rcases gD_from (N := N) (e := e) (lo := lo) (hi := hi) (c := c) (t := t) k r with h1 | ⟨b, r', hb, he, hbr, h1⟩
        · exact ih (by omega)
        · refine ⟨b, r', hb, he, hbr, ?_⟩
          have ho := ok b hb he
          have hr' : r' < 10 := by rcases hbr with ⟨-, rfl⟩ | ⟨-, rfl⟩ <;> omega
          have h2 := least k r' hr'
          have h3 : gD N e lo hi c t (K + 1) r ≤ gD N e lo hi c t K r' + c b := by
            rcases hbr with ⟨rfl, rfl⟩ | ⟨rfl, rfl⟩
            · exact gD_rlo ok K hb he
            · exact gD_rhi ok K hb he
          rw [hK (K + 1) (by omega) r hr] at h3
          omega
    exact key K rfl
  have step : ∀ k, k ≤ 9 → k + 1 ≤ cnt (fun r => decide (gD N e lo hi c t k r = gD N e lo hi c t K r)) 10 := by
    intro k
    induction k with
    | zero =>
      intro _
      refine Nat.lt_of_le_of_lt (Nat.zero_le (cnt (fun _ => false) 10)) (cnt_lt (x := t) (fun _ h => absurd h (by decide)) (by decide) ?_ ht)
      rw [decide_eq_true_eq, gD_t, gD_t]
    | succ k ih =>
      intro hk
      have ih := ih (by omega)
      by_cases hall : ∀ r, r < 10 → gD N e lo hi c t k r = gD N e lo hi c t K r
      · have h10 : cnt (fun r => decide (gD N e lo hi c t (k + 1) r = gD N e lo hi c t K r)) 10 = 10 := by
          have : ∀ n, n ≤ 10 → cnt (fun r => decide (gD N e lo hi c t (k + 1) r = gD N e lo hi c t K r)) n = n := by
            intro n
            induction n with
            | zero => intro _; rfl
            | succ n ihn =>
              intro hn
              have a1 := gD_mono1 (N := N) (e := e) (lo := lo) (hi := hi) (c := c) (t := t) k n
              have a2 := least (k + 1) n (by omega)
              have a3 := hall n (by omega)
              rw [cnt, ihn (by omega), if_pos (decide_eq_true (by omega))]
          exact this 10 (Nat.le_refl _)
        omega
      · have hex : ∃ r, r < 10 ∧ ¬ gD N e lo hi c t k r = gD N e lo hi c t K r := by
          refine Classical.byContradiction fun hn => hall fun r hr => ?_
          exact Classical.byContradiction fun h => hn ⟨r, hr, h⟩
        -- the unsettled one that is nearest
        have hmin : ∃ r, (r < 10 ∧ ¬ gD N e lo hi c t k r = gD N e lo hi c t K r) ∧ ∀ r', (r' < 10 ∧ ¬ gD N e lo hi c t k r' = gD N e lo hi c t K r') → gD N e lo hi c t K r ≤ gD N e lo hi c t K r' := by
          have key : ∀ v r, (r < 10 ∧ ¬ gD N e lo hi c t k r = gD N e lo hi c t K r) → gD N e lo hi c t K r ≤ v → ∃ r, (r < 10 ∧ ¬ gD N e lo hi c t k r = gD N e lo hi c t K r) ∧ ∀ r', (r' < 10 ∧ ¬ gD N e lo hi c t k r' = gD N e lo hi c t K r') → gD N e lo hi c t K r ≤ gD N e lo hi c t K r' := by
            intro v
            induction v with
            | zero => intro r h1 h2; exact ⟨r, h1, fun r' _ => by omega⟩
            | succ v ihv =>
              intro r h1 h2
              by_cases hc : ∃ r', (r' < 10 ∧ ¬ gD N e lo hi c t k r' = gD N e lo hi c t K r') ∧ gD N e lo hi c t K r' ≤ v
              · obtain ⟨r', a, b⟩ := hc
                exact ihv r' a b
              · refine ⟨r, h1, fun r' h' => ?_⟩
                have : ¬ gD N e lo hi c t K r' ≤ v := fun z => hc ⟨r', h', z⟩
                omega
          obtain ⟨r, h1, h2⟩ := hex
          exact key _ r ⟨h1, h2⟩ (Nat.le_refl _)
        obtain ⟨r, ⟨hr, hne⟩, hm⟩ := hmin
        have hle := gD_le (N := N) (e := e) (lo := lo) (hi := hi) (c := c) (t := t) k r
        have hl := least k r hr
        have hrt : r ≠ t := by
          rintro rfl
          rw [gD_t, gD_t] at hne
          exact hne rfl
        obtain ⟨b, r', hb, he, hbr, h1⟩ := from' r hr hrt (by omega)
        have ho := ok b hb he
        have hr' : r' < 10 := by rcases hbr with ⟨-, rfl⟩ | ⟨-, rfl⟩ <;> omega
        have hset : gD N e lo hi c t k r' = gD N e lo hi c t K r' := by
          refine Classical.byContradiction fun h => ?_
          have := hm r' ⟨hr', h⟩
          omega
        have h3 : gD N e lo hi c t (k + 1) r ≤ gD N e lo hi c t k r' + c b := by
          rcases hbr with ⟨rfl, rfl⟩ | ⟨rfl, rfl⟩
          · exact gD_rlo ok k hb he
          · exact gD_rhi ok k hb he
        have h4 := least (k + 1) r hr
        have hs : cnt (fun r => decide (gD N e lo hi c t k r = gD N e lo hi c t K r)) 10 < cnt (fun r => decide (gD N e lo hi c t (k + 1) r = gD N e lo hi c t K r)) 10 := by
          -- only below ten does it matter: both counts look below ten alone
          have hq : ∀ n, n ≤ 10 → cnt (fun r => decide (gD N e lo hi c t k r = gD N e lo hi c t K r)) n = cnt (fun r => decide (r < 10 ∧ gD N e lo hi c t k r = gD N e lo hi c t K r)) n ∧ cnt (fun r => decide (gD N e lo hi c t (k + 1) r = gD N e lo hi c t K r)) n = cnt (fun r => decide (r < 10 ∧ gD N e lo hi c t (k + 1) r = gD N e lo hi c t K r)) n := by
            intro n
            induction n with
            | zero => intro _; exact ⟨rfl, rfl⟩
            | succ n ihn =>
              intro hn
              obtain ⟨q1, q2⟩ := ihn (by omega)
              have hn10 : n < 10 := by omega
              simp only [cnt, q1, q2, hn10, true_and, and_self]
          rw [(hq 10 (Nat.le_refl _)).1, (hq 10 (Nat.le_refl _)).2]
          refine cnt_lt (x := r) (fun x hx => ?_) ?_ ?_ hr
          · simp only [decide_eq_true_eq] at hx ⊢
            have a1 := gD_mono1 (N := N) (e := e) (lo := lo) (hi := hi) (c := c) (t := t) k x
            have a2 := least (k + 1) x hx.1
            exact ⟨hx.1, by omega⟩
          · simp only [decide_eq_true_eq]
            exact fun h => hne h.2
          · simp only [decide_eq_true_eq]
            exact ⟨hr, by omega⟩
        omega
  have h9 := step 9 (Nat.le_refl _)
  have hle := cnt_le (p := fun r => decide (gD N e lo hi c t 9 r = gD N e lo hi c t K r)) 10
  have hall := cnt_all (p := fun r => decide (gD N e lo hi c t 9 r = gD N e lo hi c t K r)) (n := 10) (by omega)
  intro m hm r hr
  have h1 : gD N e lo hi c t 9 r = gD N e lo hi c t K r := of_decide_eq_true (hall r hr)
  exact Nat.le_antisymm (gD_mono hm r) (by rw [h1]; exact least m r hr)
theorem gD_fix_lo (ok : gOK N e lo hi c) (ht : t < 10) {b : Nat} (hb : b < N) (he : e b = true) : gD N e lo hi c t 9 (lo b) ≤ gD N e lo hi c t 9 (hi b) + c b := by
  have h := gD_rlo (t := t) ok 9 hb he
  rwa [gD_nine ok ht 10 (by decide) _ (ok b hb he).1] at h
theorem gD_fix_hi (ok : gOK N e lo hi c) (ht : t < 10) {b : Nat} (hb : b < N) (he : e b = true) : gD N e lo hi c t 9 (hi b) ≤ gD N e lo hi c t 9 (lo b) + c b := by
  have h := gD_rhi (t := t) ok 9 hb he
  rwa [gD_nine ok ht 10 (by decide) _ (ok b hb he).2.1] at h
end GB2
