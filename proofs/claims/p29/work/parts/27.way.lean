section GW
variable {N : Nat} {e : Nat → Bool} {lo hi c : Nat → Nat} {t : Nat}
/-- the last board of a nearest way -/
theorem gD_last (ok : gOK N e lo hi c) (ht : t < 10) {r : Nat} (hr : r < 10) (hrt : r ≠ t) (hlt : gD N e lo hi c t 9 r < gINF) : ∃ b r', b < N ∧ e b = true ∧ ((lo b = r ∧ hi b = r') ∨ (hi b = r ∧ lo b = r')) ∧ gD N e lo hi c t 9 r = gD N e lo hi c t 9 r' + c b := by
  have key : ∀ k, k ≤ 9 → gD N e lo hi c t k r = gD N e lo hi c t 9 r → ∃ b r', b < N ∧ e b = true ∧ ((lo b = r ∧ hi b = r') ∨ (hi b = r ∧ lo b = r')) ∧ gD N e lo hi c t 9 r = gD N e lo hi c t 9 r' + c b := by
    intro k
    induction k with
    | zero =>
      intro _ h
      have h0 : gD N e lo hi c t 0 r = gINF := if_neg hrt
      omega
    | succ k ih =>
      intro hk h
      rcases gD_from (N := N) (e := e) (lo := lo) (hi := hi) (c := c) (t := t) k r with h1 | ⟨b, r', hb, he, hbr, h1⟩
      · exact ih (by omega) (by omega)
      · refine ⟨b, r', hb, he, hbr, ?_⟩
        have ho := ok b hb he
        have h2 := gD_mono (N := N) (e := e) (lo := lo) (hi := hi) (c := c) (t := t) (show k ≤ 9 by omega) r'
        have h3 : gD N e lo hi c t 9 r ≤ gD N e lo hi c t 9 r' + c b := by
          rcases hbr with ⟨rfl, rfl⟩ | ⟨rfl, rfl⟩
          · exact gD_fix_lo ok ht hb he
          · exact gD_fix_hi ok ht hb he
        omega
  exact key 9 (Nat.le_refl _) rfl
end GW
section WY
variable {ζ : Nat → Nat}
/-- costs of the class's own kind: ten a minute -/
def c10 (ζ : Nat → Nat) (b : Nat) : Nat := bd ζ b 3 * 10 + 1
theorem ok10 (hI : zI ζ) (E : Nat) : gOK (ζ 4) (fun b => E.testBit b) (zlo ζ) (zhi ζ) (c10 ζ) := by
  intro b hb _
  have := hI.b hb
  exact ⟨show bd ζ b 0 < 10 by omega, this.2.1, show bd ζ b 0 ≠ bd ζ b 1 by omega, Nat.le_add_left _ _⟩
def dx (ζ : Nat → Nat) (E t k r : Nat) : Nat := gD (ζ 4) (fun b => E.testBit b) (zlo ζ) (zhi ζ) (c10 ζ) t k r
def dm (ζ : Nat → Nat) (E t k r : Nat) : Nat := gD (ζ 4) (fun b => E.testBit b) (zlo ζ) (zhi ζ) (cst ζ 1) t k r
theorem dm_dst {E t r : Nat} : dst ζ E 1 t r = dm ζ E t 9 r := rfl
/-- an end of a board, and the other one -/
def edg (ζ : Nat → Nat) (E b r r' : Nat) : Prop := b < ζ 4 ∧ E.testBit b = true ∧ ((bd ζ b 0 = r ∧ bd ζ b 1 = r') ∨ (bd ζ b 1 = r ∧ bd ζ b 0 = r'))
theorem dx_from {E t : Nat} (k r : Nat) : dx ζ E t (k + 1) r = dx ζ E t k r ∨ ∃ b r', edg ζ E b r r' ∧ dx ζ E t (k + 1) r = dx ζ E t k r' + (10 * bd ζ b 3 + 1) := by
  rcases gD_from (N := ζ 4) (e := fun b => E.testBit b) (lo := zlo ζ) (hi := zhi ζ) (c := c10 ζ) (t := t) k r with h | ⟨b, r', h1, h2, h3, h4⟩
  · exact Or.inl h
  · refine Or.inr ⟨b, r', ⟨h1, h2, h3⟩, ?_⟩
    have : dx ζ E t (k + 1) r = dx ζ E t k r' + (bd ζ b 3 * 10 + 1) := h4
    omega
theorem dm_from {E t : Nat} (k r : Nat) : dm ζ E t (k + 1) r = dm ζ E t k r ∨ ∃ b r', edg ζ E b r r' ∧ dm ζ E t (k + 1) r = dm ζ E t k r' + (100 * bd ζ b 3 + 1) := by
  rcases gD_from (N := ζ 4) (e := fun b => E.testBit b) (lo := zlo ζ) (hi := zhi ζ) (c := cst ζ 1) (t := t) k r with h | ⟨b, r', h1, h2, h3, h4⟩
  · exact Or.inl h
  · exact Or.inr ⟨b, r', ⟨h1, h2, h3⟩, h4⟩
theorem dx_edge (hI : zI ζ) {E t k b r r' : Nat} (h : edg ζ E b r r') : dx ζ E t (k + 1) r ≤ dx ζ E t k r' + (10 * bd ζ b 3 + 1) := by
  obtain ⟨h1, h2, h3⟩ := h
  have : dx ζ E t (k + 1) r ≤ dx ζ E t k r' + (bd ζ b 3 * 10 + 1) := by
    rcases h3 with ⟨rfl, rfl⟩ | ⟨rfl, rfl⟩
    · exact gD_rlo (t := t) (ok10 hI E) k h1 h2
    · exact gD_rhi (t := t) (ok10 hI E) k h1 h2
  omega
theorem dm_edge (hI : zI ζ) {E t k b r r' : Nat} (h : edg ζ E b r r') : dm ζ E t (k + 1) r ≤ dm ζ E t k r' + (100 * bd ζ b 3 + 1) := by
  obtain ⟨h1, h2, h3⟩ := h
  rcases h3 with ⟨rfl, rfl⟩ | ⟨rfl, rfl⟩
  · exact gD_rlo (t := t) (ok_z hI E 1) k h1 h2
  · exact gD_rhi (t := t) (ok_z hI E 1) k h1 h2
theorem dx_mono1 {E t : Nat} (k r : Nat) : dx ζ E t (k + 1) r ≤ dx ζ E t k r := gD_mono1 k r
theorem dm_mono1 {E t : Nat} (k r : Nat) : dm ζ E t (k + 1) r ≤ dm ζ E t k r := gD_mono1 k r
theorem dx_INF {E t : Nat} (k r : Nat) : dx ζ E t k r ≤ 1000000 := gD_le k r
theorem dm_INF {E t : Nat} (k r : Nat) : dm ζ E t k r ≤ 1000000 := gD_le k r
/-- both costs tell minutes and boards -/
def twoD (ζ : Nat → Nat) (E t k r : Nat) : Prop := (dx ζ E t k r = 1000000 ∧ dm ζ E t k r = 1000000) ∨ ∃ M B, B ≤ k ∧ M ≤ 9 * k ∧ (B = 0 → r = t ∧ M = 0) ∧ dx ζ E t k r = 10 * M + B ∧ dm ζ E t k r = 100 * M + B
theorem two_all (hI : zI ζ) {E t : Nat} : ∀ k, k ≤ 9 → ∀ r, twoD ζ E t k r
  | 0, _ => fun r => by
    by_cases h : r = t
    · exact Or.inr ⟨0, 0, Nat.le_refl _, Nat.le_refl _, fun _ => ⟨h, rfl⟩, if_pos h, if_pos h⟩
    · exact Or.inl ⟨if_neg h, if_neg h⟩
  | k + 1, hk => fun r => by
    have ih := two_all hI (E := E) (t := t) k (by omega)
    have x1 := dx_mono1 (ζ := ζ) (E := E) (t := t) k r
    have m1 := dm_mono1 (ζ := ζ) (E := E) (t := t) k r
    have xI := dx_INF (ζ := ζ) (E := E) (t := t) (k + 1) r
    have mI := dm_INF (ζ := ζ) (E := E) (t := t) (k + 1) r
    -- a finite candidate gives both costs
    have candX : dx ζ E t (k + 1) r = 1000000 ∨ ∃ M B, B ≤ k + 1 ∧ M ≤ 9 * (k + 1) ∧ (B = 0 → r = t ∧ M = 0) ∧ dx ζ E t (k + 1) r = 10 * M + B ∧ dm ζ E t (k + 1) r ≤ 100 * M + B := by
      rcases dx_from (ζ := ζ) (E := E) (t := t) k r with h | ⟨b, r', he, h⟩
      · rcases ih r with ⟨h1, h2⟩ | ⟨M, B, h1, h2, h3, h4, h5⟩
        · exact Or.inl (by omega)
        · exact Or.inr ⟨M, B, by omega, by omega, h3, by omega, by omega⟩
      · have hm := hI.b he.1
        have hd := dm_edge hI (t := t) (k := k) he
        rcases ih r' with ⟨h1, h2⟩ | ⟨M, B, h1, h2, h3, h4, h5⟩
        · omega
        · exact Or.inr ⟨M + bd ζ b 3, B + 1, by omega, by omega, fun z => by omega, by omega, by omega⟩
    have candM : dm ζ E t (k + 1) r = 1000000 ∨ ∃ M B, B ≤ k + 1 ∧ M ≤ 9 * (k + 1) ∧ dm ζ E t (k + 1) r = 100 * M + B ∧ dx ζ E t (k + 1) r ≤ 10 * M + B := by
      rcases dm_from (ζ := ζ) (E := E) (t := t) k r with h | ⟨b, r', he, h⟩
      · rcases ih r with ⟨h1, h2⟩ | ⟨M, B, h1, h2, h3, h4, h5⟩
        · exact Or.inl (by omega)
        · exact Or.inr ⟨M, B, by omega, by omega, by omega, by omega⟩
      · have hm := hI.b he.1
        have hd := dx_edge hI (t := t) (k := k) he
        rcases ih r' with ⟨h1, h2⟩ | ⟨M, B, h1, h2, h3, h4, h5⟩
        · omega
        · exact Or.inr ⟨M + bd ζ b 3, B + 1, by omega, by omega, by omega, by omega⟩
    rcases candX with hx | ⟨M, B, h1, h2, h3, h4, h5⟩
    · rcases candM with hm | ⟨M', B', g1, g2, g4, g5⟩
      · exact Or.inl ⟨hx, hm⟩
      · omega
    · rcases candM with hm | ⟨M', B', g1, g2, g4, g5⟩
      · omega
      · have hMM : M = M' := by omega
        have hBB : B = B' := by omega
        subst hMM
        subst hBB
        exact Or.inr ⟨M, B, h1, h2, h3, h4, g4⟩
/-- a board with which a nearest way from r begins -/
def fit (ζ : Nat → Nat) (E t r b : Nat) : Bool := E.testBit b && (atB ζ b r && decide (dst ζ E 1 t (oth ζ b r) + (100 * bd ζ b 3 + 1) = dst ζ E 1 t r))
theorem fit_ten (hI : zI ζ) {E t r b : Nat} (hr : dst ζ E 1 t r < gINF) (hrt : r ≠ t) (hb : b < ζ 4) : (dx ζ E t 9 (oth ζ b r) + (10 * bd ζ b 3 + 1) = dx ζ E t 9 r) ↔ (dst ζ E 1 t (oth ζ b r) + (100 * bd ζ b 3 + 1) = dst ζ E 1 t r) := by
  have hm := hI.b hb
  rw [dm_dst] at hr ⊢
  rw [dm_dst]
  rcases two_all hI (E := E) (t := t) 9 (Nat.le_refl _) r with ⟨h1, h2⟩ | ⟨M, B, h1, h2, h3, h4, h5⟩
  · rw [h2] at hr; exact absurd hr (by decide)
  · have hB : B ≠ 0 := fun z => hrt (h3 z).1
    rcases two_all hI (E := E) (t := t) 9 (Nat.le_refl _) (oth ζ b r) with ⟨g1, g2⟩ | ⟨M', B', g1, g2, g3, g4, g5⟩
    · constructor <;> intro h <;> omega
    · constructor <;> intro h <;> omega
theorem oth_edg {E b r : Nat} (hb : b < ζ 4) (he : E.testBit b = true) (ha : atB ζ b r = true) : edg ζ E b r (oth ζ b r) := by
  unfold atB at ha
  rw [Bool.or_eq_true, decide_eq_true_eq, decide_eq_true_eq] at ha
  unfold oth
  by_cases h : bd ζ b 0 = r
  · rw [if_pos h]; exact ⟨hb, he, Or.inl ⟨h, rfl⟩⟩
  · rw [if_neg h]
    rcases ha with h1 | h1
    · exact absurd h1 h
    · exact ⟨hb, he, Or.inr ⟨h1, rfl⟩⟩
theorem fit_ex (hI : zI ζ) {E t r : Nat} (ht : t < 10) (hr10 : r < 10) (hr : dst ζ E 1 t r < gINF) (hrt : r ≠ t) : ∃ b, b < ζ 4 ∧ fit ζ E t r b = true := by
  obtain ⟨b, r', hb, he, hbr, h⟩ := gD_last (ok_z hI E 1) ht hr10 hrt hr
  have hbb := hI.b hb
  have ho : oth ζ b r = r' := by
    unfold oth
    rcases hbr with ⟨h1, h2⟩ | ⟨h1, h2⟩
    · rw [if_pos (show bd ζ b 0 = r from h1)]; exact h2
    · have h1' : bd ζ b 1 = r := h1
      rw [if_neg (by omega)]; exact h2
  refine ⟨b, hb, ?_⟩
  unfold fit atB
  rw [he, ho]
  have e1 : (decide (bd ζ b 0 = r) || decide (bd ζ b 1 = r)) = true := by
    rcases hbr with ⟨h1, -⟩ | ⟨h1, -⟩
    · rw [decide_eq_true (show bd ζ b 0 = r from h1)]; rfl
    · rw [decide_eq_true (show bd ζ b 1 = r from h1)]; simp
  rw [e1]
  have h' : dst ζ E 1 t r = dst ζ E 1 t r' + (100 * bd ζ b 3 + 1) := h
  simp [h']
/-- the least of the first n that p holds of, or n -/
def ls (p : Nat → Bool) : Nat → Nat
  | 0 => 0
  | n + 1 => if ls p n < n then ls p n else if p n = true then n else n + 1
theorem ls_le (p : Nat → Bool) : ∀ n, ls p n ≤ n
  | 0 => Nat.le_refl _
  | n + 1 => by
    have := ls_le p n
    rw [ls]
    split
    · omega
    · split <;> omega
theorem ls_no (p : Nat → Bool) : ∀ n k, k < ls p n → ¬ p k = true
  | 0, k, h => absurd h (Nat.not_lt_zero k)
  | n + 1, k, h => by
    rw [ls] at h
    have hl := ls_le p n
    by_cases h1 : ls p n < n
    · rw [if_pos h1] at h
      exact ls_no p n k h
    · rw [if_neg h1] at h
      by_cases h2 : p n = true
      · rw [if_pos h2] at h
        exact ls_no p n k (by omega)
      · rw [if_neg h2] at h
        rcases Nat.lt_or_ge k n with h3 | h3
        · exact ls_no p n k (by omega)
        · rw [show k = n by omega]; exact h2
theorem ls_yes (p : Nat → Bool) : ∀ n, ls p n < n → p (ls p n) = true
  | 0, h => absurd h (Nat.not_lt_zero _)
  | n + 1, h => by
    rw [ls] at h ⊢
    by_cases h1 : ls p n < n
    · rw [if_pos h1]
      exact ls_yes p n h1
    · rw [if_neg h1] at h ⊢
      by_cases h2 : p n = true
      · rw [if_pos h2]; exact h2
      · rw [if_neg h2] at h
        omega
theorem ls_lt {p : Nat → Bool} {n k : Nat} (hk : k < n) (hp : p k = true) : ls p n < n := by
  refine Nat.lt_of_not_le fun h => ?_
  exact ls_no p n k (by omega) hp
/-- the boards and rooms of the soonest way -/
def nx (ζ : Nat → Nat) (E t r : Nat) : Nat := ls (fit ζ E t r) (ζ 4)
def pr (ζ : Nat → Nat) (E t r : Nat) : Nat → Nat
  | 0 => r
  | i + 1 => oth ζ (nx ζ E t (pr ζ E t r i)) (pr ζ E t r i)
def pb (ζ : Nat → Nat) (E t r i : Nat) : Nat := nx ζ E t (pr ζ E t r i)
def psm (ζ : Nat → Nat) (E t r : Nat) : Nat → Nat
  | 0 => 0
  | i + 1 => psm ζ E t r i + bd ζ (pb ζ E t r i) 3
def pl (ζ : Nat → Nat) (E t r : Nat) : Nat := dst ζ E 1 t r % 100
theorem nx_ok (hI : zI ζ) {E t r : Nat} (ht : t < 10) (hr10 : r < 10) (hr : dst ζ E 1 t r < gINF) (hrt : r ≠ t) : nx ζ E t r < ζ 4 ∧ fit ζ E t r (nx ζ E t r) = true ∧ ∀ b, b < nx ζ E t r → ¬ fit ζ E t r b = true := by
  obtain ⟨b, hb, hf⟩ := fit_ex hI ht hr10 hr hrt
  have h := ls_lt hb hf
  exact ⟨h, ls_yes _ _ h, ls_no _ _⟩
theorem fit_dst {E t r b : Nat} (h : fit ζ E t r b = true) : dst ζ E 1 t (oth ζ b r) + (100 * bd ζ b 3 + 1) = dst ζ E 1 t r := by
  unfold fit at h
  simp only [Bool.and_eq_true, decide_eq_true_eq] at h
  exact h.2.2
/-- along the way: what is left, where one is -/
theorem way_ok (hI : zI ζ) {E t r : Nat} (ht : t < 10) (hr10 : r < 10) (hr : dst ζ E 1 t r < gINF) : pl ζ E t r ≤ 9 ∧ (∀ i, i ≤ pl ζ E t r → pr ζ E t r i < 10 ∧ dst ζ E 1 t (pr ζ E t r i) < gINF ∧ dst ζ E 1 t (pr ζ E t r i) % 100 + i = pl ζ E t r ∧ psm ζ E t r i ≤ 9 * i) ∧ (∀ i, i < pl ζ E t r → pr ζ E t r i ≠ t) ∧ pr ζ E t r (pl ζ E t r) = t := by
  have two : ∀ r, dst ζ E 1 t r < gINF → ∃ M B, B ≤ 9 ∧ dst ζ E 1 t r = 100 * M + B ∧ (B = 0 → r = t) := by
    intro r hr
    rcases two_all hI (E := E) (t := t) 9 (Nat.le_refl _) r with ⟨h1, h2⟩ | ⟨M, B, h1, h2, h3, h4, h5⟩
    · rw [dm_dst, h2] at hr; exact absurd hr (by decide)
    · exact ⟨M, B, h1, h5, fun z => (h3 z).1⟩
  have h9 : pl ζ E t r ≤ 9 := by
    obtain ⟨M, B, h1, h2, -⟩ := two r hr
    unfold pl
    omega
  have hall : ∀ i, i ≤ pl ζ E t r → pr ζ E t r i < 10 ∧ dst ζ E 1 t (pr ζ E t r i) < gINF ∧ dst ζ E 1 t (pr ζ E t r i) % 100 + i = pl ζ E t r ∧ psm ζ E t r i ≤ 9 * i := by
    intro i
    induction i with
    | zero => intro _; exact ⟨hr10, hr, rfl, Nat.le_refl _⟩
    | succ i ih =>
      intro hi
      obtain ⟨a1, a2, a3, a4⟩ := ih (by omega)
      have hne : pr ζ E t r i ≠ t := by
        intro h
        have h0 : dst ζ E 1 t (pr ζ E t r i) = 0 := by rw [h]; exact gD_t 9
        rw [h0] at a3
        omega
      obtain ⟨b1, b2, -⟩ := nx_ok hI ht a1 a2 hne
      have b3 := fit_dst b2
      have b4 := oth_lt (r := pr ζ E t r i) hI b1
      have b5 := hI.b b1
      obtain ⟨M, B, c1, c2, -⟩ := two _ a2
      have hfin : dst ζ E 1 t (pr ζ E t r (i + 1)) < gINF := by
        show dst ζ E 1 t (oth ζ (nx ζ E t (pr ζ E t r i)) (pr ζ E t r i)) < gINF
        omega
      obtain ⟨M', B', d1, d2, -⟩ := two _ hfin
      have b3' : dst ζ E 1 t (pr ζ E t r (i + 1)) + (100 * bd ζ (nx ζ E t (pr ζ E t r i)) 3 + 1) = dst ζ E 1 t (pr ζ E t r i) := b3
      refine ⟨b4, hfin, by omega, ?_⟩
      show psm ζ E t r i + bd ζ (nx ζ E t (pr ζ E t r i)) 3 ≤ 9 * (i + 1)
      omega
  refine ⟨h9, hall, fun i hi h => ?_, ?_⟩
  · have h0 : dst ζ E 1 t (pr ζ E t r i) = 0 := by rw [h]; exact gD_t 9
    have := (hall i (by omega)).2.2.1
    rw [h0] at this
    omega
  · obtain ⟨a1, a2, a3, -⟩ := hall _ (Nat.le_refl _)
    obtain ⟨M, B, h1, h2, h3⟩ := two _ a2
    exact h3 (by omega)
end WY
