def upN (F : Nat → Nat) (k v : Nat) : Nat → Nat := fun r => if r = k then v else F r
theorem upN_eq {F : Nat → Nat} {k v : Nat} : upN F k v k = v := if_pos rfl
theorem upN_ne {F : Nat → Nat} {k v r : Nat} (h : r ≠ k) : upN F k v r = F r := if_neg h
section GRX
variable (e : Nat → Bool) (lo hi c : Nat → Nat)
def rlx1 (F : Nat → Nat) (b : Nat) : Nat → Nat := upN F (lo b) (if F (lo b) ≤ F (hi b) + c b then F (lo b) else F (hi b) + c b)
def rlx2 (F : Nat → Nat) (b : Nat) : Nat → Nat := upN F (hi b) (if F (hi b) ≤ F (lo b) + c b then F (hi b) else F (lo b) + c b)
def rlx (F : Nat → Nat) (b : Nat) : Nat → Nat := rlx2 lo hi c (rlx1 lo hi c F b) b
def rnd (F : Nat → Nat) : Nat → Nat → Nat
  | 0 => F
  | n + 1 => if e n = true then rlx lo hi c (rnd F n) n else rnd F n
end GRX
section GRX2
variable {N : Nat} {e : Nat → Bool} {lo hi c : Nat → Nat} {t : Nat}
theorem rlx_le (F : Nat → Nat) (b r : Nat) : rlx lo hi c F b r ≤ F r := by
  have h1 : ∀ (F : Nat → Nat) r, rlx1 lo hi c F b r ≤ F r := by
    intro F r
    unfold rlx1
    by_cases h : r = lo b
    · rw [h, upN_eq]; split <;> omega
    · rw [upN_ne h]; exact Nat.le_refl _
  have h2 : ∀ (F : Nat → Nat) r, rlx2 lo hi c F b r ≤ F r := by
    intro F r
    unfold rlx2
    by_cases h : r = hi b
    · rw [h, upN_eq]; split <;> omega
    · rw [upN_ne h]; exact Nat.le_refl _
  exact Nat.le_trans (h2 _ r) (h1 F r)
theorem rlx_lo (F : Nat → Nat) {b : Nat} (hne : lo b ≠ hi b) : rlx lo hi c F b (lo b) ≤ F (hi b) + c b := by
  unfold rlx rlx2
  rw [upN_ne hne]
  unfold rlx1
  rw [upN_eq]
  split <;> omega
theorem rlx_hi (F : Nat → Nat) {b : Nat} (hne : lo b ≠ hi b) : rlx lo hi c F b (hi b) ≤ F (lo b) + c b := by
  unfold rlx rlx2
  rw [upN_eq]
  have : rlx1 lo hi c F b (lo b) ≤ F (lo b) := by
    unfold rlx1
    rw [upN_eq]
    split <;> omega
  split <;> omega
theorem rlx_low (F : Nat → Nat) {b : Nat} (hne : lo b ≠ hi b) {L : Nat → Nat} (hL : ∀ r, r < 10 → L r ≤ F r) (h1 : lo b < 10) (h2 : hi b < 10) (f1 : L (lo b) ≤ L (hi b) + c b) (f2 : L (hi b) ≤ L (lo b) + c b) : ∀ r, r < 10 → L r ≤ rlx lo hi c F b r := by
  have a1 := hL _ h1
  have a2 := hL _ h2
  have k1 : ∀ r, r < 10 → L r ≤ rlx1 lo hi c F b r := by
    intro r hr
    unfold rlx1
    by_cases h : r = lo b
    · rw [h, upN_eq]; split <;> omega
    · rw [upN_ne h]; exact hL r hr
  intro r hr
  have b1 := k1 _ h1
  have b2 := k1 _ h2
  unfold rlx rlx2
  by_cases h : r = hi b
  · rw [h, upN_eq]; split <;> omega
  · rw [upN_ne h]; exact k1 r hr
theorem rnd_le (F : Nat → Nat) (r : Nat) : ∀ n, rnd e lo hi c F n r ≤ F r
  | 0 => Nat.le_refl _
  | n + 1 => by
    have := rnd_le F r n
    rw [rnd]
    split
    · exact Nat.le_trans (rlx_le _ n r) this
    · exact this
theorem rnd_low (ok : gOK N e lo hi c) (ht : t < 10) {F : Nat → Nat} (hF : ∀ r, r < 10 → gD N e lo hi c t 9 r ≤ F r) : ∀ n, n ≤ N → ∀ r, r < 10 → gD N e lo hi c t 9 r ≤ rnd e lo hi c F n r
  | 0, _ => hF
  | n + 1, hn => by
    have ih := rnd_low ok ht hF n (by omega)
    intro r hr
    rw [rnd]
    by_cases he : e n = true
    · rw [if_pos he]
      have ho := ok n (by omega) he
      exact rlx_low _ ho.2.2.1 ih ho.1 ho.2.1 (gD_fix_lo ok ht (by omega) he) (gD_fix_hi ok ht (by omega) he) r hr
    · rw [if_neg he]
      exact ih r hr
theorem rnd_edge (ok : gOK N e lo hi c) {F G : Nat → Nat} (hF : ∀ r, r < 10 → F r ≤ G r) : ∀ n, n ≤ N → ∀ b, b < n → e b = true → rnd e lo hi c F n (lo b) ≤ G (hi b) + c b ∧ rnd e lo hi c F n (hi b) ≤ G (lo b) + c b
  | 0, _ => fun b hb _ => absurd hb (Nat.not_lt_zero b)
  | n + 1, hn => by
    intro b hb he
    have ho := ok b (by omega) he
    rw [rnd]
    rcases Nat.lt_or_ge b n with h | h
    · have ih := rnd_edge ok hF n (by omega) b h he
      split
      · exact ⟨Nat.le_trans (rlx_le _ n _) ih.1, Nat.le_trans (rlx_le _ n _) ih.2⟩
      · exact ih
    · have hbn : b = n := by omega
      subst hbn
      rw [if_pos he]
      have a1 := rlx_lo (c := c) (rnd e lo hi c F b) ho.2.2.1
      have a2 := rlx_hi (c := c) (rnd e lo hi c F b) ho.2.2.1
      have b1 := rnd_le (e := e) (lo := lo) (hi := hi) (c := c) F (hi b) b
      have b2 := rnd_le (e := e) (lo := lo) (hi := hi) (c := c) F (lo b) b
      have c1 := hF _ ho.1
      have c2 := hF _ ho.2.1
      exact ⟨by omega, by omega⟩
theorem rnd_step (ok : gOK N e lo hi c) {F : Nat → Nat} {j : Nat} (hF : ∀ r, r < 10 → F r ≤ gD N e lo hi c t j r) : ∀ r, r < 10 → rnd e lo hi c F N r ≤ gD N e lo hi c t (j + 1) r := by
  intro r hr
  rcases gD_from (N := N) (e := e) (lo := lo) (hi := hi) (c := c) (t := t) j r with h | ⟨b, r', hb, he, hbr, h⟩
  · rw [h]
    exact Nat.le_trans (rnd_le F r N) (hF r hr)
  · have := rnd_edge ok hF N (Nat.le_refl _) b hb he
    rw [h]
    rcases hbr with ⟨rfl, rfl⟩ | ⟨rfl, rfl⟩
    · exact this.1
    · exact this.2
/-- a round that changes nothing: everything is as near as it gets -/
theorem rnd_still (ok : gOK N e lo hi c) {F : Nat → Nat} (h0 : F t = 0) (hI : ∀ r, r < 10 → F r ≤ gINF) (hs : ∀ b, b < N → e b = true → F (lo b) ≤ F (hi b) + c b ∧ F (hi b) ≤ F (lo b) + c b) : ∀ k r, r < 10 → F r ≤ gD N e lo hi c t k r := by
  intro k
  induction k with
  | zero =>
    intro r hr
    show F r ≤ if r = t then 0 else gINF
    split
    · subst_vars; omega
    · exact hI r hr
  | succ k ih =>
    intro r hr
    rcases gD_from (N := N) (e := e) (lo := lo) (hi := hi) (c := c) (t := t) k r with h | ⟨b, r', hb, he, hbr, h⟩
    · rw [h]; exact ih r hr
    · have ho := ok b hb he
      have hq := hs b hb he
      rw [h]
      rcases hbr with ⟨rfl, rfl⟩ | ⟨rfl, rfl⟩
      · have := ih (hi b) ho.2.1
        omega
      · have := ih (lo b) ho.1
        omega
def rds (N : Nat) (e : Nat → Bool) (lo hi c : Nat → Nat) (t : Nat) : Nat → Nat → Nat
  | 0 => fun r => if r = t then 0 else gINF
  | k + 1 => rnd e lo hi c (rds N e lo hi c t k) N
theorem rds_up (ok : gOK N e lo hi c) : ∀ k r, r < 10 → rds N e lo hi c t k r ≤ gD N e lo hi c t k r
  | 0 => fun _ _ => Nat.le_refl _
  | k + 1 => rnd_step ok (rds_up ok k)
theorem rds_low (ok : gOK N e lo hi c) (ht : t < 10) : ∀ k r, r < 10 → gD N e lo hi c t 9 r ≤ rds N e lo hi c t k r
  | 0 => fun r _ => gD_mono (Nat.zero_le 9) r
  | k + 1 => rnd_low ok ht (rds_low ok ht k) N (Nat.le_refl _)
theorem rds_nine (ok : gOK N e lo hi c) (ht : t < 10) {r : Nat} (hr : r < 10) : rds N e lo hi c t 9 r = gD N e lo hi c t 9 r := Nat.le_antisymm (rds_up ok 9 r hr) (rds_low ok ht 9 r hr)
theorem rds_INF : ∀ k r, rds N e lo hi c t k r ≤ gINF
  | 0, r => by
    show (if r = t then 0 else gINF) ≤ gINF
    split
    · exact Nat.zero_le _
    · exact Nat.le_refl _
  | k + 1, r => Nat.le_trans (rnd_le _ r N) (rds_INF k r)
end GRX2
/-! the check's measure -/
section MS
variable {ζ : Nat → Nat} {σ : gS}
def enc (σ : gS) (F : Nat → Nat) : gS := gU σ 6 (fun r => if r < 10 then nI (F r) else σ 6 r)
theorem enc_at {F : Nat → Nat} {r : Nat} (hr : r < 10) : enc σ F 6 r = nI (F r) := by simp [enc, gU, hr]
theorem enc_row {F : Nat → Nat} {j : Nat} (h : j ≠ 6) : enc σ F j = σ j := by simp [enc, gU, h]
theorem enc_up {F : Nat → Nat} {r v : Nat} (hr : r < 10) : up2 (enc σ F) 6 r (nI v) = enc σ (upN F r v) := by
  funext j k
  by_cases hj : j = 6
  · subst hj
    by_cases hk : k = r
    · subst hk
      rw [up2_eq, enc_at hr, upN_eq]
    · rw [up2_k hk]
      by_cases h10 : k < 10
      · rw [enc_at h10, enc_at h10, upN_ne hk]
      · simp [enc, gU, h10]
  · rw [up2_row hj, enc_row hj, enc_row hj]
theorem enc_enc {F G : Nat → Nat} : enc (enc σ F) G = enc σ G := by
  funext j k
  by_cases hj : j = 6
  · subst hj
    by_cases h10 : k < 10
    · rw [enc_at h10, enc_at h10]
    · simp [enc, gU, h10]
  · rw [enc_row hj, enc_row hj, enc_row hj]
theorem enc_cong {F G : Nat → Nat} (h : ∀ r, r < 10 → F r = G r) : enc σ F = enc σ G := by
  funext j k
  by_cases hj : j = 6
  · subst hj
    by_cases h10 : k < 10
    · rw [enc_at h10, enc_at h10, h k h10]
    · simp [enc, gU, h10]
  · rw [enc_row hj, enc_row hj]
/-- a board's cost: one, or by its minutes -/
def cst (ζ : Nat → Nat) (w b : Nat) : Nat := if w = 0 then 1 else 100 * bd ζ b 3 + 1
abbrev zlo (ζ : Nat → Nat) (b : Nat) : Nat := bd ζ b 0
abbrev zhi (ζ : Nat → Nat) (b : Nat) : Nat := bd ζ b 1
theorem ok_z (hI : zI ζ) (E w : Nat) : gOK (ζ 4) (fun b => E.testBit b) (zlo ζ) (zhi ζ) (cst ζ w) := by
  intro b hb _
  have := hI.b hb
  refine ⟨show bd ζ b 0 < 10 by omega, this.2.1, show bd ζ b 0 ≠ bd ζ b 1 by omega, ?_⟩
  unfold cst
  split <;> omega
theorem cst_le (hI : zI ζ) {w b : Nat} (hb : b < ζ 4) : cst ζ w b ≤ 1000 := by
  have := hI.b hb
  unfold cst
  split <;> omega
end MS
