section TR
variable {ζ : Nat → Nat} {x m : gS}
/-- board v may go next -/
def gdB (ζ : Nat → Nat) (E a v : Nat) : Bool := E.testBit v && (atB ζ v a && (decide (dif E (2 ^ v) = 0) || decide (wn ζ (dif E (2 ^ v)) (oth ζ v a) = 0)))
theorem rm_lt {E e n : Nat} (h : E < 2 ^ n) : dif E (2 ^ e) < 2 ^ n := dif_le h
theorem n_rm {E v : Nat} (hv : v < 32) : nI E &&& (((1 : Int32) <<< (nI v &&& 31)) ^^^ (-1)) = nI (dif E (2 ^ v)) := by rw [shl1 v hv, n_dif]
theorem touch_one {E a v : Nat} (hv : v < ζ 4) : (E &&& touch ζ (2 ^ a)).testBit v = (E.testBit v && atB ζ v a) := by
  rw [Nat.testBit_and, touch_bit, decide_eq_true hv, Bool.true_and, Nat.testBit_two_pow, Nat.testBit_two_pow]
  unfold atB
  rw [show decide (a = bd ζ v 0) = decide (bd ζ v 0 = a) from decide_eq_decide.mpr eq_comm, show decide (a = bd ζ v 1) = decide (bd ζ v 1 = a) from decide_eq_decide.mpr eq_comm]
theorem gd_lt (hI : zI ζ) {E a : Nat} (ha : a < 10) (hE : E < 2 ^ ζ 4) (hw : wn ζ E a = 0) : ls (gdB ζ E a) (ζ 4) < ζ 4 := by
  obtain ⟨e, b, he, h⟩ := fleury hI ha hE hw
  have hat : atB ζ e a = true := by
    unfold atB
    rcases he.2.2 with ⟨h1, -⟩ | ⟨h1, -⟩
    · rw [decide_eq_true h1]; rfl
    · rw [decide_eq_true h1, Bool.or_true]
  have ho : oth ζ e a = b := by
    rcases edg_un (oth_edg he.1 he.2.1 hat) he with ⟨-, h2⟩ | ⟨h2, h3⟩
    · exact h2
    · exact h3.trans h2
  refine ls_lt he.1 ?_
  unfold gdB
  rw [he.2.1, hat, ho]
  rcases h with h | h
  · rw [decide_eq_true h]; rfl
  · rw [decide_eq_true h, Bool.or_true]; rfl
theorem x_first' (h : cX ζ x 1) (hI : zI ζ) {E a : Nat} (hE : E < 2 ^ ζ 4) (ha : a < 10) (hw : wn ζ E a = 0) : f_X8_firstBoard (nI E) (nI a) x = some (nI (ls (gdB ζ E a) (ζ 4)), x) := by
  have hn := hI.nb
  have hE31 : E < 2 ^ 31 := lt31 hE (by omega)
  have hT : E &&& touch ζ (2 ^ a) < 2 ^ 20 := Nat.and_lt_two_pow _ (touch_lt hI _)
  have hN := gd_lt hI ha hE hw
  have hy := ls_yes _ _ hN
  unfold f_X8_firstBoard
  rw [shl1 _ (by omega), x_touching h hI (lt31 (p2_lt ha) (by decide)), ob_some]
  dsimp only
  rw [gLet_eq, n_and]
  refine lp0 (fun n i => f_X8_firstBoard_L13 (nI E) (nI a) (nI (E &&& touch ζ (2 ^ a))) n (nI i) x) (ls (gdB ζ E a) (ζ 4)) _ (by omega) (fun n i hi => ?_) (fun n => ?_)
  · have hi4 : i < ζ 4 := by omega
    have hno := ls_no _ _ i hi
    rw [f_X8_firstBoard_L13_s, x_nb h, if_neg (nI_ge hi4 (by omega))]
    by_cases ht : (E &&& touch ζ (2 ^ a)).testBit i = true
    · rw [holds_t (lt31 hT (by decide)) (by omega) ht, ob_some]
      dsimp only
      rw [touch_one hi4, Bool.and_eq_true] at ht
      unfold gdB at hno
      rw [ht.1, ht.2, Bool.true_and, Bool.true_and, Bool.or_eq_true, decide_eq_true_eq, decide_eq_true_eq] at hno
      rw [if_neg i10, n_rm (by omega), gLet_eq, if_neg (fun z => hno (Or.inl ((n_eq0 (Nat.lt_trans (rm_lt hE31) (by decide))).mp z))), x_beyond h hI hi4 (by omega), ob_some]
      dsimp only
      rw [x_why h hI (rm_lt hE31) (oth_lt hI hi4), ob_some]
      dsimp only
      rw [if_neg (fun z => hno (Or.inr ((n_eq0 (Nat.lt_of_le_of_lt (wn_le _ _) (by decide))).mp z))), nI_1]
    · rw [holds_f (lt31 hT (by decide)) (by omega) ht, ob_some]
      dsimp only
      rw [if_pos rfl, nI_1]
  · generalize ls (gdB ζ E a) (ζ 4) = k at hN hy
    unfold gdB at hy
    rw [Bool.and_eq_true, Bool.and_eq_true, Bool.or_eq_true, decide_eq_true_eq, decide_eq_true_eq] at hy
    rw [f_X8_firstBoard_L13_s, x_nb h, if_neg (nI_ge hN (by omega)), holds_t (lt31 hT (by decide)) (by omega) (by rw [touch_one hN, hy.1, hy.2.1]; rfl), ob_some]
    dsimp only
    rw [if_neg i10, n_rm (by omega), gLet_eq]
    by_cases h0 : dif E (2 ^ k) = 0
    · rw [if_pos (by rw [h0]; rfl)]
    · rw [if_neg (fun z => h0 ((n_eq0 (Nat.lt_trans (rm_lt hE31) (by decide))).mp z)), x_beyond h hI hN (by omega), ob_some]
      dsimp only
      rw [x_why h hI (rm_lt hE31) (oth_lt hI hN), ob_some, hy.2.2.resolve_left h0]
      rfl
/-- the least of the last j below N that p holds of -/
def dw (p : Nat → Bool) (N : Nat) : Nat → Int32
  | 0 => -6
  | j + 1 => if p (N - (j + 1)) = true then nI (N - (j + 1)) else dw p N j
theorem dw_no {p : Nat → Bool} {N k : Nat} (hk : p k = true) (hn : ∀ i, i < k → ¬ p i = true) : ∀ j, j ≤ N → N - j ≤ k → k < N → dw p N j = nI k
  | 0, _, h, h2 => by omega
  | j + 1, h1, h, h2 => by
    rw [dw]
    by_cases hq : N - (j + 1) = k
    · rw [hq, if_pos hk]
    · by_cases hp : p (N - (j + 1)) = true
      · exact absurd hp (hn _ (by omega))
      · rw [if_neg hp]
        exact dw_no hk hn j (by omega) (by omega) h2
theorem rm_cnt {E e : Nat} (hE : E < 2 ^ 31) (he : E.testBit e = true) {N : Nat} (h20 : e < N) : cnt (fun i => (dif E (2 ^ e)).testBit i) N < cnt (fun i => E.testBit i) N := by
  have h1 : ∀ i, (dif E (2 ^ e)).testBit i = true → E.testBit i = true := fun i h => (sub_rm hE h).1
  have h2 : ¬ (dif E (2 ^ e)).testBit e = true := fun h => (sub_rm hE h).2 rfl
  generalize dif E (2 ^ e) = F at h1 h2
  exact cnt_lt (p := fun i => F.testBit i) (q := fun i => E.testBit i) h1 h2 he h20
theorem cnt_z {E n : Nat} (hE : E < 2 ^ n) (h : cnt (fun i => E.testBit i) n = 0) : E = 0 := by
  refine Classical.byContradiction fun hne => ?_
  obtain ⟨i, hi⟩ := Nat.exists_testBit_of_ne_zero hne
  have hin : i < n := Nat.lt_of_not_le fun z => by
    rw [bit_big hE z] at hi
    exact absurd hi (by decide)
  have := cnt_lt (p := fun _ => false) (q := fun i => E.testBit i) (fun _ z => absurd z (by decide)) (x := i) (by decide) hi hin
  omega
end TR
