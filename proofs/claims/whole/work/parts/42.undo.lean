section UN
variable {ζ : Nat → Nat} {x m : gS} {B : Nat}
/-- the attic is kept at cell b of the class -/
theorem x_keep35 (hI : zI ζ) (hx : cX ζ x 1) {N : Nat} (hN : N < 6) : ∃ x', f_X6_keep_37 (nI N) x = some x' ∧ (∀ j, (j < 39 + 32 * N ∨ 39 + 32 * N + 32 ≤ j) → x' j = x j) ∧ cX ζ x' (39 + 32 * N) := by
  obtain ⟨x', h1, h2, h3⟩ := x_copy (b := 39 + 32 * N) (b2 := 1) (by omega) x
  refine ⟨x', ?_, h2, h3 ζ hI hx⟩
  unfold f_X6_keep_37 f_X6_has_37
  rw [if_neg (nI_pos (by omega)), if_neg (show ¬ (6 : Int32) ≤ nI N from nI_ge (b := 6) hN (by decide)), gin_nI hN (by decide), gGd_t, ob_some]
  dsimp only
  rw [if_neg i10, gGd_t, gil_nI (by omega), h1]
  rfl
theorem x_fetch35 {N : Nat} (hN : N < 6) : ∃ x', f_X6_fetch_37 (nI N) x = some x' ∧ (∀ j, (j < 1 ∨ 33 ≤ j) → x' j = x j) ∧ ∀ ζ, zI ζ → cX ζ x (39 + 32 * N) → cX ζ x' 1 := by
  obtain ⟨x', h1, h2, h3⟩ := x_copy (b := 1) (b2 := 39 + 32 * N) (by omega) x
  refine ⟨x', ?_, h2, h3⟩
  unfold f_X6_fetch_37 f_X6_has_37
  rw [if_neg (nI_pos (by omega)), if_neg (show ¬ (6 : Int32) ≤ nI N from nI_ge (b := 6) hN (by decide)), gin_nI hN (by decide), gGd_t, ob_some]
  dsimp only
  rw [if_neg i10, gGd_t, gil_nI (by omega), h1]
  rfl
theorem x_keep217 (hI : zI ζ) (hx : cX ζ x 1) {N : Nat} (hN : N < 2) : ∃ x', f_X6_keep_231 (nI N) x = some x' ∧ (∀ j, (j < 233 + 32 * N ∨ 233 + 32 * N + 32 ≤ j) → x' j = x j) ∧ cX ζ x' (233 + 32 * N) := by
  obtain ⟨x', h1, h2, h3⟩ := x_copy (b := 233 + 32 * N) (b2 := 1) (by omega) x
  refine ⟨x', ?_, h2, h3 ζ hI hx⟩
  unfold f_X6_keep_231 f_X6_has_231
  rw [if_neg (nI_pos (by omega)), if_neg (show ¬ (2 : Int32) ≤ nI N from nI_ge (b := 2) hN (by decide)), gin_nI hN (by decide), gGd_t, ob_some]
  dsimp only
  rw [if_neg i10, gGd_t, gil_nI (by omega), h1]
  rfl
theorem x_fetch217 {N : Nat} (hN : N < 2) : ∃ x', f_X6_fetch_231 (nI N) x = some x' ∧ (∀ j, (j < 1 ∨ 33 ≤ j) → x' j = x j) ∧ ∀ ζ, zI ζ → cX ζ x (233 + 32 * N) → cX ζ x' 1 := by
  obtain ⟨x', h1, h2, h3⟩ := x_copy (b := 1) (b2 := 233 + 32 * N) (by omega) x
  refine ⟨x', ?_, h2, h3⟩
  unfold f_X6_fetch_231 f_X6_has_231
  rw [if_neg (nI_pos (by omega)), if_neg (show ¬ (2 : Int32) ≤ nI N from nI_ge (b := 2) hN (by decide)), gin_nI hN (by decide), gGd_t, ob_some]
  dsimp only
  rw [if_neg i10, gGd_t, gil_nI (by omega), h1]
  rfl
/-- the check's shifting and copying -/
theorem m_shift (K : gS → Option gS) : f_X11_record_L11 K gFu 0 m = K (gU m 2 (fun k => if k < 690 then m 2 (k + 138) else m 2 k)) := by
  refine lp0 (fun n i => f_X11_record_L11 K n (nI i) (gU m 2 (fun k => if k < i then m 2 (k + 138) else m 2 k))) 690 _ (by decide) (fun n i hi => ?_) (fun n => ?_) |> Eq.trans (by
    congr 1
    funext j k
    by_cases hj : j = 2
    · subst hj
      rw [gU_eq, if_neg (Nat.not_lt_zero _)]
    · rw [gU_row hj])
  · rw [f_X11_record_L11_s, if_neg (show ¬ (690 : Int32) ≤ nI i from nI_ge (b := 690) hi (by decide)), show nI i + 138 = nI (i + 138) from nI_add i 138, gin_nI (by omega) (by decide), gin_nI (by omega) (by decide), gGd_t, gGd_t, gLet_eq, gil_nI (by omega), gil_nI (by omega), gU_eq, if_neg (by omega), nI_1]
    congr 1
    funext j k
    by_cases hj : j = 2
    · subst hj
      by_cases hk : k = i
      · subst hk
        rw [up2_eq, gU_eq, if_pos (by omega)]
      · rw [up2_k hk, gU_eq, gU_eq]
        by_cases h1 : k < i
        · rw [if_pos h1, if_pos (by omega)]
        · rw [if_neg h1, if_neg (by omega)]
    · rw [up2_c hj, gU_row hj, gU_row hj]
  · rw [f_X11_record_L11_s, if_pos (show (690 : Int32) ≤ nI 690 from Int32.le_refl _)]
def put138 (m : gS) (r base : Nat) (f : Nat → Int32) (n : Nat) : gS := gU m r (fun k => if base ≤ k ∧ k < base + n then f (k - base) else m r k)
theorem put138_z {m : gS} {r base : Nat} {f : Nat → Int32} : put138 m r base f 0 = m := by
  funext j k
  unfold put138
  by_cases hj : j = r
  · subst hj
    rw [gU_eq, if_neg (by omega)]
  · rw [gU_row hj]
theorem put138_s {m : gS} {r base : Nat} {f : Nat → Int32} {i : Nat} : up2 (put138 m r base f i) r (base + i) (f i) = put138 m r base f (i + 1) := by
  funext j k
  unfold put138
  by_cases hj : j = r
  · subst hj
    by_cases hk : k = base + i
    · subst hk
      rw [up2_eq, gU_eq, if_pos (by omega), Nat.add_sub_cancel_left]
    · rw [up2_k hk, gU_eq, gU_eq]
      by_cases h1 : base ≤ k ∧ k < base + i
      · rw [if_pos h1, if_pos (by omega)]
      · rw [if_neg h1, if_neg (by omega)]
  · rw [up2_c hj, gU_row hj, gU_row hj]
theorem put138_row {m : gS} {r base n j : Nat} {f : Nat → Int32} (h : j ≠ r) : put138 m r base f n j = m j := gU_row h
theorem put138_in {m : gS} {r base n k : Nat} {f : Nat → Int32} (h : k < n) : put138 m r base f n r (base + k) = f k := by
  unfold put138
  rw [gU_eq, if_pos (by omega), Nat.add_sub_cancel_left]
theorem put138_out {m : gS} {r base n k : Nat} {f : Nat → Int32} (h : ¬ (base ≤ k ∧ k < base + n)) : put138 m r base f n r k = m r k := by
  unfold put138
  rw [gU_eq, if_neg h]
theorem m_keep (K : gS → Option gS) {k : Nat} (hk : k < 6) (h0 : m 0 2 = nI k) : f_X11_record_L52 K gFu 0 m = K (put138 m 2 (138 * k) (m 1) 138) := by
  refine lp0 (fun n i => f_X11_record_L52 K n (nI i) (put138 m 2 (138 * k) (m 1) i)) 138 _ (by decide) (fun n i hi => ?_) (fun n => ?_) |> Eq.trans (by rw [put138_z]; rfl)
  · have e : nI k * 138 + nI i = nI (138 * k + i) := by rw [show (138 : Int32) = nI 138 from rfl, pk_mul, nI_add, Nat.mul_comm]
    rw [f_X11_record_L52_s, if_neg (show ¬ (138 : Int32) ≤ nI i from nI_ge (b := 138) hi (by decide)), put138_row (show 0 ≠ 2 by decide), h0, e, gin_nI hi (by decide), gin_nI (by omega) (by decide), gGd_t, gGd_t, gLet_eq, gil_nI (by omega), gil_nI (by omega), put138_row (show 1 ≠ 2 by decide), put138_s, nI_1]
  · rw [f_X11_record_L52_s, if_pos (show (138 : Int32) ≤ nI 138 from Int32.le_refl _)]
theorem record_ok (hI : zI ζ) (hB : ζ 2 ≤ B) (hx : cX ζ x 1) (hm : cM ζ m) (hr : rest B x m) : ∃ x' m', f_X3_remember x = some x' ∧ f_X11_record m = some m' ∧ cX ζ x' 1 ∧ cM ζ m' ∧ rest B x' m' ∧ (∀ j, (j < 36 ∨ 231 ≤ j) → x' j = x j) ∧ (∀ j, j ≠ 0 → j ≠ 2 → m' j = m j) ∧ (∀ i, i ≠ 2 → m' 0 i = m 0 i) := by
  obtain ⟨⟨K, N, Z, hK, hN, a1, a2, a3, a4⟩, hs, hp⟩ := hr
  obtain ⟨x1, k1, k2, k3⟩ := x_keep35 hI hx hN
  have hx34 : x1 36 = x 36 := k2 36 (by omega)
  -- the class
  have hx' : f_X3_remember x = some (up2 (up2 x1 36 1 (nI ((N + 1) % 6))) 36 2 (nI (if 6 < K + 1 then 6 else K + 1))) := by
    unfold f_X3_remember
    rw [a2, k1, ob_some, gLet_eq, hx34, a2, nI_1]
    have e2 : ∀ v : Int32, (if (6 : Int32) < up2 x1 36 1 v 36 2 + 1 then 6 else up2 x1 36 1 v 36 2 + 1) = nI (if 6 < K + 1 then 6 else K + 1) := by
      intro v
      rw [up2_k (by decide), hx34, a1, nI_1]
      by_cases h : 6 < K + 1
      · rw [if_pos h, if_pos (show (6 : Int32) < nI (K + 1) from nI_lt (a := 6) h (by omega))]
        rfl
      · rw [if_neg h, if_neg (show ¬ (6 : Int32) < nI (K + 1) from nI_nlt (a := 6) (by omega) (by decide))]
    by_cases h6 : 6 ≤ N + 1
    · rw [if_pos (show (6 : Int32) ≤ nI (N + 1) from nI_le (a := 6) h6 (by omega))]
      try dsimp only
      rw [gLet_eq, gLet_eq, e2, show (N + 1) % 6 = 0 by omega]
      rfl
    · rw [if_neg (show ¬ (6 : Int32) ≤ nI (N + 1) from nI_ge (b := 6) (by omega) (by decide))]
      try dsimp only
      rw [gLet_eq, gLet_eq, e2, Nat.mod_eq_of_lt (by omega)]
  have xrow : ∀ j, j ≠ 36 → up2 (up2 x1 36 1 (nI ((N + 1) % 6))) 36 2 (nI (if 6 < K + 1 then 6 else K + 1)) j = x1 j := fun j hj => by rw [up2_row hj, up2_row hj]
  have xfar : ∀ j, (j < 36 ∨ 231 ≤ j) → up2 (up2 x1 36 1 (nI ((N + 1) % 6))) 36 2 (nI (if 6 < K + 1 then 6 else K + 1)) j = x j := fun j hj => by rw [xrow j (by omega), k2 j (by omega)]
  have xN : up2 (up2 x1 36 1 (nI ((N + 1) % 6))) 36 2 (nI (if 6 < K + 1 then 6 else K + 1)) 36 1 = nI ((N + 1) % 6) := by rw [up2_k (by decide), up2_eq]
  have xK : up2 (up2 x1 36 1 (nI ((N + 1) % 6))) 36 2 (nI (if 6 < K + 1 then 6 else K + 1)) 36 2 = nI (if 6 < K + 1 then 6 else K + 1) := up2_eq
  have hxx : ∃ x', f_X3_remember x = some x' ∧ (∀ j, j ≠ 36 → x' j = x1 j) ∧ (∀ j, (j < 36 ∨ 231 ≤ j) → x' j = x j) ∧ x' 36 1 = nI ((N + 1) % 6) ∧ x' 36 2 = nI (if 6 < K + 1 then 6 else K + 1) := ⟨_, hx', xrow, xfar, xN, xK⟩
  clear hx' xrow xfar xN xK
  obtain ⟨x', hx', xrow, xfar, xN, xK⟩ := hxx
  -- the cells of the class that are kept
  have old : ∀ j p, j < K → (N + 6 - K + j) % 6 = p → p ≠ N → cX (Z j) x' (39 + 32 * p) := by
    intro j p hj hp hne
    have h4 := (a4 j hj).2.2.1
    rw [hp] at h4
    have hlt : p < 6 := by rw [← hp]; exact Nat.mod_lt _ (by decide)
    refine cX_rows (a4 j hj).1 h4 fun i h1 h2 => ?_
    rw [xrow i (by omega)]
    exact k2 i (by omega)
  have new : cX ζ x' (39 + 32 * N) := cX_rows hI k3 fun i h1 h2 => xrow i (by omega)
  have cx1 : cX ζ x' 1 := cX_rows hI hx fun i h1 h2 => xfar i (by omega)
  have hs' : ∀ m' : gS, m' 3 = m 3 → m' 4 = m 4 → slots B x' m' := fun m' q3 q4 => hs.fr (by rw [xfar 0 (by decide)]) (fun j h1 h2 => xfar j (by omega)) q3 q4
  have hp' : ∀ m' : gS, m' 0 6 = m 0 6 → m' 5 = m 5 → padR x' m' := fun m' q3 q4 => hp.fr (xfar 33 (by decide)) (xfar 35 (by decide)) q3 q4
  by_cases hK6 : K = 6
  · subst hK6
    -- the eldest goes
    have hrec : f_X11_record m = some (up2 (put138 (up2 (gU m 2 (fun k => if k < 690 then m 2 (k + 138) else m 2 k)) 0 2 (nI 5)) 2 (138 * 5) (m 1) 138) 0 2 (nI 6)) := by
      unfold f_X11_record
      rw [a3, if_pos (show nI 6 = 6 from rfl), m_shift]
      try dsimp only
      rw [gLet_eq, gU_row (show 0 ≠ 2 by decide), a3, show nI 6 - 1 = nI 5 from rfl, m_keep _ (show 5 < 6 by decide) up2_eq]
      try dsimp only
      rw [gLet_eq, put138_row (show 0 ≠ 2 by decide), up2_eq, up2_row (show 1 ≠ 0 by decide), gU_row (show 1 ≠ 2 by decide)]
      rfl
    refine ⟨x', _, hx', hrec, cx1, fun k hk => ?_, ⟨⟨6, (N + 1) % 6, fun j => if j < 5 then Z (j + 1) else ζ, by decide, Nat.mod_lt _ (by decide), xK, xN, up2_eq, fun j hj => ?_⟩, hs' _ ?_ ?_, hp' _ ?_ ?_⟩, xfar, fun j j0 j2 => ?_, fun i hi => ?_⟩
    · rw [up2_c (show 1 ≠ 0 by decide), put138_row (show 1 ≠ 2 by decide), up2_row (show 1 ≠ 0 by decide), gU_row (show 1 ≠ 2 by decide)]
      exact hm k hk
    · dsimp only
      by_cases h5 : j < 5
      · obtain ⟨z1, z2, z3, z4⟩ := a4 (j + 1) (by omega)
        rw [if_pos h5]
        refine ⟨z1, z2, ?_, fun k hk => ?_⟩
        · exact old (j + 1) _ (by omega) (by omega) (by omega)
        · rw [up2_c (show 2 ≠ 0 by decide), put138_out (by omega), up2_row (show 2 ≠ 0 by decide), gU_eq, if_pos (by omega), show 138 * j + k + 138 = 138 * (j + 1) + k by omega]
          exact z4 k hk
      · rw [if_neg h5]
        refine ⟨hI, hB, ?_, fun k hk => ?_⟩
        · rw [show ((N + 1) % 6 + 6 - 6 + j) % 6 = N by omega]
          exact new
        · rw [up2_c (show 2 ≠ 0 by decide), show 138 * j + k = 138 * 5 + k by omega, put138_in hk]
          exact hm k hk
    · rw [up2_row (show 3 ≠ 0 by decide), put138_row (show 3 ≠ 2 by decide), up2_row (show 3 ≠ 0 by decide), gU_row (show 3 ≠ 2 by decide)]
    · rw [up2_row (show 4 ≠ 0 by decide), put138_row (show 4 ≠ 2 by decide), up2_row (show 4 ≠ 0 by decide), gU_row (show 4 ≠ 2 by decide)]
    · rw [up2_k (show 6 ≠ 2 by decide), put138_row (show 0 ≠ 2 by decide), up2_k (show 6 ≠ 2 by decide), gU_row (show 0 ≠ 2 by decide)]
    · rw [up2_row (show 5 ≠ 0 by decide), put138_row (show 5 ≠ 2 by decide), up2_row (show 5 ≠ 0 by decide), gU_row (show 5 ≠ 2 by decide)]
    · rw [up2_row j0, put138_row j2, up2_row j0, gU_row j2]
    · rw [up2_k hi, put138_row (show 0 ≠ 2 by decide), up2_k hi, gU_row (show 0 ≠ 2 by decide)]
  · have hrec : f_X11_record m = some (up2 (put138 m 2 (138 * K) (m 1) 138) 0 2 (nI (K + 1))) := by
      unfold f_X11_record
      rw [a3, if_neg (show ¬ nI K = 6 from fun z => hK6 ((nI_eq (a := K) (b := 6) (by omega) (by decide)).mp z)), m_keep _ (show K < 6 by omega) a3]
      try dsimp only
      rw [gLet_eq, put138_row (show 0 ≠ 2 by decide), a3, nI_1]
    rw [if_neg (by omega)] at xK
    refine ⟨x', _, hx', hrec, cx1, fun k hk => ?_, ⟨⟨K + 1, (N + 1) % 6, fun j => if j < K then Z j else ζ, by omega, Nat.mod_lt _ (by decide), xK, xN, up2_eq, fun j hj => ?_⟩, hs' _ ?_ ?_, hp' _ ?_ ?_⟩, xfar, fun j j0 j2 => ?_, fun i hi => ?_⟩
    · rw [up2_c (show 1 ≠ 0 by decide), put138_row (show 1 ≠ 2 by decide)]
      exact hm k hk
    · dsimp only
      by_cases h5 : j < K
      · obtain ⟨z1, z2, z3, z4⟩ := a4 j h5
        rw [if_pos h5]
        refine ⟨z1, z2, ?_, fun k hk => ?_⟩
        · exact old j _ h5 (by omega) (by omega)
        · rw [up2_c (show 2 ≠ 0 by decide), put138_out (by omega)]
          exact z4 k hk
      · rw [if_neg h5]
        refine ⟨hI, hB, ?_, fun k hk => ?_⟩
        · rw [show ((N + 1) % 6 + 6 - (K + 1) + j) % 6 = N by omega]
          exact new
        · rw [up2_c (show 2 ≠ 0 by decide), show 138 * j + k = 138 * K + k by rw [show j = K by omega], put138_in hk]
          exact hm k hk
    · rw [up2_row (show 3 ≠ 0 by decide), put138_row (show 3 ≠ 2 by decide)]
    · rw [up2_row (show 4 ≠ 0 by decide), put138_row (show 4 ≠ 2 by decide)]
    · rw [up2_k (show 6 ≠ 2 by decide), put138_row (show 0 ≠ 2 by decide)]
    · rw [up2_row (show 5 ≠ 0 by decide), put138_row (show 5 ≠ 2 by decide)]
    · rw [up2_row j0, put138_row j2]
    · rw [up2_k hi, put138_row (show 0 ≠ 2 by decide)]
end UN
