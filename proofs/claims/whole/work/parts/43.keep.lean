section KE
variable {ζ : Nat → Nat} {x m : gS} {B : Nat}
/-- both answer alike and agree again -/
def oOK (B : Nat) (fx fm : Option (Int32 × gS)) : Prop := ∃ r x' m', fx = some (r, x') ∧ fm = some (r, m') ∧ RR B x' m'
theorem RR.mo {B' : Nat} (hB : B ≤ B') (h : RR B x m) : RR B' x m := by
  obtain ⟨ζ, h1, h2, h3, h4, h5⟩ := h
  exact ⟨ζ, h1, Nat.le_trans h2 hB, h3, h4, h5.mo hB⟩
theorem oOK.mo {B' : Nat} {fx fm : Option (Int32 × gS)} (hB : B ≤ B') (h : oOK B fx fm) : oOK B' fx fm := by
  obtain ⟨r, x', m', h1, h2, h3⟩ := h
  exact ⟨r, x', m', h1, h2, h3.mo hB⟩
theorem oOK.same {r : Int32} {fx fm : Option (Int32 × gS)} (h : RR B x m) (h1 : fx = some (r, x)) (h2 : fm = some (r, m)) : oOK B fx fm := ⟨r, x, m, h1, h2, h⟩
theorem RR.eq {x' m' : gS} (h : RR B x m) (hx : eqX x x') (hm : eqM m m') : RR B x' m' := by
  obtain ⟨ζ, h1, h2, h3, h4, h5⟩ := h
  exact ⟨ζ, h1, h2, cX_rows h1 h3 fun j a b => hx j (by omega), hm.cM h4, h5.fr (by rw [hx 0 (by decide)]) (fun j a b => hx j b) (fun j a b => hm.1 j (by omega) b) hm.2.1 hm.2.2⟩
theorem qOK.oOK {fx fm : Option (Int32 × gS)} (h : qOK fx fm x m) (hR : RR B x m) : oOK B fx fm := by
  obtain ⟨r, x', m', h1, h2, h3, h4⟩ := h
  exact ⟨r, x', m', h1, h2, hR.eq h3 h4⟩
theorem m_back {k : Nat} (hk : k < 6) (h0 : m 0 2 = nI k) : f_X11_undo_L22 gFu 0 m = some (nI k, put138 m 1 0 (fun i => m 2 (138 * k + i)) 138) := by
  refine lp0 (fun n i => f_X11_undo_L22 n (nI i) (put138 m 1 0 (fun i => m 2 (138 * k + i)) i)) 138 _ (by decide) (fun n i hi => ?_) (fun n => ?_) |> Eq.trans (by rw [put138_z]; rfl)
  · have e : nI k * 138 + nI i = nI (138 * k + i) := by rw [show (138 : Int32) = nI 138 from rfl, pk_mul, nI_add, Nat.mul_comm]
    have e2 := put138_s (m := m) (r := 1) (base := 0) (f := fun i => m 2 (138 * k + i)) (i := i)
    rw [Nat.zero_add] at e2
    rw [f_X11_undo_L22_s, if_neg (show ¬ (138 : Int32) ≤ nI i from nI_ge (b := 138) hi (by decide)), put138_row (show 0 ≠ 1 by decide), h0, e, gin_nI hi (by decide), gin_nI (by omega) (by decide), gGd_t, gGd_t, gLet_eq, gil_nI (by omega), gil_nI (by omega), put138_row (show 2 ≠ 1 by decide), e2, nI_1]
  · rw [f_X11_undo_L22_s, if_pos (show (138 : Int32) ≤ nI 138 from Int32.le_refl _), put138_row (show 0 ≠ 1 by decide), h0]
theorem o_undo (hR : RR B x m) : oOK B (f_X10_undo x) (f_X11_undo m) := by
  obtain ⟨ζ, hI, hB, hx, hm, ⟨K, N, Z, hK, hN, a1, a2, a3, a4⟩, hs, hp⟩ := id hR
  unfold f_X10_undo f_X11_undo
  rw [a1, a3]
  by_cases h0 : K = 0
  · have : nI K = 0 := by rw [h0]; rfl
    rw [if_pos this, if_pos this]
    exact oOK.same hR rfl rfl
  · have hne : ¬ nI K = 0 := nI_ne0 (by omega) (by omega)
    rw [if_neg hne, if_neg hne, gLet_eq, show (1 : Int32) = nI 1 from rfl, pk_sub (by omega), m_back (show K - 1 < 6 by omega) up2_eq]
    obtain ⟨z1, z2, z3, z4⟩ := a4 (K - 1) (by omega)
    rw [show (N + 6 - K + (K - 1)) % 6 = (N + 5) % 6 by omega] at z3
    have hN' : (N + 5) % 6 < 6 := Nat.mod_lt _ (by decide)
    -- the class before the fetching
    have e1 : ∀ v : Int32, up2 x 36 1 v 36 2 = nI K := fun v => by rw [up2_k (by decide), a1]
    have hrow : ∀ v : Int32, ∀ j, j ≠ 36 → up2 (up2 x 36 1 v) 36 2 (nI (K - 1)) j = x j := fun v j hj => by rw [up2_row hj, up2_row hj]
    have hstep : f_X3_stepBack x = f_X6_fetch_37 (nI ((N + 5) % 6)) (up2 (up2 x 36 1 (nI ((N + 5) % 6))) 36 2 (nI (K - 1))) := by
      unfold f_X3_stepBack
      rw [a1, if_neg hne, gLet_eq, a2]
      by_cases hN0 : N = 0
      · rw [if_pos (n_le0 hN0)]
        dsimp only
        rw [gLet_eq, gLet_eq, e1, show (1 : Int32) = nI 1 from rfl, pk_sub (by omega), up2_k (show 1 ≠ 2 by decide), up2_eq, show (5 : Int32) = nI ((N + 5) % 6) by rw [hN0]; rfl]
        cases f_X6_fetch_37 (nI ((N + 5) % 6)) (up2 (up2 x 36 1 (nI ((N + 5) % 6))) 36 2 (nI (K - 1))) <;> rfl
      · rw [if_neg (nI_nle (by omega) (by omega))]
        dsimp only
        rw [gLet_eq, gLet_eq, e1, show (1 : Int32) = nI 1 from rfl, pk_sub (by omega), pk_sub (by omega), up2_k (show 1 ≠ 2 by decide), up2_eq, show (N + 5) % 6 = N - 1 by omega]
        cases f_X6_fetch_37 (nI (N - 1)) (up2 (up2 x 36 1 (nI (N - 1))) 36 2 (nI (K - 1))) <;> rfl
    have z3' : cX (Z (K - 1)) (up2 (up2 x 36 1 (nI ((N + 5) % 6))) 36 2 (nI (K - 1))) (39 + 32 * ((N + 5) % 6)) := cX_rows z1 z3 fun i h1 h2 => hrow _ i (by omega)
    have r1 : up2 (up2 x 36 1 (nI ((N + 5) % 6))) 36 2 (nI (K - 1)) 36 1 = nI ((N + 5) % 6) := by rw [up2_k (by decide), up2_eq]
    have r2 : up2 (up2 x 36 1 (nI ((N + 5) % 6))) 36 2 (nI (K - 1)) 36 2 = nI (K - 1) := up2_eq
    rw [hstep]
    have hrow' := hrow (nI ((N + 5) % 6))
    clear hrow hstep e1
    generalize up2 (up2 x 36 1 (nI ((N + 5) % 6))) 36 2 (nI (K - 1)) = x1 at *
    obtain ⟨x2, f1, f2, f3⟩ := x_fetch35 (x := x1) hN'
    rw [f1, ob_some]
    refine ⟨_, x2, _, by rw [f2 36 (by decide), r2], rfl, Z (K - 1), z1, z2, f3 _ z1 z3', fun k hk => ?_, ⟨K - 1, (N + 5) % 6, Z, by omega, hN', by rw [f2 36 (by decide), r2], by rw [f2 36 (by decide), r1], by rw [put138_row (show 0 ≠ 1 by decide), up2_eq], fun j hj => ?_⟩, hs.fr (by rw [f2 0 (by decide), hrow' 0 (by decide)]) (fun j h1 h2 => by rw [f2 j (by omega), hrow' j (by omega)]) ?_ ?_, hp.fr (by rw [f2 33 (by decide), hrow' 33 (by decide)]) (by rw [f2 35 (by decide), hrow' 35 (by decide)]) ?_ ?_⟩
    · have := put138_in (m := up2 m 0 2 (nI (K - 1))) (r := 1) (base := 0) (n := 138) (f := fun i => up2 m 0 2 (nI (K - 1)) 2 (138 * (K - 1) + i)) hk
      rw [Nat.zero_add] at this
      rw [this, up2_c (show 2 ≠ 0 by decide)]
      exact z4 k hk
    · obtain ⟨q1, q2, q3, q4⟩ := a4 j (by omega)
      have hpj : (N + 6 - K + j) % 6 < 6 := Nat.mod_lt _ (by decide)
      refine ⟨q1, q2, ?_, fun k hk => ?_⟩
      · rw [show ((N + 5) % 6 + 6 - (K - 1) + j) % 6 = (N + 6 - K + j) % 6 by omega]
        exact cX_rows q1 q3 fun i h1 h2 => by rw [f2 i (by omega), hrow' i (by omega)]
      · rw [put138_row (show 2 ≠ 1 by decide), up2_row (show 2 ≠ 0 by decide)]
        exact q4 k hk
    · rw [put138_row (show 3 ≠ 1 by decide), up2_row (show 3 ≠ 0 by decide)]
    · rw [put138_row (show 4 ≠ 1 by decide), up2_row (show 4 ≠ 0 by decide)]
    · rw [put138_row (show 0 ≠ 1 by decide), up2_k (show 6 ≠ 2 by decide)]
    · rw [put138_row (show 5 ≠ 1 by decide), up2_row (show 5 ≠ 0 by decide)]
theorem slC2 (p : Int32) (x m : gS) : (f_X10_isSlot p x = some (0, x) ∧ f_X11_in p 0 1 m = some (0, m)) ∨ ∃ k, k < 2 ∧ p = nI k ∧ f_X10_isSlot p x = some (1, x) ∧ f_X11_in p 0 1 m = some (1, m) := by
  unfold f_X10_isSlot
  rcases wi p 0 1 0 1 rfl rfl (by decide) (by decide) x m with ⟨h1, h2⟩ | ⟨k, -, hk, hp, h1, h2⟩
  · rw [h1, h2]; exact Or.inl ⟨rfl, rfl⟩
  · rw [h1, h2]; exact Or.inr ⟨k, by omega, hp, rfl, rfl⟩
theorem m_save {i : Nat} (hi : i < 2) (K : gS → Option (Int32 × gS)) : f_X11_save_L21 (nI i) K gFu 0 m = K (put138 m 3 (138 * i) (m 1) 138) := by
  refine lp0 (fun n k => f_X11_save_L21 (nI i) K n (nI k) (put138 m 3 (138 * i) (m 1) k)) 138 _ (by decide) (fun n k hk => ?_) (fun n => ?_) |> Eq.trans (by rw [put138_z]; rfl)
  · have e : nI i * 138 + nI k = nI (138 * i + k) := by rw [show (138 : Int32) = nI 138 from rfl, pk_mul, nI_add, Nat.mul_comm]
    rw [f_X11_save_L21_s, if_neg (show ¬ (138 : Int32) ≤ nI k from nI_ge (b := 138) hk (by decide)), e, gin_nI hk (by decide), gin_nI (by omega) (by decide), gGd_t, gGd_t, gLet_eq, gil_nI (by omega), gil_nI (by omega), put138_row (show 1 ≠ 3 by decide), put138_s, nI_1]
  · rw [f_X11_save_L21_s, if_pos (show (138 : Int32) ≤ nI 138 from Int32.le_refl _)]
theorem m_restore {i : Nat} (hi : i < 2) (K : gS → Option (Int32 × gS)) : f_X11_restore_L30 (nI i) K gFu 0 m = K (put138 m 1 0 (fun k => m 3 (138 * i + k)) 138) := by
  refine lp0 (fun n k => f_X11_restore_L30 (nI i) K n (nI k) (put138 m 1 0 (fun k => m 3 (138 * i + k)) k)) 138 _ (by decide) (fun n k hk => ?_) (fun n => ?_) |> Eq.trans (by rw [put138_z]; rfl)
  · have e : nI i * 138 + nI k = nI (138 * i + k) := by rw [show (138 : Int32) = nI 138 from rfl, pk_mul, nI_add, Nat.mul_comm]
    have e2 := put138_s (m := m) (r := 1) (base := 0) (f := fun k => m 3 (138 * i + k)) (i := k)
    rw [Nat.zero_add] at e2
    rw [f_X11_restore_L30_s, if_neg (show ¬ (138 : Int32) ≤ nI k from nI_ge (b := 138) hk (by decide)), e, gin_nI hk (by decide), gin_nI (by omega) (by decide), gGd_t, gGd_t, gLet_eq, gil_nI (by omega), gil_nI (by omega), put138_row (show 3 ≠ 1 by decide), e2, nI_1]
  · rw [f_X11_restore_L30_s, if_pos (show (138 : Int32) ≤ nI 138 from Int32.le_refl _)]
theorem o_save (hR : RR B x m) (p0 : Int32) : oOK B (f_X10_save p0 x) (f_X11_save p0 m) := by
  obtain ⟨ζ, hI, hB, hx, hm, hh, ⟨M, hM, a1, a2⟩, hp⟩ := id hR
  unfold f_X10_save f_X11_save
  rcases slC2 p0 x m with ⟨h1, h2⟩ | ⟨i, hi, rfl, h1, h2⟩
  · rw [h1, h2]
    exact oOK.same hR rfl rfl
  rw [h1, h2, ob_some, ob_some]
  dsimp only
  obtain ⟨x1, k1, k2, k3⟩ := x_keep217 hI hx hi
  rw [if_neg i10, if_neg i10, k1, ob_some, gin_nI hi (by decide), gGd_t, gLet_eq, gLet_eq, gil_nI (by omega), m_save hi, k2 0 (by omega), a1, shl1 _ (by omega), n_or]
  have hx0 : ∀ j, j ≠ 0 → up2 x1 0 4 (nI (M ||| 2 ^ i)) j = x1 j := fun j hj => up2_row hj
  have hm' : ∀ j, j ≠ 3 → j ≠ 4 → put138 (up2 m 4 i (vp_nar .boolean 1)) 3 (138 * i) (up2 m 4 i (vp_nar .boolean 1) 1) 138 j = m j := fun j h3 h4 => by rw [put138_row h3, up2_row h4]
  refine ⟨_, _, _, rfl, ?_, ζ, hI, hB, cX_rows hI hx fun j q1 q2 => by rw [hx0 j (by omega), k2 j (by omega)], fun k hk => by rw [hm' 1 (by decide) (by decide)]; exact hm k hk, hh.fr (fun j q1 q2 => by rw [hx0 j (by omega), k2 j (by omega)]) (hm' 2 (by decide) (by decide)) (by rw [hm' 0 (by decide) (by decide)]), ⟨M ||| 2 ^ i, ?_, up2_eq, fun i' hi' => ?_⟩, hp.fr (by rw [hx0 33 (by decide), k2 33 (by omega)]) (by rw [hx0 35 (by decide), k2 35 (by omega)]) (by rw [hm' 0 (by decide) (by decide)]) (hm' 5 (by decide) (by decide))⟩
  · rw [hm' 1 (by decide) (by decide), hx0 4 (by decide), k2 4 (by omega), m_nb hm, x_nb hx]
  · exact Nat.or_lt_two_pow (n := 2) hM (p2_lt hi)
  · rw [Nat.testBit_or, Nat.testBit_two_pow, put138_row (show 4 ≠ 3 by decide)]
    by_cases hii : i = i'
    · subst hii
      refine ⟨by rw [up2_eq, decide_eq_true rfl, Bool.or_true, if_pos rfl]; rfl, fun _ => ⟨ζ, hI, hB, cX_rows hI k3 fun j q1 q2 => hx0 j (by omega), fun k hk => ?_⟩⟩
      rw [put138_in hk, up2_row (show 1 ≠ 4 by decide)]
      exact hm k hk
    · have := a2 i' hi'
      rw [decide_eq_false hii, Bool.or_false, up2_k (fun z => hii z.symm)]
      refine ⟨this.1, fun hb => ?_⟩
      obtain ⟨ξ, z1, z2, z3, z4⟩ := this.2 hb
      refine ⟨ξ, z1, z2, cX_rows z1 z3 fun j q1 q2 => by rw [hx0 j (by omega), k2 j (by omega)], fun k hk => ?_⟩
      rw [put138_out (by omega), up2_row (show 3 ≠ 4 by decide)]
      exact z4 k hk
theorem o_restore (hR : RR B x m) (p0 : Int32) : oOK B (f_X10_restore p0 x) (f_X11_restore p0 m) := by
  obtain ⟨ζ, hI, hB, hx, hm, hr⟩ := id hR
  obtain ⟨-, ⟨M, hM, a1, a2⟩, -⟩ := id hr
  unfold f_X10_restore f_X11_restore
  rcases slC2 p0 x m with ⟨h1, h2⟩ | ⟨i, hi, rfl, h1, h2⟩
  · rw [h1, h2]
    exact oOK.same hR rfl rfl
  rw [h1, h2, ob_some, ob_some]
  dsimp only
  rw [if_neg i10, if_neg i10, gin_nI hi (by decide), gGd_t, gil_nI (by omega), a1]
  by_cases hb : M.testBit i = true
  · rw [holds_t (by omega) (by omega) hb, ob_some]
    dsimp only
    rw [if_neg i10, if_neg (show ¬ m 4 i = 0 by rw [(a2 i hi).1, if_pos hb]; decide)]
    obtain ⟨x1, m1, r1, r2, r3, r4, r5, r6, r7, r8⟩ := record_ok hI hB hx hm hr
    obtain ⟨ξ, z1, z2, z3, z4⟩ := (a2 i hi).2 hb
    obtain ⟨x2, f1, f2, f3⟩ := x_fetch217 (x := x1) hi
    rw [r1, r2, ob_some, ob_some, f1, ob_some, m_restore hi]
    have cx := f3 ξ z1 (cX_rows z1 z3 fun j q1 q2 => r6 j (by omega))
    have cm : cM ξ (put138 m1 1 0 (fun k => m1 3 (138 * i + k)) 138) := fun k hk => by
      have := put138_in (m := m1) (r := 1) (base := 0) (n := 138) (f := fun k => m1 3 (138 * i + k)) hk
      rw [Nat.zero_add] at this
      rw [this, r7 3 (by decide) (by decide)]
      exact z4 k hk
    refine ⟨nI (ξ 4), x2, _, by rw [x_nb cx], by rw [m_nb cm], ξ, z1, z2, cx, cm, r5.fr (by rw [f2 0 (by decide)]) (fun j q1 q2 => f2 j (by omega)) (fun j q1 q2 => put138_row (by omega)) (by rw [put138_row (show 0 ≠ 1 by decide)]) (by rw [put138_row (show 0 ≠ 1 by decide)])⟩
  · rw [holds_f (by omega) (by omega) hb, ob_some]
    dsimp only
    rw [if_pos rfl, if_pos (show m 4 i = 0 by rw [(a2 i hi).1, if_neg hb])]
    exact oOK.same hR rfl rfl
end KE
