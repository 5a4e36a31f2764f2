section EVM
variable {ζ : Nat → Nat} {σ : gS}
theorem k_glideno (hI : zI ζ) (hx : cX ζ σ 1) {g b : Nat} (hg : g < 4) (hb : b < ζ 4) (hno : ¬ (fat ζ g).testBit b = true) : f_X10_glide (nI g) (nI b) σ = some (-5, σ) := by
  have hn := hI.nb
  unfold f_X10_glide
  rw [x_ghost hg, ob_some]
  dsimp only
  rw [if_neg i10, x_has hx hI hb, ob_some]
  dsimp only
  rw [if_neg i10, x_fat hx hI hg, ob_some]
  dsimp only
  rw [holds_f (lt31 (fat_lt hI g) (by decide)) (by omega) hno, ob_some]
  dsimp only
  rw [if_pos rfl]
theorem k_glide (hI : zI ζ) (hx : cX ζ σ 1) {g b R : Nat} (hg : g < 4) (hb : b < ζ 4) (hyes : (fat ζ g).testBit b = true) {x1 x' : gS} (h1 : f_X3_remember σ = some x1) (h2 : f_X0_letGlide (nI g) (nI b) x1 = some (nI R, x')) : f_X10_glide (nI g) (nI b) σ = some (nI R, x') := by
  have hn := hI.nb
  unfold f_X10_glide
  rw [x_ghost hg, ob_some]
  dsimp only
  rw [if_neg i10, x_has hx hI hb, ob_some]
  dsimp only
  rw [if_neg i10, x_fat hx hI hg, ob_some]
  dsimp only
  rw [holds_t (lt31 (fat_lt hI g) (by decide)) (by omega) hyes, ob_some]
  dsimp only
  rw [if_neg i10, h1, ob_some, h2, ob_some]
theorem l_find (hy : yL ζ σ) (hI : zI ζ) (h0 : 0 < ζ 4) (Lx : Nat) (xs : Nat → Int32) (e7 : Int32) {g : Nat} (hg : g < 4) {m0 : Nat} (hm0 : m0 < ζ 4) : ∃ m, m < ζ 4 ∧ ∀ K, f_L_law_L848 Lx xs e7 (nI g) K gFu (nI m0) 0 σ = K (nI m) σ := by
  have hn := hI.nb
  have hne : gne (nI (ζ 4)) = true := by simpa [gne] using nI_ne0 h0 (by omega)
  have key : ∀ d i n m0, i + d = ζ 4 → d < n → m0 < ζ 4 → ∃ m, m < ζ 4 ∧ ∀ K, f_L_law_L848 Lx xs e7 (nI g) K n (nI m0) (nI i) σ = K (nI m) σ := by
    intro d
    induction d with
    | zero =>
      intro i n m0 hi hnn hm
      obtain ⟨n, rfl⟩ := Nat.exists_eq_succ_of_ne_zero (show n ≠ 0 by omega)
      refine ⟨m0, hm, fun K => ?_⟩
      rw [f_L_law_L848_s, y_nb hy, show i = ζ 4 by omega, if_pos (Int32.le_refl _)]
    | succ d ih =>
      intro i n m0 hi hnn hm
      obtain ⟨n, rfl⟩ := Nat.exists_eq_succ_of_ne_zero (show n ≠ 0 by omega)
      by_cases c0 : nI (bd ζ m0 0) = σ 304 g
      · refine ⟨m0, hm, fun K => ?_⟩
        rw [f_L_law_L848_s, y_nb hy, if_neg (nI_ge (by omega) (by omega)), l_one hy.B hI hm, ob_some]
        dsimp only
        rw [gin_nI (show g < 12 by omega) (by decide), gGd_t, gil_nI (show g < 2 ^ 31 by omega), if_pos c0]
      · by_cases c1 : nI (bd ζ m0 1) = σ 304 g
        · refine ⟨m0, hm, fun K => ?_⟩
          rw [f_L_law_L848_s, y_nb hy, if_neg (nI_ge (by omega) (by omega)), l_one hy.B hI hm, ob_some]
          dsimp only
          rw [gin_nI (show g < 12 by omega) (by decide), gGd_t, gil_nI (show g < 2 ^ 31 by omega), if_neg c0, l_two hy.B hI hm, ob_some]
          dsimp only
          rw [gGd_t, if_pos c1]
        · obtain ⟨m, q1, q2⟩ := ih (i + 1) n ((m0 + 1) % ζ 4) (by omega) (by omega) (Nat.mod_lt _ h0)
          refine ⟨m, q1, fun K => ?_⟩
          rw [f_L_law_L848_s, y_nb hy, if_neg (nI_ge (by omega) (by omega)), l_one hy.B hI hm, ob_some]
          dsimp only
          rw [gin_nI (show g < 12 by omega) (by decide), gGd_t, gil_nI (show g < 2 ^ 31 by omega), if_neg c0, l_two hy.B hI hm, ob_some]
          dsimp only
          rw [gGd_t, if_neg c1, y_nb hy, hne, gGd_t, gLet_eq, nI_1, pk_rem (by omega) h0 (by omega), nI_1]
          exact q2 K
  exact key (ζ 4) 0 gFu m0 (Nat.zero_add _) (by show ζ 4 < 1000000; omega) hm0
theorem ev_glide (hS : SS ζ σ) (h0 : 0 < ζ 4) (hB : ζ 2 ≤ 20000) (Lx : Nat) (xs : Nat → Int32) (e7 h : Int32) {g : Nat} (hg : g < 4) : ∃ ζ' σ', SS ζ' σ' ∧ ζ' 2 ≤ ζ 2 + 200 ∧ ∀ J, bGlide Lx xs e7 h (nI g) J σ = J 1 σ' := by
  obtain ⟨hI, hx, hy, hh⟩ := id hS
  have hn := hI.nb
  have hgg := (hI.g hg).1
  have hyg := (y_g hy hg).1
  obtain ⟨m0, hm0, em0⟩ := l_low (h >>> (7 &&& 31)) (n := ζ 4) h0 (by omega)
  obtain ⟨m, hm, em⟩ := l_find hy hI h0 Lx xs e7 hg hm0
  have hfb := fat_bit hI (g := g) hm
  -- behind the question whether it may
  have tail : ∃ ζ' σ', SS ζ' σ' ∧ ζ' 2 ≤ ζ 2 + 200 ∧ ∀ J : Int32 → gS → Option gS, (Option.bind (f_X10_glide (nI g) (nI m) σ) (fun q115 => gLet (gMix σ q115.2) (fun s116 => gLet (fun (j117 : Int32) (j118 : Int32) (s119 : gS) => gLet (fun (j121 : Int32) (s122 : gS) => J j121 s122) (fun J123 => if j117 = j118 then (J123 1 s119) else (J123 0 s119))) (fun J120 => if (if (fat ζ g).testBit m = true then (1 : Int32) else 0) = 0 then (J120 q115.1 (-5) s116) else (Option.bind (f_L_glide (nI g) (nI m) s116) (fun q126 => J120 q115.1 q126.1 q126.2)))))) = J 1 σ' := by
    by_cases hf : (fat ζ g).testBit m = true
    · obtain ⟨x1, r1, hx1, hh1, -⟩ := x_rem hI hx hh
      obtain ⟨R, x', y0, ξ0, a1, -⟩ := glide_L hI hx1 hy hg hm (by omega)
      obtain ⟨R', x'', y', ξ, b1, b2, b3, b4, b5, b6, b7, b8, -⟩ := glide_L hI hx1 (hy.mix (x' := x')) hg hm (by omega)
      have e := Option.some.inj (b1.symm.trans a1)
      have e1 : nI R' = nI R := congrArg Prod.fst e
      have e2 : x'' = x' := congrArg Prod.snd e
      subst e2
      refine ⟨ξ, y', SS.made b3 b5 (hh1.at b7) b6 fun j hj => by rw [b8 j (Or.inl hj), gMix_lt hj], by omega, fun J => ?_⟩
      rw [k_glide hI hx hg hm hf r1 a1, ob_some]
      dsimp only
      rw [gLet_eq, gLet_eq, if_neg (show ¬ (if (fat ζ g).testBit m = true then (1 : Int32) else 0) = 0 by rw [if_pos hf]; exact i10), b2, ob_some]
      dsimp only
      rw [gLet_eq, if_pos e1.symm]
    · refine ⟨ζ, σ, hS, by omega, fun J => ?_⟩
      rw [k_glideno hI hx hg hm hf, ob_some]
      dsimp only
      rw [mix_self, gLet_eq, gLet_eq, if_pos (show (if (fat ζ g).testBit m = true then (1 : Int32) else 0) = 0 from if_neg hf)]
      dsimp only
      rw [gLet_eq, if_pos rfl]
  obtain ⟨ζ', σ', t1, t2, t3⟩ := tail
  refine ⟨ζ', σ', t1, t2, fun J => ?_⟩
  have t3' := t3 J
  unfold bGlide
  rw [y_nb hy, em0, ob_some]
  dsimp only
  rw [em, l_one hy.B hI hm, ob_some]
  dsimp only
  rw [gin_nI (show g < 12 by omega) (by decide), gGd_t, gil_nI (show g < 2 ^ 31 by omega), gLet_eq]
  rw [hfb] at t3'
  unfold atB at t3'
  have hbb := hI.b hm
  by_cases c0 : bd ζ m 0 = gh ζ g 0
  · rw [gLet_eq, gLet_eq, if_pos (show nI (bd ζ m 0) = σ 304 g by rw [hyg, c0])]
    dsimp only
    rw [l_free hy hI hg hm, ob_some]
    dsimp only
    rw [decide_eq_true c0, Bool.true_or, Bool.and_true] at t3'
    by_cases hfr : frB ζ g m = true
    · rw [if_pos hfr, if_neg (by decide)]
      rw [if_pos hfr] at t3'
      exact t3'
    · rw [if_neg hfr, if_pos (by decide)]
      rw [if_neg hfr] at t3'
      exact t3'
  · rw [gLet_eq, gLet_eq, if_neg (show ¬ nI (bd ζ m 0) = σ 304 g by rw [hyg]; exact fun z => c0 ((nI_eq (by omega) (by omega)).mp z)), l_two hy.B hI hm, ob_some]
    dsimp only
    rw [gGd_t]
    rw [decide_eq_false c0, Bool.false_or] at t3'
    by_cases c1 : bd ζ m 1 = gh ζ g 0
    · rw [if_pos (show nI (bd ζ m 1) = σ 304 g by rw [hyg, c1])]
      rw [l_free hy hI hg hm, ob_some]
      dsimp only
      rw [decide_eq_true c1, Bool.and_true] at t3'
      by_cases hfr : frB ζ g m = true
      · rw [if_pos hfr, if_neg (by decide)]
        rw [if_pos hfr] at t3'
        exact t3'
      · rw [if_neg hfr, if_pos (by decide)]
        rw [if_neg hfr] at t3'
        exact t3'
    · rw [if_neg (show ¬ nI (bd ζ m 1) = σ 304 g by rw [hyg]; exact fun z => c1 ((nI_eq (by omega) (by omega)).mp z))]
      rw [decide_eq_false c1, Bool.and_false, if_neg (by decide)] at t3'
      exact t3'
/-- the class goes, and the law lets glide, board for board -/
theorem go_L (hI : zI ζ) {g t : Nat} (hg : g < 4) (ht : t < 10) (hB : ζ 2 ≤ 20000) (hfin : dst ζ (fre ζ g) 1 t (gh ζ g 0) < gINF) (Lx : Nat) (xs : Nat → Int32) (e7 w15 : Int32) {Dc : Nat → Int32} (hD : ∀ r, r < 10 → Dc r = nI (cD ζ (fre ζ g) t r)) : ∀ d i n1 n2 (ξ : Nat → Nat) (x y : gS), i + d = pl ζ (fre ζ g) t (gh ζ g 0) → d < n1 → d + 1 < n2 → zI ξ → cX ξ x 1 → hX x → yL ξ y → ξ 4 = ζ 4 → (∀ k, k < ζ 4 → ∀ j, j < 4 → bd ξ k j = bd ζ k j) → gh ξ g 0 = pr ζ (fre ζ g) t (gh ζ g 0) i → ξ 2 ≤ ζ 2 + 9 * i → x 297 4 = nI (pl ζ (fre ζ g) t (gh ζ g 0)) → (∀ i, i < pl ζ (fre ζ g) t (gh ζ g 0) → x 301 i = nI (pb ζ (fre ζ g) t (gh ζ g 0) i)) →
    ∃ x' y' ω, f_X10_go_L48 (nI g) (fun (s14 : gS) => Option.bind (f_X5_at 18 4 (nI g) s14) (fun q15 => some (q15.1, q15.2))) (fun (s16 : gS) => Option.bind (f_X5_at 18 4 (nI g) s16) (fun q17 => some (q17.1, q17.2))) n1 (nI i) x = some (nI (gh ω g 0), x') ∧ (∀ K, f_L_law_L1077 Lx xs Dc e7 (nI g) (nI t) (nI (fre ζ g)) w15 K n2 1 y = K y') ∧ zI ω ∧ cX ω x' 1 ∧ hX x' ∧ yL ω y' ∧ atY y y' ∧ ω 2 ≤ ζ 2 + 81 := by
  have hn := hI.nb
  have hE := lt31 (fre_lt hI g) (by decide)
  have hgg := (hI.g hg).1
  obtain ⟨w1, w2, w3, w4⟩ := way_ok hI ht hgg hfin
  have wb : ∀ i, i < pl ζ (fre ζ g) t (gh ζ g 0) → pb ζ (fre ζ g) t (gh ζ g 0) i < ζ 4 ∧ atB ζ (pb ζ (fre ζ g) t (gh ζ g 0) i) (pr ζ (fre ζ g) t (gh ζ g 0) i) = true := by
    intro i hi
    obtain ⟨q1, q2, -, -⟩ := w2 i (by omega)
    obtain ⟨r1, r2, -⟩ := nx_ok hI ht q1 q2 (w3 i hi)
    refine ⟨r1, ?_⟩
    unfold fit at r2
    rw [Bool.and_eq_true, Bool.and_eq_true] at r2
    exact r2.2.1
  intro d
  induction d with
  | zero =>
    intro i n1 n2 ξ x y hid h1 h2 zI' zx zh zy z4 zb zg z2 e1 e2
    obtain ⟨n1, rfl⟩ := Nat.exists_eq_succ_of_ne_zero (show n1 ≠ 0 by omega)
    obtain ⟨n2, rfl⟩ := Nat.exists_eq_succ_of_ne_zero (show n2 ≠ 0 by omega)
    have hil : i = pl ζ (fre ζ g) t (gh ζ g 0) := by omega
    refine ⟨x, y, ξ, ?_, fun K => ?_, zI', zx, zh, zy, atY.rf, by omega⟩
    · rw [f_X10_go_L48_s, e1, hil, if_pos (Int32.le_refl _), a_grm zx hg]
      rfl
    · rw [f_L_law_L1077_s, if_neg i10, gin_nI (show g < 12 by omega) (by decide), gGd_t, if_pos (show y 304 (gil (nI g)) = nI t by rw [gil_nI (by omega), (y_g zy hg).1, zg, hil, w4])]
  | succ d ih =>
    intro i n1 n2 ξ x y hid h1 h2 zI' zx zh zy z4 zb zg z2 e1 e2
    obtain ⟨n1, rfl⟩ := Nat.exists_eq_succ_of_ne_zero (show n1 ≠ 0 by omega)
    obtain ⟨n2, rfl⟩ := Nat.exists_eq_succ_of_ne_zero (show n2 ≠ 0 by omega)
    have hi : i < pl ζ (fre ζ g) t (gh ζ g 0) := by omega
    obtain ⟨q1, q2, -, -⟩ := w2 i (by omega)
    have q3 := w3 i hi
    obtain ⟨v1, v2⟩ := wb i hi
    have v1' : pb ζ (fre ζ g) t (gh ζ g 0) i < ξ 4 := by rw [z4]; exact v1
    have v2' : atB ξ (pb ζ (fre ζ g) t (gh ζ g 0) i) (pr ζ (fre ζ g) t (gh ζ g 0) i) = true := by
      unfold atB at v2 ⊢
      rw [zb _ v1 0 (by decide), zb _ v1 1 (by decide)]
      exact v2
    have hbit := frB_fat zI' v1' zg v2'
    have hprs : pr ζ (fre ζ g) t (gh ζ g 0) (i + 1) = oth ζ (pb ζ (fre ζ g) t (gh ζ g 0) i) (pr ζ (fre ζ g) t (gh ζ g 0) i) := rfl
    have hyB : yB ζ y := ⟨by rw [zy.B.1, z4], fun b hb => by
      rw [zy.B.2 b (by rw [z4]; exact hb)]
      unfold bw
      rw [zb b hb 0 (by decide), zb b hb 1 (by decide), zb b hb 2 (by decide), zb b hb 3 (by decide)]⟩
    have hfirst : f_L_first Dc (nI (pr ζ (fre ζ g) t (gh ζ g 0) i)) (nI (fre ζ g)) y = some (nI (pb ζ (fre ζ g) t (gh ζ g 0) i), y) := l_first hyB hI hE ht q1 q3 q2 hD
    have hy0 : y 304 (gil (nI g)) = nI (pr ζ (fre ζ g) t (gh ζ g 0) i) := by rw [gil_nI (by omega), (y_g zy hg).1, zg]
    have hne : ¬ y 304 (gil (nI g)) = nI t := by rw [hy0]; exact fun z => q3 ((nI_eq (by omega) (by omega)).mp z)
    have e2i := e2 i hi
    have hlawS : ∀ K, f_L_law_L1077 Lx xs Dc e7 (nI g) (nI t) (nI (fre ζ g)) w15 K (n2 + 1) 1 y = if nI (if frB ξ g (pb ζ (fre ζ g) t (gh ζ g 0) i) = true then 1 else 0) = 0 then f_L_law_L1077 Lx xs Dc e7 (nI g) (nI t) (nI (fre ζ g)) w15 K n2 (nI (if frB ξ g (pb ζ (fre ζ g) t (gh ζ g 0) i) = true then 1 else 0)) y else Option.bind (f_L_glide (nI g) (nI (pb ζ (fre ζ g) t (gh ζ g 0) i)) y) (fun q70 => f_L_law_L1077 Lx xs Dc e7 (nI g) (nI t) (nI (fre ζ g)) w15 K n2 (nI (if frB ξ g (pb ζ (fre ζ g) t (gh ζ g 0) i) = true then 1 else 0)) q70.2) := by
      intro K
      rw [f_L_law_L1077_s, if_neg i10, gin_nI (show g < 12 by omega) (by decide), gGd_t, if_neg hne, gGd_t, hy0, hfirst, ob_some]
      dsimp only
      rw [l_free zy zI' hg v1', ob_some]
    generalize hbb : pb ζ (fre ζ g) t (gh ζ g 0) i = b at *
    rw [f_X10_go_L48_s, e1, if_neg (nI_ge hi (by omega)), at_nI (show i < 10 by omega) (by decide), ob_some, e2i]
    dsimp only
    rw [x_fat zx zI' hg, ob_some]
    dsimp only
    by_cases hf : frB ξ g b = true
    · rw [holds_t (lt31 (fat_lt zI' g) (by decide)) (by omega) (by rw [hbit]; exact hf), ob_some]
      dsimp only
      rw [if_neg i10]
      obtain ⟨R, x', y', ω, c1, c2, c3, c4, c5, c6, c7, c8, c9, c10, c11⟩ := glide_L zI' zx zy hg v1' (by omega)
      rw [c1, ob_some]
      dsimp only
      rw [nI_1]
      obtain ⟨x2, y2, ω2, d1, d2, d3, d4, d5, d6, d7, d8⟩ := ih (i + 1) n1 n2 ω x' y' (by omega) (by omega) (by omega) c3 c5 (zh.at c7) c6 (c9.trans z4) (fun k hk j hj => by rw [c10 k (by rw [z4]; exact hk) j hj, zb k hk j hj]) (by
        rw [c11, zg, hprs]
        unfold oth
        rw [zb b v1 0 (by decide), zb b v1 1 (by decide)]) (by omega) (by rw [c7 297 (by decide)]; exact e1) (fun i hi => by rw [c7 301 (by decide)]; exact e2 i hi)
      refine ⟨x2, y2, ω2, d1, fun K => ?_, d3, d4, d5, d6, c8.tr d7, d8⟩
      rw [hlawS, if_pos hf, if_neg (by decide), c2, ob_some]
      exact d2 K
    · rw [holds_f (lt31 (fat_lt zI' g) (by decide)) (by omega) (by rw [hbit]; exact hf), ob_some]
      dsimp only
      rw [if_pos rfl, a_grm zx hg]
      refine ⟨x, y, ξ, rfl, fun K => ?_, zI', zx, zh, zy, atY.rf, by omega⟩
      obtain ⟨n2, rfl⟩ := Nat.exists_eq_succ_of_ne_zero (show n2 ≠ 0 by omega)
      rw [hlawS, if_neg hf, if_pos (by decide), f_L_law_L1077_s, if_pos (by decide)]
theorem ev_go (hS : SS ζ σ) (hB : ζ 2 ≤ 20000) (Lx : Nat) (xs : Nat → Int32) (e7 h : Int32) {g : Nat} (hg : g < 4) : ∃ ζ' σ', SS ζ' σ' ∧ ζ' 2 ≤ ζ 2 + 200 ∧ ∀ J, bGo Lx xs e7 h (nI g) J σ = J 1 σ' := by
  obtain ⟨hI, hx, hy, hh⟩ := id hS
  have hgg := (hI.g hg).1
  have hE := lt31 (fre_lt hI g) (by decide)
  obtain ⟨t, ht, et⟩ := l_low (h >>> (7 &&& 31)) (n := 10) (by decide) (by decide)
  have hq := hS.e7 (F := cD ζ (fre ζ g) t)
  have hD : ∀ r, r < 10 → eC σ (cD ζ (fre ζ g) t) 307 r = nI (cD ζ (fre ζ g) t r) := fun r hr => eC_at hr
  have hx4 : eC σ (cD ζ (fre ζ g) t) 304 (gil (nI g)) = nI (gh ζ g 0) := by rw [gil_nI (by omega)]; exact (y_g hq.2.2.1 hg).1
  have hgoH : ∀ τ, f_X10_go (nI g) (nI t) τ = Option.bind (f_X10_findWay (nI g) (nI t) τ) (fun q5 => if (q5 297 2) = 0 then (some ((-5), q5)) else (Option.bind (f_X3_remember q5) (fun q7 => f_X10_go_L48 (nI g) (fun (s14 : gS) => Option.bind (f_X5_at 18 4 (nI g) s14) (fun q15 => some (q15.1, q15.2))) (fun (s16 : gS) => Option.bind (f_X5_at 18 4 (nI g) s16) (fun q17 => some (q17.1, q17.2))) gFu 0 q7))) := by
    intro τ
    unfold f_X10_go
    rw [x_ghost hg, ob_some]
    dsimp only
    rw [if_neg i10, x_room ht, ob_some]
    dsimp only
    rw [if_neg i10]
  -- the class, from a state that holds ζ
  have cls : ∀ τ, cX ζ τ 1 → hX τ → ∃ x1, f_X10_findWay (nI g) (nI t) τ = some x1 ∧ wayX ζ (fre ζ g) t (gh ζ g 0) x1 ∧ cX ζ x1 1 ∧ hX x1 := fun τ hτ hhτ => by
    obtain ⟨x1, a1, a2, a3⟩ := x_findWay hτ hI hg ht
    exact ⟨x1, a1, a3, cX_rows hI hτ fun j _ _ => a2 j (by omega), hhτ.row (a2 36 (by decide))⟩
  by_cases hfin : dst ζ (fre ζ g) 1 t (gh ζ g 0) < gINF
  · have hc := cD_fin hI hfin
    have hd := dst_fin hI hfin
    have w1 := (way_ok hI ht hgg hfin).1
    -- one run of both, from a class's state
    have run : ∀ τ, cX ζ τ 1 → hX τ → ∃ x' y' ω, f_X10_go (nI g) (nI t) τ = some (nI (gh ω g 0), x') ∧ (∀ K, f_L_law_L1077 Lx xs (eC σ (cD ζ (fre ζ g) t) 307) e7 (nI g) (nI t) (nI (fre ζ g)) 0 K gFu 1 (eC σ (cD ζ (fre ζ g) t)) = K y') ∧ zI ω ∧ cX ω x' 1 ∧ hX x' ∧ yL ω y' ∧ atY (eC σ (cD ζ (fre ζ g) t)) y' ∧ ω 2 ≤ ζ 2 + 81 := by
      intro τ hτ hhτ
      obtain ⟨x1, a1, a3, a4, a5⟩ := cls τ hτ hhτ
      unfold wayX at a3
      rw [if_pos hfin] at a3
      obtain ⟨x2, r1, hx2, hh2, r4⟩ := x_rem hI a4 a5
      obtain ⟨x', y', ω, b1, b2, b3⟩ := go_L hI hg ht hB hfin Lx xs e7 0 hD (pl ζ (fre ζ g) t (gh ζ g 0)) 0 gFu gFu ζ x2 (eC σ (cD ζ (fre ζ g) t)) (Nat.zero_add _) (by show _ < 1000000; omega) (by show _ < 1000000; omega) hI hx2 hh2 hq.2.2.1 rfl (fun _ _ _ _ => rfl) rfl (by omega) (by rw [r4 297 (by decide)]; exact a3.2.2.1) (fun i hi => by rw [r4 301 (by decide)]; exact a3.2.2.2 i hi)
      refine ⟨x', y', ω, ?_, b2, b3⟩
      rw [hgoH, a1, ob_some, if_neg (show ¬ x1 297 2 = 0 by rw [a3.1]; exact i10), r1, ob_some]
      exact b1
    obtain ⟨-, y0, -, -, c2, -, -, -, -, c7, -⟩ := run _ hq.2.1 hq.2.2.2
    have hy0x : cX ζ y0 1 := cX_rows hI hq.2.1 fun j _ _ => c7 j (by omega)
    have hy0h : hX y0 := hq.2.2.2.row (c7 36 (by omega))
    obtain ⟨x', y', ω, b1, b2, b3, b4, b5, b6, b7, b8⟩ := run y0 hy0x hy0h
    have hyy : y' = y0 := Option.some.inj ((b2 some).symm.trans (c2 some))
    subst hyy
    refine ⟨ω, gMix y' x', SS.made b3 b4 b5 b6.mix fun j hj => gMix_lt hj, by omega, fun J => ?_⟩
    unfold bGo
    rw [show f_L_low (h >>> (7 &&& 31)) 10 σ = some (nI t, σ) from et σ, ob_some]
    dsimp only
    rw [l_open hy hI hg, ob_some]
    dsimp only
    rw [l_costs hy.B hI hE ht, ob_some, gLet_eq, gin_nI (show g < 12 by omega) (by decide), gGd_t, hx4, gin_nI hgg (by decide), gGd_t, gLet_eq, if_pos (show eC σ (cD ζ (fre ζ g) t) 307 (gil (nI (gh ζ g 0))) < 99999 by rw [gil_nI (by omega), hD _ hgg, hc]; exact nI_lt (b := 99999) (by omega) (by decide))]
    dsimp only
    rw [if_pos rfl, b2, b1, ob_some]
    dsimp only
    rw [gLet_eq, gLet_eq, if_pos rfl, gGd_t]
    dsimp only
    rw [gLet_eq, if_pos (show nI (gh ω g 0) = gMix y' x' 304 (gil (nI g)) by rw [gil_nI (by omega), gMix_ge (by decide)]; exact (y_g b6 hg).1.symm)]
  · have hc := cD_inf hfin
    obtain ⟨x1, a1, a3, a4, a5⟩ := cls _ hq.2.1 hq.2.2.2
    unfold wayX at a3
    rw [if_neg hfin] at a3
    refine ⟨ζ, gMix (eC σ (cD ζ (fre ζ g) t)) x1, SS.made hI a4 a5 hq.2.2.1.mix fun j hj => gMix_lt hj, by omega, fun J => ?_⟩
    unfold bGo
    rw [show f_L_low (h >>> (7 &&& 31)) 10 σ = some (nI t, σ) from et σ, ob_some]
    dsimp only
    rw [l_open hy hI hg, ob_some]
    dsimp only
    rw [l_costs hy.B hI hE ht, ob_some, gLet_eq, gin_nI (show g < 12 by omega) (by decide), gGd_t, hx4, gin_nI hgg (by decide), gGd_t, gLet_eq, if_neg (show ¬ eC σ (cD ζ (fre ζ g) t) 307 (gil (nI (gh ζ g 0))) < 99999 by rw [gil_nI (by omega), hD _ hgg, hc]; exact nI_nlt (b := 99999) (Nat.le_refl _) (by decide))]
    dsimp only
    rw [if_neg i10, show gFu = 999999 + 1 from rfl, f_L_law_L1077_s, if_pos rfl, hgoH, a1, ob_some, if_pos a3, ob_some]
    dsimp only
    rw [gLet_eq, gLet_eq, if_neg i10]
    dsimp only
    rw [gLet_eq, if_pos rfl]
end EVM
