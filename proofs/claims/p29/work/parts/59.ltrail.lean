section LT
variable {ζ : Nat → Nat} {σ : gS}
theorem ob_mix {τ : gS} {v : Int32} {f : Int32 → gS → Option (Int32 × gS)} : (Option.bind (some (v, τ)) fun q => gLet (gMix τ q.2) fun s => f q.1 s) = f v τ := by
  show gLet (gMix τ τ) _ = _
  rw [mix_self]
  rfl
/-- no lower board could have been ahead -/
theorem l_tcheck (h : yB ζ σ) (hI : zI ζ) {E a m : Nat} (hE : E < 2 ^ ζ 4) (ha : a < 10) (hm : m < ζ 4) (hy : gdB ζ E a m = true) (hno : ∀ k, k < m → ¬ gdB ζ E a k = true) (w4 w8 : Int32) (K : gS → Option (Int32 × gS)) : f_L_trail_L137 w4 (nI E) (nI a) w8 (nI m) K gFu 0 σ = K σ := by
  have hn := hI.nb
  have hE31 := lt31 hE (show ζ 4 ≤ 31 by omega)
  refine lp0 (fun n i => f_L_trail_L137 w4 (nI E) (nI a) w8 (nI m) K n (nI i) σ) (m + 1) _ (by omega) (fun n i hi => ?_) (fun n => ?_)
  · have hi4 : i < ζ 4 := by omega
    have hb := hI.b hi4
    have ho := oth_lt hI (b := i) (r := a) hi4
    have hrm := lt31 (rm_lt (e := i) hE) (show ζ 4 ≤ 31 by omega)
    rw [f_L_trail_L137_s, if_neg (nI_nlt (by omega) (by omega))]
    simp only [gLet_eq, l_one h hI hi4, l_two h hI hi4, ob_some, n_rm (show i < 32 by omega)]
    have hgd : gdB ζ E a i = decide (i = m) := by
      by_cases him : i = m
      · rw [him, hy, decide_eq_true rfl]
      · rw [decide_eq_false him]
        simpa using hno i (by omega)
    have heq : ∀ x : Int32, (if nI i = nI m then (1 : Int32) else 0) = (if i = m then 1 else 0) := fun _ => by
      by_cases him : i = m
      · rw [if_pos (by rw [him]), if_pos him]
      · rw [if_neg (fun z => him ((nI_eq (by omega) (by omega)).mp z)), if_neg him]
    -- the end of a step
    have fin : ∀ j : Int32, j = (if gdB ζ E a i = true then 1 else 0) → (if nI i = nI m then (if j = 1 then f_L_trail_L137 w4 (nI E) (nI a) w8 (nI m) K n (nI i + 1) σ else some (0, σ)) else (if j = 0 then f_L_trail_L137 w4 (nI E) (nI a) w8 (nI m) K n (nI i + 1) σ else some (0, σ))) = f_L_trail_L137 w4 (nI E) (nI a) w8 (nI m) K n (nI (i + 1)) σ := by
      intro j hj
      rw [hgd] at hj
      by_cases him : i = m
      · rw [decide_eq_true him, if_pos rfl] at hj
        rw [if_pos (by rw [him]), if_pos hj, nI_1]
      · rw [decide_eq_false him, if_neg (by decide)] at hj
        rw [if_neg (fun z => him ((nI_eq (by omega) (by omega)).mp z)), if_pos hj, nI_1]
    have egd : gdB ζ E a i = (E.testBit i && (atB ζ i a && (decide (dif E (2 ^ i) = 0) || decide (wn ζ (dif E (2 ^ i)) (oth ζ i a) = 0)))) := rfl
    have hwn : ∀ r, r = oth ζ i a → f_L_reason (nI r) (nI (dif E (2 ^ i))) σ = some (nI (wn ζ (dif E (2 ^ i)) (oth ζ i a)), σ) := fun r hr => by rw [hr]; exact l_reason h hI hrm ho
    have hlt2 : ∀ X Y : Option (Int32 × gS), E.testBit i = true → atB ζ i a = true → X = Y → True := fun _ _ _ _ _ => trivial
    -- with the board at the room
    have open_ : E.testBit i = true → atB ζ i a = true → (Option.bind (f_L_reason (nI (oth ζ i a)) (nI (dif E (2 ^ i))) σ) (fun q46 => if 2 ≤ q46.1 then (if nI i = nI m then (if (0 : Int32) = 1 then f_L_trail_L137 w4 (nI E) (nI a) w8 (nI m) K n (nI i + 1) q46.2 else some (0, q46.2)) else (if (0 : Int32) = 0 then f_L_trail_L137 w4 (nI E) (nI a) w8 (nI m) K n (nI i + 1) q46.2 else some (0, q46.2))) else (if nI i = nI m then (if (1 : Int32) = 1 then f_L_trail_L137 w4 (nI E) (nI a) w8 (nI m) K n (nI i + 1) q46.2 else some (0, q46.2)) else (if (1 : Int32) = 0 then f_L_trail_L137 w4 (nI E) (nI a) w8 (nI m) K n (nI i + 1) q46.2 else some (0, q46.2))))) = f_L_trail_L137 w4 (nI E) (nI a) w8 (nI m) K n (nI (i + 1)) σ := by
      intro h1 h2
      have hwl := wn_le (ζ := ζ) (dif E (2 ^ i)) (oth ζ i a)
      rw [hwn _ rfl, ob_some]
      dsimp only
      by_cases hw2 : wn ζ (dif E (2 ^ i)) (oth ζ i a) < 2
      · rw [if_neg (show ¬ (2 : Int32) ≤ nI (wn ζ (dif E (2 ^ i)) (oth ζ i a)) from nI_ge (b := 2) hw2 (by decide))]
        refine fin 1 ?_
        have := wn_lt2.mp hw2
        rw [egd, h1, h2, if_pos (by simpa using this)]
      · rw [if_pos (show (2 : Int32) ≤ nI (wn ζ (dif E (2 ^ i)) (oth ζ i a)) from nI_le (a := 2) (by omega) (by omega))]
        refine fin 0 ?_
        have : ¬ (dif E (2 ^ i) = 0 ∨ wn ζ (dif E (2 ^ i)) (oth ζ i a) = 0) := fun z => hw2 (wn_lt2.mpr z)
        rw [egd, h1, h2, if_neg (by simpa using this)]
    have shut : (E.testBit i && atB ζ i a) = false → (if nI i = nI m then (if (0 : Int32) = 1 then f_L_trail_L137 w4 (nI E) (nI a) w8 (nI m) K n (nI i + 1) σ else some (0, σ)) else (if (0 : Int32) = 0 then f_L_trail_L137 w4 (nI E) (nI a) w8 (nI m) K n (nI i + 1) σ else some (0, σ))) = f_L_trail_L137 w4 (nI E) (nI a) w8 (nI m) K n (nI (i + 1)) σ := by
      intro hs
      refine fin 0 ?_
      rw [egd, ← Bool.and_assoc, hs, if_neg (by simp)]
    cases hEi : E.testBit i
    · rw [if_neg (show ¬ (nI E >>> (nI i &&& 31)) &&& 1 = 1 from fun z => by rw [(hbit1 hE31 (by omega)).mp z] at hEi; cases hEi)]
      have := shut (by rw [hEi]; rfl)
      by_cases q0 : nI (bd ζ i 0) = nI a
      · rw [if_pos q0, if_pos trivial]
        exact this
      · rw [if_neg q0, if_pos trivial]
        exact this
    · rw [if_pos (show (nI E >>> (nI i &&& 31)) &&& 1 = 1 from (hbit1 hE31 (by omega)).mpr hEi)]
      by_cases h0 : bd ζ i 0 = a
      · have q0 : nI (bd ζ i 0) = nI a := by rw [h0]
        have hat : atB ζ i a = true := by unfold atB; rw [decide_eq_true h0]; rfl
        have hoth : oth ζ i a = bd ζ i 1 := by unfold oth; rw [if_pos h0]
        have := open_ hEi hat
        rw [hoth] at this
        rw [if_pos q0, if_pos q0, if_neg i10]
        exact this
      · have q0 : ¬ nI (bd ζ i 0) = nI a := fun z => h0 ((nI_eq (by omega) (by omega)).mp z)
        have hoth : oth ζ i a = bd ζ i 0 := by unfold oth; rw [if_neg h0]
        rw [if_neg q0, if_neg q0]
        by_cases h1 : bd ζ i 1 = a
        · have q1 : nI (bd ζ i 1) = nI a := by rw [h1]
          have hat : atB ζ i a = true := by unfold atB; rw [decide_eq_true h1, Bool.or_true]
          have := open_ hEi hat
          rw [hoth] at this
          rw [if_pos q1, if_neg i10]
          exact this
        · have q1 : ¬ nI (bd ζ i 1) = nI a := fun z => h1 ((nI_eq (by omega) (by omega)).mp z)
          rw [if_neg q1]
          have := shut (by unfold atB; rw [decide_eq_false h0, decide_eq_false h1]; simp)
          rw [if_neg q0, if_pos trivial]
          exact this
  · rw [f_L_trail_L137_s, if_pos (nI_lt (by omega) (by omega))]
theorem l_trail (hS : SS ζ σ) {g : Nat} (hg : g < 4) : f_L_trail (nI g) σ = some (1, σ) := by
  obtain ⟨hI, hx, hy, hh⟩ := hS
  have hn := hI.nb
  have hgg := (hI.g hg).1
  have hE20 := lft_lt4 hI g
  have hE := lt31 (lft_lt hI g) (by decide)
  have hyg := y_g hy hg
  unfold f_L_trail
  rw [l_all hy.B hI, ob_some]
  dsimp only
  rw [show (4 : Int32) + nI g = nI (4 + g) from nI_add 4 g, gin_nI (show 4 + g < 12 by omega) (by decide), gGd_t, gil_nI (show 4 + g < 2 ^ 31 by omega), hyg.2.1, n_dif, gLet_eq, gin_nI (show g < 12 by omega) (by decide), gGd_t, gil_nI (show g < 2 ^ 31 by omega), hyg.1, gLet_eq, show dif (2 ^ ζ 4 - 1) (gh ζ g 1) = lft ζ g from rfl, l_reason hy.B hI hE hgg, ob_some]
  dsimp only
  rw [k_reason hx hI hg, ob_some]
  dsimp only
  rw [mix_self, gLet_eq, gLet_eq, if_pos rfl]
  have hwl := wn_le (ζ := ζ) (lft ζ g) (gh ζ g 0)
  by_cases hw : wn ζ (lft ζ g) (gh ζ g 0) = 0
  rotate_left
  · rw [if_neg (nI_ne0 (by omega) (by omega))]
    dsimp only
    rw [k_reason hx hI hg, ob_some]
    dsimp only
    rw [mix_self, gLet_eq, if_pos rfl, k_trailno hx hI hg hw, ob_some]
    dsimp only
    rw [mix_self, gLet_eq, if_pos rfl]
  rw [if_pos (show nI (wn ζ (lft ζ g) (gh ζ g 0)) = 0 by rw [hw]; rfl)]
  have hInv := trE_I hI hE20 hgg hw
  have h20 := trE_20 hI hE20 hgg hw
  have key : ∀ d i n, i + d = 20 → d < n → f_L_trail_L80 (nI g) (fun (k74 : Int32) (s75 : gS) => Option.bind (f_X10_trail (nI g) k74 s75) (fun q76 => gLet (gMix s75 q76.2) (fun s77 => if q76.1 = (-6) then (some (1, s77)) else (some (0, s77))))) n (nI (trE ζ (lft ζ g) (gh ζ g 0) i).1) (nI (trE ζ (lft ζ g) (gh ζ g 0) i).2) (nI i) σ = some (1, σ) := by
    have stop : ∀ i n, i ≤ 20 → 0 < n → (trE ζ (lft ζ g) (gh ζ g 0) i).1 = 0 → f_L_trail_L80 (nI g) (fun (k74 : Int32) (s75 : gS) => Option.bind (f_X10_trail (nI g) k74 s75) (fun q76 => gLet (gMix s75 q76.2) (fun s77 => if q76.1 = (-6) then (some (1, s77)) else (some (0, s77))))) n (nI (trE ζ (lft ζ g) (gh ζ g 0) i).1) (nI (trE ζ (lft ζ g) (gh ζ g 0) i).2) (nI i) σ = some (1, σ) := by
      intro i n hi hnn h0
      obtain ⟨n, rfl⟩ := Nat.exists_eq_succ_of_ne_zero (show n ≠ 0 by omega)
      have htv : tv ζ (lft ζ g) (gh ζ g 0) i = (-6) := if_pos h0
      rw [f_L_trail_L80_s, if_pos (show nI (trE ζ (lft ζ g) (gh ζ g 0) i).1 = 0 by rw [h0]; rfl), k_trail hx hI hg hi hw, ob_some]
      dsimp only
      rw [mix_self, gLet_eq, htv, if_pos rfl]
    intro d
    induction d with
    | zero =>
      intro i n hi hnn
      have hi20 : i = 20 := by omega
      subst hi20
      exact stop 20 n (Nat.le_refl _) hnn h20
    | succ d ih =>
      intro i n hi hnn
      by_cases h0 : (trE ζ (lft ζ g) (gh ζ g 0) i).1 = 0
      · exact stop i n (by omega) (by omega) h0
      obtain ⟨n, rfl⟩ := Nat.exists_eq_succ_of_ne_zero (show n ≠ 0 by omega)
      obtain ⟨q1, q2, q3, -⟩ := hInv i
      have h31 := lt31 q1 (show ζ 4 ≤ 31 by omega)
      have hww := q3.resolve_left h0
      have hN := gd_lt hI q2 q1 hww
      have hys := ls_yes _ _ hN
      have hno := ls_no (gdB ζ (trE ζ (lft ζ g) (gh ζ g 0) i).1 (trE ζ (lft ζ g) (gh ζ g 0) i).2) (ζ 4)
      have htv : tv ζ (lft ζ g) (gh ζ g 0) i = nI (ls (gdB ζ (trE ζ (lft ζ g) (gh ζ g 0) i).1 (trE ζ (lft ζ g) (gh ζ g 0) i).2) (ζ 4)) := if_neg h0
      have hs := ih (i + 1) n (by omega) (by omega)
      rw [trE, if_neg h0] at hs
      dsimp only at hs
      rw [f_L_trail_L80_s, if_neg (nI_ne0 (by omega) h31), k_trail hx hI hg (by omega) hw, ob_some]
      dsimp only
      rw [mix_self, gLet_eq, htv]
      generalize hm : ls (gdB ζ (trE ζ (lft ζ g) (gh ζ g 0) i).1 (trE ζ (lft ζ g) (gh ζ g 0) i).2) (ζ 4) = m at *
      generalize (trE ζ (lft ζ g) (gh ζ g 0) i).1 = E at *
      generalize (trE ζ (lft ζ g) (gh ζ g 0) i).2 = a at *
      have hgd := hys
      unfold gdB at hys
      rw [Bool.and_eq_true, Bool.and_eq_true] at hys
      have hbb := hI.b hN
      have hat := hys.2.1
      unfold atB at hat
      rw [if_neg (nI_pos (by omega)), if_neg (show ¬ (nI E >>> (nI m &&& 31)) &&& 1 = 0 from fun z => by rw [(hbit0 h31 (by omega)).mp z] at hys; cases hys.1), l_one hy.B hI hN, ob_some]
      dsimp only
      have chk := fun K => l_tcheck hy.B hI q1 q2 hN hgd hno (nI g) (nI i) K
      unfold oth at hs
      by_cases hc : bd ζ m 0 = a
      · rw [if_pos hc] at hs
        have q0 : nI (bd ζ m 0) = nI a := by rw [hc]
        rw [if_pos q0, chk, n_rm (by omega), gLet_eq, l_one hy.B hI hN, ob_some]
        dsimp only
        rw [if_pos q0, l_two hy.B hI hN, ob_some]
        dsimp only
        rw [nI_1]
        exact hs
      · rw [if_neg hc] at hs
        have q0 : ¬ nI (bd ζ m 0) = nI a := fun z => hc ((nI_eq (by omega) (by omega)).mp z)
        have hc1 : bd ζ m 1 = a := by
          rw [decide_eq_false hc, Bool.false_or] at hat
          simpa using hat
        rw [if_neg q0, l_two hy.B hI hN, ob_some]
        dsimp only
        rw [if_pos (by rw [hc1]), chk, n_rm (by omega), gLet_eq, l_one hy.B hI hN, ob_some]
        dsimp only
        rw [if_neg q0, l_one hy.B hI hN, ob_some]
        dsimp only
        rw [nI_1]
        exact hs
  exact key 20 0 gFu rfl (by decide)
end LT
