section LW
variable {ζ : Nat → Nat} {σ : gS}
/-- class and law hold the same -/
def SS (ζ : Nat → Nat) (σ : gS) : Prop := zI ζ ∧ cX ζ σ 1 ∧ yL ζ σ ∧ hX σ
theorem mix_self : gMix σ σ = σ := by
  funext c
  unfold gMix
  split <;> rfl
theorem SS.mix (h : SS ζ σ) {x' : gS} (he : eqX σ x') : SS ζ (gMix σ x') := by
  obtain ⟨hI, hx, hy, hh⟩ := h
  exact ⟨hI, cX_rows hI hx fun j h1 h2 => by rw [gMix_lt (by omega)]; exact he j (by omega), hy.rows fun j h1 h2 => gMix_ge h1, hh.row (by rw [gMix_lt (by decide)]; exact he 36 (by decide))⟩
theorem SS.e7 (h : SS ζ σ) {F : Nat → Nat} : SS ζ (eC σ F) := by
  obtain ⟨hI, hx, hy, hh⟩ := h
  exact ⟨hI, cX_rows hI hx fun j h1 h2 => eC_row (by omega), hy.rows fun j h1 h2 => eC_row (by omega), hh.row (eC_row (by decide))⟩
theorem dst_fin (hI : zI ζ) {E t r : Nat} (h : dst ζ E 1 t r < gINF) : dst ζ E 1 t r ≤ 8109 := by
  rcases two_all hI (E := E) (t := t) 9 (Nat.le_refl _) r with ⟨-, h2⟩ | ⟨M, B, h1, h2, -, -, h3⟩
  · rw [dm_dst, h2] at h
    exact absurd h (by decide)
  · rw [dm_dst, h3]
    omega
theorem cD_fin (hI : zI ζ) {E t r : Nat} (h : dst ζ E 1 t r < gINF) : cD ζ E t r = dst ζ E 1 t r := by
  have := dst_fin hI h
  unfold cD
  rw [if_pos (by omega)]
theorem cD_inf {E t r : Nat} (h : ¬ dst ζ E 1 t r < gINF) : cD ζ E t r = 99999 := by
  unfold cD
  rw [if_neg (by unfold gINF at h; omega)]
theorem cD_le (E t r : Nat) : cD ζ E t r ≤ 99999 := by
  unfold cD
  split <;> omega
theorem l_first (h : yB ζ σ) (hI : zI ζ) {E t a : Nat} {Dc : Nat → Int32} (hE : E < 2 ^ 31) (ht : t < 10) (ha : a < 10) (hat : a ≠ t) (hfin : dst ζ E 1 t a < gINF) (hD : ∀ r, r < 10 → Dc r = nI (cD ζ E t r)) : f_L_first Dc (nI a) (nI E) σ = some (nI (nx ζ E t a), σ) := by
  have hn := hI.nb
  obtain ⟨hN, hfit, hno⟩ := nx_ok hI ht ha hfin hat
  have hle := dst_fin hI hfin
  have hca := cD_fin hI hfin
  unfold f_L_first
  have step : ∀ n i, i < ζ 4 → f_L_first_L6 Dc (nI a) (nI E) (n + 1) (-1) (nI i) σ = if fit ζ E t a i = true then f_L_first_L6 Dc (nI a) (nI E) n (nI i) (nI (i + 1)) σ else f_L_first_L6 Dc (nI a) (nI E) n (-1) (nI (i + 1)) σ := by
    intro n i hi
    have hb := hI.b hi
    have ho := oth_lt hI (b := i) (r := a) hi
    have e1 : ∀ c d : Nat, nI a = nI a := fun _ _ => rfl
    rw [f_L_first_L6_s, h.1, if_neg (nI_ge hi (by omega)), if_neg (show ¬ (0 : Int32) ≤ -1 by decide)]
    simp only [gLet_eq, l_one h hI hi, l_two h hI hi, l_min h hI hi, ob_some, nI_1]
    -- the cost by this board
    have fin : (gGd (gin (nI (oth ζ i a)) 10) (gGd (gin (nI a) 10) (if (((Dc (gil (nI (oth ζ i a)))) + (100 * nI (bd ζ i 3))) + 1) = (Dc (gil (nI a))) then (f_L_first_L6 Dc (nI a) (nI E) n (nI i) (nI (i + 1)) σ) else (f_L_first_L6 Dc (nI a) (nI E) n (-1) (nI (i + 1)) σ)))) = if decide (dst ζ E 1 t (oth ζ i a) + (100 * bd ζ i 3 + 1) = dst ζ E 1 t a) = true then f_L_first_L6 Dc (nI a) (nI E) n (nI i) (nI (i + 1)) σ else f_L_first_L6 Dc (nI a) (nI E) n (-1) (nI (i + 1)) σ := by
      have hco := cD_le (ζ := ζ) E t (oth ζ i a)
      rw [gin_nI ho (by decide), gin_nI ha (by decide), gGd_t, gGd_t, gil_nI (show oth ζ i a < 2 ^ 31 by omega), gil_nI (show a < 2 ^ 31 by omega)]
      have eq : (((Dc (oth ζ i a)) + (100 * nI (bd ζ i 3))) + 1) = nI (cD ζ E t (oth ζ i a) + 100 * bd ζ i 3 + 1) := by
        rw [hD _ ho, show (100 : Int32) = nI 100 from rfl, pk_mul, nI_add, nI_1]
      by_cases hc : dst ζ E 1 t (oth ζ i a) + (100 * bd ζ i 3 + 1) = dst ζ E 1 t a
      · have hof : dst ζ E 1 t (oth ζ i a) < gINF := by unfold gINF; omega
        rw [if_pos (show (((Dc (oth ζ i a)) + (100 * nI (bd ζ i 3))) + 1) = Dc a by rw [eq, hD a ha, hca, cD_fin hI hof]; congr 1), if_pos (decide_eq_true hc)]
      · have hne : ¬ cD ζ E t (oth ζ i a) + 100 * bd ζ i 3 + 1 = dst ζ E 1 t a := by
          by_cases hof : dst ζ E 1 t (oth ζ i a) < gINF
          · rw [cD_fin hI hof]; omega
          · rw [cD_inf hof]; omega
        rw [if_neg (show ¬ (((Dc (oth ζ i a)) + (100 * nI (bd ζ i 3))) + 1) = Dc a by rw [eq, hD a ha, hca]; exact fun z => hne ((nI_eq (by omega) (by omega)).mp z)), if_neg (by simpa using hc)]
    have efit : fit ζ E t a i = (E.testBit i && (atB ζ i a && decide (dst ζ E 1 t (oth ζ i a) + (100 * bd ζ i 3 + 1) = dst ζ E 1 t a))) := rfl
    rw [efit]
    cases hEi : E.testBit i
    · rw [if_neg (show ¬ (nI E >>> (nI i &&& 31)) &&& 1 = 1 from fun z => by rw [(hbit1 hE (by omega)).mp z] at hEi; cases hEi)]
      simp only [if_true, ite_self, Bool.false_and, Bool.false_eq_true, if_false]
    · rw [if_pos (show (nI E >>> (nI i &&& 31)) &&& 1 = 1 from (hbit1 hE (by omega)).mpr hEi), Bool.true_and]
      unfold atB
      unfold oth at fin ⊢
      by_cases h0 : bd ζ i 0 = a
      · rw [if_pos h0] at fin ⊢
        have q0 : nI (bd ζ i 0) = nI a := by rw [h0]
        rw [if_pos q0, if_neg i10, if_pos q0, decide_eq_true h0, Bool.true_or, Bool.true_and]
        exact fin
      · rw [if_neg h0] at fin ⊢
        have q0 : ¬ nI (bd ζ i 0) = nI a := fun z => h0 ((nI_eq (by omega) (by omega)).mp z)
        rw [if_neg q0, if_neg q0, decide_eq_false h0, Bool.false_or]
        by_cases h1 : bd ζ i 1 = a
        · have q1 : nI (bd ζ i 1) = nI a := by rw [h1]
          rw [if_pos q1, if_neg i10, decide_eq_true h1, Bool.true_and]
          exact fin
        · have q1 : ¬ nI (bd ζ i 1) = nI a := fun z => h1 ((nI_eq (by omega) (by omega)).mp z)
          rw [if_neg q1, decide_eq_false h1, Bool.false_and]
          simp only [if_true, ite_self, Bool.false_eq_true, if_false]
  have key : ∀ d i n, i + d = nx ζ E t a → d + 1 < n → f_L_first_L6 Dc (nI a) (nI E) n (-1) (nI i) σ = some (nI (nx ζ E t a), σ) := by
    intro d
    induction d with
    | zero =>
      intro i n hi hnn
      obtain ⟨n, rfl⟩ := Nat.exists_eq_succ_of_ne_zero (show n ≠ 0 by omega)
      obtain ⟨n, rfl⟩ := Nat.exists_eq_succ_of_ne_zero (show n ≠ 0 by omega)
      have hin : i = nx ζ E t a := by omega
      rw [step _ i (by omega), if_pos (by rw [hin]; exact hfit), f_L_first_L6_s, h.1, ← hin]
      by_cases hq : ζ 4 ≤ i + 1
      · rw [if_pos (nI_le hq (by omega))]
      · rw [if_neg (nI_ge (by omega) (by omega)), if_pos (show (0 : Int32) ≤ nI i from nI_pos' (by omega))]
    | succ d ih =>
      intro i n hi hnn
      obtain ⟨n, rfl⟩ := Nat.exists_eq_succ_of_ne_zero (show n ≠ 0 by omega)
      rw [step _ i (by omega), if_neg (hno i (by omega))]
      exact ih (i + 1) n (by omega) (by omega)
  exact key (nx ζ E t a) 0 gFu (Nat.zero_add _) (by show nx ζ E t a + 1 < 1000000; omega)
/-- the minutes of the way, and its boards -/
theorem psm_dst (hI : zI ζ) {E t r : Nat} (ht : t < 10) (hr : r < 10) (hfin : dst ζ E 1 t r < gINF) : psm ζ E t r (pl ζ E t r) = dst ζ E 1 t r / 100 ∧ pl ζ E t r = dst ζ E 1 t r % 100 := by
  obtain ⟨w1, w2, w3, w4⟩ := way_ok hI ht hr hfin
  have key : ∀ i, i ≤ pl ζ E t r → 100 * psm ζ E t r i + i + dst ζ E 1 t (pr ζ E t r i) = dst ζ E 1 t r := by
    intro i
    induction i with
    | zero => intro _; rw [psm, pr]; omega
    | succ i ih =>
      intro hi
      have h1 := ih (by omega)
      obtain ⟨q1, q2, -, -⟩ := w2 i (by omega)
      obtain ⟨r1, r2, -⟩ := nx_ok hI ht q1 q2 (w3 i (by omega))
      have h2 := fit_dst r2
      rw [psm, pr]
      unfold pb
      rw [Nat.mul_add]
      omega
  have h1 := key (pl ζ E t r) (Nat.le_refl _)
  rw [w4, show dst ζ E 1 t t = 0 from gD_t 9] at h1
  have h3 : pl ζ E t r = dst ζ E 1 t r % 100 := rfl
  refine ⟨?_, h3⟩
  omega
theorem l_wloop {g t : Nat} {Dc : Nat → Int32} (hI : zI ζ) (hg : g < 4) (ht : t < 10) (hfin : dst ζ (fre ζ g) 1 t (gh ζ g 0) < gINF) (hD : ∀ r, r < 10 → Dc r = nI (cD ζ (fre ζ g) t r)) (w10 : Int32) : ∀ d i n (σ : gS), i + d = pl ζ (fre ζ g) t (gh ζ g 0) → d < n → SS ζ σ → ∃ σ', SS ζ σ' ∧ ∀ K, f_L_ways_L141 Dc (nI g) (nI t) (nI (fre ζ g)) w10 K n (nI (pr ζ (fre ζ g) t (gh ζ g 0) i)) 1 (nI (i + 2)) σ = K 1 (nI (pl ζ (fre ζ g) t (gh ζ g 0) + 2)) σ' := by
  have hE := lt31 (fre_lt hI g) (by decide)
  have hgg := (hI.g hg).1
  have hn := hI.nb
  obtain ⟨w1, w2, w3, w4⟩ := way_ok hI ht hgg hfin
  intro d
  induction d with
  | zero =>
    intro i n σ hi hnn hS
    obtain ⟨n, rfl⟩ := Nat.exists_eq_succ_of_ne_zero (show n ≠ 0 by omega)
    refine ⟨σ, hS, fun K => ?_⟩
    have hil : i = pl ζ (fre ζ g) t (gh ζ g 0) := by omega
    rw [f_L_ways_L141_s, hil, w4, if_pos rfl]
  | succ d ih =>
    intro i n σ hi hnn hS
    obtain ⟨n, rfl⟩ := Nat.exists_eq_succ_of_ne_zero (show n ≠ 0 by omega)
    have hil : i < pl ζ (fre ζ g) t (gh ζ g 0) := by omega
    obtain ⟨q1, q2, -, -⟩ := w2 i (by omega)
    have q3 := w3 i hil
    obtain ⟨r1, r2, -⟩ := nx_ok hI ht q1 q2 q3
    obtain ⟨x', k1, k2⟩ := k_soonest hS.2.1 hI hg ht (show i + 2 < 1000 by omega)
    have hS' := hS.mix k2
    obtain ⟨σ', s1, s2⟩ := ih (i + 1) n _ (by omega) (by omega) hS'
    refine ⟨σ', s1, fun K => ?_⟩
    have hbb := hI.b r1
    have hsv : sv ζ g t (i + 2) = nI (nx ζ (fre ζ g) t (pr ζ (fre ζ g) t (gh ζ g 0) i)) := by
      unfold sv
      rw [if_pos hfin, if_neg (show ¬ i + 2 = 0 by omega), if_neg (show ¬ i + 2 = 1 by omega), Nat.add_sub_cancel, if_neg (by omega)]
      rfl
    have hBS := hS'.2.2.1.B
    rw [f_L_ways_L141_s, if_neg (fun z => q3 ((nI_eq (by omega) (by omega)).mp z)), if_neg i10, l_first hS.2.2.1.B hI hE ht q1 q3 q2 hD, ob_some]
    dsimp only
    rw [k1, ob_some]
    dsimp only
    rw [gLet_eq, gLet_eq, hsv, if_pos rfl]
    dsimp only
    rw [l_one hBS hI r1, ob_some]
    dsimp only
    rw [show nI (i + 2) + 1 = nI (i + 1 + 2) from nI_add (i + 2) 1]
    have hpr : pr ζ (fre ζ g) t (gh ζ g 0) (i + 1) = oth ζ (nx ζ (fre ζ g) t (pr ζ (fre ζ g) t (gh ζ g 0) i)) (pr ζ (fre ζ g) t (gh ζ g 0) i) := rfl
    have s2' := s2 K
    rw [hpr] at s2'
    unfold oth at s2'
    by_cases hc : bd ζ (nx ζ (fre ζ g) t (pr ζ (fre ζ g) t (gh ζ g 0) i)) 0 = pr ζ (fre ζ g) t (gh ζ g 0) i
    · rw [if_pos hc] at s2'
      rw [if_pos (by rw [hc]), l_two hBS hI r1, ob_some]
      exact s2'
    · rw [if_neg hc] at s2'
      rw [if_neg (fun z => hc ((nI_eq (by omega) (by omega)).mp z)), l_one hBS hI r1, ob_some]
      exact s2'
theorem l_wset (h : yB ζ σ) (hI : zI ζ) {E k : Nat} {Dc : Nat → Int32} (hE : E < 2 ^ 31) (hk : k < 100) (w5 w6 w10 w11 w12 w13 : Int32) (K : Int32 → gS → Option (Int32 × gS)) : f_L_ways_L242 Dc w5 w6 (nI E) w10 w11 w12 w13 (nI k) K gFu 0 0 σ = K (nI (E &&& qui ζ k)) σ := by
  have hn := hI.nb
  have e : E &&& qui ζ k = mk (fun b => E.testBit b && decide (bd ζ b 2 ≤ k)) (ζ 4) := by
    apply bit_ext
    intro b
    rw [Nat.testBit_and, qui_bit, mk_bit]
    cases E.testBit b <;> simp
  rw [e]
  refine lp0 (fun n i => f_L_ways_L242 Dc w5 w6 (nI E) w10 w11 w12 w13 (nI k) K n (nI (mk (fun b => E.testBit b && decide (bd ζ b 2 ≤ k)) i)) (nI i) σ) (ζ 4) _ (by omega) (fun n i hi => ?_) (fun n => ?_)
  · have hb := hI.b hi
    rw [f_L_ways_L242_s, h.1, if_neg (nI_ge hi (by omega)), mk_succ, nI_1]
    by_cases hc : E.testBit i = true
    · rw [if_pos ((hbit1 hE (by omega)).mpr hc), l_creak h hI hi, ob_some]
      dsimp only
      by_cases hq : bd ζ i 2 ≤ k
      · rw [if_neg (nI_nlt hq (by omega)), gLet_eq, shl1 _ (by omega), n_or, if_pos (by simp [hc, hq])]
      · rw [if_pos (nI_lt (by omega) (by omega)), gLet_eq, or0, if_neg (by simp [hq]), Nat.or_zero]
    · rw [if_neg (fun z => hc ((hbit1 hE (by omega)).mp z)), gLet_eq, or0, if_neg (by simp [hc]), Nat.or_zero]
  · rw [f_L_ways_L242_s, h.1, if_pos (Int32.le_refl _)]
theorem l_wquiet (h : yL ζ σ) (hI : zI ζ) {g t : Nat} {Dc : Nat → Int32} (hg : g < 4) (ht : t < 10) (w10 w11 w12 : Int32) (K : Int32 → gS → Option (Int32 × gS)) : f_L_ways_L231 Dc (nI g) (nI t) (nI (fre ζ g)) w10 w11 w12 K gFu (-6) 9 σ = K (if qv ζ g t < 10 then nI (qv ζ g t) else (-6)) σ := by
  have hE := lt31 (fre_lt hI g) (by decide)
  have hgg := (hI.g hg).1
  have key : ∀ j n v, j ≤ 10 → j < n → f_L_ways_L231 Dc (nI g) (nI t) (nI (fre ζ g)) w10 w11 w12 K n v (nI j - 1) σ = K (if ls (fun k => (rea ζ (fre ζ g &&& qui ζ k) (gh ζ g 0)).testBit t) j < j then nI (ls (fun k => (rea ζ (fre ζ g &&& qui ζ k) (gh ζ g 0)).testBit t) j) else v) σ := by
    intro j
    induction j with
    | zero =>
      intro n v _ hn
      obtain ⟨n, rfl⟩ := Nat.exists_eq_succ_of_ne_zero (show n ≠ 0 by omega)
      rw [f_L_ways_L231_s, if_pos (show nI 0 - 1 < 0 by decide), if_neg (Nat.not_lt_zero _)]
    | succ j ih =>
      intro n v hj hn
      obtain ⟨n, rfl⟩ := Nat.exists_eq_succ_of_ne_zero (show n ≠ 0 by omega)
      rw [show (1 : Int32) = nI 1 from rfl, pk_sub (show 1 ≤ j + 1 by omega), Nat.add_sub_cancel, f_L_ways_L231_s, if_neg (nI_pos (by omega)), l_wset h.B hI hE (by omega)]
      rw [gin_nI (show g < 12 by omega) (by decide), gGd_t, gil_nI (by omega), (y_g h hg).1, show (9 : Int32) = nI 9 from rfl, l_reach h.B hI (qa_lt hI g j) hgg (by decide), ob_some]
      dsimp only
      rw [Wk_rea hI hgg, hbit (lt31 rea_lt (by decide)) (by omega), dn_step, ls]
      by_cases hb : (rea ζ (fre ζ g &&& qui ζ j) (gh ζ g 0)).testBit t = true
      · rw [if_pos ((b01_1 _).mpr hb), ih n _ (by omega) (by omega)]
        by_cases hl : ls (fun k => (rea ζ (fre ζ g &&& qui ζ k) (gh ζ g 0)).testBit t) j < j
        · rw [if_pos hl, if_pos hl, if_pos (by omega)]
        · rw [if_neg hl, if_neg hl, if_pos hb, if_pos (by omega)]
      · rw [if_neg (fun z => hb ((b01_1 _).mp z)), ih n _ (by omega) (by omega)]
        by_cases hl : ls (fun k => (rea ζ (fre ζ g &&& qui ζ k) (gh ζ g 0)).testBit t) j < j
        · rw [if_pos hl, if_pos hl, if_pos (by omega)]
        · rw [if_neg hl, if_neg hl, if_neg hb, if_neg (by omega)]
  exact key 10 gFu (-6) (Nat.le_refl _) (by decide)
/-- without a way there is no quiet one -/
theorem qv_no (hI : zI ζ) {g t : Nat} (hg : g < 4) (ht : t < 10) (hinf : ¬ dst ζ (fre ζ g) 1 t (gh ζ g 0) < gINF) : ¬ qv ζ g t < 10 := by
  intro h
  have hgg := (hI.g hg).1
  have h1 := ls_yes (fun k => (rea ζ (fre ζ g &&& qui ζ k) (gh ζ g 0)).testBit t) 10 h
  have h2 : cn ζ (fre ζ g &&& qui ζ (qv ζ g t)) (gh ζ g 0) t := h1
  have h3 : cn ζ (fre ζ g) (gh ζ g 0) t := cn_mo hI hgg (fun b hb => by rw [Nat.testBit_and, Bool.and_eq_true] at hb; exact hb.1) h2
  have h4 : cn ζ (fre ζ g) t (gh ζ g 0) := cn_sy hI hgg h3
  refine hinf (cn_in (P := fun r => dst ζ (fre ζ g) 1 t r < gINF) ?_ (fun b r r' he hp => ?_) _ h4)
  · show dst ζ (fre ζ g) 1 t t < gINF
    rw [show dst ζ (fre ζ g) 1 t t = 0 from gD_t 9]
    decide
  · have hp : dst ζ (fre ζ g) 1 t r < gINF := hp
    have hle := dst_fin hI hp
    obtain ⟨hb, hE, hrr⟩ := he
    have hbb := hI.b hb
    have g1 : dst ζ (fre ζ g) 1 t (bd ζ b 0) ≤ dst ζ (fre ζ g) 1 t (bd ζ b 1) + (100 * bd ζ b 3 + 1) := gD_fix_lo (ok_z hI (fre ζ g) 1) ht hb hE
    have g2 : dst ζ (fre ζ g) 1 t (bd ζ b 1) ≤ dst ζ (fre ζ g) 1 t (bd ζ b 0) + (100 * bd ζ b 3 + 1) := gD_fix_hi (ok_z hI (fre ζ g) 1) ht hb hE
    show dst ζ (fre ζ g) 1 t r' < gINF
    rcases hrr with ⟨rfl, rfl⟩ | ⟨rfl, rfl⟩
    · unfold gINF; omega
    · unfold gINF; omega
theorem l_ways (hS : SS ζ σ) {g t : Nat} (hg : g < 4) (ht : t < 10) : ∃ σ', f_L_ways (nI g) (nI t) σ = some (1, σ') ∧ SS ζ σ' := by
  have hI := hS.1
  have hE := lt31 (fre_lt hI g) (by decide)
  have hgg := (hI.g hg).1
  have hq := hS.e7 (F := cD ζ (fre ζ g) t)
  have hD : ∀ r, r < 10 → eC σ (cD ζ (fre ζ g) t) 307 r = nI (cD ζ (fre ζ g) t r) := fun r hr => eC_at hr
  have hx4 : eC σ (cD ζ (fre ζ g) t) 304 g = nI (gh ζ g 0) := (y_g hq.2.2.1 hg).1
  have hle := cD_le (ζ := ζ) (fre ζ g) t (gh ζ g 0)
  have hsm : ∀ j, j < 1000 → ∀ τ, SS ζ τ → ∃ x', f_X10_soonest (nI g) (nI t) (nI j) τ = some (sv ζ g t j, x') ∧ SS ζ (gMix τ x') := fun j hj τ hτ => by
    obtain ⟨x', k1, k2⟩ := k_soonest hτ.2.1 hI hg ht hj
    exact ⟨x', k1, hτ.mix k2⟩
  unfold f_L_ways
  rw [l_open hS.2.2.1 hI hg, ob_some]
  dsimp only
  rw [l_costs hS.2.2.1.B hI hE ht, ob_some, gLet_eq, gin_nI (show g < 12 by omega) (by decide), gGd_t, gil_nI (show g < 2 ^ 31 by omega), hx4, gLet_eq, gin_nI hgg (by decide), gGd_t, gil_nI (show gh ζ g 0 < 2 ^ 31 by omega)]
  by_cases hfin : dst ζ (fre ζ g) 1 t (gh ζ g 0) < gINF
  · have hc := cD_fin hI hfin
    have hd := dst_fin hI hfin
    obtain ⟨p1, p2⟩ := psm_dst hI ht hgg hfin
    have w1 := (way_ok hI ht hgg hfin).1
    rw [if_pos (show eC σ (cD ζ (fre ζ g) t) 307 (gh ζ g 0) < 99999 by rw [hD _ hgg, hc]; exact nI_lt (b := 99999) (by omega) (by decide))]
    obtain ⟨x1, a1, a2⟩ := hsm 0 (by decide) _ hq
    rw [show (0 : Int32) = nI 0 from rfl, a1, ob_some]
    dsimp only
    rw [gLet_eq, gGd_t, if_pos (show sv ζ g t 0 = eC σ (cD ζ (fre ζ g) t) 307 (gh ζ g 0) / 100 by
      unfold sv
      rw [if_pos hfin, if_pos rfl, p1, hD _ hgg, hc, show (100 : Int32) = nI 100 from rfl, pk_div (by omega) (by decide) (by decide)])]
    obtain ⟨x2, b1, b2⟩ := hsm 1 (by decide) _ a2
    rw [show (1 : Int32) = nI 1 from rfl, b1, ob_some]
    dsimp only
    rw [gLet_eq, gGd_t, if_pos (show sv ζ g t 1 = eC σ (cD ζ (fre ζ g) t) 307 (gh ζ g 0) - eC σ (cD ζ (fre ζ g) t) 307 (gh ζ g 0) / 100 * 100 by
      unfold sv
      rw [if_pos hfin, if_neg (by decide), if_pos rfl, p2, hD _ hgg, hc, show (100 : Int32) = nI 100 from rfl, pk_rem (by omega) (by decide) (by decide)])]
    obtain ⟨σ', s1, s2⟩ := l_wloop hI hg ht hfin hD (-6) (pl ζ (fre ζ g) t (gh ζ g 0)) 0 gFu _ (Nat.zero_add _) (by show _ < 1000000; omega) b2
    have s2' := fun K => s2 K
    rw [show pr ζ (fre ζ g) t (gh ζ g 0) 0 = gh ζ g 0 from rfl, show (0 + 2 : Nat) = 2 from rfl] at s2'
    obtain ⟨x3, c1, c2⟩ := hsm (pl ζ (fre ζ g) t (gh ζ g 0) + 2) (by omega) _ s1
    have hend : sv ζ g t (pl ζ (fre ζ g) t (gh ζ g 0) + 2) = (-6) := by
      unfold sv
      rw [if_pos hfin, if_neg (by omega), if_neg (by omega), Nat.add_sub_cancel, if_pos (Nat.le_refl _)]
    refine ⟨gMix (gMix σ' x3) (gMix σ' x3), ?_, by rw [mix_self]; exact c2⟩
    refine (s2' _).trans ?_
    rw [show (9 : Int32) = 9 from rfl]
    refine (l_wquiet s1.2.2.1 hI hg ht _ _ _ _).trans ?_
    rw [if_neg (show ¬ (1 : Int32) = nI 0 by decide), c1, ob_some]
    dsimp only
    rw [gLet_eq, hend, if_pos rfl, k_quietest c2.2.1 hI hg ht, ob_some]
    dsimp only
    rw [gLet_eq, if_pos rfl]
  · have hc := cD_inf hfin
    have hqv := qv_no hI hg ht hfin
    rw [if_neg (show ¬ eC σ (cD ζ (fre ζ g) t) 307 (gh ζ g 0) < 99999 by rw [hD _ hgg, hc]; exact nI_nlt (b := 99999) (Nat.le_refl _) (by decide))]
    have hs6 : ∀ j, sv ζ g t j = (-6) := fun j => if_neg hfin
    obtain ⟨x1, a1, a2⟩ := hsm 0 (by decide) _ hq
    rw [show (0 : Int32) = nI 0 from rfl, a1, ob_some]
    dsimp only
    rw [gLet_eq, hs6, if_pos rfl]
    obtain ⟨x2, b1, b2⟩ := hsm 2 (by decide) _ a2
    rw [show (2 : Int32) = nI 2 from rfl, b1, ob_some]
    dsimp only
    rw [gLet_eq, hs6, if_pos rfl, k_quietest b2.2.1 hI hg ht, ob_some, if_neg hqv]
    dsimp only
    rw [gLet_eq, if_pos rfl, mix_self]
    exact ⟨_, rfl, b2⟩
end LW
