section LQ
variable {ζ : Nat → Nat} {σ : gS}
theorem cnt_cong {p q : Nat → Bool} : ∀ {n : Nat}, (∀ i, i < n → p i = q i) → cnt p n = cnt q n
  | 0, _ => rfl
  | n + 1, h => by rw [cnt, cnt, cnt_cong fun i hi => h i (by omega), h n (by omega)]
theorem l_deg (h : yB ζ σ) (hI : zI ζ) {E r : Nat} (hE : E < 2 ^ 31) (hr : r < 10) : f_L_degree (nI r) (nI E) σ = some (nI (deg ζ E r (ζ 4)), σ) := by
  have hn := hI.nb
  unfold f_L_degree
  refine lp0 (fun n i => f_L_degree_L6 (nI r) (nI E) n (nI (deg ζ E r i)) (nI i) σ) (ζ 4) _ (by omega) (fun n i hi => ?_) (fun n => ?_)
  · have hb := hI.b hi
    have e : deg ζ E r (i + 1) = deg ζ E r i + (if (E.testBit i && atB ζ i r) = true then 1 else 0) := rfl
    rw [f_L_degree_L6_s, h.1, if_neg (nI_ge hi (by omega)), nI_1, e]
    unfold atB
    by_cases hc : E.testBit i = true
    · rw [if_pos ((hbit1 hE (by omega)).mpr hc), l_one h hI hi, ob_some]
      dsimp only
      by_cases h0 : bd ζ i 0 = r
      · rw [if_pos (by rw [h0]), if_pos (by simp [hc, h0]), nI_1]
      · rw [if_neg (fun z => h0 ((n_inj (by omega) (by omega)).mp z)), l_two h hI hi, ob_some]
        dsimp only
        by_cases h1 : bd ζ i 1 = r
        · rw [if_pos (by rw [h1]), if_pos (by simp [hc, h1]), nI_1]
        · rw [if_neg (fun z => h1 ((n_inj (by omega) (by omega)).mp z)), if_neg (by simp [h0, h1]), Int32.add_zero, nI_1]
          rfl
    · rw [if_neg (fun z => hc ((hbit1 hE (by omega)).mp z)), if_neg (by simp [hc]), Int32.add_zero, nI_1]
      rfl
  · rw [f_L_degree_L6_s, h.1, if_pos (Int32.le_refl _)]
theorem and_1 : ∀ d, d < 32 → nI d &&& 1 = nI (d % 2) := by decide +kernel
/-- a board apart -/
def apB (ζ : Nat → Nat) (E a : Nat) : Nat → Bool
  | 0 => false
  | n + 1 => apB ζ E a n || (decide (0 < deg ζ E n (ζ 4)) && !(rea ζ E a).testBit n)
theorem apB_iff {E a : Nat} : ∀ n, apB ζ E a n = true ↔ ∃ r, r < n ∧ 0 < deg ζ E r (ζ 4) ∧ ¬ (rea ζ E a).testBit r = true
  | 0 => ⟨fun h => by simp [apB] at h, fun ⟨r, h, _⟩ => absurd h (Nat.not_lt_zero r)⟩
  | n + 1 => by
    rw [apB, Bool.or_eq_true, apB_iff n, Bool.and_eq_true, decide_eq_true_eq]
    constructor
    · rintro (⟨r, h1, h2⟩ | ⟨h1, h2⟩)
      · exact ⟨r, by omega, h2⟩
      · exact ⟨n, by omega, h1, by simpa using h2⟩
    · rintro ⟨r, h1, h2, h3⟩
      rcases Nat.lt_or_ge r n with h | h
      · exact Or.inl ⟨r, h, h2, h3⟩
      · have hr : r = n := by omega
        subst hr
        exact Or.inr ⟨h2, by simpa using h3⟩
def odN (ζ : Nat → Nat) (E n : Nat) : Nat := cnt (fun r => decide (deg ζ E r (ζ 4) % 2 = 1)) n
theorem odN_pc (hI : zI ζ) {E : Nat} : odN ζ E 10 = pc (odm ζ E (ζ 4)) := cnt_cong fun r _ => (odm_bit hI (ζ 4) (Nat.le_refl _)).symm
theorem l_reasonL (h : yB ζ σ) (hI : zI ζ) {E a : Nat} (hE : E < 2 ^ 31) (w2 : Int32) (K : Int32 → Int32 → gS → Option (Int32 × gS)) : f_L_reason_L20 w2 (nI E) (nI (rea ζ E a)) K gFu 0 0 0 σ = K (nI (if apB ζ E a 10 = true then 1 else 0)) (nI (odN ζ E 10)) σ := by
  refine lp0 (fun n i => f_L_reason_L20 w2 (nI E) (nI (rea ζ E a)) K n (nI (if apB ζ E a i = true then 1 else 0)) (nI (odN ζ E i)) (nI i) σ) 10 _ (by decide) (fun n i hi => ?_) (fun n => ?_)
  · have hd := deg_le hI E i
    have e1 : odN ζ E (i + 1) = odN ζ E i + deg ζ E i (ζ 4) % 2 := by
      show cnt _ i + _ = _
      have : deg ζ E i (ζ 4) % 2 < 2 := Nat.mod_lt _ (by decide)
      by_cases hq : deg ζ E i (ζ 4) % 2 = 1
      · rw [if_pos (by simpa using hq), hq]; rfl
      · rw [if_neg (by simpa using hq), show deg ζ E i (ζ 4) % 2 = 0 by omega]; rfl
    rw [f_L_reason_L20_s, if_neg (show ¬ (10 : Int32) ≤ nI i from nI_ge (b := 10) hi (by decide)), l_deg h hI hE hi, ob_some]
    dsimp only
    simp only [gLet_eq]
    rw [and_1 _ (by omega), nI_add, ← e1, nI_1, apB]
    cases hap : apB ζ E a i
    · rw [if_pos (show nI (if false = true then 1 else 0) = 0 by decide)]
      by_cases hd0 : 0 < deg ζ E i (ζ 4)
      · rw [if_neg (nI_nle hd0 (by omega)), decide_eq_true hd0]
        cases hr : (rea ζ E a).testBit i
        · rw [if_pos ((hbit0 (lt31 rea_lt (by decide)) (by omega)).mpr hr)]
          rfl
        · rw [if_neg (fun z => by rw [(hbit0 (lt31 rea_lt (by decide)) (by omega)).mp z] at hr; cases hr)]
          rfl
      · rw [if_pos (n_le0 (by omega)), decide_eq_false hd0]
        rfl
    · rw [if_neg (show ¬ nI (if true = true then 1 else 0) = 0 by decide)]
      rfl
  · rw [f_L_reason_L20_s, if_pos (show (10 : Int32) ≤ nI 10 from Int32.le_refl _)]
theorem l_reason (h : yB ζ σ) (hI : zI ζ) {E a : Nat} (hE : E < 2 ^ 31) (ha : a < 10) : f_L_reason (nI a) (nI E) σ = some (nI (wn ζ E a), σ) := by
  have hda := deg_le hI E a
  have hpc := odN_pc hI (E := E)
  have hev := odd_even hI E
  have hol := odm_lt hI E (ζ 4) (Nat.le_refl _)
  unfold f_L_reason wn
  rw [show (9 : Int32) = nI 9 from rfl, l_reach h hI hE ha (by decide), ob_some]
  dsimp only
  rw [Wk_rea hI ha, l_reasonL h hI hE]
  by_cases hE0 : E = 0
  · rw [if_pos (show nI E = 0 by rw [hE0]; rfl), if_pos hE0]
    rfl
  rw [if_neg (nI_ne0 (by omega) hE), if_neg hE0, l_deg h hI hE ha, ob_some]
  dsimp only
  have htd := tch_deg (ζ := ζ) (E := E) (r := a) (ζ 4)
  by_cases hd0 : deg ζ E a (ζ 4) = 0
  · rw [if_pos (show nI (deg ζ E a (ζ 4)) = 0 by rw [hd0]; rfl), if_pos (show ¬ (tch ζ E (ζ 4)).testBit a = true from fun z => absurd (htd.mp z) (by omega))]
    rfl
  rw [if_neg (nI_ne0 (by omega) (by omega)), if_neg (show ¬ ¬ (tch ζ E (ζ 4)).testBit a = true from fun z => z (htd.mpr (by omega)))]
  have hdif : dif (tch ζ E (ζ 4)) (rea ζ E a) = 0 ↔ ¬ apB ζ E a 10 = true := by
    rw [apB_iff]
    constructor
    · rintro hz ⟨r, hr, hd, hn⟩
      have : (dif (tch ζ E (ζ 4)) (rea ζ E a)).testBit r = true := by
        rw [dif_bit (lt31 (tch_lt hI E (Nat.le_refl _)) (by decide)), (tch_deg (ζ 4)).mpr hd]
        simpa using hn
      rw [hz] at this
      simp at this
    · intro hno
      apply bit_ext
      intro r
      rw [dif_bit (lt31 (tch_lt hI E (Nat.le_refl _)) (by decide)), Nat.zero_testBit]
      cases ht : (tch ζ E (ζ 4)).testBit r
      · rfl
      · cases hr : (rea ζ E a).testBit r
        · have hr10 : r < 10 := by
            refine Nat.lt_of_not_le fun z => ?_
            rw [bit_big (tch_lt hI E (Nat.le_refl _)) z] at ht
            cases ht
          exact absurd ⟨r, hr10, (tch_deg (ζ 4)).mp ht, by rw [hr]; decide⟩ hno
        · rfl
  cases hap : apB ζ E a 10
  · rw [if_pos (show nI (if false = true then 1 else 0) = 0 by decide), if_neg (show ¬ ¬ dif (tch ζ E (ζ 4)) (rea ζ E a) = 0 from fun z => z (hdif.mpr (by rw [hap]; decide))), hpc]
    have hple := pc_le (odm ζ E (ζ 4))
    have hz := pc_zero (odm ζ E (ζ 4)) hol
    by_cases h2 : pc (odm ζ E (ζ 4)) ≤ 2
    · rw [if_pos (show nI (pc (odm ζ E (ζ 4))) ≤ 2 from nI_le (b := 2) h2 (by decide)), if_neg (show ¬ 2 < pc (odm ζ E (ζ 4)) by omega)]
      by_cases h22 : pc (odm ζ E (ζ 4)) = 2
      · have hne : ¬ odm ζ E (ζ 4) = 0 := fun z => by rw [hz.mpr z] at h22; omega
        rw [if_pos (show nI (pc (odm ζ E (ζ 4))) = 2 by rw [h22]; rfl), if_neg hne, l_deg h hI hE ha, ob_some]
        dsimp only
        rw [and_1 _ (by omega), odm_bit hI (ζ 4) (Nat.le_refl _)]
        have hm2 : deg ζ E a (ζ 4) % 2 < 2 := Nat.mod_lt _ (by decide)
        by_cases hq : deg ζ E a (ζ 4) % 2 = 1
        · rw [if_neg (by rw [hq]; decide), if_pos (decide_eq_true hq)]
          rfl
        · rw [if_pos (show nI (deg ζ E a (ζ 4) % 2) = 0 by rw [show deg ζ E a (ζ 4) % 2 = 0 by omega]; rfl), if_neg (by simpa using hq)]
          rfl
      · have h00 : odm ζ E (ζ 4) = 0 := hz.mp (by omega)
        rw [if_neg (show ¬ nI (pc (odm ζ E (ζ 4))) = 2 from fun z => h22 ((nI_eq (a := pc (odm ζ E (ζ 4))) (b := 2) (by omega) (by decide)).mp z)), if_pos h00]
        rfl
    · rw [if_neg (show ¬ nI (pc (odm ζ E (ζ 4))) ≤ 2 from nI_ge (a := 2) (by omega) (by omega)), if_pos (show 2 < pc (odm ζ E (ζ 4)) by omega)]
      rfl
  · rw [if_neg (show ¬ nI (if true = true then 1 else 0) = 0 by decide), if_pos (show ¬ dif (tch ζ E (ζ 4)) (rea ζ E a) = 0 from fun z => absurd hap (hdif.mp z))]
    rfl
/-! pairs -/
theorem sm_flat (f : Nat → Nat → Nat) : ∀ n, sm (fun k => f (k / 10) (k % 10)) (10 * n) = sm (fun i => sm (f i) 10) n
  | 0 => rfl
  | n + 1 => by
    have e : ∀ d, d ≤ 10 → sm (fun k => f (k / 10) (k % 10)) (10 * n + d) = sm (fun k => f (k / 10) (k % 10)) (10 * n) + sm (f n) d := by
      intro d
      induction d with
      | zero => intro _; rfl
      | succ d ih =>
        intro hd
        rw [← Nat.add_assoc, sm, ih (by omega), sm, show (10 * n + d) / 10 = n by omega, show (10 * n + d) % 10 = d by omega, Nat.add_assoc]
    rw [Nat.mul_succ, e 10 (Nat.le_refl _), sm_flat f n]
    rfl
def lpf (ζ : Nat → Nat) (E i j : Nat) : Nat := if (decide (j < i) && (rea ζ E i).testBit j) = true then 1 else 0
theorem lpf_prs (hI : zI ζ) {E : Nat} : sm (fun i => sm (lpf ζ E i) 10) 10 = prs ζ E 10 := by
  unfold prs
  rw [sm_swap (fun i k => if (decide (i < k) && (rea ζ E i).testBit k) = true then 1 else 0) 10 10]
  refine sm_cong fun i hi => sm_cong fun j hj => ?_
  unfold lpf
  have : (rea ζ E i).testBit j = (rea ζ E j).testBit i := by
    rw [Bool.eq_iff_iff]
    exact ⟨fun h => cn_sy hI hi h, fun h => cn_sy hI hj h⟩
  rw [this]
theorem lpf_le (E : Nat) : ∀ n, sm (fun k => lpf ζ E (k / 10) (k % 10)) n ≤ n := fun n => by
  have := sm_le (f := fun k => lpf ζ E (k / 10) (k % 10)) (c := 1) (fun k => by unfold lpf; split <;> omega) n
  omega
theorem l_pairs (h : yB ζ σ) (hI : zI ζ) {E : Nat} (hE : E < 2 ^ 31) : f_L_pairs (nI E) σ = some (nI (prs ζ E 10), σ) := by
  rw [← lpf_prs hI, ← sm_flat (lpf ζ E) 10]
  unfold f_L_pairs
  refine lp0 (fun n i => f_L_pairs_L5 (nI E) n (nI (sm (fun k => lpf ζ E (k / 10) (k % 10)) i)) (nI i) σ) 100 _ (by decide) (fun n i hi => ?_) (fun n => ?_)
  · have hle := lpf_le (ζ := ζ) E i
    rw [f_L_pairs_L5_s, if_neg (show ¬ (100 : Int32) ≤ nI i from nI_ge (b := 100) hi (by decide)), show (10 : Int32) = nI 10 from rfl, pk_div (by omega) (by decide) (by decide), nI_1, sm]
    rw [show nI i - nI (i / 10) * nI 10 = nI (i % 10) by rw [← pk_div (by omega) (by decide) (by decide), pk_rem (by omega) (by decide) (by decide)]]
    unfold lpf
    by_cases hc : i / 10 ≤ i % 10
    · rw [if_pos (nI_le hc (by omega)), if_neg (by simp; omega), Int32.add_zero]
      rfl
    · rw [if_neg (nI_ge (by omega) (by omega)), show (9 : Int32) = nI 9 from rfl, l_reach h hI hE (by omega) (by decide), ob_some]
      dsimp only
      rw [Wk_rea hI (by omega), gLet_eq, hbit (lt31 rea_lt (by decide)) (by omega), nI_add, decide_eq_true (show i % 10 < i / 10 by omega), Bool.true_and]
  · rw [f_L_pairs_L5_s, if_pos (show (100 : Int32) ≤ nI 100 from Int32.le_refl _)]
end LQ
