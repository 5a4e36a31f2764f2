section LC
variable {ζ : Nat → Nat} {σ : gS}
/-- the row of costs -/
def eC (σ : gS) (F : Nat → Nat) : gS := gU σ 307 (fun k => if k < 10 then nI (F k) else 0)
theorem eC_at {F : Nat → Nat} {r : Nat} (hr : r < 10) : eC σ F 307 r = nI (F r) := by simp [eC, gU, hr]
theorem eC_row {F : Nat → Nat} {j : Nat} (h : j ≠ 307) : eC σ F j = σ j := by simp [eC, gU, h]
theorem eC_up {F : Nat → Nat} {r v : Nat} (hr : r < 10) : up2 (eC σ F) 307 r (nI v) = eC σ (upN F r v) := by
  funext j k
  by_cases hj : j = 307
  · subst hj
    by_cases hk : k = r
    · subst hk
      rw [up2_eq, eC_at hr, upN_eq]
    · rw [up2_k hk]
      unfold eC
      rw [gU_eq, gU_eq, upN_ne hk]
  · rw [up2_row hj, eC_row hj, eC_row hj]
theorem eC_cong {F G : Nat → Nat} (h : ∀ r, r < 10 → F r = G r) : eC σ F = eC σ G := by
  unfold eC
  congr 1
  funext k
  by_cases hk : k < 10
  · rw [if_pos hk, if_pos hk, h k hk]
  · rw [if_neg hk, if_neg hk]
theorem gU_self {c : Nat} : gU σ c (σ c) = σ := by
  funext j
  unfold gU
  by_cases h : j = c
  · rw [if_pos h, h]
  · rw [if_neg h]
theorem yB.e7 (h : yB ζ σ) {F : Nat → Nat} : yB ζ (eC σ F) := by
  unfold yB
  rw [eC_row (by decide), eC_row (by decide)]
  exact h
theorem upN_id {F : Nat → Nat} {k v : Nat} (h : v = F k) : upN F k v = F := by
  subst h
  funext r
  unfold upN
  by_cases hr : r = k
  · rw [if_pos hr, hr]
  · rw [if_neg hr]
def chL (ζ : Nat → Nat) (c : Nat) (F : Nat → Nat) (b : Nat) : Bool := !decide (F (bd ζ b 0) ≤ F (bd ζ b 1) + c) || !decide (rlx1 (zlo ζ) (zhi ζ) (fun _ => c) F b (bd ζ b 1) ≤ rlx1 (zlo ζ) (zhi ζ) (fun _ => c) F b (bd ζ b 0) + c)
theorem rlx1_le (lo hi c : Nat → Nat) (F : Nat → Nat) (b r : Nat) : rlx1 lo hi c F b r ≤ F r := by
  unfold rlx1 upN
  by_cases h : r = lo b
  · rw [if_pos h, h]
    split <;> omega
  · rw [if_neg h]
    exact Nat.le_refl _
/-- both directions of a board -/
theorem l_c2 (h : yB ζ σ) (hI : zI ζ) {b : Nat} (hb : b < ζ 4) {c : Nat} (hc : c ≤ 99999) {F : Nat → Nat} (hF : ∀ r, F r ≤ 99999) (w3 : Int32) (K : Int32 → gS → Option gS) (f : Bool) : f_L_costs_L92 w3 (nI b) (nI c) K gFu (nI (if f = true then 1 else 0)) 0 (eC σ F) = K (nI (if (f || chL ζ c F b) = true then 1 else 0)) (eC σ (rlx (zlo ζ) (zhi ζ) (fun _ => c) F b)) := by
  have hh := hI.b hb
  have hlo : bd ζ b 0 < 10 := by omega
  -- one direction
  have step : ∀ (G : Nat → Nat) (hG : ∀ r, G r ≤ 99999) (g : Bool) (n : Nat) (v8 : Int32) (p q : Nat), p < 10 → q < 10 → ((v8 = 0 ∧ p = bd ζ b 0 ∧ q = bd ζ b 1) ∨ (¬ v8 = 0 ∧ p = bd ζ b 1 ∧ q = bd ζ b 0)) → ¬ (2 : Int32) ≤ v8 → f_L_costs_L92 w3 (nI b) (nI c) K (n + 1) (nI (if g = true then 1 else 0)) v8 (eC σ G) = f_L_costs_L92 w3 (nI b) (nI c) K n (nI (if (g || !decide (G p ≤ G q + c)) = true then 1 else 0)) (v8 + 1) (eC σ (upN G p (if G p ≤ G q + c then G p else G q + c))) := by
    intro G hG g n v8 p q hp hq hv h2
    have gp := hG p
    have gq := hG q
    have h1 : yB ζ (eC σ G) := h.e7
    rw [f_L_costs_L92_s, if_neg h2]
    simp only [gLet_eq, l_one h1 hI hb, l_two h1 hI hb, ob_some, gU_self]
    have fin : (gGd (gin (nI q) 10) (gGd (gin (nI p) 10) (if (eC σ G 307 (gil (nI p))) ≤ ((eC σ G 307 (gil (nI q))) + nI c) then (f_L_costs_L92 w3 (nI b) (nI c) K n (nI (if g = true then 1 else 0)) (v8 + 1) (eC σ G)) else (gGd (gin (nI q) 10) (gGd (gin (nI p) 10) (f_L_costs_L92 w3 (nI b) (nI c) K n 1 (v8 + 1) (up2 (eC σ G) 307 (gil (nI p)) ((eC σ G 307 (gil (nI q))) + nI c)))))))) = f_L_costs_L92 w3 (nI b) (nI c) K n (nI (if (g || !decide (G p ≤ G q + c)) = true then 1 else 0)) (v8 + 1) (eC σ (upN G p (if G p ≤ G q + c then G p else G q + c))) := by
      rw [gin_nI hq (by decide), gin_nI hp (by decide), gGd_t, gGd_t, gGd_t, gGd_t, gil_nI (show p < 2 ^ 31 by omega), gil_nI (show q < 2 ^ 31 by omega)]
      by_cases hle : G p ≤ G q + c
      · rw [if_pos (show eC σ G 307 p ≤ eC σ G 307 q + nI c by rw [eC_at hp, eC_at hq, nI_add]; exact nI_le hle (by omega)), if_pos hle, upN_id rfl, decide_eq_true hle]
        simp
      · rw [if_neg (show ¬ eC σ G 307 p ≤ eC σ G 307 q + nI c by rw [eC_at hp, eC_at hq, nI_add]; exact nI_ge (by omega) (by omega)), if_neg hle, eC_at hq, nI_add, eC_up hp, decide_eq_false hle]
        simp
        rfl
    rcases hv with ⟨v0, rfl, rfl⟩ | ⟨v0, rfl, rfl⟩
    · rw [if_pos v0, if_pos v0]
      exact fin
    · rw [if_neg v0, if_neg v0]
      exact fin
  have hF1 : ∀ r, rlx1 (zlo ζ) (zhi ζ) (fun _ => c) F b r ≤ 99999 := fun r => Nat.le_trans (rlx1_le _ _ _ _ _ r) (hF r)
  have s0 := step F hF f 999999 0 (bd ζ b 0) (bd ζ b 1) hlo hh.2.1 (Or.inl ⟨rfl, rfl, rfl⟩) (by decide)
  have s1 := step (rlx1 (zlo ζ) (zhi ζ) (fun _ => c) F b) hF1 (f || !decide (F (bd ζ b 0) ≤ F (bd ζ b 1) + c)) 999998 1 (bd ζ b 1) (bd ζ b 0) hh.2.1 hlo (Or.inr ⟨by decide, rfl, rfl⟩) (by decide)
  refine Eq.trans s0 (Eq.trans s1 ?_)
  rw [show (999998 : Nat) = 999997 + 1 from rfl, f_L_costs_L92_s, if_pos (by decide), Bool.or_assoc]
  rfl
theorem chL_far {F : Nat → Nat} (hF : ∀ r, F r ≤ 99999) (b : Nat) : chL ζ 99999 F b = false ∧ rlx (zlo ζ) (zhi ζ) (fun _ => 99999) F b = F := by
  have e1 : rlx1 (zlo ζ) (zhi ζ) (fun _ => 99999) F b = F := by
    unfold rlx1
    rw [if_pos (show F (zlo ζ b) ≤ F (zhi ζ b) + 99999 by have := hF (zlo ζ b); omega)]
    exact upN_id rfl
  constructor
  · unfold chL
    rw [e1, decide_eq_true (by have := hF (bd ζ b 0); omega), decide_eq_true (by have := hF (bd ζ b 1); omega)]
    rfl
  · unfold rlx
    rw [e1]
    unfold rlx2
    rw [if_pos (show F (zhi ζ b) ≤ F (zlo ζ b) + 99999 by have := hF (zhi ζ b); omega)]
    exact upN_id rfl
def chN (ζ : Nat → Nat) (E : Nat) (F : Nat → Nat) : Nat → Bool
  | 0 => false
  | n + 1 => chN ζ E F n || (E.testBit n && chL ζ (cst ζ 1 n) (rnd (fun b => E.testBit b) (zlo ζ) (zhi ζ) (cst ζ 1) F n) n)
theorem l_cround (h : yB ζ σ) (hI : zI ζ) {E : Nat} (hE : E < 2 ^ 31) {F : Nat → Nat} (hF : ∀ r, F r ≤ 99999) (K : Int32 → gS → Option gS) : f_L_costs_L53 (nI E) K gFu 0 0 (eC σ F) = K (nI (if chN ζ E F (ζ 4) = true then 1 else 0)) (eC σ (rnd (fun b => E.testBit b) (zlo ζ) (zhi ζ) (cst ζ 1) F (ζ 4))) := by
  have hn := hI.nb
  refine lp0 (fun n i => f_L_costs_L53 (nI E) K n (nI (if chN ζ E F i = true then 1 else 0)) (nI i) (eC σ (rnd (fun b => E.testBit b) (zlo ζ) (zhi ζ) (cst ζ 1) F i))) (ζ 4) _ (by omega) (fun n i hi => ?_) (fun n => ?_)
  · have hb := hI.b hi
    have hF' : ∀ r, rnd (fun b => E.testBit b) (zlo ζ) (zhi ζ) (cst ζ 1) F i r ≤ 99999 := fun r => Nat.le_trans (rnd_le F r i) (hF r)
    have h1 : yB ζ (eC σ (rnd (fun b => E.testBit b) (zlo ζ) (zhi ζ) (cst ζ 1) F i)) := h.e7
    rw [f_L_costs_L53_s, h1.1, if_neg (nI_ge hi (by omega)), rnd, chN]
    by_cases hc : E.testBit i = true
    · rw [if_pos ((hbit1 hE (by omega)).mpr hc), l_min h1 hI hi, ob_some]
      dsimp only
      rw [gLet_eq, gU_self, gLet_eq, show (100 : Int32) = nI 100 from rfl, pk_mul, nI_1, show 100 * bd ζ i 3 + 1 = cst ζ 1 i from rfl, l_c2 h hI hi (by show 100 * bd ζ i 3 + 1 ≤ 99999; omega) hF', if_pos hc, hc, Bool.true_and, nI_1]
      rfl
    · rw [if_neg (fun z => hc ((hbit1 hE (by omega)).mp z)), show (99999 : Int32) = nI 99999 from rfl, l_c2 h hI hi (Nat.le_refl _) hF', (chL_far hF' i).1, (chL_far hF' i).2, if_neg hc, Bool.or_false, nI_1, show (E.testBit i) = false by simpa using hc, Bool.false_and, Bool.or_false]
  · have h1 : yB ζ (eC σ (rnd (fun b => E.testBit b) (zlo ζ) (zhi ζ) (cst ζ 1) F (ζ 4))) := h.e7
    rw [f_L_costs_L53_s, h1.1, if_pos (Int32.le_refl _)]
/-- no change: the costs stand -/
theorem chL_no {c : Nat} {F : Nat → Nat} {b : Nat} (h : chL ζ c F b = false) : rlx (zlo ζ) (zhi ζ) (fun _ => c) F b = F ∧ F (bd ζ b 0) ≤ F (bd ζ b 1) + c ∧ F (bd ζ b 1) ≤ F (bd ζ b 0) + c := by
  unfold chL at h
  rw [Bool.or_eq_false_iff] at h
  have h1 : F (bd ζ b 0) ≤ F (bd ζ b 1) + c := by simpa using h.1
  have e1 : rlx1 (zlo ζ) (zhi ζ) (fun _ => c) F b = F := by
    unfold rlx1
    rw [if_pos h1]
    exact upN_id rfl
  have h2 := h.2
  rw [e1] at h2
  have h2 : F (bd ζ b 1) ≤ F (bd ζ b 0) + c := by simpa using h2
  refine ⟨?_, h1, h2⟩
  unfold rlx
  rw [e1]
  unfold rlx2
  rw [if_pos h2]
  exact upN_id rfl
theorem chN_no {E : Nat} {F : Nat → Nat} : ∀ n, chN ζ E F n = false → rnd (fun b => E.testBit b) (zlo ζ) (zhi ζ) (cst ζ 1) F n = F ∧ ∀ b, b < n → E.testBit b = true → F (bd ζ b 0) ≤ F (bd ζ b 1) + cst ζ 1 b ∧ F (bd ζ b 1) ≤ F (bd ζ b 0) + cst ζ 1 b
  | 0, _ => ⟨rfl, fun b hb _ => absurd hb (Nat.not_lt_zero b)⟩
  | n + 1, h => by
    rw [chN, Bool.or_eq_false_iff] at h
    obtain ⟨h1, h2⟩ := chN_no n h.1
    rw [h1] at h
    rw [rnd, h1]
    by_cases hc : E.testBit n = true
    · have h3 := h.2
      rw [hc, Bool.true_and] at h3
      obtain ⟨q1, q2, q3⟩ := chL_no h3
      rw [if_pos hc]
      refine ⟨q1, fun b hb he => ?_⟩
      rcases Nat.lt_or_ge b n with hbn | hbn
      · exact h2 b hbn he
      · have : b = n := by omega
        subst this
        exact ⟨q2, q3⟩
    · rw [if_neg hc]
      refine ⟨rfl, fun b hb he => ?_⟩
      rcases Nat.lt_or_ge b n with hbn | hbn
      · exact h2 b hbn he
      · have : b = n := by omega
        subst this
        exact absurd he hc
/-- a change: the sum falls -/
theorem sm_mono {F G : Nat → Nat} (h : ∀ r, G r ≤ F r) : ∀ n, sm G n ≤ sm F n
  | 0 => Nat.le_refl _
  | n + 1 => by
    have := sm_mono h n
    have := h n
    rw [sm, sm]
    omega
theorem sm_fall {F G : Nat → Nat} (h : ∀ r, G r ≤ F r) {r : Nat} (hr : G r < F r) : ∀ n, r < n → sm G n < sm F n
  | n + 1, hn => by
    have h1 := h n
    rw [sm, sm]
    rcases Nat.lt_or_ge r n with h2 | h2
    · have := sm_fall h hr n h2
      omega
    · have h3 := sm_mono h n
      have : r = n := by omega
      subst this
      omega
theorem chL_yes (hI : zI ζ) {c : Nat} {F : Nat → Nat} {b : Nat} (hb : b < ζ 4) (h : chL ζ c F b = true) : ∃ r, r < 10 ∧ rlx (zlo ζ) (zhi ζ) (fun _ => c) F b r < F r := by
  have hh := hI.b hb
  have hne : bd ζ b 0 ≠ bd ζ b 1 := by omega
  unfold chL at h
  rw [Bool.or_eq_true] at h
  by_cases h1 : F (bd ζ b 0) ≤ F (bd ζ b 1) + c
  · have e1 : rlx1 (zlo ζ) (zhi ζ) (fun _ => c) F b = F := by
      unfold rlx1
      rw [if_pos h1]
      exact upN_id rfl
    have h2 : ¬ F (bd ζ b 1) ≤ F (bd ζ b 0) + c := by
      rcases h with h | h
      · simp at h
        omega
      · rw [e1] at h
        simpa using h
    refine ⟨bd ζ b 1, hh.2.1, ?_⟩
    unfold rlx
    rw [e1]
    unfold rlx2
    rw [if_neg h2]
    show upN F (zhi ζ b) _ (zhi ζ b) < _
    rw [upN_eq]
    show F (bd ζ b 0) + c < F (bd ζ b 1)
    omega
  · refine ⟨bd ζ b 0, by omega, ?_⟩
    have : rlx (zlo ζ) (zhi ζ) (fun _ => c) F b (bd ζ b 0) ≤ F (bd ζ b 1) + c := rlx_lo (lo := zlo ζ) (hi := zhi ζ) (c := fun _ => c) (b := b) F hne
    omega
theorem chN_yes (hI : zI ζ) {E : Nat} {F : Nat → Nat} : ∀ n, n ≤ ζ 4 → chN ζ E F n = true → sm (rnd (fun b => E.testBit b) (zlo ζ) (zhi ζ) (cst ζ 1) F n) 10 < sm F 10
  | 0, _, h => by simp [chN] at h
  | n + 1, hn, h => by
    rw [chN, Bool.or_eq_true] at h
    have hle := sm_mono (F := F) (G := rnd (fun b => E.testBit b) (zlo ζ) (zhi ζ) (cst ζ 1) F n) (fun r => rnd_le F r n) 10
    have hst : ∀ r, rnd (fun b => E.testBit b) (zlo ζ) (zhi ζ) (cst ζ 1) F (n + 1) r ≤ rnd (fun b => E.testBit b) (zlo ζ) (zhi ζ) (cst ζ 1) F n r := fun r => by
      rw [rnd]
      split
      · exact rlx_le _ n r
      · exact Nat.le_refl _
    rcases h with h | h
    · have := chN_yes hI n (by omega) h
      have := sm_mono hst 10
      omega
    · rw [Bool.and_eq_true] at h
      obtain ⟨r, hr, hlt⟩ := chL_yes hI (show n < ζ 4 by omega) h.2
      have := sm_fall hst (r := r) (by rw [rnd, if_pos h.1]; exact hlt) 10 hr
      omega
/-- what the law's costs are -/
def cD (ζ : Nat → Nat) (E t r : Nat) : Nat := if dst ζ E 1 t r < 99999 then dst ζ E 1 t r else 99999
theorem l_cwhile (h : yB ζ σ) (hI : zI ζ) {E t : Nat} (hE : E < 2 ^ 31) (ht : t < 10) (K : gS → Option gS) : ∀ S n (F : Nat → Nat), sm F 10 ≤ S → S + 2 ≤ n → F t = 0 → (∀ r, F r ≤ 99999) → (∀ r, r < 10 → cD ζ E t r ≤ F r) → f_L_costs_L42 (nI E) K n 1 (eC σ F) = K (eC σ (cD ζ E t)) := by
  intro S
  induction S with
  | zero =>
    intro n F hs hn h0 hF hL
    obtain ⟨n, rfl⟩ := Nat.exists_eq_succ_of_ne_zero (show n ≠ 0 by omega)
    obtain ⟨n, rfl⟩ := Nat.exists_eq_succ_of_ne_zero (show n ≠ 0 by omega)
    rw [f_L_costs_L42_s, if_neg i10, l_cround h hI hE hF]
    have hno : chN ζ E F (ζ 4) = false := by
      cases hc : chN ζ E F (ζ 4)
      · rfl
      · exact absurd (chN_yes hI (ζ 4) (Nat.le_refl _) hc) (by omega)
    obtain ⟨q1, q2⟩ := chN_no (ζ 4) hno
    rw [hno, q1, f_L_costs_L42_s, if_pos (by decide)]
    refine congrArg K (eC_cong fun r hr => Nat.le_antisymm ?_ (hL r hr))
    have := rnd_still (ok_z hI E 1) h0 (fun r _ => Nat.le_trans (hF r) (by decide)) (fun b hb he => q2 b hb he) 9 r hr
    have := hF r
    unfold cD
    split
    · assumption
    · assumption
  | succ S ih =>
    intro n F hs hn h0 hF hL
    obtain ⟨n, rfl⟩ := Nat.exists_eq_succ_of_ne_zero (show n ≠ 0 by omega)
    rw [f_L_costs_L42_s, if_neg i10, l_cround h hI hE hF]
    cases hc : chN ζ E F (ζ 4)
    · obtain ⟨n, rfl⟩ := Nat.exists_eq_succ_of_ne_zero (show n ≠ 0 by omega)
      obtain ⟨q1, q2⟩ := chN_no (ζ 4) hc
      rw [q1, f_L_costs_L42_s, if_pos (by decide)]
      refine congrArg K (eC_cong fun r hr => Nat.le_antisymm ?_ (hL r hr))
      have := rnd_still (ok_z hI E 1) h0 (fun r _ => Nat.le_trans (hF r) (by decide)) (fun b hb he => q2 b hb he) 9 r hr
      have := hF r
      unfold cD
      split
      · assumption
      · assumption
    · have hlt := chN_yes hI (ζ 4) (Nat.le_refl _) hc
      refine ih n _ (by omega) (by omega) (Nat.le_zero.mp (by rw [← h0]; exact rnd_le F t (ζ 4))) (fun r => Nat.le_trans (rnd_le F r (ζ 4)) (hF r)) ?_
      have low : ∀ m, m ≤ ζ 4 → ∀ r, r < 10 → cD ζ E t r ≤ rnd (fun b => E.testBit b) (zlo ζ) (zhi ζ) (cst ζ 1) F m r := by
        intro m
        induction m with
        | zero => exact fun _ => hL
        | succ m ihm =>
          intro hm
          rw [rnd]
          by_cases he : E.testBit m = true
          · rw [if_pos he]
            have ho := ok_z hI E 1 m (by omega) he
            have g1 := gD_fix_lo (ok_z hI E 1) ht (show m < ζ 4 by omega) he
            have g2 := gD_fix_hi (ok_z hI E 1) ht (show m < ζ 4 by omega) he
            have g1 : dst ζ E 1 t (bd ζ m 0) ≤ dst ζ E 1 t (bd ζ m 1) + cst ζ 1 m := g1
            have g2 : dst ζ E 1 t (bd ζ m 1) ≤ dst ζ E 1 t (bd ζ m 0) + cst ζ 1 m := g2
            exact rlx_low _ ho.2.2.1 (ihm (by omega)) ho.1 ho.2.1 (by
              show cD ζ E t (bd ζ m 0) ≤ cD ζ E t (bd ζ m 1) + cst ζ 1 m
              unfold cD
              split <;> split <;> omega) (by
              show cD ζ E t (bd ζ m 1) ≤ cD ζ E t (bd ζ m 0) + cst ζ 1 m
              unfold cD
              split <;> split <;> omega)
          · rw [if_neg he]
            exact ihm (by omega)
      exact low (ζ 4) (Nat.le_refl _)
theorem l_costs (h : yB ζ σ) (hI : zI ζ) {E t : Nat} (hE : E < 2 ^ 31) (ht : t < 10) : f_L_costs (nI t) (nI E) σ = some (eC σ (cD ζ E t)) := by
  unfold f_L_costs
  rw [gLet_eq]
  have init : ∀ K : gS → Option gS, f_L_costs_L9 (nI t) (nI E) K gFu 0 (gU σ 307 (fun _ => 0)) = K (eC σ (fun r => if r = t then 0 else 99999)) := by
    intro K
    refine lp0 (fun n i => f_L_costs_L9 (nI t) (nI E) K n (nI i) (gU σ 307 (fun k => if k < i then nI (if k = t then 0 else 99999) else 0))) 10 _ (by decide) (fun n i hi => ?_) (fun n => ?_) |> Eq.trans (by
      congr 1)
    · rw [f_L_costs_L9_s, if_neg (show ¬ (10 : Int32) ≤ nI i from nI_ge (b := 10) hi (by decide))]
      simp only [gLet_eq]
      rw [gin_nI hi (by decide), gil_nI (by omega), nI_1]
      simp only [gGd_t]
      have e : ∀ v : Int32, v = nI (if i = t then 0 else 99999) → up2 (gU σ 307 (fun k => if k < i then nI (if k = t then 0 else 99999) else 0)) 307 i v = gU σ 307 (fun k => if k < i + 1 then nI (if k = t then 0 else 99999) else 0) := by
        intro v hv
        funext j k
        by_cases hj : j = 307
        · subst hj
          by_cases hk : k = i
          · subst hk
            rw [up2_eq, gU_eq, if_pos (by omega), hv]
          · rw [up2_k hk, gU_eq, gU_eq]
            by_cases h1 : k < i
            · rw [if_pos h1, if_pos (show k < i + 1 by omega)]
            · rw [if_neg h1, if_neg (show ¬ k < i + 1 by omega)]
        · rw [up2_c hj, gU_row hj, gU_row hj]
      by_cases hit : i = t
      · rw [if_pos (show nI i = nI t by rw [hit]), e 0 (by rw [if_pos hit]; rfl)]
      · rw [if_neg (fun z => hit ((nI_eq (by omega) (by omega)).mp z)), e 99999 (by rw [if_neg hit]; rfl)]
    · rw [f_L_costs_L9_s, if_pos (show (10 : Int32) ≤ nI 10 from Int32.le_refl _)]
      rfl
  rw [init]
  have hsum : sm (fun r => if r = t then 0 else 99999) 10 ≤ 999990 := by
    have := sm_le (f := fun r => if r = t then 0 else 99999) (c := 99999) (fun i => by split <;> omega) 10
    omega
  have hlow : ∀ r, r < 10 → cD ζ E t r ≤ (fun r => if r = t then 0 else 99999) r := by
    intro r hr
    unfold cD
    by_cases hrt : r = t
    · subst hrt
      have : dst ζ E 1 r r = 0 := gD_t 9
      rw [this, if_pos (by decide)]
      exact Nat.zero_le _
    · show _ ≤ if r = t then 0 else 99999
      rw [if_neg hrt]
      split <;> omega
  have hfu : 999990 + 2 ≤ gFu := by
    show 999990 + 2 ≤ 1000000
    exact Nat.le_of_ble_eq_true rfl
  have hz : (fun r => if r = t then 0 else 99999) t = 0 := if_pos rfl
  have hF : ∀ r, (fun r => if r = t then 0 else 99999) r ≤ 99999 := fun r => by
    show (if r = t then 0 else 99999) ≤ 99999
    split <;> omega
  exact l_cwhile h hI hE ht (fun s46 => some s46) 999990 gFu (fun r => if r = t then 0 else 99999) hsum hfu hz hF hlow
end LC
