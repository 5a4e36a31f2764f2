section FW
variable {ζ : Nat → Nat} {σ : gS}
/-! the class -/
def ecx (σ : gS) (F : Nat → Nat) : gS := gU σ 299 (fun r => if r < 10 then nI (F r) else σ 299 r)
theorem ecx_at {F : Nat → Nat} {r : Nat} (hr : r < 10) : ecx σ F 299 r = nI (F r) := by simp [ecx, gU, hr]
theorem ecx_row {F : Nat → Nat} {j : Nat} (h : j ≠ 299) : ecx σ F j = σ j := by simp [ecx, gU, h]
theorem ecx_up {F : Nat → Nat} {r v : Nat} (hr : r < 10) : up2 (ecx σ F) 299 r (nI v) = ecx σ (upN F r v) := by
  funext j k
  by_cases hj : j = 299
  · subst hj
    by_cases hk : k = r
    · subst hk
      rw [up2_eq, ecx_at hr, upN_eq]
    · rw [up2_k hk]
      by_cases h10 : k < 10
      · rw [ecx_at h10, ecx_at h10, upN_ne hk]
      · simp [ecx, gU, h10]
  · rw [up2_row hj, ecx_row hj, ecx_row hj]
theorem ecx_cong {F G : Nat → Nat} (h : ∀ r, r < 10 → F r = G r) : ecx σ F = ecx σ G := by
  funext j k
  by_cases hj : j = 299
  · subst hj
    by_cases h10 : k < 10
    · rw [ecx_at h10, ecx_at h10, h k h10]
    · simp [ecx, gU, h10]
  · rw [ecx_row hj, ecx_row hj]
theorem cX_of {σ' : gS} (h : cX ζ σ 1) (hs : ∀ j, j < 33 → σ' j = σ j) : cX ζ σ' 1 := by
  obtain ⟨⟨h1, h2, h3, h4, h5, h6⟩, hb, hg, hs5⟩ := h
  refine ⟨⟨by rw [hs 1 (by decide)]; exact h1, by rw [hs 1 (by decide)]; exact h2, by rw [hs (1 + 2) (by decide)]; exact h3, by rw [hs (1 + 2) (by decide)]; exact h4, by rw [hs (1 + 3) (by decide)]; exact h5, by rw [hs (1 + 23) (by decide)]; exact h6⟩, fun k hk => ?_, fun g hgg => ?_, fun s hss => ?_⟩
  · rw [hs (1 + 5) (by decide), hs (1 + 7) (by decide), hs (1 + 11) (by decide), hs (1 + 13) (by decide), hs (1 + 15) (by decide), hs (1 + 9) (by decide)]
    exact hb k hk
  · rw [hs (1 + 18) (by decide), hs (1 + 20) (by decide), hs (1 + 22) (by decide)]
    exact hg g hgg
  · rw [hs (1 + 25) (by decide), hs (1 + 27) (by decide), hs (1 + 29) (by decide), hs (1 + 31) (by decide)]
    exact hs5 s hss
theorem ecx_cX {F : Nat → Nat} (h : cX ζ σ 1) : cX ζ (ecx σ F) 1 := cX_of h fun j hj => ecx_row (by omega)
theorem x_price (h : cX ζ σ 1) (hI : zI ζ) {b : Nat} (hb : b < ζ 4) : f_X9_priceOf (nI b) σ = some (nI (c10 ζ b), σ) := by
  unfold f_X9_priceOf c10
  rw [a_mi h hI hb, ob_some]
  dsimp only
  rw [show (10 : Int32) = nI 10 from rfl, pk_mul, nI_1]
theorem a_cost {F : Nat → Nat} {r : Nat} (hr : r < 10) : f_X5_at 298 10 (nI r) (ecx σ F) = some (nI (F r), ecx σ F) := by
  rw [at_nI hr (by decide), ecx_at hr]
theorem s_cost {F : Nat → Nat} {r v : Nat} (hr : r < 10) : f_X5_store 298 10 (nI r) (nI v) (ecx σ F) = some (ecx σ (upN F r v)) := by
  rw [store_nI hr (by decide), ecx_up hr]
/-- does a board bring anything nearer -/
def chB (ζ : Nat → Nat) (G : Nat → Nat) (b : Nat) : Bool := !decide (G (bd ζ b 0) ≤ G (bd ζ b 1) + c10 ζ b) || !decide (G (bd ζ b 1) ≤ G (bd ζ b 0) + c10 ζ b)
theorem upN_self {F : Nat → Nat} {k : Nat} : upN F k (F k) = F := by
  funext r
  by_cases h : r = k
  · rw [h, upN_eq]
  · rw [upN_ne h]
theorem x_lower (h : cX ζ σ 1) (hI : zI ζ) {b : Nat} (hb : b < ζ 4) {G : Nat → Nat} (hG : ∀ r, G r ≤ gINF) : f_X9_lowerCosts (nI b) (ecx σ G) = some (nI (if chB ζ G b then 1 else 0), ecx σ (rlx (zlo ζ) (zhi ζ) (c10 ζ) G b)) := by
  have hbb := hI.b hb
  have hc := ecx_cX (F := G) h
  have g0 := hG (bd ζ b 0)
  have g1 := hG (bd ζ b 1)
  have hp : c10 ζ b ≤ 91 := by unfold c10; omega
  unfold gINF at g0 g1
  unfold f_X9_lowerCosts
  rw [a_lo hc hI hb, ob_some]
  dsimp only
  rw [a_hi hc hI hb, ob_some]
  dsimp only
  rw [x_price hc hI hb, ob_some]
  dsimp only
  rw [a_cost hbb.2.1, ob_some]
  dsimp only
  rw [a_cost (show bd ζ b 0 < 10 by omega), ob_some]
  dsimp only
  rw [nI_add]
  have hne : bd ζ b 1 ≠ bd ζ b 0 := by omega
  by_cases h1 : G (bd ζ b 0) ≤ G (bd ζ b 1) + c10 ζ b
  · have e1 : rlx1 (zlo ζ) (zhi ζ) (c10 ζ) G b = G := by
      unfold rlx1
      rw [if_pos h1]
      exact upN_self
    rw [if_pos (nI_le h1 (by omega)), a_cost (show bd ζ b 0 < 10 by omega), ob_some]
    dsimp only
    rw [a_cost hbb.2.1, ob_some]
    dsimp only
    rw [nI_add]
    unfold rlx rlx2 chB
    rw [e1]
    by_cases h2 : G (bd ζ b 1) ≤ G (bd ζ b 0) + c10 ζ b
    · rw [if_pos (nI_le h2 (by omega)), if_neg (by simp [h1, h2]), if_pos h2, upN_self]
      rfl
    · rw [if_neg (nI_ge (by omega) (by omega)), a_cost (show bd ζ b 0 < 10 by omega), ob_some]
      dsimp only
      rw [nI_add, s_cost hbb.2.1, ob_some, if_pos (by simp [h2]), if_neg h2]
      rfl
  · rw [if_neg (nI_ge (by omega) (by omega)), a_cost hbb.2.1, ob_some]
    dsimp only
    rw [nI_add, s_cost (show bd ζ b 0 < 10 by omega), ob_some]
    unfold chB
    rw [if_pos (by simp [h1])]
    have e2 : rlx (zlo ζ) (zhi ζ) (c10 ζ) G b = upN G (bd ζ b 0) (G (bd ζ b 1) + c10 ζ b) := by
      have e1 : rlx1 (zlo ζ) (zhi ζ) (c10 ζ) G b = upN G (bd ζ b 0) (G (bd ζ b 1) + c10 ζ b) := by
        unfold rlx1
        rw [if_neg h1]
      unfold rlx
      rw [e1]
      unfold rlx2
      have a1 : upN G (bd ζ b 0) (G (bd ζ b 1) + c10 ζ b) (zhi ζ b) = G (bd ζ b 1) := upN_ne hne
      have a2 : upN G (bd ζ b 0) (G (bd ζ b 1) + c10 ζ b) (zlo ζ b) = G (bd ζ b 1) + c10 ζ b := upN_eq
      rw [a1, a2, if_pos (by omega)]
      funext r
      by_cases hr : r = zhi ζ b
      · rw [hr, upN_eq, a1]
      · rw [upN_ne hr]
    rw [e2]
    rfl
def chR (ζ : Nat → Nat) (E : Nat) (F : Nat → Nat) : Nat → Bool
  | 0 => false
  | n + 1 => chR ζ E F n || (E.testBit n && chB ζ (rnd (fun b => E.testBit b) (zlo ζ) (zhi ζ) (c10 ζ) F n) n)
theorem x_round (h : cX ζ σ 1) (hI : zI ζ) {E : Nat} (hE : E < 2 ^ 31) (w5 : Int32) (K : Int32 → gS → Option gS) {F : Nat → Nat} (hF : ∀ r, F r ≤ gINF) :
    f_X9_weigh_L42 (nI E) w5 K gFu 0 0 (ecx σ F) = K (nI (if chR ζ E F (ζ 4) then 1 else 0)) (ecx σ (rnd (fun b => E.testBit b) (zlo ζ) (zhi ζ) (c10 ζ) F (ζ 4))) := by
  have hn := hI.nb
  refine lp0 (fun n i => f_X9_weigh_L42 (nI E) w5 K n (nI (if chR ζ E F i then 1 else 0)) (nI i) (ecx σ (rnd (fun b => E.testBit b) (zlo ζ) (zhi ζ) (c10 ζ) F i))) (ζ 4) _ (by omega) (fun n i hi => ?_) (fun n => ?_)
  · have hc := ecx_cX (F := rnd (fun b => E.testBit b) (zlo ζ) (zhi ζ) (c10 ζ) F i) h
    have hGI : ∀ r, rnd (fun b => E.testBit b) (zlo ζ) (zhi ζ) (c10 ζ) F i r ≤ gINF := fun r => Nat.le_trans (rnd_le F r i) (hF r)
    rw [f_X9_weigh_L42_s, x_nb hc, if_neg (nI_ge hi (by omega)), rnd, chR]
    by_cases he : E.testBit i = true
    · rw [holds_t hE (by omega) he, ob_some]
      dsimp only
      rw [if_neg (by decide), x_lower h hI hi hGI, ob_some, if_pos he, he, Bool.true_and]
      dsimp only
      by_cases hq : chB ζ (rnd (fun b => E.testBit b) (zlo ζ) (zhi ζ) (c10 ζ) F i) i = true
      · rw [if_pos hq, if_neg (by decide), hq, Bool.or_true, nI_1]
        rfl
      · rw [if_neg hq, if_pos (by decide), nI_1, Bool.eq_false_iff.mpr hq, Bool.or_false]
    · rw [holds_f hE (by omega) he, ob_some]
      dsimp only
      rw [if_pos rfl, if_neg he, nI_1, Bool.eq_false_iff.mpr he, Bool.false_and, Bool.or_false]
  · rw [f_X9_weigh_L42_s, x_nb (ecx_cX h), if_pos (Int32.le_refl _)]
theorem chR_no {E : Nat} {F : Nat → Nat} : ∀ n, chR ζ E F n = false → rnd (fun b => E.testBit b) (zlo ζ) (zhi ζ) (c10 ζ) F n = F ∧ ∀ b, b < n → E.testBit b = true → F (bd ζ b 0) ≤ F (bd ζ b 1) + c10 ζ b ∧ F (bd ζ b 1) ≤ F (bd ζ b 0) + c10 ζ b
  | 0, _ => ⟨rfl, fun b hb _ => absurd hb (Nat.not_lt_zero b)⟩
  | n + 1, h => by
    rw [chR, Bool.or_eq_false_iff] at h
    obtain ⟨h1, h2⟩ := chR_no n h.1
    rw [h1] at h
    have still : E.testBit n = true → F (bd ζ n 0) ≤ F (bd ζ n 1) + c10 ζ n ∧ F (bd ζ n 1) ≤ F (bd ζ n 0) + c10 ζ n := by
      intro he
      have h3 := h.2
      rw [he, Bool.true_and] at h3
      unfold chB at h3
      simpa using h3
    refine ⟨?_, fun b hb he => ?_⟩
    · rw [rnd, h1]
      by_cases he : E.testBit n = true
      · rw [if_pos he]
        obtain ⟨a, b⟩ := still he
        unfold rlx
        have e1 : rlx1 (zlo ζ) (zhi ζ) (c10 ζ) F n = F := by
          unfold rlx1
          rw [if_pos a]
          exact upN_self
        rw [e1]
        unfold rlx2
        rw [if_pos b]
        exact upN_self
      · rw [if_neg he]
    · rcases Nat.lt_or_ge b n with h3 | h3
      · exact h2 b h3 he
      · have : b = n := by omega
        subst this
        exact still he
theorem x_weigh (h : cX ζ σ 1) (hI : zI ζ) {E t : Nat} (hE : E < 2 ^ 31) (ht : t < 10) : f_X9_weigh (nI E) (nI t) σ = some (ecx σ (dx ζ E t 9)) := by
  have ok := ok10 hI E
  have last : ∀ F : Nat → Nat, (∀ r, r < 10 → dx ζ E t 9 r ≤ F r) → (∀ r, r < 10 → F r ≤ dx ζ E t 9 r) → ecx σ F = ecx σ (dx ζ E t 9) := fun F h1 h2 => ecx_cong fun r hr => Nat.le_antisymm (h2 r hr) (h1 r hr)
  have key : ∀ d i n, i + d = 10 → d < n → f_X9_weigh_L24 (nI E) n 1 (nI i) (ecx σ (rds (ζ 4) (fun b => E.testBit b) (zlo ζ) (zhi ζ) (c10 ζ) t i)) = some (ecx σ (dx ζ E t 9)) := by
    intro d
    induction d with
    | zero =>
      intro i n hi hn
      obtain ⟨k, rfl⟩ : ∃ k, n = k + 1 := ⟨n - 1, by omega⟩
      have : i = 10 := by omega
      subst this
      rw [f_X9_weigh_L24_s, if_pos (show (10 : Int32) ≤ nI 10 from Int32.le_refl _)]
      rw [last _ (rds_low ok ht 10) (fun r hr => ?_)]
      have := rds_up (t := t) ok 10 r hr
      rwa [gD_nine ok ht 10 (by decide) r hr] at this
    | succ d ih =>
      intro i n hi hn
      obtain ⟨k, rfl⟩ : ∃ k, n = k + 1 := ⟨n - 1, by omega⟩
      rw [f_X9_weigh_L24_s, if_neg (show ¬ (10 : Int32) ≤ nI i from nI_ge (a := i) (b := 10) (by omega) (by decide)), if_neg (by decide), x_round h hI hE _ _ (rds_INF i)]
      rw [nI_1]
      by_cases hq : chR ζ E (rds (ζ 4) (fun b => E.testBit b) (zlo ζ) (zhi ζ) (c10 ζ) t i) (ζ 4) = true
      · rw [if_pos hq]
        exact ih (i + 1) k (by omega) (by omega)
      · rw [if_neg hq]
        obtain ⟨q1, q2⟩ := chR_no (ζ 4) (Bool.eq_false_iff.mpr hq)
        rw [q1]
        obtain ⟨j, rfl⟩ : ∃ j, k = j + 1 := ⟨k - 1, by omega⟩
        have e0 : rds (ζ 4) (fun b => E.testBit b) (zlo ζ) (zhi ζ) (c10 ζ) t i t = 0 := by
          have := rds_up (t := t) ok i t ht
          rw [gD_t] at this
          omega
        rw [last _ (rds_low ok ht i) (fun r hr => rnd_still ok e0 (fun r _ => rds_INF i r) q2 9 r hr)]
        rw [f_X9_weigh_L24_s]
        by_cases hx : (10 : Int32) ≤ nI (i + 1)
        · rw [if_pos hx]
        · rw [if_neg hx, if_pos (show nI 0 = 0 from rfl)]
  unfold f_X9_weigh
  have hfill : f_X5_fill 298 10 1000000 σ = some (ecx σ (fun _ => gINF)) := by
    unfold f_X5_fill
    have h0 : σ = gU σ 299 (fun r => if r < 0 then nI gINF else σ 299 r) := by
      funext j k
      by_cases hj : j = 299
      · subst hj; simp [gU]
      · simp [gU, hj]
    have := lp0 (fun n i => f_X5_fill_L2 298 10 1000000 n (nI i) (gU σ 299 (fun r => if r < i then nI gINF else σ 299 r))) 10 (some (ecx σ (fun _ => gINF))) (by decide) (fun n i hi => ?_) (fun n => ?_)
    · rw [← h0] at this
      exact this
    · rw [f_X5_fill_L2_s, if_neg (show ¬ Int32.ofNat 10 ≤ nI i from nI_ge hi (by decide)), gin_nI hi (by decide), gGd_t, gLet_eq, gil_nI (by omega), nI_1]
      congr 1
      funext j k
      by_cases hj : j = 299
      · subst hj
        by_cases hk : k = i
        · subst hk
          rw [up2_eq]
          simp [gU]
          rfl
        · rw [up2_k hk]
          have : k < i ↔ k < i + 1 := by omega
          simp [gU, this]
      · rw [up2_row hj]
        simp [gU, hj]
    · rw [f_X5_fill_L2_s, if_pos (show Int32.ofNat 10 ≤ nI 10 from Int32.le_refl _)]
      rfl
  rw [hfill, ob_some]
  have hs : f_X5_store 298 10 (nI t) 0 (ecx σ (fun _ => gINF)) = some (ecx σ (rds (ζ 4) (fun b => E.testBit b) (zlo ζ) (zhi ζ) (c10 ζ) t 0)) := by
    have h1 := s_cost (σ := σ) (F := fun _ => gINF) (v := 0) ht
    refine Eq.trans h1 ?_
    congr 1
  rw [hs, ob_some]
  exact key 10 0 gFu rfl (gFu_lt (by decide))
theorem x_first (h : cX ζ σ 1) (hI : zI ζ) {E t r : Nat} (hE : E < 2 ^ 31) (ht : t < 10) (hr10 : r < 10) (hr : dst ζ E 1 t r < gINF) (hrt : r ≠ t) (hD : ∀ r, r < 10 → σ 299 r = nI (dx ζ E t 9 r)) : f_X9_firstStep (nI E) (nI r) σ = some (nI (nx ζ E t r), σ) := by
  have hn := hI.nb
  obtain ⟨n1, n2, n3⟩ := nx_ok hI ht hr10 hr hrt
  have hlt : E &&& touch ζ (2 ^ r) < 2 ^ 31 := Nat.and_lt_two_pow _ (lt31 (touch_lt hI _) (by decide))
  have hac : ∀ r, r < 10 → f_X5_at 298 10 (nI r) σ = some (nI (dx ζ E t 9 r), σ) := fun r hr => by rw [at_nI hr (by decide), hD r hr]
  have key : ∀ d i n, i + d = nx ζ E t r → d < n → f_X9_firstStep_L14 (nI r) (nI (E &&& touch ζ (2 ^ r))) n (nI i) σ = some (nI (nx ζ E t r), σ) := by
    intro d
    induction d with
    | zero =>
      intro i n hi hn'
      obtain ⟨k, rfl⟩ : ∃ k, n = k + 1 := ⟨n - 1, by omega⟩
      have hin : i = nx ζ E t r := by omega
      rw [← hin] at n1 n2 ⊢
      have hib := hI.b n1
      unfold fit at n2
      simp only [Bool.and_eq_true, decide_eq_true_eq] at n2
      have hcand : (E &&& touch ζ (2 ^ r)).testBit i = true := by
        rw [Nat.testBit_and, n2.1, touch_bit, decide_eq_true n1, Bool.true_and, Bool.true_and, Nat.testBit_two_pow, Nat.testBit_two_pow]
        have h2 := n2.2.1
        unfold atB at h2
        simp only [Bool.or_eq_true, decide_eq_true_eq] at h2 ⊢
        rcases h2 with q | q
        · exact Or.inl q.symm
        · exact Or.inr q.symm
      have hoth := oth_lt (r := r) hI n1
      rw [f_X9_firstStep_L14_s, x_nb h, if_neg (nI_ge n1 (by omega)), x_beyond h hI n1 (by omega), ob_some]
      dsimp only
      rw [hac _ hoth, ob_some]
      dsimp only
      rw [holds_t hlt (by omega) hcand, ob_some]
      dsimp only
      rw [if_neg (by decide), x_price h hI n1, ob_some]
      dsimp only
      rw [hac _ hr10, ob_some]
      dsimp only
      have hten := (fit_ten hI hr hrt n1).mpr n2.2.2
      rw [nI_add, if_pos (by
        rw [← hten]
        unfold c10
        congr 1
        omega)]
    | succ d ih =>
      intro i n hi hn'
      obtain ⟨k, rfl⟩ : ∃ k, n = k + 1 := ⟨n - 1, by omega⟩
      have hib : i < ζ 4 := by omega
      have hbb := hI.b hib
      have hoth := oth_lt (r := r) hI hib
      have hno := n3 i (by omega)
      rw [f_X9_firstStep_L14_s, x_nb h, if_neg (nI_ge hib (by omega)), x_beyond h hI hib (by omega), ob_some]
      dsimp only
      rw [hac _ hoth, ob_some]
      dsimp only
      by_cases hcand : (E &&& touch ζ (2 ^ r)).testBit i = true
      · rw [holds_t hlt (by omega) hcand, ob_some]
        dsimp only
        rw [if_neg (by decide), x_price h hI hib, ob_some]
        dsimp only
        rw [hac _ hr10, ob_some]
        dsimp only
        rw [Nat.testBit_and, Bool.and_eq_true, touch_bit, Bool.and_eq_true, Nat.testBit_two_pow, Nat.testBit_two_pow, Bool.or_eq_true, decide_eq_true_eq, decide_eq_true_eq, decide_eq_true_eq] at hcand
        have hat : atB ζ i r = true := by
          unfold atB
          simp only [Bool.or_eq_true, decide_eq_true_eq]
          rcases hcand.2.2 with q | q
          · exact Or.inl q.symm
          · exact Or.inr q.symm
        have hne : ¬ (dx ζ E t 9 (oth ζ i r) + c10 ζ i = dx ζ E t 9 r) := by
          intro z
          apply hno
          have := (fit_ten hI hr hrt hib).mp (by rw [← z]; unfold c10; omega)
          unfold fit
          rw [hcand.1, hat]
          simp [this]
        have l1 := dx_INF (ζ := ζ) (E := E) (t := t) 9 (oth ζ i r)
        have l2 := dx_INF (ζ := ζ) (E := E) (t := t) 9 r
        have l3 : c10 ζ i ≤ 91 := by unfold c10; omega
        rw [nI_add, if_neg (fun z => hne ((n_inj (by omega) (by omega)).mp z)), nI_1]
        exact ih (i + 1) k (by omega) (by omega)
      · rw [holds_f hlt (by omega) hcand, ob_some]
        dsimp only
        rw [if_pos rfl, nI_1]
        exact ih (i + 1) k (by omega) (by omega)
  unfold f_X9_firstStep
  rw [shl1 _ (by omega), x_touching h hI (lt31 (p2_lt hr10) (by decide)), ob_some]
  dsimp only
  rw [gLet_eq, n_and]
  exact key _ 0 gFu (Nat.zero_add _) (gFu_lt (by omega))
/-- only the class's scratch way is written -/
def eqX (σ σ' : gS) : Prop := ∀ j, j < 297 → σ' j = σ j
/-- what the way holds behind a search -/
def wayX (ζ : Nat → Nat) (E t r : Nat) (σ' : gS) : Prop := if dst ζ E 1 t r < gINF then σ' 297 2 = 1 ∧ σ' 297 3 = nI (psm ζ E t r (pl ζ E t r)) ∧ σ' 297 4 = nI (pl ζ E t r) ∧ ∀ i, i < pl ζ E t r → σ' 301 i = nI (pb ζ E t r i) else σ' 297 2 = 0
theorem x_find (h : cX ζ σ 1) (hI : zI ζ) {E t r : Nat} (hE : E < 2 ^ 31) (ht : t < 10) (hr10 : r < 10) : ∃ σ', f_X9_find (nI E) (nI r) (nI t) σ = some σ' ∧ eqX σ σ' ∧ wayX ζ E t r σ' := by
  unfold f_X9_find
  rw [x_weigh h hI hE ht, ob_some, a_cost hr10, ob_some]
  dsimp only
  rw [gLet_eq]
  by_cases hfin : dst ζ E 1 t r < gINF
  · have hxf : dx ζ E t 9 r < 1000000 := by
      rcases two_all hI (E := E) (t := t) 9 (Nat.le_refl _) r with ⟨h1, h2⟩ | ⟨M, B, h1, h2, h3, h4, h5⟩
      · rw [dm_dst, h2] at hfin; exact absurd hfin (by decide)
      · omega
    rw [if_neg (show ¬ (1000000 : Int32) ≤ nI (dx ζ E t 9 r) from nI_ge (b := 1000000) hxf (by decide))]
    dsimp only
    rw [show gbo 1 = true from rfl, gGd_t, gLet_eq, gLet_eq, gLet_eq]
    obtain ⟨w1, w2, w3, w4⟩ := way_ok hI ht hr10 hfin
    have key : ∀ d i n (s : gS), i + d = pl ζ E t r → d < n → cX ζ s 1 → (∀ r, r < 10 → s 299 r = nI (dx ζ E t 9 r)) → s 297 2 = 1 → s 297 3 = nI (psm ζ E t r i) → s 297 4 = nI i → (∀ j, j < i → s 301 j = nI (pb ζ E t r j)) → ∃ σ', f_X9_find_L46 (nI E) (nI t) n (nI (pr ζ E t r i)) (nI i) s = some σ' ∧ eqX s σ' ∧ σ' 297 2 = 1 ∧ σ' 297 3 = nI (psm ζ E t r (pl ζ E t r)) ∧ σ' 297 4 = nI (pl ζ E t r) ∧ ∀ j, j < pl ζ E t r → σ' 301 j = nI (pb ζ E t r j) := by
      intro d
      induction d with
      | zero =>
        intro i n s hi hn hc hD h2 h3 h4 hs
        obtain ⟨k, rfl⟩ : ∃ k, n = k + 1 := ⟨n - 1, by omega⟩
        have hii : i = pl ζ E t r := by omega
        refine ⟨s, ?_, fun j _ => rfl, h2, by rw [← hii]; exact h3, by rw [← hii]; exact h4, fun j hj => hs j (by omega)⟩
        rw [f_X9_find_L46_s]
        by_cases hx : (10 : Int32) ≤ nI i
        · rw [if_pos hx]
        · rw [if_neg hx, h2, if_neg (by decide), hii, w4, if_pos rfl]
      | succ d ih =>
        intro i n s hi hn hc hD h2 h3 h4 hs
        obtain ⟨k, rfl⟩ : ∃ k, n = k + 1 := ⟨n - 1, by omega⟩
        obtain ⟨p1, p2, p3, p4⟩ := w2 i (by omega)
        have p5 := w3 i (by omega)
        obtain ⟨n1, n2, -⟩ := nx_ok hI ht p1 p2 p5
        have hib := hI.b n1
        rw [f_X9_find_L46_s, if_neg (show ¬ (10 : Int32) ≤ nI i from nI_ge (a := i) (b := 10) (by omega) (by decide)), h2, if_neg (by decide), if_neg (fun z => p5 ((n_inj (by omega) (by omega)).mp z)), x_first hc hI hE ht p1 p2 p5 hD, ob_some]
        dsimp only
        rw [store_nI (show i < 10 by omega) (by decide), ob_some]
        have hc2 : cX ζ (up2 s (300 + 1) i (nI (nx ζ E t (pr ζ E t r i)))) 1 := cX_of hc fun j hj => up2_row (by omega)
        rw [a_mi hc2 hI n1, ob_some]
        dsimp only
        rw [gLet_eq, gLet_eq]
        generalize hs20 : up2 (up2 (up2 s (300 + 1) i (nI (nx ζ E t (pr ζ E t r i)))) 297 3 (up2 s (300 + 1) i (nI (nx ζ E t (pr ζ E t r i))) 297 3 + nI (bd ζ (nx ζ E t (pr ζ E t r i)) 3))) 297 4 (up2 (up2 s (300 + 1) i (nI (nx ζ E t (pr ζ E t r i)))) 297 3 (up2 s (300 + 1) i (nI (nx ζ E t (pr ζ E t r i))) 297 3 + nI (bd ζ (nx ζ E t (pr ζ E t r i)) 3)) 297 4 + 1) = s20
        have hrow : ∀ j, j ≠ 301 → j ≠ 297 → s20 j = s j := fun j a b => by rw [← hs20, up2_row b, up2_row b, up2_row a]
        have hc20 : cX ζ s20 1 := cX_of hc fun j hj => hrow j (by omega) (by omega)
        rw [x_beyond hc20 hI n1 (by omega), ob_some]
        dsimp only
        rw [nI_1]
        have e792 : s20 297 2 = 1 := by rw [← hs20, up2_k (by decide), up2_k (by decide), up2_c (by decide)]; exact h2
        have e793 : s20 297 3 = nI (psm ζ E t r (i + 1)) := by
          rw [← hs20, up2_k (by decide), up2_eq, up2_c (by decide), h3, nI_add]
          rfl
        have e794 : s20 297 4 = nI (i + 1) := by
          rw [← hs20, up2_eq, up2_k (by decide), up2_c (by decide), h4, nI_1]
        have e83 : ∀ j, j < i + 1 → s20 301 j = nI (pb ζ E t r j) := by
          intro j hj
          rw [← hs20, up2_c (by decide), up2_c (by decide)]
          by_cases hji : j = i
          · subst hji
            rw [show (301 : Nat) = 300 + 1 from rfl, up2_eq]
            rfl
          · rw [show (301 : Nat) = 300 + 1 from rfl, up2_k hji]
            exact hs j (by omega)
        obtain ⟨σ', a1, a2, a3⟩ := ih (i + 1) k s20 (by omega) (by omega) hc20 (fun r hr => by rw [hrow 299 (by decide) (by decide)]; exact hD r hr) e792 e793 e794 e83
        exact ⟨σ', a1, fun j hj => (a2 j hj).trans (hrow j (by omega) (by omega)), a3⟩
    have hrow0 : ∀ j, j ≠ 297 → up2 (up2 (up2 (ecx σ (dx ζ E t 9)) 297 2 1) 297 3 0) 297 4 0 j = ecx σ (dx ζ E t 9) j := fun j a => by rw [up2_row a, up2_row a, up2_row a]
    obtain ⟨σ', a1, a2, a3⟩ := key (pl ζ E t r) 0 gFu (up2 (up2 (up2 (ecx σ (dx ζ E t 9)) 297 2 1) 297 3 0) 297 4 0) (by omega) (gFu_lt (by omega)) (cX_of (ecx_cX h) fun j hj => hrow0 j (by omega)) (fun r hr => by rw [hrow0 299 (by decide)]; exact ecx_at hr) (by rw [up2_k (by decide), up2_k (by decide), up2_eq]) (by rw [up2_k (by decide), up2_eq]; rfl) (by rw [up2_eq]; rfl) (fun j hj => absurd hj (Nat.not_lt_zero j))
    refine ⟨σ', a1, fun j hj => ?_, ?_⟩
    · rw [a2 j hj, hrow0 j (by omega), ecx_row (by omega)]
    · unfold wayX
      rw [if_pos hfin]
      exact a3
  · have hxf : dx ζ E t 9 r = 1000000 := by
      rcases two_all hI (E := E) (t := t) 9 (Nat.le_refl _) r with ⟨h1, h2⟩ | ⟨M, B, h1, h2, h3, h4, h5⟩
      · exact h1
      · rw [dm_dst, h5] at hfin
        unfold gINF at hfin
        omega
    rw [hxf, if_pos (show (1000000 : Int32) ≤ nI 1000000 from Int32.le_refl _)]
    dsimp only
    rw [show gbo 0 = true from rfl, gGd_t, gLet_eq, gLet_eq, gLet_eq]
    have hf0 : up2 (up2 (up2 (ecx σ (dx ζ E t 9)) 297 2 0) 297 3 0) 297 4 0 297 2 = 0 := by rw [up2_k (by decide), up2_k (by decide), up2_eq]
    refine ⟨up2 (up2 (up2 (ecx σ (dx ζ E t 9)) 297 2 0) 297 3 0) 297 4 0, ?_, fun j hj => ?_, ?_⟩
    · show f_X9_find_L46 (nI E) (nI t) (999999 + 1) (nI r) (nI 0) _ = _
      rw [f_X9_find_L46_s, if_neg (by decide), hf0, if_pos rfl]
    · rw [up2_row (by omega), up2_row (by omega), up2_row (by omega), ecx_row (by omega)]
    · unfold wayX
      rw [if_neg hfin]
      exact hf0
theorem x_findWay (h : cX ζ σ 1) (hI : zI ζ) {g t : Nat} (hg : g < 4) (ht : t < 10) : ∃ σ', f_X10_findWay (nI g) (nI t) σ = some σ' ∧ eqX σ σ' ∧ wayX ζ (fre ζ g) t (gh ζ g 0) σ' := by
  unfold f_X10_findWay
  rw [x_free h hI hg, ob_some]
  dsimp only
  rw [a_grm h hg, ob_some]
  dsimp only
  obtain ⟨σ', a1, a2, a3⟩ := x_find h hI (lt31 (fre_lt hI g) (by decide)) ht (hI.g hg).1
  exact ⟨σ', by rw [a1]; rfl, a2, a3⟩
end FW
