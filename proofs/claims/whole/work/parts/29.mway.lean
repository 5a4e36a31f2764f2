section MW
variable {ζ : Nat → Nat} {σ : gS}
/-- the check's scratch alone is written -/
def eqM (σ σ' : gS) : Prop := (∀ j, 1 ≤ j → j ≤ 5 → σ' j = σ j) ∧ σ' 0 2 = σ 0 2 ∧ σ' 0 6 = σ 0 6
theorem eqM.rf : eqM σ σ := ⟨fun _ _ _ => rfl, rfl, rfl⟩
theorem eqM.tr {a b c : gS} (h1 : eqM a b) (h2 : eqM b c) : eqM a c := ⟨fun j x y => (h2.1 j x y).trans (h1.1 j x y), h2.2.1.trans h1.2.1, h2.2.2.trans h1.2.2⟩
theorem eqM.cM {σ' : gS} (h : eqM σ σ') (hc : cM ζ σ) : cM ζ σ' := fun k hk => by rw [h.1 1 (by decide) (by decide)]; exact hc k hk
theorem eqM_enc {F : Nat → Nat} : eqM σ (enc σ F) := ⟨fun j _ h5 => enc_row (by omega), by rw [enc_row (by decide)], by rw [enc_row (by decide)]⟩
theorem m_pick (h : cM ζ σ) (hI : zI ζ) {E t r : Nat} (hE : E < 2 ^ 31) (hr10 : r < 10) (hex : nx ζ E t r < ζ 4) (w2 : Int32) (K : Int32 → gS → Option gS) (hD : ∀ r, r < 10 → σ 6 r = nI (dst ζ E 1 t r)) :
    f_X11_findWay_L76 w2 (nI E) (nI r) K gFu (-6) (σ 1 4 - 1) σ = K (nI (nx ζ E t r)) σ := by
  have hn := hI.nb
  -- from board i - 1 downwards, best being the least that fits at i or above, or none
  have key : ∀ i n best, i ≤ ζ 4 → i < n → (nx ζ E t r < i ∨ best = nI (nx ζ E t r)) → f_X11_findWay_L76 w2 (nI E) (nI r) K n best (nI i - 1) σ = K (nI (nx ζ E t r)) σ := by
    intro i
    induction i with
    | zero =>
      intro n best _ hn' hb
      obtain ⟨k, rfl⟩ : ∃ k, n = k + 1 := ⟨n - 1, by omega⟩
      rw [f_X11_findWay_L76_s, if_pos (show nI 0 - 1 < 0 by decide)]
      rcases hb with q | q
      · exact absurd q (Nat.not_lt_zero _)
      · rw [q]
    | succ i ih =>
      intro n best hi hn' hb
      obtain ⟨k, rfl⟩ : ∃ k, n = k + 1 := ⟨n - 1, by omega⟩
      have hib : i < ζ 4 := by omega
      have hbb := hI.b hib
      have hoth := oth_lt (r := r) hI hib
      have l1 := dst_le ζ E 1 t (oth ζ i r)
      have l2 := dst_le ζ E 1 t r
      unfold gINF at l1 l2
      rw [f_X11_findWay_L76_s, nI_pred, if_neg (nI_pos (by omega)), gLet_eq, gLet_eq]
      have skip : ∀ s : gS, s = σ → ¬ fit ζ E t r i = true → (fun (j16 : Int32) (s17 : gS) => if j16 = 0 then f_X11_findWay_L76 w2 (nI E) (nI r) K k best (nI i + (-1)) s17 else f_X11_findWay_L76 w2 (nI E) (nI r) K k (nI i) (nI i + (-1)) s17) 0 s = K (nI (nx ζ E t r)) σ := by
        intro s hs hf
        subst hs
        dsimp only
        rw [if_pos rfl, show nI i + (-1) = nI i - 1 by rw [Int32.sub_eq_add_neg]]
        refine ih k best (by omega) (by omega) ?_
        rcases hb with q | q
        · refine Or.inl ?_
          rcases Nat.lt_or_ge (nx ζ E t r) i with z | z
          · exact z
          · have : nx ζ E t r = i := by omega
            exact absurd (by rw [← this]; exact ls_yes _ _ hex) hf
        · exact Or.inr q
      by_cases he : E.testBit i = true
      · rw [if_pos ((hbit1 hE (by omega)).mpr he), m_isAt h hI hib (by omega), ob_some]
        dsimp only
        by_cases ha : atB ζ i r = true
        · rw [if_pos ha, if_neg (by decide), m_across h hI hib (by omega), ob_some]
          dsimp only
          rw [gin_nI hoth (by decide), gGd_t, m_b3 h hI hib, ob_some]
          dsimp only
          rw [gin_nI hr10 (by decide), gGd_t, gil_nI (by omega), gil_nI (by omega)]
          have hcond : (σ 6 (oth ζ i r) + 100 * nI (bd ζ i 3) + 1 = σ 6 r) ↔ (dst ζ E 1 t (oth ζ i r) + 100 * bd ζ i 3 + 1 = dst ζ E 1 t r) := by
            rw [hD _ hoth, hD _ hr10, show (100 : Int32) = nI 100 from rfl, pk_mul, nI_add, nI_1, n_inj (by omega) (by omega)]
          by_cases hf : dst ζ E 1 t (oth ζ i r) + 100 * bd ζ i 3 + 1 = dst ζ E 1 t r
          · have hfit : fit ζ E t r i = true := by
              unfold fit
              rw [he, ha]
              simp only [Bool.true_and, decide_eq_true_eq]
              omega
            rw [if_pos (hcond.mpr hf), if_neg (by decide), show nI i + (-1) = nI i - 1 by rw [Int32.sub_eq_add_neg]]
            refine ih k (nI i) (by omega) (by omega) ?_
            rcases Nat.lt_or_ge (nx ζ E t r) i with z | z
            · exact Or.inl z
            · refine Or.inr ?_
              have : nx ζ E t r = i := by
                refine Nat.le_antisymm ?_ z
                refine Nat.le_of_not_lt fun q => ?_
                exact ls_no (fit ζ E t r) (ζ 4) i q hfit
              rw [this]
          · rw [if_neg (fun z => hf (hcond.mp z))]
            refine skip σ rfl (fun z => hf ?_)
            have := fit_dst z
            omega
        · rw [if_neg ha, if_pos (by decide)]
          refine skip σ rfl (fun z => ha ?_)
          unfold fit at z
          simp only [Bool.and_eq_true] at z
          exact z.2.1
      · rw [if_neg (fun z => he ((hbit1 hE (by omega)).mp z))]
        refine skip σ rfl (fun z => he ?_)
        unfold fit at z
        simp only [Bool.and_eq_true] at z
        exact z.1
  rw [m_nb h]
  exact key (ζ 4) gFu (-6) (Nat.le_refl _) (gFu_lt (by omega)) (Or.inl hex)
def wayM (ζ : Nat → Nat) (E t r : Nat) (σ' : gS) : Prop := if dst ζ E 1 t r < gINF then σ' 0 10 = nI (psm ζ E t r (pl ζ E t r)) ∧ σ' 0 9 = nI (pl ζ E t r) ∧ ∀ i, i < pl ζ E t r → σ' 7 i = nI (pb ζ E t r i) else σ' 0 9 = (-6)
theorem m_findWay (h : cM ζ σ) (hI : zI ζ) {g t : Nat} (hg : g < 4) (ht : t < 10) : ∃ σ', f_X11_findWay (nI g) (nI t) σ = some σ' ∧ eqM σ σ' ∧ wayM ζ (fre ζ g) t (gh ζ g 0) σ' := by
  have hE := lt31 (fre_lt hI g) (by decide)
  have hr10 := (hI.g hg).1
  have hc := enc_cM (F := dst ζ (fre ζ g) 1 t) h
  have l2 := dst_le ζ (fre ζ g) 1 t (gh ζ g 0)
  unfold f_X11_findWay
  rw [m_free h hI hg, ob_some]
  dsimp only
  rw [m_measure1 h hI hE ht, ob_some, m_roomOf hc hg, ob_some]
  dsimp only
  rw [gin_nI hr10 (by decide), gGd_t, gLet_eq, gil_nI (by omega)]
  generalize hEE : fre ζ g = E at hE hc l2 ⊢
  generalize hrr : gh ζ g 0 = r at hr10 l2 ⊢
  have hat : enc σ (dst ζ E 1 t) 6 r = nI (dst ζ E 1 t r) := enc_at hr10
  by_cases hfin : dst ζ E 1 t r < gINF
  · rw [if_pos (by rw [hat]; exact (show nI (dst ζ E 1 t r) < (1000000 : Int32) from nI_lt (b := 1000000) hfin (by decide)))]
    dsimp only
    rw [gLet_eq, gLet_eq]
    obtain ⟨w1, w2, w3, w4⟩ := way_ok hI ht hr10 hfin
    have key : ∀ d i n (s : gS), i + d = pl ζ E t r → d < n → cM ζ s → (∀ r, r < 10 → s 6 r = nI (dst ζ E 1 t r)) → s 0 9 = nI i → s 0 10 = nI (psm ζ E t r i) → (∀ j, j < i → s 7 j = nI (pb ζ E t r j)) → ∃ σ', f_X11_findWay_L47 (nI t) (nI E) n (nI (pr ζ E t r i)) s = some σ' ∧ eqM s σ' ∧ σ' 0 10 = nI (psm ζ E t r (pl ζ E t r)) ∧ σ' 0 9 = nI (pl ζ E t r) ∧ ∀ j, j < pl ζ E t r → σ' 7 j = nI (pb ζ E t r j) := by
      intro d
      induction d with
      | zero =>
        intro i n s hi hn hcs hD h9 h10 h7
        obtain ⟨k, rfl⟩ : ∃ k, n = k + 1 := ⟨n - 1, by omega⟩
        have hii : i = pl ζ E t r := by omega
        refine ⟨s, ?_, eqM.rf, by rw [← hii]; exact h10, by rw [← hii]; exact h9, fun j hj => h7 j (by omega)⟩
        rw [f_X11_findWay_L47_s]
        by_cases hx : s 0 9 = (-6)
        · rw [if_pos hx]
        · rw [if_neg hx, hii, w4, if_pos rfl]
      | succ d ih =>
        intro i n s hi hn hcs hD h9 h10 h7
        obtain ⟨k, rfl⟩ : ∃ k, n = k + 1 := ⟨n - 1, by omega⟩
        obtain ⟨p1, p2, p3, p4⟩ := w2 i (by omega)
        have p5 := w3 i (by omega)
        obtain ⟨n1, n2, -⟩ := nx_ok hI ht p1 p2 p5
        have hib := hI.b n1
        rw [f_X11_findWay_L47_s, h9, if_neg (by rw [show (-6 : Int32) = nI (2 ^ 32 - 6) by decide, n_inj (by omega) (by decide)]; omega), if_neg (fun z => p5 ((n_inj (by omega) (by omega)).mp z)), gLet_eq, m_pick hcs hI hE p1 n1 _ _ hD]
        rw [h9, gin_nI (show i < 10 by omega) (by decide), gGd_t, gil_nI (by omega), gLet_eq, gLet_eq]
        generalize hs33 : up2 (up2 s 7 i (nI (nx ζ E t (pr ζ E t r i)))) 0 9 (up2 s 7 i (nI (nx ζ E t (pr ζ E t r i))) 0 9 + 1) = s33
        have hc33 : cM ζ s33 := fun q hq => by rw [← hs33, up2_row (by decide), up2_row (by decide)]; exact hcs q hq
        rw [m_b3 hc33 hI n1, ob_some]
        dsimp only
        rw [gLet_eq]
        generalize hs36 : up2 s33 0 10 (s33 0 10 + nI (bd ζ (nx ζ E t (pr ζ E t r i)) 3)) = s36
        have hc36 : cM ζ s36 := fun q hq => by rw [← hs36, up2_row (by decide)]; exact hc33 q hq
        rw [m_across hc36 hI n1 (by omega), ob_some]
        dsimp only
        have hrow : ∀ j, j ≠ 0 → j ≠ 7 → s36 j = s j := fun j a b => by rw [← hs36, up2_row a, ← hs33, up2_row a, up2_row b]
        have e9 : s36 0 9 = nI (i + 1) := by rw [← hs36, up2_k (by decide), ← hs33, up2_eq, up2_c (by decide), h9, nI_1]
        have e10 : s36 0 10 = nI (psm ζ E t r (i + 1)) := by
          rw [← hs36, up2_eq, ← hs33, up2_k (by decide), up2_c (by decide), h10, nI_add]
          rfl
        have e7 : ∀ j, j < i + 1 → s36 7 j = nI (pb ζ E t r j) := by
          intro j hj
          rw [← hs36, up2_c (by decide), ← hs33, up2_c (by decide)]
          by_cases hji : j = i
          · subst hji
            rw [up2_eq]
            rfl
          · rw [up2_k hji]
            exact h7 j (by omega)
        have eq36 : eqM s s36 := by
          refine ⟨fun j a b => hrow j (by omega) (by omega), ?_, ?_⟩
          · rw [← hs36, up2_k (by decide), ← hs33, up2_k (by decide), up2_c (by decide)]
          · rw [← hs36, up2_k (by decide), ← hs33, up2_k (by decide), up2_c (by decide)]
        obtain ⟨σ', a1, a2, a3⟩ := ih (i + 1) k s36 (by omega) (by omega) hc36 (fun r hr => by rw [hrow 6 (by decide) (by decide)]; exact hD r hr) e9 e10 e7
        exact ⟨σ', a1, eq36.tr a2, a3⟩
    have hs10 : eqM σ (up2 (up2 (enc σ (dst ζ E 1 t)) 0 9 0) 0 10 0) := by
      refine ⟨fun j a b => ?_, ?_, ?_⟩
      · rw [up2_row (by omega), up2_row (by omega), enc_row (by omega)]
      · rw [up2_k (by decide), up2_k (by decide), enc_row (by decide)]
      · rw [up2_k (by decide), up2_k (by decide), enc_row (by decide)]
    obtain ⟨σ', a1, a2, a3⟩ := key (pl ζ E t r) 0 gFu _ (by omega) (gFu_lt (by omega)) (hs10.cM h) (fun r hr => by rw [up2_row (by decide), up2_row (by decide)]; exact enc_at hr) (by rw [up2_k (by decide), up2_eq]; rfl) (by rw [up2_eq]; rfl) (fun j hj => absurd hj (Nat.not_lt_zero j))
    refine ⟨σ', a1, hs10.tr a2, ?_⟩
    unfold wayM
    rw [if_pos hfin]
    exact a3
  · have hinf : dst ζ E 1 t r = 1000000 := by unfold gINF at hfin l2; omega
    rw [if_neg (by rw [hat, hinf]; exact (show ¬ nI 1000000 < (1000000 : Int32) from by decide))]
    dsimp only
    rw [gLet_eq, gLet_eq]
    have h9 : up2 (up2 (enc σ (dst ζ E 1 t)) 0 9 (-6)) 0 10 0 0 9 = (-6) := by rw [up2_k (by decide), up2_eq]
    refine ⟨up2 (up2 (enc σ (dst ζ E 1 t)) 0 9 (-6)) 0 10 0, ?_, ⟨fun j a b => ?_, ?_, ?_⟩, ?_⟩
    · show f_X11_findWay_L47 (nI t) (nI E) (999999 + 1) (nI r) _ = _
      rw [f_X11_findWay_L47_s, h9, if_pos rfl]
    · rw [up2_row (by omega), up2_row (by omega), enc_row (by omega)]
    · rw [up2_k (by decide), up2_k (by decide), enc_row (by decide)]
    · rw [up2_k (by decide), up2_k (by decide), enc_row (by decide)]
    · unfold wayM
      rw [if_neg hfin]
      exact h9
end MW
