section EVT
variable {ζ : Nat → Nat} {σ : gS}
theorem l_low (h : Int32) {n : Nat} (h0 : 0 < n) (hn : n < 2 ^ 31) : ∃ j, j < n ∧ ∀ σ, f_L_low h (nI n) σ = some (nI j, σ) := by
  obtain ⟨j, hj, ej⟩ := pk_andE h (m := 2147483647) 31 (by decide)
  refine ⟨j % n, Nat.mod_lt _ h0, fun σ => ?_⟩
  unfold f_L_low
  have hne : gne (nI n) = true := by simpa [gne] using nI_ne0 h0 hn
  rw [hne, gGd_t, ej, pk_rem hj h0 hn]
theorem l_cell (Lx : Nat) (hL : Lx < 2 ^ 31) (xs : Nat → Int32) {k : Nat} (hk : k < 2 ^ 31) : ∃ v, ∀ σ, f_L_cell Lx xs (nI k) σ = some (v, σ) := by
  by_cases h : Lx ≤ k
  · refine ⟨32452867 * nI k + 15485863, fun σ => ?_⟩
    unfold f_L_cell
    rw [if_pos (show Int32.ofNat Lx ≤ nI k from nI_le h hk)]
  · refine ⟨xs k, fun σ => ?_⟩
    unfold f_L_cell
    rw [if_neg (show ¬ Int32.ofNat Lx ≤ nI k from nI_ge (by omega) hL), gin_nI (by omega) hL, gGd_t, gil_nI hk]
/-- the class's part is new, the law's is old, then the law's is new -/
theorem SS.made {ζ' : Nat → Nat} {x' y' : gS} (hI : zI ζ') (hx : cX ζ' x' 1) (hh : hX x') (hy : yL ζ' y') (h1 : ∀ j, j < 302 → y' j = x' j) : SS ζ' y' :=
  ⟨hI, cX_rows hI hx fun j a b => h1 j (by omega), hy, hh.row (h1 36 (by decide))⟩
theorem yL.mix {x' : gS} (h : yL ζ σ) : yL ζ (gMix σ x') := h.rows fun j a _ => gMix_ge a
theorem ev_put (hS : SS ζ σ) (Lx : Nat) (xs : Nat → Int32) (e7 h : Int32) {g : Nat} (hg : g < 4) : ∃ ζ' σ', SS ζ' σ' ∧ ζ' 2 ≤ ζ 2 + 200 ∧ ∀ J, bPut Lx xs e7 h (nI g) J σ = J 1 σ' := by
  obtain ⟨hI, hx, hy, hh⟩ := hS
  obtain ⟨r, hr, er⟩ := l_low (h >>> (7 &&& 31)) (n := 10) (by decide) (by decide)
  obtain ⟨x', k1, k2, k3, k4⟩ := k_put hI hx hh hg hr
  have hyg := y_g hy hg
  have hY : yL (upN ζ (106 + 3 * g) r) (up2 (gMix σ x') 304 g (nI r)) := yU_g (j := 0) hI hy.mix hg (by decide) (by omega)
  refine ⟨upN ζ (106 + 3 * g) r, up2 (gMix σ x') 304 g (nI r), SS.made k2 k3 k4 hY fun j hj => by rw [up2_row (by omega), gMix_lt hj], by rw [upN_ne (by omega)]; omega, fun J => ?_⟩
  unfold bPut
  rw [show (10 : Int32) = nI 10 from rfl, er, ob_some]
  dsimp only
  rw [k1, ob_some]
  dsimp only
  rw [gLet_eq, gin_nI (show g < 12 by omega) (by decide), gGd_t, gLet_eq, gil_nI (show g < 2 ^ 31 by omega), if_pos (show nI (gh ζ g 0) = gMix σ x' 304 g by rw [gMix_ge (by decide)]; exact hyg.1.symm)]
  dsimp only
  rw [gGd_t, gLet_eq]
theorem ev_set (hS : SS ζ σ) (Lx : Nat) (xs : Nat → Int32) (e7 h gg : Int32) : ∃ ζ' σ', SS ζ' σ' ∧ ζ' 2 ≤ ζ 2 + 200 ∧ ∀ J, bSet Lx xs e7 h gg J σ = J 1 σ' := by
  obtain ⟨hI, hx, hy, hh⟩ := hS
  have fin : ∀ k v, k < 2 → (k = 0 → 10 ≤ v ∧ v ≤ 200) → (k = 1 → v ≤ 60) → ∃ ζ' σ', SS ζ' σ' ∧ ζ' 2 ≤ ζ 2 + 200 ∧ ∀ J : Int32 → gS → Option gS, (Option.bind (f_X10_set (nI k) (nI v) σ) (fun q151 => gLet (gMix σ q151.2) (fun s152 => gGd (gin (nI k) 6) (gLet (fun (j154 : Int32) (s155 : gS) => gGd (gin (nI k) 6) (gLet (up2 s155 306 (gil (nI k)) (nI v)) (fun s157 => J j154 s157))) (fun J156 => if q151.1 = (s152 306 (gil (nI k))) then (J156 1 s152) else (J156 0 s152)))))) = J 1 σ' := by
    intro k v hk v0 v1
    obtain ⟨x', k1, k2, k3, k4⟩ := k_set hI hx hh hk v0 v1
    have hY : yL (upN ζ k v) (up2 (gMix σ x') 306 k (nI v)) := yU_t hy.mix (by omega)
    refine ⟨upN ζ k v, up2 (gMix σ x') 306 k (nI v), SS.made k2 k3 k4 hY fun j hj => by rw [up2_row (by omega), gMix_lt hj], by rw [upN_ne (by omega)]; omega, fun J => ?_⟩
    rw [k1, ob_some]
    dsimp only
    rw [gLet_eq, gin_nI (show k < 6 by omega) (by decide), gGd_t, gLet_eq, gil_nI (show k < 2 ^ 31 by omega), if_pos (show nI (ζ k) = gMix σ x' 306 k by rw [gMix_ge (by decide)]; exact (hy.1 k (by omega)).symm)]
    dsimp only
    rw [gGd_t, gLet_eq]
  obtain ⟨n, hn, en⟩ := l_low (h >>> (7 &&& 31)) (n := 2) (by decide) (by decide)
  obtain ⟨w, hw, ew⟩ := l_low (h >>> (25 &&& 31)) (n := 2) (by decide) (by decide)
  by_cases h0 : n = 0
  · subst h0
    have z0 : nI 0 = 0 := rfl
    by_cases hw0 : nI w = 0
    · obtain ⟨v, hv, ev⟩ := l_low (h >>> (8 &&& 31)) (n := 191) (by decide) (by decide)
      obtain ⟨ζ', σ', a1, a2, a3⟩ := fin 0 (10 + v) (by decide) (fun _ => by omega) (fun z => absurd z (by decide))
      refine ⟨ζ', σ', a1, a2, fun J => ?_⟩
      unfold bSet
      rw [show (2 : Int32) = nI 2 from rfl, en, ob_some]
      dsimp only
      rw [gLet_eq, if_pos z0, ew, ob_some]
      dsimp only
      rw [gLet_eq, if_pos hw0]
      dsimp only
      rw [show (191 : Int32) = nI 191 from rfl, ev, ob_some]
      dsimp only
      rw [show (10 : Int32) + nI v = nI (10 + v) from nI_add 10 v]
      exact a3 J
    · obtain ⟨v, hv, ev⟩ := l_low (h >>> (8 &&& 31)) (n := 20) (by decide) (by decide)
      obtain ⟨ζ', σ', a1, a2, a3⟩ := fin 0 (10 + v) (by decide) (fun _ => by omega) (fun z => absurd z (by decide))
      refine ⟨ζ', σ', a1, a2, fun J => ?_⟩
      unfold bSet
      rw [show (2 : Int32) = nI 2 from rfl, en, ob_some]
      dsimp only
      rw [gLet_eq, if_pos z0, ew, ob_some]
      dsimp only
      rw [gLet_eq, if_neg hw0]
      dsimp only
      rw [show (20 : Int32) = nI 20 from rfl, ev, ob_some]
      dsimp only
      rw [show (10 : Int32) + nI v = nI (10 + v) from nI_add 10 v]
      exact a3 J
  · have hn1 : n = 1 := by omega
    subst hn1
    have z0 : ¬ nI 1 = 0 := by decide
    by_cases hw0 : nI w = 0
    · obtain ⟨v, hv, ev⟩ := l_low (h >>> (8 &&& 31)) (n := 61) (by decide) (by decide)
      obtain ⟨ζ', σ', a1, a2, a3⟩ := fin 1 v (by decide) (fun z => absurd z (by decide)) (fun _ => by omega)
      refine ⟨ζ', σ', a1, a2, fun J => ?_⟩
      unfold bSet
      rw [show (2 : Int32) = nI 2 from rfl, en, ob_some]
      dsimp only
      rw [gLet_eq, if_neg z0, ew, ob_some]
      dsimp only
      rw [gLet_eq, if_pos hw0]
      dsimp only
      rw [show (61 : Int32) = nI 61 from rfl, ev, ob_some]
      dsimp only
      exact a3 J
    · obtain ⟨v, hv, ev⟩ := l_low (h >>> (8 &&& 31)) (n := 8) (by decide) (by decide)
      obtain ⟨ζ', σ', a1, a2, a3⟩ := fin 1 v (by decide) (fun z => absurd z (by decide)) (fun _ => by omega)
      refine ⟨ζ', σ', a1, a2, fun J => ?_⟩
      unfold bSet
      rw [show (2 : Int32) = nI 2 from rfl, en, ob_some]
      dsimp only
      rw [gLet_eq, if_neg z0, ew, ob_some]
      dsimp only
      rw [gLet_eq, if_neg hw0]
      dsimp only
      rw [show f_L_low (h >>> (8 &&& 31)) 8 σ = some (nI v, σ) from ev σ, ob_some]
      dsimp only
      exact a3 J
theorem ev_pass (hS : SS ζ σ) (hB : ζ 2 ≤ 20000) (Lx : Nat) (xs : Nat → Int32) (e7 h gg : Int32) : ∃ ζ' σ', SS ζ' σ' ∧ ζ' 2 ≤ ζ 2 + 200 ∧ ∀ J, bPass Lx xs e7 h gg J σ = J 1 σ' := by
  obtain ⟨hI, hx, hy, hh⟩ := hS
  have fin : ∀ t, 1 ≤ t → t ≤ 200 → ∃ ζ' σ', SS ζ' σ' ∧ ζ' 2 ≤ ζ 2 + 200 ∧ ∀ J : Int32 → gS → Option gS, (Option.bind (f_L_pass (nI t) σ) (fun q46 => Option.bind (f_X10_pass (nI t) q46.2) (fun q47 => gLet (gMix q46.2 q47.2) (fun s48 => gLet (fun (j49 : Int32) (s50 : gS) => J j49 s50) (fun J51 => if q47.1 = q46.1 then (J51 1 s48) else (J51 0 s48)))))) = J 1 σ' := by
    intro t h1 h2
    obtain ⟨y', a1, a2, a3⟩ := l_pass hI (t := t) (by omega) (by omega) hy
    have hx' : cX ζ y' 1 := cX_rows hI hx fun j _ _ => a3 j (by omega)
    have hh' : hX y' := hh.row (a3 36 (by omega))
    obtain ⟨x', k1, k2, k3⟩ := k_pass hI hx' hh' h1 h2 (by omega)
    refine ⟨paZ ζ t, gMix y' x', SS.made (paZ_I hI t) k2 k3 a2.mix fun j hj => gMix_lt hj, by rw [paZ_2]; omega, fun J => ?_⟩
    rw [a1, ob_some]
    dsimp only
    rw [k1, ob_some]
    dsimp only
    rw [gLet_eq, gLet_eq, if_pos rfl]
  obtain ⟨w, hw, ew⟩ := l_low (h >>> (25 &&& 31)) (n := 3) (by decide) (by decide)
  by_cases hw0 : nI w = 0
  · obtain ⟨v, hv, ev⟩ := l_low (h >>> (7 &&& 31)) (n := 200) (by decide) (by decide)
    obtain ⟨ζ', σ', a1, a2, a3⟩ := fin (1 + v) (by omega) (by omega)
    refine ⟨ζ', σ', a1, a2, fun J => ?_⟩
    unfold bPass
    rw [show (3 : Int32) = nI 3 from rfl, ew, ob_some, gLet_eq]
    dsimp only
    rw [if_pos hw0, show (200 : Int32) = nI 200 from rfl, ev, ob_some]
    dsimp only
    rw [gLet_eq, show (1 : Int32) + nI v = nI (1 + v) from nI_add 1 v]
    exact a3 J
  · obtain ⟨v, hv, ev⟩ := l_low (h >>> (7 &&& 31)) (n := 20) (by decide) (by decide)
    obtain ⟨ζ', σ', a1, a2, a3⟩ := fin (1 + v) (by omega) (by omega)
    refine ⟨ζ', σ', a1, a2, fun J => ?_⟩
    unfold bPass
    rw [show (3 : Int32) = nI 3 from rfl, ew, ob_some, gLet_eq]
    dsimp only
    rw [if_neg hw0, show (20 : Int32) = nI 20 from rfl, ev, ob_some]
    dsimp only
    rw [gLet_eq, show (1 : Int32) + nI v = nI (1 + v) from nI_add 1 v]
    exact a3 J
end EVT
