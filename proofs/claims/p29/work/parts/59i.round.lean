section RND
variable {ζ : Nat → Nat} {σ : gS}
theorem ev_tail (hS : SS ζ σ) (Lx : Nat) (hL : Lx < 2 ^ 31) (xs : Nat → Int32) {e : Nat} (he : e < 60) : ∃ σ', bT Lx xs (nI e) 1 σ = some σ' ∧ SS ζ σ' := by
  have hI := hS.1
  obtain ⟨v, ev⟩ := l_cell Lx hL xs (k := 60 + e) (by omega)
  obtain ⟨a, ha, ea⟩ := l_low v (n := 4) (by decide) (by decide)
  obtain ⟨b, hb, eb⟩ := l_low (v >>> (2 &&& 31)) (n := 4) (by decide) (by decide)
  obtain ⟨c, hc, ec⟩ := l_low (v >>> (4 &&& 31)) (n := 10) (by decide) (by decide)
  obtain ⟨d, hd, ed⟩ := l_low (v >>> (8 &&& 31)) (n := 10) (by decide) (by decide)
  obtain ⟨f, hf, ef⟩ := l_low (v >>> (12 &&& 31)) (n := 10) (by decide) (by decide)
  have ea' : ∀ τ, f_L_low v 4 τ = some (nI a, τ) := ea
  have eb' : ∀ τ, f_L_low (v >>> (2 &&& 31)) 4 τ = some (nI b, τ) := eb
  have ec' : ∀ τ, f_L_low (v >>> (4 &&& 31)) 10 τ = some (nI c, τ) := ec
  have ed' : ∀ τ, f_L_low (v >>> (8 &&& 31)) 10 τ = some (nI d, τ) := ed
  have ef' : ∀ τ, f_L_low (v >>> (12 &&& 31)) 10 τ = some (nI f, τ) := ef
  obtain ⟨τ, w1, w2⟩ := l_ways hS hb hc
  refine ⟨τ, ?_, w2⟩
  unfold bT
  rw [show (60 : Int32) + nI e = nI (60 + e) from nI_add 60 e, ev, ob_some]
  dsimp only
  rw [if_neg i10, l_tells hS, ob_some]
  dsimp only
  rw [if_neg i10, ea', ob_some]
  dsimp only
  rw [l_trail hS ha, ob_some]
  dsimp only
  rw [if_neg i10, eb', ob_some]
  dsimp only
  rw [ec', ob_some]
  dsimp only
  rw [w1, ob_some]
  dsimp only
  rw [if_neg i10, ed', ob_some]
  dsimp only
  rw [ef', ob_some]
  dsimp only
  rw [k_far w2.2.1 hI hd hf, ob_some]
  dsimp only
  rw [gLet_eq, mix_self, ed', ob_some]
  dsimp only
  rw [ef', ob_some]
  dsimp only
  rw [l_far w2.2.2.1.B hI hd hf, ob_some]
  dsimp only
  rw [if_pos (show (if dst ζ (2 ^ ζ 4 - 1) 0 d f < gINF then nI (dst ζ (2 ^ ζ 4 - 1) 0 d f) else (-6)) = fvl (dst ζ (2 ^ ζ 4 - 1) 0 d f) from rfl)]
  by_cases h9 : nI e - nI e / 10 * 10 = 9
  · rw [if_pos h9, l_gap w2, ob_some]
    dsimp only
    rw [if_neg i10]
  · rw [if_neg h9]
theorem ev_body (hS : SS ζ σ) (hB : ζ 2 ≤ 20000) (Lx : Nat) (hL : Lx < 2 ^ 31) (xs : Nat → Int32) {e : Nat} (he : e < 60) : ∃ ζ' σ', f_L_body Lx xs (nI e) σ = some σ' ∧ SS ζ' σ' ∧ ζ' 2 ≤ ζ 2 + 200 := by
  obtain ⟨hI, hx, hy, hh⟩ := id hS
  have hn := hI.nb
  have hns := hI.ns
  obtain ⟨h, eh⟩ := l_cell Lx hL xs (k := e) (by omega)
  obtain ⟨k, hk, ek⟩ := l_low h (n := 20) (by decide) (by decide)
  obtain ⟨g, hg, eg⟩ := l_low (h >>> (5 &&& 31)) (n := 4) (by decide) (by decide)
  have ek' : ∀ τ, f_L_low h 20 τ = some (nI k, τ) := ek
  have eg' : ∀ τ, f_L_low (h >>> (5 &&& 31)) 4 τ = some (nI g, τ) := eg
  -- a branch that goes on with 1 is enough
  have fin : ∀ X : (Int32 → gS → Option gS) → Option gS, (∃ ζ' σ', SS ζ' σ' ∧ ζ' 2 ≤ ζ 2 + 200 ∧ ∀ J, X J = J 1 σ') → ∃ ζ' σ', X (bT Lx xs (nI e)) = some σ' ∧ SS ζ' σ' ∧ ζ' 2 ≤ ζ 2 + 200 := by
    rintro X ⟨ζ', σ', a1, a2, a3⟩
    obtain ⟨τ, b1, b2⟩ := ev_tail a1 Lx hL xs he
    exact ⟨ζ', τ, (a3 _).trans b1, b2, a2⟩
  rw [body_eq, eh, ob_some]
  dsimp only
  rw [ek', ob_some]
  dsimp only
  rw [eg', ob_some]
  dsimp only
  rw [gLet_eq, gLet_eq, gLet_eq]
  have cmp : ∀ c : Nat, c < 20 → (nI k = nI c ↔ k = c) := fun c hc => nI_eq (by omega) (by omega)
  -- all that is no laying
  have other : 4 ≤ ζ 4 → ∃ ζ' σ', (gLet (fun (s31 : gS) => if nI k = 6 then (bTake Lx xs (nI e) h (nI g) (bT Lx xs (nI e)) s31) else (if nI k = 7 then (bSet Lx xs (nI e) h (nI g) (bT Lx xs (nI e)) s31) else (if nI k = 8 then (bPut Lx xs (nI e) h (nI g) (bT Lx xs (nI e)) s31) else (if 15 ≤ nI k then (if 17 ≤ nI k then (bPass Lx xs (nI e) h (nI g) (bT Lx xs (nI e)) s31) else (bGo Lx xs (nI e) h (nI g) (bT Lx xs (nI e)) s31)) else (bGlide Lx xs (nI e) h (nI g) (bT Lx xs (nI e)) s31))))) (fun J32 => if nI k = 5 then (if 5 ≤ (σ 306 5) then (J32 σ) else (bSleep Lx xs (nI e) h (nI g) (bT Lx xs (nI e)) σ)) else (J32 σ))) = some σ' ∧ SS ζ' σ' ∧ ζ' 2 ≤ ζ 2 + 200 := by
    intro h4
    rw [gLet_eq]
    have tailK : ∃ ζ' σ', (if nI k = 6 then (bTake Lx xs (nI e) h (nI g) (bT Lx xs (nI e)) σ) else (if nI k = 7 then (bSet Lx xs (nI e) h (nI g) (bT Lx xs (nI e)) σ) else (if nI k = 8 then (bPut Lx xs (nI e) h (nI g) (bT Lx xs (nI e)) σ) else (if 15 ≤ nI k then (if 17 ≤ nI k then (bPass Lx xs (nI e) h (nI g) (bT Lx xs (nI e)) σ) else (bGo Lx xs (nI e) h (nI g) (bT Lx xs (nI e)) σ)) else (bGlide Lx xs (nI e) h (nI g) (bT Lx xs (nI e)) σ))))) = some σ' ∧ SS ζ' σ' ∧ ζ' 2 ≤ ζ 2 + 200 := by
      by_cases k6 : nI k = 6
      · rw [if_pos k6]
        exact fin (fun J => bTake Lx xs (nI e) h (nI g) J σ) (ev_take hS Lx xs (nI e) h (nI g))
      rw [if_neg k6]
      by_cases k7 : nI k = 7
      · rw [if_pos k7]
        exact fin (fun J => bSet Lx xs (nI e) h (nI g) J σ) (ev_set hS Lx xs (nI e) h (nI g))
      rw [if_neg k7]
      by_cases k8 : nI k = 8
      · rw [if_pos k8]
        exact fin (fun J => bPut Lx xs (nI e) h (nI g) J σ) (ev_put hS Lx xs (nI e) h hg)
      rw [if_neg k8]
      by_cases k15 : 15 ≤ nI k
      · rw [if_pos k15]
        by_cases k17 : 17 ≤ nI k
        · rw [if_pos k17]
          exact fin (fun J => bPass Lx xs (nI e) h (nI g) J σ) (ev_pass hS hB Lx xs (nI e) h (nI g))
        · rw [if_neg k17]
          exact fin (fun J => bGo Lx xs (nI e) h (nI g) J σ) (ev_go hS hB Lx xs (nI e) h hg)
      · rw [if_neg k15]
        exact fin (fun J => bGlide Lx xs (nI e) h (nI g) J σ) (ev_glide hS (by omega) hB Lx xs (nI e) h hg)
    by_cases k5 : nI k = 5
    · rw [if_pos k5]
      by_cases s5 : ζ 5 < 5
      · rw [if_neg (show ¬ 5 ≤ σ 306 5 by rw [y_ns hy]; exact nI_ge (b := 5) s5 (by decide))]
        exact fin (fun J => bSleep Lx xs (nI e) h (nI g) J σ) (ev_sleep hS s5 Lx xs (nI e) h (nI g))
      · rw [if_pos (show 5 ≤ σ 306 5 by rw [y_ns hy]; exact nI_le (a := 5) (by omega) (by omega))]
        exact tailK
    · rw [if_neg k5]
      exact tailK
  have lay : ζ 4 < 20 → ∃ ζ' σ', bLay Lx xs (nI e) h (nI g) (bT Lx xs (nI e)) σ = some σ' ∧ SS ζ' σ' ∧ ζ' 2 ≤ ζ 2 + 200 := fun h20 => fin (fun J => bLay Lx xs (nI e) h (nI g) J σ) (ev_lay hS h20 Lx xs (nI e) h (nI g))
  have atl : ∃ ζ' σ', (if 20 ≤ (σ 306 4) then (gLet (fun (s31 : gS) => if nI k = 6 then (bTake Lx xs (nI e) h (nI g) (bT Lx xs (nI e)) s31) else (if nI k = 7 then (bSet Lx xs (nI e) h (nI g) (bT Lx xs (nI e)) s31) else (if nI k = 8 then (bPut Lx xs (nI e) h (nI g) (bT Lx xs (nI e)) s31) else (if 15 ≤ nI k then (if 17 ≤ nI k then (bPass Lx xs (nI e) h (nI g) (bT Lx xs (nI e)) s31) else (bGo Lx xs (nI e) h (nI g) (bT Lx xs (nI e)) s31)) else (bGlide Lx xs (nI e) h (nI g) (bT Lx xs (nI e)) s31))))) (fun J32 => if nI k = 5 then (if 5 ≤ (σ 306 5) then (J32 σ) else (bSleep Lx xs (nI e) h (nI g) (bT Lx xs (nI e)) σ)) else (J32 σ))) else (bLay Lx xs (nI e) h (nI g) (bT Lx xs (nI e)) σ)) = some σ' ∧ SS ζ' σ' ∧ ζ' 2 ≤ ζ 2 + 200 := by
    by_cases h20 : ζ 4 < 20
    · rw [if_neg (show ¬ 20 ≤ σ 306 4 by rw [y_nb hy]; exact nI_ge (b := 20) h20 (by decide))]
      exact lay h20
    · rw [if_pos (show 20 ≤ σ 306 4 by rw [y_nb hy]; exact nI_le (a := 20) (by omega) (by omega))]
      exact other (by omega)
  by_cases k5 : nI k < 5
  · rw [if_pos k5]
    exact atl
  · rw [if_neg k5]
    by_cases h4 : 4 ≤ ζ 4
    · rw [if_pos (show 4 ≤ σ 306 4 by rw [y_nb hy]; exact nI_le (a := 4) h4 (by omega))]
      exact other h4
    · rw [if_neg (show ¬ 4 ≤ σ 306 4 by rw [y_nb hy]; exact nI_ge (b := 4) (by omega) (by decide))]
      exact atl
end RND
