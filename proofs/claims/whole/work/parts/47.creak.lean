section CR
variable {ζ : Nat → Nat} {x m : gS} {B : Nat}
/-- only what a creak may change -/
def crZ (ζ ξ : Nat → Nat) : Prop := (∀ K, K < 118 → (∀ b, K ≠ 6 + 5 * b + 4) → ξ K = ζ K) ∧ (∀ K, 106 ≤ K → K < 118 → ξ K = ζ K) ∧ ∀ s, s < 5 → sl ξ s 0 = sl ζ s 0 ∧ sl ξ s 1 = sl ζ s 1
theorem upN_same {K : Nat} : upN ζ K (ζ K) = ζ := by
  funext L
  unfold upN
  by_cases h : L = K
  · rw [if_pos h, h]
  · rw [if_neg h]
theorem cX_up {K v r i : Nat} (hI : zI ζ) (hI' : zI (upN ζ K v)) (hx : cX ζ x 1) (hK : K < 138) (h4 : K ≠ 4) (h5 : K ≠ 5) (hr : r = 1 + locR K) (hi : i = locI K) (hb : ∀ k, k < 20 → K ≠ 6 + 5 * k ∧ K ≠ 6 + 5 * k + 1) : cX (upN ζ K v) (up2 x r i (nI v)) 1 :=
  cP_to hI' (cP_up (cP_of hI hx) hK hr hi) (fun L hL hl => Or.inl (by rwa [upN_ne (Ne.symm h4), upN_ne (Ne.symm h5)] at hl)) (eL_up hI (cX_eL hx) h4 hb (by have := loc_ne9 K hK; omega))
theorem creak_both (w : Nat) (ha1 : ∀ ξ : Nat → Nat, zI ξ → ξ 1 ≤ 60) : ∀ d i n1 n2 M (ζ : Nat → Nat) (x m : gS), i + d = ζ 5 → d < n1 → d < n2 → zI ζ → cX ζ x 1 → cM ζ m → w < ζ 4 →
    ∃ r x' m' ξ, f_X0_letCreak_L15 (nI w) n1 (nI M) (nI i) x = some (r, x') ∧ f_X11_creak_L21 (nI w) n2 (nI M) (nI i) m = some (r, m') ∧ zI ξ ∧ cX ξ x' 1 ∧ cM ξ m' ∧ atX x x' ∧ atM m m' ∧ crZ ζ ξ ∧ ξ 4 = ζ 4 ∧ (∀ j, j ≠ 1 → j ≠ 6 → m' j = m j) := by
  intro d
  induction d with
  | zero =>
    intro i n1 n2 M ζ x m hid h1 h2 hI hx hm hw
    obtain ⟨n1, rfl⟩ := Nat.exists_eq_succ_of_ne_zero (show n1 ≠ 0 by omega)
    obtain ⟨n2, rfl⟩ := Nat.exists_eq_succ_of_ne_zero (show n2 ≠ 0 by omega)
    rw [f_X0_letCreak_L15_s, f_X11_creak_L21_s, x_ns hx, m_ns hm, show i = ζ 5 by omega, if_pos (Int32.le_refl _), if_pos (Int32.le_refl _)]
    exact ⟨_, x, m, ζ, rfl, rfl, hI, hx, hm, atX.rf, atM.rf, ⟨fun _ _ _ => rfl, fun _ _ _ => rfl, fun _ _ => ⟨rfl, rfl⟩⟩, rfl, fun _ _ _ => rfl⟩
  | succ d ih =>
    intro i n1 n2 M ζ x m hid h1 h2 hI hx hm hw
    obtain ⟨n1, rfl⟩ := Nat.exists_eq_succ_of_ne_zero (show n1 ≠ 0 by omega)
    obtain ⟨n2, rfl⟩ := Nat.exists_eq_succ_of_ne_zero (show n2 ≠ 0 by omega)
    have hi : i < ζ 5 := by omega
    have h5 := hI.ns
    have hn := hI.nb
    have hsi := hI.s hi
    have hld := ldn_le hI (t := sl ζ i 0) hw
    have hm' := enc_cM (F := dst ζ (2 ^ ζ 4 - 1) 0 (sl ζ i 0)) hm
    have hem : eqM m (enc m (dst ζ (2 ^ ζ 4 - 1) 0 (sl ζ i 0))) := eqM_enc
    have hrow : ∀ j, j ≠ 6 → enc m (dst ζ (2 ^ ζ 4 - 1) 0 (sl ζ i 0)) j = m j := fun j hj => enc_row hj
    rw [f_X0_letCreak_L15_s, f_X11_creak_L21_s, x_ns hx, m_ns hm, if_neg (nI_ge hi (by omega)), if_neg (nI_ge hi (by omega)), a_srm hx hI hi, m_loud hm hI hw hi, ob_some, ob_some]
    dsimp only
    rw [x_loudIn hx hI hw hsi.1, ob_some]
    dsimp only
    rw [a_ear hx hI hi, ob_some]
    dsimp only
    generalize enc m (dst ζ (2 ^ ζ 4 - 1) 0 (sl ζ i 0)) = m0 at *
    rw [m_s1 hm' hI hi, ob_some]
    dsimp only
    by_cases hk : wkB ζ w i = true
    · have hk' : sl ζ i 1 ≤ ldn ζ w (sl ζ i 0) := by unfold wkB at hk; simpa using hk
      rw [if_neg (nI_nlt hk' (by omega)), if_neg (nI_nlt hk' (by omega)), a_awk hx, ob_some]
      dsimp only
      have e3 : ((118 : Int32) + 4 * nI i) + 3 = nI (118 + 4 * i + 3) := by rw [show (118 : Int32) = nI 118 from rfl, show (4 : Int32) = nI 4 from rfl, pk_mul, nI_add]; exact nI_add _ 3
      have e2 : ((118 : Int32) + 4 * nI i) + 2 = nI (118 + 4 * i + 2) := by rw [show (118 : Int32) = nI 118 from rfl, show (4 : Int32) = nI 4 from rfl, pk_mul, nI_add]; exact nI_add _ 2
      rw [shl1 _ (by omega), n_or, gLet_eq, e3, e2, gin_nI (by omega) (by decide), gin_nI (by omega) (by decide), gGd_t, gil_nI (by omega), gil_nI (by omega), m_s2 hm' hI hi, ob_some]
      dsimp only
      rw [gLet_eq]
      have ha := ha1 ζ hI
      have hl2 := loc_s i (by omega) 2 (by decide)
      have hl3 := loc_s i (by omega) 3 (by decide)
      -- the two places
      have hI1 : ∀ v, zI (upN ζ (118 + 4 * i + 3) v) := fun v => zI_up hI (by omega) (by omega) (by omega) (by omega) (fun b hb j hj => by omega) (fun g _ e => by omega) (fun g hg e => by omega) (fun s hs j hj => by omega) (fun s hs e => by omega)
      have hI2 : ∀ v, zI (upN (upN ζ (118 + 4 * i + 3) v) (118 + 4 * i + 2) (ζ 1)) := fun v => zI_up (hI1 v) (by omega) (by omega) (by omega) (by omega) (fun b hb j hj => by rw [upN_ne (by omega)] at hb; omega) (fun g _ e => by omega) (fun g hg e => by omega) (fun s hs j hj => by omega) (fun s hs e => ha)
      have hcr : ∀ v, crZ ζ (upN (upN ζ (118 + 4 * i + 3) v) (118 + 4 * i + 2) (ζ 1)) := fun v => ⟨fun K hK _ => by rw [upN_ne (by omega), upN_ne (by omega)], fun K h1 h2 => by rw [upN_ne (by omega), upN_ne (by omega)], fun s hs => by
        unfold sl
        rw [upN_ne (by omega), upN_ne (by omega), upN_ne (by omega), upN_ne (by omega)]
        exact ⟨rfl, rfl⟩⟩
      have h45 : ∀ v, upN (upN ζ (118 + 4 * i + 3) v) (118 + 4 * i + 2) (ζ 1) 4 = ζ 4 ∧ upN (upN ζ (118 + 4 * i + 3) v) (118 + 4 * i + 2) (ζ 1) 5 = ζ 5 := fun v => by
        rw [upN_ne (by omega), upN_ne (by omega), upN_ne (by omega), upN_ne (by omega)]
        exact ⟨rfl, rfl⟩
      have fin : ∀ (v : Nat) (x' m' : gS), cX (upN (upN ζ (118 + 4 * i + 3) v) (118 + 4 * i + 2) (ζ 1)) x' 1 → cM (upN (upN ζ (118 + 4 * i + 3) v) (118 + 4 * i + 2) (ζ 1)) m' → atX x x' → atM m0 m' → (∀ j, j ≠ 1 → j ≠ 6 → m' j = m j) → ∃ r x2 m2 ξ, f_X0_letCreak_L15 (nI w) n1 (nI (M ||| 2 ^ i)) (nI (i + 1)) x' = some (r, x2) ∧ f_X11_creak_L21 (nI w) n2 (nI (M ||| 2 ^ i)) (nI (i + 1)) m' = some (r, m2) ∧ zI ξ ∧ cX ξ x2 1 ∧ cM ξ m2 ∧ atX x x2 ∧ atM m m2 ∧ crZ ζ ξ ∧ ξ 4 = ζ 4 ∧ (∀ j, j ≠ 1 → j ≠ 6 → m2 j = m j) := by
        intro v x' m' a1 a2 a3 a4 a5
        obtain ⟨r, x2, m2, ξ, k1, k2, k3, k4, k5, k6, k7, k8, k9, k10⟩ := ih (i + 1) n1 n2 (M ||| 2 ^ i) _ x' m' (by rw [(h45 v).2]; omega) (by omega) (by omega) (hI2 v) a1 a2 (by rw [(h45 v).1]; exact hw)
        refine ⟨r, x2, m2, ξ, k1, k2, k3, k4, k5, a3.tr k6, ((atM_eq hem).tr a4).tr k7, ⟨fun K hK hb => (k8.1 K hK hb).trans ((hcr v).1 K hK hb), fun K q1 q2 => (k8.2.1 K q1 q2).trans ((hcr v).2.1 K q1 q2), fun s hs => ⟨(k8.2.2 s hs).1.trans ((hcr v).2.2 s hs).1, (k8.2.2 s hs).2.trans ((hcr v).2.2 s hs).2⟩⟩, k9.trans (h45 v).1, fun j q1 q2 => (k10 j q1 q2).trans (a5 j q1 q2)⟩
      unfold f_X7_wake
      rw [a_saw hx hI hi, ob_some]
      dsimp only
      rw [gLet_eq]
      by_cases h0 : sl ζ i 2 = 0
      · have h0' : nI (sl ζ i 2) = 0 := by rw [h0]; rfl
        rw [if_pos h0', if_pos h0', inc_nI (by omega) (by decide), ob_some]
        dsimp only
        rw [store_nI (by omega) (by decide), ob_some, ob_some, gLet_eq, gin_nI (by omega) (by decide), gGd_t, gLet_eq, gGd_t, gLet_eq, gil_nI (by omega), nI_1, up2_k (show 1 ≠ 118 + 4 * i + 3 by omega), hm' 1 (by decide), hm' (118 + 4 * i + 3) (by omega), show x (31 + 1) i = nI (sl ζ i 3) from (hx.2.2.2 i hi).2.2.2, nI_1]
        refine fin (sl ζ i 3 + 1) _ _ (cX_up (hI1 _) (hI2 _) (cX_up hI (hI1 _) hx (by omega) (by omega) (by omega) (by rw [hl3.1]) (by rw [hl3.2]) (fun k _ => by omega)) (by omega) (by omega) (by omega) (by rw [hl2.1]) (by rw [hl2.2]) (fun k _ => by omega)) (up_cM (up_cM hm' (by omega)) (by omega)) ((atX_up (by decide) (by decide)).tr (atX_up (by decide) (by decide))) (atM_up.tr atM_up) (fun j q1 q2 => ?_)
        rw [up2_row q1, up2_row q1]
        exact hrow j q2
      · have h0' : ¬ nI (sl ζ i 2) = 0 := nI_ne0 (by omega) (by omega)
        rw [if_neg h0', if_neg h0']
        dsimp only
        rw [store_nI (by omega) (by decide), ob_some, ob_some, gLet_eq, gin_nI (by omega) (by decide), gGd_t, gLet_eq, gGd_t, gLet_eq, gil_nI (by omega), nI_1, up2_k (show 1 ≠ 118 + 4 * i + 3 by omega), hm' 1 (by decide), hm' (118 + 4 * i + 3) (by omega), Int32.add_zero]
        have hc1 : cX (upN ζ (118 + 4 * i + 3) (ζ (118 + 4 * i + 3))) x 1 := by rw [upN_same]; exact hx
        refine fin (ζ (118 + 4 * i + 3)) _ _ (cX_up (hI1 _) (hI2 _) hc1 (by omega) (by omega) (by omega) (by rw [hl2.1]) (by rw [hl2.2]) (fun k _ => by omega)) (up_cM (up_cM hm' (by omega)) (by omega)) (atX_up (by decide) (by decide)) (atM_up.tr atM_up) (fun j q1 q2 => ?_)
        rw [up2_row q1, up2_row q1]
        exact hrow j q2
    · have hk' : ¬ sl ζ i 1 ≤ ldn ζ w (sl ζ i 0) := by unfold wkB at hk; simpa using hk
      rw [if_pos (nI_lt (by omega) (by omega)), if_pos (nI_lt (by omega) (by omega)), nI_1]
      obtain ⟨r, x2, m2, ξ, k1, k2, k3, k4, k5, k6, k7, k8, k9, k10⟩ := ih (i + 1) n1 n2 M ζ x m0 (by omega) (by omega) (by omega) hI hx hm' hw
      exact ⟨r, x2, m2, ξ, k1, k2, k3, k4, k5, k6, (atM_eq hem).tr k7, k8, k9, fun j q1 q2 => (k10 j q1 q2).trans (hrow j q2)⟩
end CR
