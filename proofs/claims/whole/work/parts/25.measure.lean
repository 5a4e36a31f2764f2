section MS2
variable {ζ : Nat → Nat} {σ : gS}
theorem m_rounds (h : cM ζ σ) (hI : zI ζ) {E w t : Nat} (hE : E < 2 ^ 31) (hw : w < 2) :
    ∀ d k n, k + d = 9 → d < n → f_X11_measure_L38 (nI E) (nI w) n (nI (k + 1)) (enc σ (rds (ζ 4) (fun b => E.testBit b) (zlo ζ) (zhi ζ) (cst ζ w) t k)) = some (enc σ (rds (ζ 4) (fun b => E.testBit b) (zlo ζ) (zhi ζ) (cst ζ w) t 9)) := by
  intro d
  induction d with
  | zero =>
    intro k n hk hn
    obtain ⟨m, rfl⟩ : ∃ m, n = m + 1 := ⟨n - 1, by omega⟩
    have : k = 9 := by omega
    subst this
    rw [f_X11_measure_L38_s, if_pos (show (10 : Int32) ≤ nI 10 from Int32.le_refl _)]
  | succ d ih =>
    intro k n hk hn
    obtain ⟨m, rfl⟩ : ∃ m, n = m + 1 := ⟨n - 1, by omega⟩
    rw [f_X11_measure_L38_s, if_neg (show ¬ (10 : Int32) ≤ nI (k + 1) from nI_ge (a := k + 1) (b := 10) (by omega) (by decide)), m_round h hI hE hw _ _ (rds_INF k), nI_1]
    exact ih (k + 1) m (by omega) (by omega)
theorem m_start {w1 : Nat} (hw1 : w1 < 10) (w2 w3 : Int32) (K : gS → Option gS) : f_X11_measure_L3 (nI w1) w2 w3 K gFu 0 σ = K (enc σ (fun r => if r = w1 then 0 else gINF)) := by
  have hs : ∀ i, i ≤ 10 → (gU σ 6 (fun r => if r < i then nI (if r = w1 then 0 else gINF) else σ 6 r)) = gU σ 6 (fun r => if r < i then nI (if r = w1 then 0 else gINF) else σ 6 r) := fun _ _ => rfl
  have h0 : σ = gU σ 6 (fun r => if r < 0 then nI (if r = w1 then 0 else gINF) else σ 6 r) := by
    funext j k
    by_cases hj : j = 6
    · subst hj; simp [gU]
    · simp [gU, hj]
  have := lp0 (fun n i => f_X11_measure_L3 (nI w1) w2 w3 K n (nI i) (gU σ 6 (fun r => if r < i then nI (if r = w1 then 0 else gINF) else σ 6 r))) 10 (K (enc σ (fun r => if r = w1 then 0 else gINF))) (by decide) (fun n i hi => ?_) (fun n => ?_)
  · rw [← h0] at this
    exact this
  · rw [f_X11_measure_L3_s, if_neg (show ¬ (10 : Int32) ≤ nI i from nI_ge hi (by decide)), gLet_eq]
    have main : ∀ v : Int32, v = nI (if i = w1 then 0 else gINF) → gGd (gin (nI i) 10) (gLet (up2 (gU σ 6 (fun r => if r < i then nI (if r = w1 then 0 else gINF) else σ 6 r)) 6 (gil (nI i)) v) (fun s6 => f_X11_measure_L3 (nI w1) w2 w3 K n (nI i + 1) s6)) = f_X11_measure_L3 (nI w1) w2 w3 K n (nI (i + 1)) (gU σ 6 (fun r => if r < i + 1 then nI (if r = w1 then 0 else gINF) else σ 6 r)) := by
      intro v hv
      rw [gin_nI hi (by decide), gGd_t, gLet_eq, gil_nI (by omega), nI_1, hv]
      congr 1
      funext j k
      by_cases hj : j = 6
      · subst hj
        by_cases hk : k = i
        · subst hk
          rw [up2_eq]
          simp [gU]
        · rw [up2_k hk]
          have : k < i ↔ k < i + 1 := by omega
          simp [gU, this]
      · rw [up2_row hj]
        simp [gU, hj]
    by_cases hc : i = w1
    · rw [if_pos (show nI i = nI w1 by rw [hc])]
      exact main 0 (by rw [if_pos hc]; rfl)
    · rw [if_neg (fun z => hc ((n_inj (by omega) (by omega)).mp z))]
      exact main 1000000 (by rw [if_neg hc]; rfl)
  · rw [f_X11_measure_L3_s, if_pos (show (10 : Int32) ≤ nI 10 from Int32.le_refl _)]
    rfl
/-- how far a room is from t, by the boards of E, with the cost of kind w -/
def dst (ζ : Nat → Nat) (E w t r : Nat) : Nat := gD (ζ 4) (fun b => E.testBit b) (zlo ζ) (zhi ζ) (cst ζ w) t 9 r
theorem dst_le (ζ : Nat → Nat) (E w t r : Nat) : dst ζ E w t r ≤ gINF := gD_le 9 r
theorem m_measure (h : cM ζ σ) (hI : zI ζ) {E w t : Nat} (hE : E < 2 ^ 31) (hw : w < 2) (ht : t < 10) : f_X11_measure (nI t) (nI E) (nI w) σ = some (enc σ (dst ζ E w t)) := by
  unfold f_X11_measure
  rw [m_start ht]
  have := m_rounds h hI (E := E) (w := w) (t := t) hE hw 9 0 gFu rfl (gFu_lt (by decide))
  refine Eq.trans this ?_
  rw [enc_cong (fun r hr => rds_nine (ok_z hI E w) ht hr)]
  rfl
theorem m_measure0 (h : cM ζ σ) (hI : zI ζ) {E t : Nat} (hE : E < 2 ^ 31) (ht : t < 10) : f_X11_measure (nI t) (nI E) 0 σ = some (enc σ (dst ζ E 0 t)) := m_measure (w := 0) h hI hE (by decide) ht
theorem m_measure1 (h : cM ζ σ) (hI : zI ζ) {E t : Nat} (hE : E < 2 ^ 31) (ht : t < 10) : f_X11_measure (nI t) (nI E) 1 σ = some (enc σ (dst ζ E 1 t)) := m_measure (w := 1) h hI hE (by decide) ht
theorem m_farOf (h : cM ζ σ) (hI : zI ζ) {t r : Nat} (ht : t < 10) (hr : r < 10) : f_X11_farOf (nI t) (nI r) σ = some (if dst ζ (2 ^ ζ 4 - 1) 0 t r < gINF then nI (dst ζ (2 ^ ζ 4 - 1) 0 t r) else (-6), enc σ (dst ζ (2 ^ ζ 4 - 1) 0 t)) := by
  unfold f_X11_farOf
  rw [m_all h hI, ob_some]
  dsimp only
  rw [m_measure0 h hI (lt31 (all_lt hI) (by decide)) ht, ob_some, gin_nI hr (by decide), gGd_t, gGd_t, gil_nI (by omega), enc_at hr]
  have := dst_le ζ (2 ^ ζ 4 - 1) 0 t r
  unfold gINF at this
  by_cases hc : dst ζ (2 ^ ζ 4 - 1) 0 t r < gINF
  · rw [if_pos (show nI (dst ζ (2 ^ ζ 4 - 1) 0 t r) < (1000000 : Int32) from nI_lt hc (by decide)), if_pos hc]
  · rw [if_neg (show ¬ nI (dst ζ (2 ^ ζ 4 - 1) 0 t r) < (1000000 : Int32) from nI_nlt (b := 1000000) (by unfold gINF at hc; omega) (by omega)), if_neg hc]
/-- how loud a board is to somebody in a room -/
def ldn (ζ : Nat → Nat) (b t : Nat) : Nat := bd ζ b 2 - min (dst ζ (2 ^ ζ 4 - 1) 0 t (bd ζ b 0)) (dst ζ (2 ^ ζ 4 - 1) 0 t (bd ζ b 1))
theorem m_loud (h : cM ζ σ) (hI : zI ζ) {b s : Nat} (hb : b < ζ 4) (hs : s < ζ 5) : f_X11_loud (nI b) (nI s) σ = some (nI (ldn ζ b (sl ζ s 0)), enc σ (dst ζ (2 ^ ζ 4 - 1) 0 (sl ζ s 0))) := by
  have hbb := hI.b hb
  have hss := hI.s hs
  have hc := enc_cM (F := dst ζ (2 ^ ζ 4 - 1) 0 (sl ζ s 0)) h
  have l0 := dst_le ζ (2 ^ ζ 4 - 1) 0 (sl ζ s 0) (bd ζ b 0)
  have l1 := dst_le ζ (2 ^ ζ 4 - 1) 0 (sl ζ s 0) (bd ζ b 1)
  unfold gINF at l0 l1
  unfold f_X11_loud
  rw [m_s0 h hI hs, ob_some]
  dsimp only
  rw [m_all h hI, ob_some]
  dsimp only
  rw [m_measure0 h hI (lt31 (all_lt hI) (by decide)) hss.1, ob_some, m_b0 hc hI hb, ob_some]
  dsimp only
  rw [gin_nI (show bd ζ b 0 < 10 by omega) (by decide), gGd_t, gil_nI (by omega), gLet_eq, m_b1 hc hI hb, ob_some]
  dsimp only
  rw [gin_nI hbb.2.1 (by decide), gGd_t, gil_nI (by omega), gLet_eq, m_b2 hc hI hb, ob_some, gLet_eq, enc_at (show bd ζ b 0 < 10 by omega), enc_at hbb.2.1]
  have main : ∀ v, v ≤ 1000000 → v = min (dst ζ (2 ^ ζ 4 - 1) 0 (sl ζ s 0) (bd ζ b 0)) (dst ζ (2 ^ ζ 4 - 1) 0 (sl ζ s 0) (bd ζ b 1)) → gLet (nI (bd ζ b 2) - nI v) (fun x15 => if 0 ≤ x15 then some (x15, enc σ (dst ζ (2 ^ ζ 4 - 1) 0 (sl ζ s 0))) else some (0, enc σ (dst ζ (2 ^ ζ 4 - 1) 0 (sl ζ s 0)))) = some (nI (ldn ζ b (sl ζ s 0)), enc σ (dst ζ (2 ^ ζ 4 - 1) 0 (sl ζ s 0))) := by
    intro v hv0 hv
    rw [gLet_eq]
    unfold ldn
    rw [← hv]
    by_cases hq : v ≤ bd ζ b 2
    · rw [pk_sub hq, if_pos (nI_pos' (by omega))]
    · rw [if_neg (by rw [Int32.not_le]; exact pk_sneg (by omega) (by omega)), show bd ζ b 2 - v = 0 by omega]
      rfl
  by_cases hq : dst ζ (2 ^ ζ 4 - 1) 0 (sl ζ s 0) (bd ζ b 1) ≤ dst ζ (2 ^ ζ 4 - 1) 0 (sl ζ s 0) (bd ζ b 0)
  · rw [if_pos (nI_le hq (by omega))]
    exact main _ l1 (Nat.min_eq_right hq).symm
  · rw [if_neg (nI_ge (by omega) (by omega))]
    exact main _ l0 (Nat.min_eq_left (by omega)).symm
/-- the rooms that come to -/
def rea (ζ : Nat → Nat) (E t : Nat) : Nat := mk (fun r => decide (dst ζ E 0 t r < gINF)) 10
theorem m_reached (h : cM ζ σ) (hI : zI ζ) {E t : Nat} (hE : E < 2 ^ 31) (ht : t < 10) : f_X11_reached (nI t) (nI E) σ = some (nI (rea ζ E t), enc σ (dst ζ E 0 t)) := by
  unfold f_X11_reached
  rw [m_measure0 h hI hE ht, ob_some]
  refine lp0 (fun n i => f_X11_reached_L12 n (nI (mk (fun r => decide (dst ζ E 0 t r < gINF)) i)) (nI i) (enc σ (dst ζ E 0 t))) 10 _ (by decide) (fun n i hi => ?_) (fun n => ?_)
  · have hl := dst_le ζ E 0 t i
    unfold gINF at hl
    rw [f_X11_reached_L12_s, if_neg (show ¬ (10 : Int32) ≤ nI i from nI_ge hi (by decide)), gin_nI hi (by decide), gGd_t, gil_nI (by omega), enc_at hi, nI_1, mk_succ]
    by_cases hc : dst ζ E 0 t i < gINF
    · rw [if_neg (show ¬ (1000000 : Int32) ≤ nI (dst ζ E 0 t i) from nI_ge hc (by decide)), gLet_eq, shl1 _ (by omega), n_or, if_pos (decide_eq_true hc)]
    · rw [if_pos (show (1000000 : Int32) ≤ nI (dst ζ E 0 t i) from nI_le (a := 1000000) (by unfold gINF at hc; omega) (by omega)), gLet_eq, show (0 : Int32) = nI 0 from rfl, n_or, if_neg (by simpa using hc)]
  · rw [f_X11_reached_L12_s, if_pos (show (10 : Int32) ≤ nI 10 from Int32.le_refl _)]
    rfl
end MS2
