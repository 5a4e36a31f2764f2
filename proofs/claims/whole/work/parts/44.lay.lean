section LA
variable {ζ : Nat → Nat} {x m : gS} {B : Nat}
/-- the places P of the class hold ζ -/
def cP (P : Nat → Prop) (ζ : Nat → Nat) (σ : gS) : Prop := ∀ K, K < 138 → P K → σ (1 + locR K) (locI K) = nI (ζ K)
theorem cP_of (hI : zI ζ) (h : cX ζ x 1) : cP (liv (ζ 4) (ζ 5)) ζ x := cX_cL hI.nb hI.ns h
theorem cP_to {P : Nat → Prop} (hI : zI ζ) (h : cP P ζ x) (hP : ∀ K, K < 138 → liv (ζ 4) (ζ 5) K → P K) (he : eL ζ x 1) : cX ζ x 1 := cL_cX hI.nb hI.ns (fun K hK hl => h K hK (hP K hK hl)) he
/-- what is no room of a board leaves the row of both rooms as it was -/
theorem eL_up (hI : zI ζ) (he : eL ζ x 1) {K v r i : Nat} {w : Int32} (h4 : K ≠ 4) (hb : ∀ k, k < 20 → K ≠ 6 + 5 * k ∧ K ≠ 6 + 5 * k + 1) (hr : r ≠ 10) : eL (upN ζ K v) (up2 x r i w) 1 := by
  intro k hk
  have hn := hI.nb
  rw [upN_ne (Ne.symm h4)] at hk
  have h2 := hb k (by omega)
  rw [up2_c (show 1 + 9 ≠ r by omega), he k hk]
  unfold ends bd
  rw [upN_ne (show 6 + 5 * k + 0 ≠ K by omega), upN_ne (show 6 + 5 * k + 1 ≠ K by omega)]
theorem cP_up {P : Nat → Prop} (h : cP P ζ x) {K v r i : Nat} (hK : K < 138) (hr : r = 1 + locR K) (hi : i = locI K) : cP (fun L => P L ∨ L = K) (upN ζ K v) (up2 x r i (nI v)) := by
  subst hr
  subst hi
  intro L hL hl
  by_cases hKL : L = K
  · subst hKL
    rw [up2_eq, upN_eq]
  · rw [upN_ne hKL]
    have hP := hl.resolve_right hKL
    by_cases hrr : locR L = locR K
    · have hii : locI L ≠ locI K := fun z => hKL (loc_inj' L hL K hK hrr z)
      rw [hrr, up2_k hii, ← hrr]
      exact h L hL hP
    · rw [up2_c (show 1 + locR L ≠ 1 + locR K by omega)]
      exact h L hL hP
/-- the class's rows beside the attic -/
def atX (x x' : gS) : Prop := ∀ j, (j = 0 ∨ 33 ≤ j) → x' j = x j
theorem atX.rf : atX x x := fun _ _ => rfl
theorem atX.tr {a b c : gS} (h1 : atX a b) (h2 : atX b c) : atX a c := fun j h => (h2 j h).trans (h1 j h)
theorem atX_up {r i : Nat} {v : Int32} (h0 : 0 < r) (h1 : r < 33) : atX x (up2 x r i v) := fun j h => up2_row (by omega)
/-- the check's rows beside its first -/
def atM (m m' : gS) : Prop := (∀ j, 2 ≤ j → j ≤ 5 → m' j = m j) ∧ m' 0 2 = m 0 2 ∧ m' 0 6 = m 0 6
theorem atM.rf : atM m m := ⟨fun _ _ _ => rfl, rfl, rfl⟩
theorem atM.tr {a b c : gS} (h1 : atM a b) (h2 : atM b c) : atM a c := ⟨fun j x y => (h2.1 j x y).trans (h1.1 j x y), h2.2.1.trans h1.2.1, h2.2.2.trans h1.2.2⟩
theorem atM_pm : atM m (pm m ζ) := ⟨fun j a b => pm_row (by omega), by rw [pm_row (show 0 ≠ 1 by decide)], by rw [pm_row (show 0 ≠ 1 by decide)]⟩
theorem atM_eq {m' : gS} (h : eqM m m') : atM m m' := ⟨fun j a b => h.1 j (by omega) b, h.2.1, h.2.2⟩
theorem rest.at {x' m' : gS} (h : rest B x m) (hx : atX x x') (hm : atM m m') : rest B x' m' := h.fr (by rw [hx 0 (Or.inl rfl)]) (fun j a _ => hx j (Or.inr a)) hm.1 hm.2.1 hm.2.2
/-- an operation that writes: behind the recording -/
theorem o_rec (hR : RR B x m) {fx : gS → Option (Int32 × gS)} {fm : gS → Option (Int32 × gS)} {B' : Nat} (hBB : B ≤ B')
    (hop : ∀ ζ x1 m1, zI ζ → ζ 2 ≤ B → cX ζ x 1 → cM ζ m → cX ζ x1 1 → cM ζ m1 → ∃ r x2 m2 ξ, fx x1 = some (r, x2) ∧ fm m1 = some (r, m2) ∧ zI ξ ∧ ξ 2 ≤ B' ∧ cX ξ x2 1 ∧ cM ξ m2 ∧ atX x1 x2 ∧ atM m1 m2) :
    oOK B' (Option.bind (f_X3_remember x) fx) (Option.bind (f_X11_record m) fm) := by
  obtain ⟨ζ, hI, hB, hx, hm, hr⟩ := hR
  obtain ⟨x1, m1, r1, r2, r3, r4, r5, r6, r7, r8⟩ := record_ok hI hB hx hm hr
  obtain ⟨r, x2, m2, ξ, o1, o2, o3, o4, o5, o6, o7, o8⟩ := hop ζ x1 m1 hI hB hx hm r3 r4
  rw [r1, r2, ob_some, ob_some]
  exact ⟨r, x2, m2, o1, o2, ξ, o3, o4, o5, o6, (r5.mo hBB).at o7 o8⟩
theorem o_recZ {ζ : Nat → Nat} (hI : zI ζ) (hB : ζ 2 ≤ B) (hx : cX ζ x 1) (hm : cM ζ m) (hr : rest B x m) {fx : gS → Option (Int32 × gS)} {fm : gS → Option (Int32 × gS)} {B' : Nat} (hBB : B ≤ B')
    (hop : ∀ x1 m1, cX ζ x1 1 → cM ζ m1 → ∃ r x2 m2 ξ, fx x1 = some (r, x2) ∧ fm m1 = some (r, m2) ∧ zI ξ ∧ ξ 2 ≤ B' ∧ cX ξ x2 1 ∧ cM ξ m2 ∧ atX x1 x2 ∧ atM m1 m2) :
    oOK B' (Option.bind (f_X3_remember x) fx) (Option.bind (f_X11_record m) fm) := by
  obtain ⟨x1, m1, r1, r2, r3, r4, r5, r6, r7, r8⟩ := record_ok hI hB hx hm hr
  obtain ⟨r, x2, m2, ξ, o1, o2, o3, o4, o5, o6, o7, o8⟩ := hop x1 m1 r3 r4
  rw [r1, r2, ob_some, ob_some]
  exact ⟨r, x2, m2, o1, o2, ξ, o3, o4, o5, o6, (r5.mo hBB).at o7 o8⟩
theorem zI_up {K v : Nat} (hI : zI ζ) (h4 : K ≠ 4) (h5 : K ≠ 5) (k0 : K = 0 → 10 ≤ v ∧ v ≤ 200) (k1 : K = 1 → v ≤ 60) (hb : ∀ b, b < ζ 4 → ∀ j, j < 4 → K ≠ 6 + 5 * b + j) (hg0 : ∀ g, g < 4 → K = 106 + 3 * g → v < 10) (hg1 : ∀ g, g < 4 → K = 106 + 3 * g + 1 → v < 2 ^ ζ 4) (hs : ∀ s, s < ζ 5 → ∀ j, j < 2 → K ≠ 118 + 4 * s + j) (hs2 : ∀ s, s < ζ 5 → K = 118 + 4 * s + 2 → v ≤ 60) : zI (upN ζ K v) := by
  obtain ⟨i1, i2, i3, i4, i5, i6, i7⟩ := hI
  have n4 : upN ζ K v 4 = ζ 4 := upN_ne (Ne.symm h4)
  have n5 : upN ζ K v 5 = ζ 5 := upN_ne (Ne.symm h5)
  refine ⟨by rw [n4]; exact i1, by rw [n5]; exact i2, ?_, ?_, fun b hb4 => ?_, fun g hg => ?_, fun s hs5 => ?_⟩
  · by_cases q : K = 0
    · subst q
      rw [upN_eq]
      exact k0 rfl
    · rw [upN_ne (Ne.symm q)]
      exact i3
  · by_cases q : K = 1
    · subst q
      rw [upN_eq]
      exact k1 rfl
    · rw [upN_ne (Ne.symm q)]
      exact i4
  · rw [n4] at hb4
    have := i5 b hb4
    unfold bd at this ⊢
    rw [upN_ne (Ne.symm (hb b hb4 0 (by decide))), upN_ne (Ne.symm (hb b hb4 1 (by decide))), upN_ne (Ne.symm (hb b hb4 2 (by decide))), upN_ne (Ne.symm (hb b hb4 3 (by decide)))]
    exact this
  · have := i6 g hg
    rw [n4]
    unfold gh at this ⊢
    constructor
    · by_cases q : K = 106 + 3 * g + 0
      · subst q
        rw [upN_eq]
        exact hg0 g hg rfl
      · rw [upN_ne (Ne.symm q)]
        exact this.1
    · by_cases q : K = 106 + 3 * g + 1
      · subst q
        rw [upN_eq]
        exact hg1 g hg rfl
      · rw [upN_ne (Ne.symm q)]
        exact this.2
  · rw [n5] at hs5
    have := i7 s hs5
    unfold sl at this ⊢
    rw [upN_ne (Ne.symm (hs s hs5 0 (by decide))), upN_ne (Ne.symm (hs s hs5 1 (by decide)))]
    refine ⟨this.1, this.2.1, ?_⟩
    by_cases q : K = 118 + 4 * s + 2
    · subst q
      rw [upN_eq]
      exact hs2 s hs5 rfl
    · rw [upN_ne (Ne.symm q)]
      exact this.2.2
theorem o_put (hR : RR B x m) (p0 p1 : Int32) : oOK B (f_X10_put p0 p1 x) (f_X11_put p0 p1 m) := by
  unfold f_X10_put f_X11_put
  rcases ghC p0 x m with ⟨h1, h2⟩ | ⟨g, hg, rfl, h1, h2⟩
  · rw [h1, h2]; exact oOK.same hR rfl rfl
  rw [h1, h2, ob_some, ob_some]
  dsimp only
  rw [if_neg i10, if_neg i10]
  rcases rmC p1 x m with ⟨g1, g2⟩ | ⟨r, hr, rfl, g1, g2⟩
  · rw [g1, g2]; exact oOK.same hR rfl rfl
  rw [g1, g2, ob_some, ob_some]
  dsimp only
  rw [if_neg i10, if_neg i10]
  refine o_rec hR (Nat.le_refl _) fun ζ x1 m1 hI hB _ _ hx hm => ?_
  have eK : (106 : Int32) + 3 * nI g = nI (106 + 3 * g) := by rw [show (106 : Int32) = nI 106 from rfl, show (3 : Int32) = nI 3 from rfl, pk_mul, nI_add]
  have hl := loc_g g hg 0 (by decide)
  rw [a_grm hx hg, ob_some, m_roomOf hm hg, ob_some]
  dsimp only
  rw [store_nI hg (by decide), ob_some, eK, gin_nI (by omega) (by decide), gGd_t, gLet_eq, gil_nI (by omega)]
  have hI' : zI (upN ζ (106 + 3 * g) r) := zI_up hI (by omega) (by omega) (by omega) (by omega) (fun b hb j hj => by have := hI.nb; omega) (fun g' _ _ => hr) (fun g' _ e => by omega) (fun s hs j hj => by omega) (fun s hs e => by omega)
  exact ⟨_, _, _, upN ζ (106 + 3 * g) r, rfl, rfl, hI', by rw [upN_ne (by omega)]; exact hB, cP_to hI' (cP_up (cP_of hI hx) (K := 106 + 3 * g) (by omega) (by rw [show 106 + 3 * g = 106 + 3 * g + 0 from rfl, hl.1]) (by rw [show 106 + 3 * g = 106 + 3 * g + 0 from rfl, hl.2])) (fun K hK hlv => Or.inl (by rwa [upN_ne (by omega), upN_ne (by omega)] at hlv)) (eL_up hI (cX_eL hx) (by omega) (fun k _ => by omega) (by decide)), up_cM hm (by omega), atX_up (by decide) (by decide), by rw [← pm_self hm, pm_up (by omega)]; exact atM_pm.tr (by rw [pm_self hm]; exact atM.rf)⟩
theorem atM_up {m : gS} {K : Nat} {v : Int32} : atM m (up2 m 1 K v) := ⟨fun j a b => up2_row (by omega), by rw [up2_row (show 0 ≠ 1 by decide)], by rw [up2_row (show 0 ≠ 1 by decide)]⟩
theorem o_set (hR : RR B x m) (p0 p1 : Int32) : oOK B (f_X10_set p0 p1 x) (f_X11_set p0 p1 m) := by
  unfold f_X10_set f_X11_set f_X10_isSetting
  -- both, when setting k gets v
  have body : ∀ k v, k < 2 → (k = 0 → 10 ≤ v ∧ v ≤ 200) → (k = 1 → v ≤ 60) → oOK B (Option.bind (f_X3_remember x) (fun q3 => Option.bind (f_X5_at 2 2 (nI k) q3) (fun q4 => Option.bind (f_X5_store 2 2 (nI k) (nI v) q4.2) (fun q5 => some (q4.1, q5))))) (Option.bind (f_X11_record m) (fun q14 => gGd (gin (nI k) 138) (gLet (q14 1 (gil (nI k))) (fun x16 => gGd (gin (nI k) 138) (gLet (up2 q14 1 (gil (nI k)) (nI v)) (fun s17 => some (x16, s17))))))) := by
    intro k v hk v0 v1
    refine o_rec hR (Nat.le_refl _) fun ζ x1 m1 hI hB _ _ hx hm => ?_
    have ha : f_X5_at 2 2 (nI k) x1 = some (nI (ζ k), x1) := by
      rcases (show k = 0 ∨ k = 1 by omega) with rfl | rfl
      · exact a_bell hx
      · exact a_awk hx
    have hl : locR k = 2 ∧ locI k = k := by
      rcases (show k = 0 ∨ k = 1 by omega) with rfl | rfl <;> exact ⟨rfl, rfl⟩
    rw [ha, ob_some, store_nI hk (by decide), ob_some, gin_nI (by omega) (by decide), gGd_t, gLet_eq, gGd_t, gLet_eq, gil_nI (by omega), hm k (by omega)]
    have hI' : zI (upN ζ k v) := zI_up hI (by omega) (by omega) v0 v1 (fun b hb j hj => by omega) (fun g _ e => by omega) (fun g _ e => by omega) (fun s hs j hj => by omega) (fun s hs e => by omega)
    exact ⟨_, _, _, upN ζ k v, rfl, rfl, hI', by rw [upN_ne (by omega)]; exact hB, cP_to hI' (cP_up (cP_of hI hx) (K := k) (by omega) (by rw [hl.1]) (by rw [hl.2])) (fun K hK hlv => Or.inl (by rwa [upN_ne (by omega), upN_ne (by omega)] at hlv)) (eL_up hI (cX_eL hx) (by omega) (fun k _ => by omega) (by decide)), up_cM hm (by omega), atX_up (by decide) (by decide), atM_up⟩
  by_cases c0 : p0 = 0
  · subst c0
    rw [if_pos rfl, show f_X11_in 0 0 1 m = some (1, m) from rfl, ob_some]
    dsimp only
    rw [if_neg i10, gLet_eq, if_pos rfl]
    dsimp only
    rw [gLet_eq, if_pos rfl]
    dsimp only
    rcases wi p1 10 200 10 200 rfl rfl (by decide) (by decide) x m with ⟨h1, h2⟩ | ⟨v, hv1, hv2, rfl, h1, h2⟩
    · rw [h1, h2]; exact oOK.same hR rfl rfl
    · rw [h1, h2, ob_some, ob_some]
      dsimp only
      rw [show gbo 1 = true from rfl, gGd_t, ob_some]
      dsimp only
      rw [if_neg i10, if_neg i10]
      exact body 0 v (by decide) (fun _ => ⟨hv1, hv2⟩) (fun z => absurd z (by decide))
  rw [if_neg c0]
  by_cases c1 : p0 = 1
  · subst c1
    rw [if_pos rfl, show f_X11_in 1 0 1 m = some (1, m) from rfl, ob_some]
    dsimp only
    rw [if_neg i10, gLet_eq, if_neg i10]
    dsimp only
    rw [gLet_eq, if_neg i10]
    dsimp only
    rcases wi p1 0 60 0 60 rfl rfl (by decide) (by decide) x m with ⟨h1, h2⟩ | ⟨v, hv1, hv2, rfl, h1, h2⟩
    · rw [h1, h2]; exact oOK.same hR rfl rfl
    · rw [h1, h2, ob_some, ob_some]
      dsimp only
      rw [if_neg i10, if_neg i10, ob_some]
      dsimp only
      rw [if_neg i10]
      exact body 1 v (by decide) (fun z => absurd z (by decide)) (fun _ => hv2)
  rw [if_neg c1]
  rcases wi p0 0 1 0 1 rfl rfl (by decide) (by decide) x m with ⟨-, g2⟩ | ⟨k, -, hk, rfl, -, g2⟩
  · rw [g2]; exact oOK.same hR rfl rfl
  · rcases (show k = 0 ∨ k = 1 by omega) with rfl | rfl
    · exact absurd rfl c0
    · exact absurd rfl c1
/-- one sleeper more -/
def slZ (ζ : Nat → Nat) (r e : Nat) : Nat → Nat := upN (upN (upN (upN (upN ζ (118 + 4 * ζ 5) r) (118 + 4 * ζ 5 + 1) e) (118 + 4 * ζ 5 + 2) 0) (118 + 4 * ζ 5 + 3) 0) 5 (ζ 5 + 1)
theorem slZ_I (hI : zI ζ) (h5 : ζ 5 < 5) {r e : Nat} (hr : r < 10) (he : 1 ≤ e ∧ e ≤ 9) : zI (slZ ζ r e) := by
  obtain ⟨i1, i2, i3, i4, i5, i6, i7⟩ := hI
  have n : ∀ K, K ≠ 5 → (K < 118 + 4 * ζ 5 ∨ 118 + 4 * ζ 5 + 4 ≤ K) → slZ ζ r e K = ζ K := fun K h1 h2 => by
    unfold slZ
    rw [upN_ne h1, upN_ne (by omega), upN_ne (by omega), upN_ne (by omega), upN_ne (by omega)]
  have n5 : slZ ζ r e 5 = ζ 5 + 1 := upN_eq
  refine ⟨by rw [n 4 (by decide) (by omega)]; exact i1, by rw [n5]; omega, by rw [n 0 (by decide) (by omega)]; exact i3, by rw [n 1 (by decide) (by omega)]; exact i4, fun b hb => ?_, fun g hg => ?_, fun s hs => ?_⟩
  · rw [n 4 (by decide) (by omega)] at hb
    have := i5 b hb
    unfold bd at this ⊢
    rw [n _ (by omega) (by omega), n _ (by omega) (by omega), n _ (by omega) (by omega), n _ (by omega) (by omega)]
    exact this
  · have := i6 g hg
    rw [n 4 (by decide) (by omega)]
    unfold gh at this ⊢
    rw [n _ (by omega) (by omega), n _ (by omega) (by omega)]
    exact this
  · rw [n5] at hs
    unfold sl
    by_cases hq : s = ζ 5
    · subst hq
      have q0 : slZ ζ r e (118 + 4 * ζ 5 + 0) = r := by
        unfold slZ
        rw [upN_ne (by omega), upN_ne (by omega), upN_ne (by omega), upN_ne (by omega)]
        exact upN_eq
      have q1 : slZ ζ r e (118 + 4 * ζ 5 + 1) = e := by
        unfold slZ
        rw [upN_ne (by omega), upN_ne (by omega), upN_ne (by omega)]
        exact upN_eq
      have q2 : slZ ζ r e (118 + 4 * ζ 5 + 2) = 0 := by
        unfold slZ
        rw [upN_ne (by omega), upN_ne (by omega)]
        exact upN_eq
      rw [q0, q1, q2]
      exact ⟨hr, he, by decide⟩
    · have := i7 s (by omega)
      unfold sl at this
      rw [n _ (by omega) (by omega), n _ (by omega) (by omega), n _ (by omega) (by omega)]
      exact this
theorem x_app7 (hI : zI ζ) (hx : cX ζ x 1) (h5 : ζ 5 < 5) {r e : Nat} (hr : r < 10) (he : 1 ≤ e ∧ e ≤ 9) : ∃ x', f_X7_append (nI r) (nI e) x = some x' ∧ cX (slZ ζ r e) x' 1 ∧ atX x x' := by
  have hl : ∀ j, j < 4 → locR (118 + 4 * ζ 5 + j) = 25 + 2 * j ∧ locI (118 + 4 * ζ 5 + j) = ζ 5 := fun j hj => loc_s _ h5 j hj
  have e22 : x 24 0 = nI (ζ 5) := x_ns hx
  unfold f_X7_append
  rw [if_pos (show x 24 0 < 5 by rw [e22]; exact nI_lt (b := 5) h5 (by decide)), e22, store_nI h5 (by decide), ob_some, up2_c (show 24 ≠ 25 + 1 by decide), e22, store_nI h5 (by decide), ob_some, up2_c (show 24 ≠ 27 + 1 by decide), up2_c (show 24 ≠ 25 + 1 by decide), e22, store_nI h5 (by decide), ob_some, up2_c (show 24 ≠ 29 + 1 by decide), up2_c (show 24 ≠ 27 + 1 by decide), up2_c (show 24 ≠ 25 + 1 by decide), e22, store_nI h5 (by decide), ob_some, gLet_eq, up2_c (show 24 ≠ 31 + 1 by decide), up2_c (show 24 ≠ 29 + 1 by decide), up2_c (show 24 ≠ 27 + 1 by decide), up2_c (show 24 ≠ 25 + 1 by decide), e22, nI_1]
  have c1 := cP_up (cP_of hI hx) (K := 118 + 4 * ζ 5) (v := r) (r := 25 + 1) (i := ζ 5) (by omega) (by have := (hl 0 (by decide)).1; rw [Nat.add_zero] at this; rw [this]) (by have := (hl 0 (by decide)).2; rw [Nat.add_zero] at this; rw [this])
  have c2 := cP_up c1 (K := 118 + 4 * ζ 5 + 1) (v := e) (r := 27 + 1) (i := ζ 5) (by omega) (by rw [(hl 1 (by decide)).1]) (by rw [(hl 1 (by decide)).2])
  have c3 := cP_up c2 (K := 118 + 4 * ζ 5 + 2) (v := 0) (r := 29 + 1) (i := ζ 5) (by omega) (by rw [(hl 2 (by decide)).1]) (by rw [(hl 2 (by decide)).2])
  have c4 := cP_up c3 (K := 118 + 4 * ζ 5 + 3) (v := 0) (r := 31 + 1) (i := ζ 5) (by omega) (by rw [(hl 3 (by decide)).1]) (by rw [(hl 3 (by decide)).2])
  have c5 := cP_up c4 (K := 5) (v := ζ 5 + 1) (r := 24) (i := 0) (by decide) (by rfl) (by rfl)
  have hz4 : slZ ζ r e 4 = ζ 4 := by
    unfold slZ
    rw [upN_ne (by decide), upN_ne (by omega), upN_ne (by omega), upN_ne (by omega), upN_ne (by omega)]
  have hz5 : slZ ζ r e 5 = ζ 5 + 1 := upN_eq
  refine ⟨_, rfl, cP_to (slZ_I hI h5 hr he) c5 (fun K hK hlv => ?_) (fun k hk => ?_), ((((atX_up (by decide) (by decide)).tr (atX_up (by decide) (by decide))).tr (atX_up (by decide) (by decide))).tr (atX_up (by decide) (by decide))).tr (atX_up (by decide) (by decide))⟩
  · rw [hz4, hz5] at hlv
    unfold liv at hlv ⊢
    omega
  · rw [hz4] at hk
    have hn := hI.nb
    rw [up2_c (by decide), up2_c (by decide), up2_c (by decide), up2_c (by decide), up2_c (by decide), cX_eL hx k hk]
    have e0 : ∀ j, j < 2 → slZ ζ r e (6 + 5 * k + j) = ζ (6 + 5 * k + j) := fun j hj => by
      unfold slZ
      rw [upN_ne (by omega), upN_ne (by omega), upN_ne (by omega), upN_ne (by omega), upN_ne (by omega)]
    unfold ends bd
    rw [e0 0 (by decide), e0 1 (by decide)]
theorem o_sleeper (hR : RR B x m) (p0 p1 : Int32) : oOK B (f_X10_sleeper p0 p1 x) (f_X11_sleeper p0 p1 m) := by
  obtain ⟨ζ, hI, hB, hx, hm, hrest⟩ := id hR
  unfold f_X10_sleeper f_X11_sleeper
  rcases rmC p0 x m with ⟨h1, h2⟩ | ⟨r, hr, rfl, h1, h2⟩
  · rw [h1, h2]; exact oOK.same hR rfl rfl
  rw [h1, h2, ob_some, ob_some]
  dsimp only
  rw [if_neg i10, if_neg i10]
  rcases wi p1 1 9 1 9 rfl rfl (by decide) (by decide) x m with ⟨h1, h2⟩ | ⟨e, he1, he2, rfl, h1, h2⟩
  · rw [h1, h2]; exact oOK.same hR rfl rfl
  rw [h1, h2, ob_some, ob_some]
  dsimp only
  have h55 := hI.ns
  rw [if_neg i10, if_neg i10]
  by_cases h5 : ζ 5 < 5
  · rw [if_pos (show x 24 0 < 5 by rw [x_ns hx]; exact nI_lt (b := 5) h5 (by decide)), if_neg (show ¬ m 1 5 = 5 from fun z => absurd ((nI_eq (a := ζ 5) (b := 5) (by omega) (by decide)).mp ((m_ns hm).symm.trans z)) (by omega))]
    refine o_recZ hI hB hx hm hrest (Nat.le_refl _) fun x1 m1 hx hm => ?_
    obtain ⟨x2, q1, q2, q3⟩ := x_app7 hI hx h5 hr ⟨he1, he2⟩
    rw [q1, ob_some, m_ns hm, show (118 : Int32) + 4 * nI (ζ 5) = nI (118 + 4 * ζ 5) by rw [show (118 : Int32) = nI 118 from rfl, show (4 : Int32) = nI 4 from rfl, pk_mul, nI_add], gLet_eq, gin_nI (by omega) (by decide), gGd_t, gLet_eq, nI_1, gin_nI (by omega) (by decide), gGd_t, gLet_eq, show nI (118 + 4 * ζ 5) + 2 = nI (118 + 4 * ζ 5 + 2) from nI_add _ 2, gin_nI (by omega) (by decide), gGd_t, gLet_eq, show nI (118 + 4 * ζ 5) + 3 = nI (118 + 4 * ζ 5 + 3) from nI_add _ 3, gin_nI (by omega) (by decide), gGd_t, gLet_eq, gil_nI (by omega), gil_nI (by omega), gil_nI (by omega), gil_nI (by omega), gLet_eq]
    have e5 : ∀ v1 v2 v3 v4 : Int32, up2 (up2 (up2 (up2 m1 1 (118 + 4 * ζ 5) v1) 1 (118 + 4 * ζ 5 + 1) v2) 1 (118 + 4 * ζ 5 + 2) v3) 1 (118 + 4 * ζ 5 + 3) v4 1 5 + 1 = nI (ζ 5 + 1) := fun v1 v2 v3 v4 => by
      rw [up2_k (by omega), up2_k (by omega), up2_k (by omega), up2_k (by omega), m_ns hm, nI_1]
    rw [e5, up2_eq]
    refine ⟨_, _, _, slZ ζ r e, rfl, ?_, slZ_I hI h5 hr ⟨he1, he2⟩, ?_, q2, up_cM (up_cM (up_cM (up_cM (up_cM hm (v := r) (by omega)) (v := e) (by omega)) (v := 0) (by omega)) (v := 0) (by omega)) (v := ζ 5 + 1) (by decide), q3, atM_up.tr (atM_up.tr (atM_up.tr (atM_up.tr atM_up)))⟩
    · rw [x_ns q2]
      rfl
    · unfold slZ
      rw [upN_ne (by decide), upN_ne (by omega), upN_ne (by omega), upN_ne (by omega), upN_ne (by omega)]
      exact hB
  · rw [if_neg (show ¬ x 24 0 < 5 by rw [x_ns hx]; exact nI_nlt (b := 5) (by omega) (by omega)), if_pos (show m 1 5 = 5 by rw [m_ns hm, show ζ 5 = 5 by omega]; rfl)]
    exact oOK.same hR rfl rfl
end LA
