section PA
variable {ζ : Nat → Nat} {x m : gS} {B : Nat}
/-- long numbers as naturals -/
theorem L_inj {a b : Int64} (h : a.toBitVec = b.toBitVec) : a = b := Int64.toBitVec_inj.mp h
theorem L_bv (n : Nat) : (lN n).toBitVec = BitVec.ofNat 64 n := rfl
theorem L_of (z : Int64) : ∃ n, n < 2 ^ 64 ∧ z = lN n := ⟨z.toBitVec.toNat, z.toBitVec.isLt, L_inj (by rw [L_bv]; simp)⟩
theorem L_sh : ∀ k, k < 64 → ((nI k).toInt64.toUInt64 &&& Int64.toUInt64 63) = UInt64.ofNat k := by decide +kernel
theorem L_shr {n k : Nat} (hn : n < 2 ^ 64) (hk : k < 64) : gushL (lN n) (nI k) = lN (n / 2 ^ k) := by
  unfold gushL
  rw [L_sh k hk]
  apply L_inj
  apply BitVec.eq_of_toNat_eq
  show ((lN n).toUInt64 >>> UInt64.ofNat k).toNat = (BitVec.ofNat 64 _).toNat
  have h1 : (UInt64.ofNat k).toNat = k := by
    show (BitVec.ofNat 64 k).toNat = k
    rw [BitVec.toNat_ofNat, Nat.mod_eq_of_lt (by omega)]
  have h2 : (lN n).toUInt64.toNat = n := by
    show (BitVec.ofNat 64 n).toNat = n
    rw [BitVec.toNat_ofNat, Nat.mod_eq_of_lt hn]
  rw [UInt64.toNat_shiftRight, h1, h2, Nat.mod_eq_of_lt hk, Nat.shiftRight_eq_div_pow, BitVec.toNat_ofNat, Nat.mod_eq_of_lt (Nat.lt_of_le_of_lt (Nat.div_le_self _ _) hn)]
theorem L_byte {n : Nat} (hn : n < 2 ^ 64) : Int64.toInt32 (lN n &&& 255) = nI (n % 256) := by
  have : lN n &&& 255 = lN (n % 256) := by
    apply L_inj
    apply BitVec.eq_of_toNat_eq
    show (BitVec.ofNat 64 n &&& BitVec.ofNat 64 255).toNat = (BitVec.ofNat 64 _).toNat
    rw [BitVec.toNat_and, BitVec.toNat_ofNat, BitVec.toNat_ofNat, BitVec.toNat_ofNat, Nat.mod_eq_of_lt hn, show 255 % 2 ^ 64 = 2 ^ 8 - 1 from rfl, Nat.and_two_pow_sub_one_eq_mod, Nat.mod_eq_of_lt (Nat.lt_trans (Nat.mod_lt _ (by decide)) (by decide))]
  rw [this]
  exact lN_i _
theorem L_zero {n : Nat} (hn : n < 2 ^ 64) : lg_cmp (lN n) 0 = 0 ↔ n = 0 := by
  rw [lg_cmp_eq]
  constructor
  · intro h
    have h2 := congrArg (fun z => z.toBitVec.toNat) h
    have h3 : n % 2 ^ 64 = 0 := h2
    rwa [Nat.mod_eq_of_lt hn] at h3
  · rintro rfl
    rfl
/-- byte k of a long -/
def byt (n k : Nat) : Nat := n / 2 ^ (8 * k) % 256
theorem byt_lt (n k : Nat) : byt n k < 256 := Nat.mod_lt _ (by decide)
theorem div_lt (n k : Nat) (hn : n < 2 ^ 64) : n / 2 ^ k < 2 ^ 64 := Nat.lt_of_le_of_lt (Nat.div_le_self _ _) hn
theorem x_sign {n k : Nat} (hn : n < 2 ^ 64) (hk : k < 8) : f_X4_signAt (lN n) (nI k) x = some (nI (byt n k), x) := by
  unfold f_X4_signAt
  rw [show (8 : Int32) = nI 8 from rfl, pk_mul, L_shr hn (by omega), L_byte (div_lt _ _ hn)]
  rfl
/-- how many signs a long holds: both sides -/
theorem both_many (p : Nat) (hp : p < 2 ^ 64) (K : Int32 → Int32 → gS → Option (Int32 × gS)) : ∀ d i n1 n2, i + d = 8 → d < n1 → d + 2 < n2 → (∀ j, j < i → 33 ≤ byt p j ∧ byt p j ≤ 126) →
    (f_X4_howMany_L4 (lN p) (fun (k6 : Int32) (k7 : Int32) (s8 : gS) => if (lg_cmp (gushL (lN p) (8 * k7)) 0) = 0 then (some (k6, s8)) else (some (0, s8))) n1 (nI i) (nI i) x = some (0, x) ∧ ∃ u v, f_X11_write_L8 (lN p) K n2 (nI i) (lN (p / 2 ^ (8 * i))) 1 m = K u v m ∧ (u = 0 ∨ v = 0)) ∨
    ∃ k, 1 ≤ k ∧ k ≤ 8 ∧ (∀ j, j < k → 33 ≤ byt p j ∧ byt p j ≤ 126) ∧ f_X4_howMany_L4 (lN p) (fun (k6 : Int32) (k7 : Int32) (s8 : gS) => if (lg_cmp (gushL (lN p) (8 * k7)) 0) = 0 then (some (k6, s8)) else (some (0, s8))) n1 (nI i) (nI i) x = some (nI k, x) ∧ f_X11_write_L8 (lN p) K n2 (nI i) (lN (p / 2 ^ (8 * i))) 1 m = K (nI k) 1 m := by
  intro d
  induction d with
  | zero =>
    intro i n1 n2 hid h1 h2 hb
    obtain ⟨n1, rfl⟩ := Nat.exists_eq_succ_of_ne_zero (show n1 ≠ 0 by omega)
    obtain ⟨n2, rfl⟩ := Nat.exists_eq_succ_of_ne_zero (show n2 ≠ 0 by omega)
    have hi8 : i = 8 := by omega
    subst hi8
    refine Or.inr ⟨8, by decide, by decide, hb, ?_, ?_⟩
    · rw [f_X4_howMany_L4_s, if_pos (show (8 : Int32) ≤ nI 8 from Int32.le_refl _)]
    · have h0 : p / 2 ^ (8 * 8) = 0 := Nat.div_eq_of_lt hp
      rw [f_X11_write_L8_s, h0, if_pos ((L_zero (by decide)).mpr rfl)]
  | succ d ih =>
    intro i n1 n2 hid h1 h2 hb
    obtain ⟨n1, rfl⟩ := Nat.exists_eq_succ_of_ne_zero (show n1 ≠ 0 by omega)
    obtain ⟨n2, rfl⟩ := Nat.exists_eq_succ_of_ne_zero (show n2 ≠ 0 by omega)
    have hbl := byt_lt p i
    have hdv := div_lt p (8 * i) hp
    have esh : gushL (lN p) (8 * nI i) = lN (p / 2 ^ (8 * i)) := by rw [show (8 : Int32) = nI 8 from rfl, pk_mul, L_shr hp (by omega)]
    have enx : gushL (lN (p / 2 ^ (8 * i))) 8 = lN (p / 2 ^ (8 * (i + 1))) := by
      rw [show (8 : Int32) = nI 8 from rfl, L_shr hdv (by decide), Nat.div_div_eq_div_mul, ← Nat.pow_add, show 8 * (i + 1) = 8 * i + 8 by omega]
    have ebt : Int64.toInt32 (lN (p / 2 ^ (8 * i)) &&& 255) = nI (byt p i) := L_byte hdv
    rw [f_X4_howMany_L4_s, f_X11_write_L8_s, if_neg (show ¬ (8 : Int32) ≤ nI i from nI_ge (b := 8) (by omega) (by decide)), x_sign hp (by omega), ob_some]
    dsimp only
    by_cases hz : p / 2 ^ (8 * i) = 0
    · have hb0 : byt p i = 0 := by
        unfold byt
        rw [hz]
      rw [if_pos ((L_zero hdv).mpr hz), if_pos (show nI (byt p i) = 0 by rw [hb0]; rfl), esh, if_pos ((L_zero hdv).mpr hz)]
      by_cases hi0 : i = 0
      · subst hi0
        exact Or.inl ⟨rfl, 0, 1, rfl, Or.inl rfl⟩
      · exact Or.inr ⟨i, by omega, by omega, hb, rfl, rfl⟩
    · rw [if_neg (fun w => hz ((L_zero hdv).mp w)), if_neg i10, ebt]
      rcases wi (nI (byt p i)) 33 126 33 126 rfl rfl (by decide) (by decide) x m with ⟨g1, g2⟩ | ⟨k, hk1, hk2, hk, g1, g2⟩
      · rw [g2, ob_some]
        dsimp only
        have hcl : (if nI (byt p i) = 0 then (if (lg_cmp (gushL (lN p) (8 * nI i)) 0) = 0 then (some (nI i, x)) else (some (0, x))) else (f_X10_isWithin (nI (byt p i)) 33 126 x).bind fun q4 => if q4.1 = 0 then (some ((0 : Int32), q4.2)) else (f_X4_howMany_L4 (lN p) (fun (k6 : Int32) (k7 : Int32) (s8 : gS) => if (lg_cmp (gushL (lN p) (8 * k7)) 0) = 0 then (some (k6, s8)) else (some (0, s8))) n1 (nI i + 1) (nI i + 1) q4.2)) = some (0, x) := by
          by_cases hb0 : nI (byt p i) = 0
          · rw [if_pos hb0, esh, if_neg (fun w => hz ((L_zero hdv).mp w))]
          · rw [if_neg hb0, g1, ob_some]
            dsimp only
            rw [if_pos rfl]
        refine Or.inl ⟨hcl, ?_⟩
        rw [gLet_eq, enx]
        obtain ⟨n2, rfl⟩ := Nat.exists_eq_succ_of_ne_zero (show n2 ≠ 0 by omega)
        rw [f_X11_write_L8_s, if_pos (show (0 : Int32) = 0 from rfl)]
        by_cases hz2 : lg_cmp (lN (p / 2 ^ (8 * (i + 1)))) 0 = 0
        · rw [if_pos hz2]
          exact ⟨_, _, rfl, Or.inr rfl⟩
        · rw [if_neg hz2]
          exact ⟨_, _, rfl, Or.inr rfl⟩
      · have hk' : byt p i = k := (nI_eq (by omega) (by omega)).mp hk
        rw [g1, g2, ob_some, ob_some]
        dsimp only
        rw [if_neg (show ¬ nI (byt p i) = 0 from nI_ne0 (by omega) (by omega)), if_neg i10, gLet_eq, enx, nI_1]
        exact ih (i + 1) n1 n2 (by omega) (by omega) (by omega) (fun j hj => by
          by_cases hji : j = i
          · subst hji
            omega
          · exact hb j (by omega))
theorem ch_nar {b : Nat} (hb : b < 256) : vp_nar .char (gi2c (nI b)) = nI b := by
  unfold gi2c
  rw [pk_vc, pk_char, pk_tn (by omega), Nat.mod_eq_of_lt (by omega)]
theorem both_app (p : Nat) (hp : p < 2 ^ 64) : ∀ d (x m : gS) L n1 n2, d < n1 → d < n2 → d ≤ 8 → L + d ≤ 60 → x 33 0 = nI L → m 0 6 = nI L →
    ∃ x' m', f_X4_append_L5 (lN p) n1 (nI d - 1) x = some x' ∧ f_X11_write_L80 (lN p) n2 (nI d - 1) m = some (nI (L + d), m') ∧ x' 33 0 = nI (L + d) ∧ m' 0 6 = nI (L + d) ∧ (∀ q, q < L → x' 35 q = x 35 q ∧ m' 5 q = m 5 q) ∧ (∀ q, L ≤ q → q < L + d → x' 35 q = nI (byt p (L + d - 1 - q)) ∧ m' 5 q = nI (byt p (L + d - 1 - q))) ∧ (∀ j, j ≠ 33 → j ≠ 35 → x' j = x j) ∧ (∀ j, j ≠ 0 → j ≠ 5 → m' j = m j) ∧ (∀ i, i ≠ 6 → m' 0 i = m 0 i) := by
  intro d
  induction d with
  | zero =>
    intro x m L n1 n2 h1 h2 h8 hL hx hm
    obtain ⟨n1, rfl⟩ := Nat.exists_eq_succ_of_ne_zero (show n1 ≠ 0 by omega)
    obtain ⟨n2, rfl⟩ := Nat.exists_eq_succ_of_ne_zero (show n2 ≠ 0 by omega)
    rw [f_X4_append_L5_s, f_X11_write_L80_s, if_pos (show nI 0 - 1 < 0 by decide), if_pos (show nI 0 - 1 < 0 by decide), hm]
    exact ⟨x, m, rfl, rfl, hx, hm, fun _ _ => ⟨rfl, rfl⟩, fun q a b => by omega, fun _ _ _ => rfl, fun _ _ _ => rfl, fun _ _ => rfl⟩
  | succ d ih =>
    intro x m L n1 n2 h1 h2 h8 hL hx hm
    obtain ⟨n1, rfl⟩ := Nat.exists_eq_succ_of_ne_zero (show n1 ≠ 0 by omega)
    obtain ⟨n2, rfl⟩ := Nat.exists_eq_succ_of_ne_zero (show n2 ≠ 0 by omega)
    have hbl := byt_lt p d
    have ed : nI d + (-1) = nI d - 1 := (Int32.sub_eq_add_neg _ _).symm
    have ebt : Int64.toInt32 (gushL (lN p) (8 * nI d) &&& 255) = nI (byt p d) := by
      rw [show (8 : Int32) = nI 8 from rfl, pk_mul, L_shr hp (by omega), L_byte (div_lt _ _ hp)]
      rfl
    rw [f_X4_append_L5_s, f_X11_write_L80_s, nI_pred, if_neg (nI_pos (by omega)), if_neg (nI_pos (by omega)), hx, if_neg (show ¬ (60 : Int32) ≤ nI L from nI_ge (b := 60) (by omega) (by decide)), x_sign hp (by omega), ob_some, hm, gin_nI (show L < 60 by omega) (by decide), gGd_t, gLet_eq, ebt, ch_nar hbl, gil_nI (by omega)]
    dsimp only
    rw [store_nI (show L < 60 by omega) (by decide), ob_some, gLet_eq, gLet_eq, up2_c (show 33 ≠ 34 + 1 by decide), hx, up2_c (show 0 ≠ 5 by decide), hm, nI_1, ed]
    obtain ⟨x', m', k1, k2, k3, k4, k5, k6, k7, k8, k9⟩ := ih (up2 (up2 x (34 + 1) L (nI (byt p d))) 33 0 (nI (L + 1))) (up2 (up2 m 5 L (nI (byt p d))) 0 6 (nI (L + 1))) (L + 1) n1 n2 (by omega) (by omega) (by omega) (by omega) up2_eq up2_eq
    refine ⟨x', m', k1, by rw [k2, show L + 1 + d = L + (d + 1) by omega], by rw [k3, show L + 1 + d = L + (d + 1) by omega], by rw [k4, show L + 1 + d = L + (d + 1) by omega], fun q hq => ?_, fun q a b => ?_, fun j a b => ?_, fun j a b => ?_, fun i hi => ?_⟩
    · obtain ⟨q1, q2⟩ := k5 q (by omega)
      rw [q1, q2, up2_c (show 35 ≠ 33 by decide), up2_c (show 5 ≠ 0 by decide)]
      exact ⟨up2_k (by omega), up2_k (by omega)⟩
    · by_cases hq : q = L
      · subst hq
        obtain ⟨q1, q2⟩ := k5 q (by omega)
        rw [q1, q2, up2_c (show 35 ≠ 33 by decide), up2_c (show 5 ≠ 0 by decide), show q + (d + 1) - 1 - q = d by omega]
        exact ⟨up2_eq, up2_eq⟩
      · have := k6 q (by omega) (by omega)
        rwa [show L + 1 + d - 1 - q = L + (d + 1) - 1 - q by omega] at this
    · rw [k7 j a b, up2_row a]
      exact up2_row (by omega)
    · rw [k8 j a b, up2_row a, up2_row b]
    · rw [k9 i hi, up2_k hi, up2_row (show 0 ≠ 5 by decide)]
theorem o_write (hR : RR B x m) (p0 : Int64) : oOK B (f_X10_write p0 x) (f_X11_write p0 m) := by
  obtain ⟨ζ, hI, hB, hx, hm, hh, hs, ⟨L, c, hL, l1, l2, l3⟩⟩ := id hR
  obtain ⟨p, hp, rfl⟩ := L_of p0
  unfold f_X10_write f_X11_write f_X4_howMany
  rcases both_many (x := x) (m := m) p hp (fun (k5 : Int32) (k6 : Int32) (s7 : gS) => if k5 = 0 then (some ((-2), s7)) else (if k6 = 0 then (some ((-2), s7)) else (if ((s7 0 6) + k5) ≤ 60 then (f_X11_write_L80 (lN p) gFu (k5 - 1) s7) else (some ((-4), s7))))) 8 0 gFu gFu rfl (by decide) (by decide) (fun j hj => absurd hj (Nat.not_lt_zero _)) with ⟨h1, u, v, h2, h3⟩ | ⟨k, hk1, hk8, hkb, h1, h2⟩
  · have h1' : f_X4_howMany_L4 (lN p) (fun (k6 : Int32) (k7 : Int32) (s8 : gS) => if (lg_cmp (gushL (lN p) (8 * k7)) 0) = 0 then (some (k6, s8)) else (some (0, s8))) gFu 0 0 x = some (0, x) := h1
    rw [show 8 * 0 = 0 from rfl, Nat.pow_zero, Nat.div_one] at h2
    have h2' : f_X11_write_L8 (lN p) _ gFu 0 (lN p) 1 m = _ := h2
    rw [h1', h2', ob_some]
    dsimp only
    rw [if_pos rfl]
    have : (if u = 0 then (some ((-2 : Int32), m)) else (if v = 0 then (some ((-2), m)) else (if ((m 0 6) + u) ≤ 60 then (f_X11_write_L80 (lN p) gFu (u - 1) m) else (some ((-4), m))))) = some (-2, m) := by
      by_cases hu : u = 0
      · rw [if_pos hu]
      · rw [if_neg hu, if_pos (h3.resolve_left hu)]
    rw [this]
    exact oOK.same hR rfl rfl
  · have h1' : f_X4_howMany_L4 (lN p) (fun (k6 : Int32) (k7 : Int32) (s8 : gS) => if (lg_cmp (gushL (lN p) (8 * k7)) 0) = 0 then (some (k6, s8)) else (some (0, s8))) gFu 0 0 x = some (nI k, x) := h1
    rw [show 8 * 0 = 0 from rfl, Nat.pow_zero, Nat.div_one] at h2
    have h2' : f_X11_write_L8 (lN p) _ gFu 0 (lN p) 1 m = _ := h2
    rw [h1', h2', ob_some]
    dsimp only
    have hk0 : ¬ nI k = 0 := nI_ne0 (by omega) (by omega)
    rw [if_neg hk0, if_neg hk0, if_neg i10]
    have ex : x 33 0 + nI k = nI (L + k) := by rw [l1, nI_add]
    have em : m 0 6 + nI k = nI (L + k) := by rw [l2, nI_add]
    by_cases hf : L + k ≤ 60
    · have hf' : nI (L + k) ≤ 60 := nI_le (b := 60) hf (by decide)
      rw [if_pos (show x 33 0 + nI k ≤ 60 by rw [ex]; exact hf'), if_pos (show m 0 6 + nI k ≤ 60 by rw [em]; exact hf')]
      unfold f_X4_append
      obtain ⟨x', m', k1, k2, k3, k4, k5, k6, k7, k8, k9⟩ := both_app p hp k x m L gFu gFu (by show k < 1000000; omega) (by show k < 1000000; omega) hk8 hf l1 l2
      rw [k1, k2, ob_some]
      refine ⟨_, x', m', by rw [k3], rfl, ζ, hI, hB, cX_rows hI hx fun j a b => k7 j (by omega) (by omega), fun q hq => by rw [k8 1 (by decide) (by decide)]; exact hm q hq, hh.fr (fun j a b => k7 j (by omega) (by omega)) (k8 2 (by decide) (by decide)) (k9 2 (by decide)), hs.fr (by rw [k7 0 (by decide) (by decide)]) (fun j a b => k7 j (by omega) (by omega)) (k8 3 (by decide) (by decide)) (k8 4 (by decide) (by decide)), L + k, fun q => if q < L then c q else byt p (L + k - 1 - q), hf, k3, k4, fun q hq => ?_⟩
      dsimp only
      by_cases hqL : q < L
      · obtain ⟨q1, q2, q3, q4⟩ := l3 q hqL
        obtain ⟨r1, r2⟩ := k5 q hqL
        rw [if_pos hqL, r1, r2]
        exact ⟨q1, q2, q3, q4⟩
      · obtain ⟨r1, r2⟩ := k6 q (by omega) hq
        rw [if_neg hqL]
        exact ⟨(hkb _ (by omega)).1, (hkb _ (by omega)).2, r1, r2⟩
    · have hf' : ¬ nI (L + k) ≤ 60 := nI_ge (a := 60) (by omega) (by omega)
      rw [if_neg (show ¬ x 33 0 + nI k ≤ 60 by rw [ex]; exact hf'), if_neg (show ¬ m 0 6 + nI k ≤ 60 by rw [em]; exact hf')]
      exact oOK.same hR rfl rfl
theorem o_wipe (hR : RR B x m) : oOK B (f_X10_wipe x) (f_X11_wipe m) := by
  obtain ⟨ζ, hI, hB, hx, hm, hh, hs, ⟨L, c, hL, l1, l2, l3⟩⟩ := id hR
  unfold f_X10_wipe f_X11_wipe
  rw [gLet_eq, gLet_eq, gLet_eq, gLet_eq, l1, l2]
  have hx' : ∀ j, j ≠ 33 → up2 x 33 0 0 j = x j := fun j hj => up2_row hj
  have hm' : ∀ j, j ≠ 0 → up2 m 0 6 0 j = m j := fun j hj => up2_row hj
  exact ⟨_, _, _, rfl, rfl, ζ, hI, hB, cX_rows hI hx fun j a b => hx' j (by omega), fun q hq => by rw [hm' 1 (by decide)]; exact hm q hq, hh.fr (fun j a b => hx' j (by omega)) (hm' 2 (by decide)) (up2_k (by decide)), hs.fr (by rw [hx' 0 (by decide)]) (fun j a b => hx' j (by omega)) (hm' 3 (by decide)) (hm' 4 (by decide)), 0, c, by decide, up2_eq, up2_eq, fun q hq => absurd hq (Nat.not_lt_zero _)⟩
end PA
