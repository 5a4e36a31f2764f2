section GO
variable {ζ : Nat → Nat} {x m : gS} {B : Nat}
theorem frB_fat (hI : zI ζ) {g b r : Nat} (hb : b < ζ 4) (hr : gh ζ g 0 = r) (ha : atB ζ b r = true) : (fat ζ g).testBit b = frB ζ g b := by
  rw [fat_bit hI hb, hr, ha, Bool.and_true]
theorem o_go (hR : RR B x m) (hB2 : B + 1000 < 2 ^ 31) (p0 p1 : Int32) : oOK (B + 81) (f_X10_go p0 p1 x) (f_X11_go p0 p1 m) := by
  obtain ⟨ζ, hI, hB, hx, hm, hrest⟩ := id hR
  have hR' : RR (B + 81) x m := hR.mo (by omega)
  unfold f_X10_go f_X11_go
  rcases ghC p0 x m with ⟨h1, h2⟩ | ⟨g, hg, rfl, h1, h2⟩
  · rw [h1, h2]; exact oOK.same hR' rfl rfl
  rw [h1, h2, ob_some, ob_some]
  dsimp only
  rw [if_neg i10, if_neg i10]
  rcases rmC p1 x m with ⟨h1, h2⟩ | ⟨t, ht, rfl, h1, h2⟩
  · rw [h1, h2]; exact oOK.same hR' rfl rfl
  rw [h1, h2, ob_some, ob_some]
  dsimp only
  have hn := hI.nb
  have hgg := hI.g hg
  rw [if_neg i10, if_neg i10]
  obtain ⟨x1, a1, a2, a3⟩ := x_findWay hx hI hg ht
  obtain ⟨m1, b1, b2, b3⟩ := m_findWay hm hI hg ht
  rw [a1, b1, ob_some, ob_some]
  unfold wayX at a3
  unfold wayM at b3
  by_cases hfin : dst ζ (fre ζ g) 1 t (gh ζ g 0) < gINF
  · rw [if_pos hfin] at a3 b3
    obtain ⟨w1, w2, w3, w4⟩ := way_ok hI ht hgg.1 hfin
    obtain ⟨a31, a32, a33, a34⟩ := a3
    obtain ⟨b31, b32, b33⟩ := b3
    have n6 : ¬ nI (pl ζ (fre ζ g) t (gh ζ g 0)) = (-6) := fun z => absurd (show nI (pl ζ (fre ζ g) t (gh ζ g 0)) < 0 by rw [z]; decide) (nI_pos (by omega))
    rw [if_neg (show ¬ x1 297 2 = 0 by rw [a31]; exact i10), if_neg (show ¬ m1 0 9 = (-6) by rw [b32]; exact n6)]
    -- the boards of the way
    have wb : ∀ i, i < pl ζ (fre ζ g) t (gh ζ g 0) → pb ζ (fre ζ g) t (gh ζ g 0) i < ζ 4 ∧ atB ζ (pb ζ (fre ζ g) t (gh ζ g 0) i) (pr ζ (fre ζ g) t (gh ζ g 0) i) = true := by
      intro i hi
      obtain ⟨q1, q2, -, -⟩ := w2 i (by omega)
      obtain ⟨r1, r2, -⟩ := nx_ok hI ht q1 q2 (w3 i hi)
      refine ⟨r1, ?_⟩
      unfold fit at r2
      rw [Bool.and_eq_true, Bool.and_eq_true] at r2
      exact r2.2.1
    generalize hL : pl ζ (fre ζ g) t (gh ζ g 0) = L at *
    -- behind the recording
    have hx1 : cX ζ x1 1 := cX_rows hI hx fun j q1 q2 => a2 j (by omega)
    have hm1 : cM ζ m1 := b2.cM hm
    have hrest1 : rest B x1 m1 := hrest.fr (by rw [a2 0 (by decide)]) (fun j q1 q2 => a2 j q2) (fun j q1 q2 => b2.1 j (by omega) q2) b2.2.1 b2.2.2
    obtain ⟨x2, m2, r1, r2, r3, r4, r5, r6, r7, r8⟩ := record_ok hI hB hx1 hm1 hrest1
    rw [r1, r2, ob_some, ob_some]
    have key : ∀ d i n1 n2 (ξ : Nat → Nat) (x m : gS), i + d = L → d < n1 → d + 1 < n2 → zI ξ → ξ 2 ≤ B + 9 * i → cX ξ x 1 → cM ξ m → rest (B + 81) x m → ξ 4 = ζ 4 → (∀ k, k < ζ 4 → bd ξ k 0 = bd ζ k 0 ∧ bd ξ k 1 = bd ζ k 1) → gh ξ g 0 = pr ζ (fre ζ g) t (gh ζ g 0) i → x 297 4 = nI L → (∀ i, i < L → x 301 i = nI (pb ζ (fre ζ g) t (gh ζ g 0) i)) → m 0 9 = nI L → (∀ i, i < L → m 7 i = nI (pb ζ (fre ζ g) t (gh ζ g 0) i)) →
        oOK (B + 81) (f_X10_go_L48 (nI g) (fun (s14 : gS) => Option.bind (f_X5_at 18 4 (nI g) s14) (fun q15 => some (q15.1, q15.2))) (fun (s16 : gS) => Option.bind (f_X5_at 18 4 (nI g) s16) (fun q17 => some (q17.1, q17.2))) n1 (nI i) x) (f_X11_go_L43 (nI g) (fun (s15 : gS) => Option.bind (f_X11_roomOf (nI g) s15) (fun q16 => some (q16.1, q16.2))) n2 1 (nI i) m) := by
      intro d
      induction d with
      | zero =>
        intro i n1 n2 ξ x m hid h1 h2 zI' z2 zx zm zr z4 zb zg e1 e2 e3 e4
        obtain ⟨n1, rfl⟩ := Nat.exists_eq_succ_of_ne_zero (show n1 ≠ 0 by omega)
        obtain ⟨n2, rfl⟩ := Nat.exists_eq_succ_of_ne_zero (show n2 ≠ 0 by omega)
        rw [f_X10_go_L48_s, f_X11_go_L43_s, e1, e3, show i = L by omega, if_pos (Int32.le_refl _), if_pos (Int32.le_refl _), a_grm zx hg, m_roomOf zm hg]
        exact ⟨_, x, m, rfl, rfl, ξ, zI', by omega, zx, zm, zr⟩
      | succ d ih =>
        intro i n1 n2 ξ x m hid h1 h2 zI' z2 zx zm zr z4 zb zg e1 e2 e3 e4
        obtain ⟨n1, rfl⟩ := Nat.exists_eq_succ_of_ne_zero (show n1 ≠ 0 by omega)
        obtain ⟨n2, rfl⟩ := Nat.exists_eq_succ_of_ne_zero (show n2 ≠ 0 by omega)
        have hi : i < L := by omega
        obtain ⟨v1, v2⟩ := wb i hi
        have v1' : pb ζ (fre ζ g) t (gh ζ g 0) i < ξ 4 := by rw [z4]; exact v1
        have v2' : atB ξ (pb ζ (fre ζ g) t (gh ζ g 0) i) (pr ζ (fre ζ g) t (gh ζ g 0) i) = true := by
          unfold atB at v2 ⊢
          rw [(zb _ v1).1, (zb _ v1).2]
          exact v2
        have hbit := frB_fat zI' v1' zg v2'
        have hprs : pr ζ (fre ζ g) t (gh ζ g 0) (i + 1) = oth ζ (pb ζ (fre ζ g) t (gh ζ g 0) i) (pr ζ (fre ζ g) t (gh ζ g 0) i) := rfl
        have e2i := e2 i hi
        have e4i := e4 i hi
        generalize hbb : pb ζ (fre ζ g) t (gh ζ g 0) i = b at *
        rw [f_X10_go_L48_s, f_X11_go_L43_s, e1, e3, if_neg (nI_ge hi (by omega)), if_neg (nI_ge hi (by omega)), at_nI (show i < 10 by omega) (by decide), ob_some, e2i, if_neg i10, gin_nI (show i < 10 by omega) (by decide), gGd_t, gil_nI (by omega), e4i]
        dsimp only
        rw [x_fat zx zI' hg, ob_some, m_isFree zm zI' hg v1', ob_some]
        dsimp only
        by_cases hf : frB ξ g b = true
        · rw [holds_t (lt31 (fat_lt zI' g) (by decide)) (by omega) (by rw [hbit]; exact hf), ob_some, if_pos hf]
          dsimp only
          rw [if_neg i10, if_neg (show ¬ nI 1 = 0 by decide), gGd_t, e4i]
          obtain ⟨r, x', m', ω, c1, c2, c3, c4, c5, c6, c7, c8, c9, c10, c11, c12⟩ := both_glide zI' zx zm hg v1' (by omega)
          rw [c1, c2, ob_some, ob_some]
          dsimp only
          rw [nI_1]
          refine ih (i + 1) n1 n2 ω x' m' (by omega) (by omega) (by omega) c3 (by omega) c5 c6 (zr.at c7 c8) (c10.trans z4) (fun k hk => ?_) ?_ (by rw [c7 297 (by decide)]; exact e1) (fun i hi => by rw [c7 301 (by decide)]; exact e2 i hi) (by rw [c9 0 (by decide) (by decide)]; exact e3) (fun i hi => by rw [c9 7 (by decide) (by decide)]; exact e4 i hi)
          · obtain ⟨q1, q2⟩ := c11 k (by rw [z4]; exact hk)
            obtain ⟨q3, q4⟩ := zb k hk
            exact ⟨q1.trans q3, q2.trans q4⟩
          · rw [c12, zg, hprs]
            unfold oth
            rw [(zb b v1).1, (zb b v1).2]
        · obtain ⟨n2, rfl⟩ := Nat.exists_eq_succ_of_ne_zero (show n2 ≠ 0 by omega)
          rw [holds_f (lt31 (fat_lt zI' g) (by decide)) (by omega) (by rw [hbit]; exact hf), ob_some, if_neg hf]
          dsimp only
          rw [if_pos rfl, if_pos (show nI 0 = 0 from rfl), f_X11_go_L43_s, a_grm zx hg, e3, m_roomOf zm hg, nI_1]
          have done : oOK (B + 81) (some (nI (gh ξ g 0), x)) (some (nI (gh ξ g 0), m)) := ⟨_, x, m, rfl, rfl, ξ, zI', by omega, zx, zm, zr⟩
          by_cases hL2 : L ≤ i + 1
          · rw [if_pos (nI_le hL2 (by omega))]
            exact done
          · rw [if_neg (nI_ge (by omega) (by omega)), if_pos (show nI 0 = 0 from rfl)]
            exact done
    have hm07 : m2 7 = m1 7 := r7 7 (by decide) (by decide)
    exact key L 0 gFu gFu ζ x2 m2 (Nat.zero_add _) (by show L < 1000000; omega) (by show L + 1 < 1000000; omega) hI (by omega) r3 r4 (r5.mo (by omega)) rfl (fun k hk => ⟨rfl, rfl⟩) rfl (by rw [r6 297 (by decide)]; exact a33) (fun i hi => by rw [r6 301 (by decide)]; exact a34 i hi) (by rw [r8 9 (by decide)]; exact b32) (fun i hi => by rw [hm07]; exact b33 i hi)
  · rw [if_neg hfin] at a3 b3
    rw [if_pos (show x1 297 2 = 0 from a3), if_pos (show m1 0 9 = (-6) from b3)]
    exact ⟨_, x1, m1, rfl, rfl, hR'.eq a2 b2⟩
end GO
