section GP
variable {ζ : Nat → Nat} {x m : gS}
theorem q_quietest (hx : cX ζ x 1) (hm : cM ζ m) (hI : zI ζ) (p0 p1 : Int32) : qOK (f_X10_quietest p0 p1 x) (f_X11_quietest p0 p1 m) x m := by
  unfold f_X10_quietest f_X11_quietest
  rcases ghC p0 x m with ⟨h1, h2⟩ | ⟨g, hg, rfl, h1, h2⟩
  · rw [h1, h2]; exact qOK.same rfl rfl
  rw [h1, h2, ob_some, ob_some]
  dsimp only
  rw [if_neg i10, if_neg i10]
  rcases rmC p1 x m with ⟨g1, g2⟩ | ⟨t, ht, rfl, g1, g2⟩
  · rw [g1, g2]; exact qOK.same rfl rfl
  rw [g1, g2, ob_some, ob_some]
  dsimp only
  have hn := hI.nb
  have hr := (hI.g hg).1
  have hF := lt31 (fre_lt hI g) (by decide)
  have qa : ∀ k, fre ζ g &&& qui ζ k < 2 ^ 31 := fun k => Nat.and_lt_two_pow _ (mk_lt' (by omega))
  rw [if_neg i10, if_neg i10, a_grm hx hg, m_roomOf hm hg, ob_some, ob_some]
  dsimp only
  rw [x_free hx hI hg, ob_some]
  dsimp only
  -- one step of the class
  have sx : ∀ n k, k < 10 → f_X10_quietest_L44 (nI t) (nI (gh ζ g 0)) (nI (fre ζ g)) (n + 1) (nI k) x = if (rea ζ (fre ζ g &&& qui ζ k) (gh ζ g 0)).testBit t = true then some (nI k, x) else f_X10_quietest_L44 (nI t) (nI (gh ζ g 0)) (nI (fre ζ g)) n (nI (k + 1)) x := by
    intro n k hk
    rw [f_X10_quietest_L44_s]
    sorry
  sorry
end GP
