def eAt (G : gG) (o b j : Nat) (f : Nat → Int32) : va_E := match j with
  | 0 => .inr (0, [.int (f 0), .int (f 1), .ref (o + (b + 1)), .ref (o + (b + 3)), .ref (o + (b + 16)), .ref (o + (b + 23))])
  | 1 => .inr (5, [.ref (o + (b + 2))])
  | 2 => .inl (G.2 0, 2, .inl f)
  | 3 => .inr (1, [.int (f 0), .ref (o + (b + 4)), .ref (o + (b + 6)), .ref (o + (b + 8)), .ref (o + (b + 10)), .ref (o + (b + 12)), .ref (o + (b + 14))])
  | 4 => .inr (5, [.ref (o + (b + 5))])
  | 5 => .inl (G.2 0, 20, .inl f)
  | 6 => .inr (5, [.ref (o + (b + 7))])
  | 7 => .inl (G.2 0, 20, .inl f)
  | 8 => .inr (5, [.ref (o + (b + 9))])
  | 9 => .inl (G.2 0, 20, .inl f)
  | 10 => .inr (5, [.ref (o + (b + 11))])
  | 11 => .inl (G.2 0, 20, .inl f)
  | 12 => .inr (5, [.ref (o + (b + 13))])
  | 13 => .inl (G.2 0, 20, .inl f)
  | 14 => .inr (5, [.ref (o + (b + 15))])
  | 15 => .inl (G.2 0, 20, .inl f)
  | 16 => .inr (2, [.ref (o + (b + 17)), .ref (o + (b + 19)), .ref (o + (b + 21))])
  | 17 => .inr (5, [.ref (o + (b + 18))])
  | 18 => .inl (G.2 0, 4, .inl f)
  | 19 => .inr (5, [.ref (o + (b + 20))])
  | 20 => .inl (G.2 0, 4, .inl f)
  | 21 => .inr (5, [.ref (o + (b + 22))])
  | 22 => .inl (G.2 0, 4, .inl f)
  | 23 => .inr (7, [.int (f 0), .ref (o + (b + 24)), .ref (o + (b + 26)), .ref (o + (b + 28)), .ref (o + (b + 30))])
  | 24 => .inr (5, [.ref (o + (b + 25))])
  | 25 => .inl (G.2 0, 5, .inl f)
  | 26 => .inr (5, [.ref (o + (b + 27))])
  | 27 => .inl (G.2 0, 5, .inl f)
  | 28 => .inr (5, [.ref (o + (b + 29))])
  | 29 => .inl (G.2 0, 5, .inl f)
  | 30 => .inr (5, [.ref (o + (b + 31))])
  | _ => .inl (G.2 0, 5, .inl f)
def entX (G : gG) (o c : Nat) (f : Nat → Int32) : va_E := if c = 0 then .inr (9, [.ref (o + 1), .ref (o + 33), .ref (o + 36), .ref (o + 231), .int (f 4), .ref (o + 297)]) else if c < 33 then eAt G o 1 (c - 1) f
  else if c < 39 then (match c - 33 with
    | 0 => .inr (4, [.int (f 0), .ref (o + 34)])
    | 1 => .inr (5, [.ref (o + 35)])
    | 2 => .inl (G.2 0, 60, .inl f)
    | 3 => .inr (3, [.ref (o + 37), .int (f 1), .int (f 2)])
    | 4 => .inr (6, [.ref (o + 38)])
    | _ => .inl (G.2 1, 6, .inr (.inr (.inr (.inr (fun i => some (o + (39 + 32 * i)))))))
  ) else if c < 231 then eAt G o (39 + (c - 39) / 32 * 32) ((c - 39) % 32) f
  else if c < 233 then (match c - 231 with
    | 0 => .inr (6, [.ref (o + 232)])
    | _ => .inl (G.2 1, 2, .inr (.inr (.inr (.inr (fun i => some (o + (233 + 32 * i)))))))
  ) else if c < 297 then eAt G o (233 + (c - 233) / 32 * 32) ((c - 233) % 32) f
  else (match c - 297 with
    | 0 => .inr (8, [.ref (o + 298), .ref (o + 300), .int (f 2), .int (f 3), .int (f 4)])
    | 1 => .inr (5, [.ref (o + 299)])
    | 2 => .inl (G.2 0, 10, .inl f)
    | 3 => .inr (5, [.ref (o + 301)])
    | _ => .inl (G.2 0, 10, .inl f)
  )
theorem eX_0 (G : gG) (o : Nat) : ∀ f, entX G o 0 f = .inr (9, [.ref (o + 1), .ref (o + 33), .ref (o + 36), .ref (o + 231), .int (f 4), .ref (o + 297)]) := fun _ => rfl
theorem eX_1 (G : gG) (o : Nat) : ∀ f, entX G o 1 f = .inr (0, [.int (f 0), .int (f 1), .ref (o + 2), .ref (o + 4), .ref (o + 17), .ref (o + 24)]) := fun _ => rfl
theorem eX_2 (G : gG) (o : Nat) : ∀ f, entX G o 2 f = .inr (5, [.ref (o + 3)]) := fun _ => rfl
theorem eX_3 (G : gG) (o : Nat) : ∀ f, entX G o 3 f = .inl (G.2 0, 2, .inl f) := fun _ => rfl
theorem eX_4 (G : gG) (o : Nat) : ∀ f, entX G o 4 f = .inr (1, [.int (f 0), .ref (o + 5), .ref (o + 7), .ref (o + 9), .ref (o + 11), .ref (o + 13), .ref (o + 15)]) := fun _ => rfl
theorem eX_5 (G : gG) (o : Nat) : ∀ f, entX G o 5 f = .inr (5, [.ref (o + 6)]) := fun _ => rfl
theorem eX_6 (G : gG) (o : Nat) : ∀ f, entX G o 6 f = .inl (G.2 0, 20, .inl f) := fun _ => rfl
theorem eX_7 (G : gG) (o : Nat) : ∀ f, entX G o 7 f = .inr (5, [.ref (o + 8)]) := fun _ => rfl
theorem eX_8 (G : gG) (o : Nat) : ∀ f, entX G o 8 f = .inl (G.2 0, 20, .inl f) := fun _ => rfl
theorem eX_9 (G : gG) (o : Nat) : ∀ f, entX G o 9 f = .inr (5, [.ref (o + 10)]) := fun _ => rfl
theorem eX_10 (G : gG) (o : Nat) : ∀ f, entX G o 10 f = .inl (G.2 0, 20, .inl f) := fun _ => rfl
theorem eX_11 (G : gG) (o : Nat) : ∀ f, entX G o 11 f = .inr (5, [.ref (o + 12)]) := fun _ => rfl
theorem eX_12 (G : gG) (o : Nat) : ∀ f, entX G o 12 f = .inl (G.2 0, 20, .inl f) := fun _ => rfl
theorem eX_13 (G : gG) (o : Nat) : ∀ f, entX G o 13 f = .inr (5, [.ref (o + 14)]) := fun _ => rfl
theorem eX_14 (G : gG) (o : Nat) : ∀ f, entX G o 14 f = .inl (G.2 0, 20, .inl f) := fun _ => rfl
theorem eX_15 (G : gG) (o : Nat) : ∀ f, entX G o 15 f = .inr (5, [.ref (o + 16)]) := fun _ => rfl
theorem eX_16 (G : gG) (o : Nat) : ∀ f, entX G o 16 f = .inl (G.2 0, 20, .inl f) := fun _ => rfl
theorem eX_17 (G : gG) (o : Nat) : ∀ f, entX G o 17 f = .inr (2, [.ref (o + 18), .ref (o + 20), .ref (o + 22)]) := fun _ => rfl
theorem eX_18 (G : gG) (o : Nat) : ∀ f, entX G o 18 f = .inr (5, [.ref (o + 19)]) := fun _ => rfl
theorem eX_19 (G : gG) (o : Nat) : ∀ f, entX G o 19 f = .inl (G.2 0, 4, .inl f) := fun _ => rfl
theorem eX_20 (G : gG) (o : Nat) : ∀ f, entX G o 20 f = .inr (5, [.ref (o + 21)]) := fun _ => rfl
theorem eX_21 (G : gG) (o : Nat) : ∀ f, entX G o 21 f = .inl (G.2 0, 4, .inl f) := fun _ => rfl
theorem eX_22 (G : gG) (o : Nat) : ∀ f, entX G o 22 f = .inr (5, [.ref (o + 23)]) := fun _ => rfl
theorem eX_23 (G : gG) (o : Nat) : ∀ f, entX G o 23 f = .inl (G.2 0, 4, .inl f) := fun _ => rfl
theorem eX_24 (G : gG) (o : Nat) : ∀ f, entX G o 24 f = .inr (7, [.int (f 0), .ref (o + 25), .ref (o + 27), .ref (o + 29), .ref (o + 31)]) := fun _ => rfl
theorem eX_25 (G : gG) (o : Nat) : ∀ f, entX G o 25 f = .inr (5, [.ref (o + 26)]) := fun _ => rfl
theorem eX_26 (G : gG) (o : Nat) : ∀ f, entX G o 26 f = .inl (G.2 0, 5, .inl f) := fun _ => rfl
theorem eX_27 (G : gG) (o : Nat) : ∀ f, entX G o 27 f = .inr (5, [.ref (o + 28)]) := fun _ => rfl
theorem eX_28 (G : gG) (o : Nat) : ∀ f, entX G o 28 f = .inl (G.2 0, 5, .inl f) := fun _ => rfl
theorem eX_29 (G : gG) (o : Nat) : ∀ f, entX G o 29 f = .inr (5, [.ref (o + 30)]) := fun _ => rfl
theorem eX_30 (G : gG) (o : Nat) : ∀ f, entX G o 30 f = .inl (G.2 0, 5, .inl f) := fun _ => rfl
theorem eX_31 (G : gG) (o : Nat) : ∀ f, entX G o 31 f = .inr (5, [.ref (o + 32)]) := fun _ => rfl
theorem eX_32 (G : gG) (o : Nat) : ∀ f, entX G o 32 f = .inl (G.2 0, 5, .inl f) := fun _ => rfl
theorem eX_33 (G : gG) (o : Nat) : ∀ f, entX G o 33 f = .inr (4, [.int (f 0), .ref (o + 34)]) := fun _ => rfl
theorem eX_34 (G : gG) (o : Nat) : ∀ f, entX G o 34 f = .inr (5, [.ref (o + 35)]) := fun _ => rfl
theorem eX_35 (G : gG) (o : Nat) : ∀ f, entX G o 35 f = .inl (G.2 0, 60, .inl f) := fun _ => rfl
theorem eX_36 (G : gG) (o : Nat) : ∀ f, entX G o 36 f = .inr (3, [.ref (o + 37), .int (f 1), .int (f 2)]) := fun _ => rfl
theorem eX_37 (G : gG) (o : Nat) : ∀ f, entX G o 37 f = .inr (6, [.ref (o + 38)]) := fun _ => rfl
theorem eX_38 (G : gG) (o : Nat) : ∀ f, entX G o 38 f = .inl (G.2 1, 6, .inr (.inr (.inr (.inr (fun i => some (o + (39 + 32 * i))))))) := fun _ => rfl
theorem eX_231 (G : gG) (o : Nat) : ∀ f, entX G o 231 f = .inr (6, [.ref (o + 232)]) := fun _ => rfl
theorem eX_232 (G : gG) (o : Nat) : ∀ f, entX G o 232 f = .inl (G.2 1, 2, .inr (.inr (.inr (.inr (fun i => some (o + (233 + 32 * i))))))) := fun _ => rfl
theorem eX_297 (G : gG) (o : Nat) : ∀ f, entX G o 297 f = .inr (8, [.ref (o + 298), .ref (o + 300), .int (f 2), .int (f 3), .int (f 4)]) := fun _ => rfl
theorem eX_298 (G : gG) (o : Nat) : ∀ f, entX G o 298 f = .inr (5, [.ref (o + 299)]) := fun _ => rfl
theorem eX_299 (G : gG) (o : Nat) : ∀ f, entX G o 299 f = .inl (G.2 0, 10, .inl f) := fun _ => rfl
theorem eX_300 (G : gG) (o : Nat) : ∀ f, entX G o 300 f = .inr (5, [.ref (o + 301)]) := fun _ => rfl
theorem eX_301 (G : gG) (o : Nat) : ∀ f, entX G o 301 f = .inl (G.2 0, 10, .inl f) := fun _ => rfl
/-- where an attic stands -/
def gIsAt (b : Nat) : Prop := b = 1 ∨ (∃ i, i < 6 ∧ b = 39 + 32 * i) ∨ ∃ i, i < 2 ∧ b = 233 + 32 * i
theorem eA_all (G : gG) (o : Nat) {b : Nat} (hb : gIsAt b) (k : Nat) (hk : k < 32) (f : Nat → Int32) : entX G o (b + k) f = eAt G o b k f := by
  rcases hb with rfl | ⟨i, hi, rfl⟩ | ⟨i, hi, rfl⟩
  · unfold entX
    rw [if_neg (by omega), if_pos (by omega), show 1 + k - 1 = k by omega]
  · unfold entX
    rw [if_neg (by omega), if_neg (by omega), if_neg (by omega), if_pos (by omega), show 39 + (39 + 32 * i + k - 39) / 32 * 32 = 39 + 32 * i by omega, show (39 + 32 * i + k - 39) % 32 = k by omega]
  · unfold entX
    rw [if_neg (by omega), if_neg (by omega), if_neg (by omega), if_neg (by omega), if_neg (by omega), if_pos (by omega), show 233 + (233 + 32 * i + k - 233) / 32 * 32 = 233 + 32 * i by omega, show (233 + 32 * i + k - 233) % 32 = k by omega]
theorem eA_lt {b : Nat} (hb : gIsAt b) (k : Nat) (hk : k < 32) : b + k < 302 := by
  rcases hb with rfl | ⟨i, hi, rfl⟩ | ⟨i, hi, rfl⟩ <;> omega
theorem eA_0 (G : gG) (o : Nat) {b : Nat} (hb : gIsAt b) : ∀ f, entX G o b f = .inr (0, [.int (f 0), .int (f 1), .ref (o + (b + 1)), .ref (o + (b + 3)), .ref (o + (b + 16)), .ref (o + (b + 23))]) := fun f => eA_all G o hb 0 (by decide) f
theorem eA_1 (G : gG) (o : Nat) {b : Nat} (hb : gIsAt b) : ∀ f, entX G o (b + 1) f = .inr (5, [.ref (o + (b + 2))]) := fun f => eA_all G o hb 1 (by decide) f
theorem eA_2 (G : gG) (o : Nat) {b : Nat} (hb : gIsAt b) : ∀ f, entX G o (b + 2) f = .inl (G.2 0, 2, .inl f) := fun f => eA_all G o hb 2 (by decide) f
theorem eA_3 (G : gG) (o : Nat) {b : Nat} (hb : gIsAt b) : ∀ f, entX G o (b + 3) f = .inr (1, [.int (f 0), .ref (o + (b + 4)), .ref (o + (b + 6)), .ref (o + (b + 8)), .ref (o + (b + 10)), .ref (o + (b + 12)), .ref (o + (b + 14))]) := fun f => eA_all G o hb 3 (by decide) f
theorem eA_4 (G : gG) (o : Nat) {b : Nat} (hb : gIsAt b) : ∀ f, entX G o (b + 4) f = .inr (5, [.ref (o + (b + 5))]) := fun f => eA_all G o hb 4 (by decide) f
theorem eA_5 (G : gG) (o : Nat) {b : Nat} (hb : gIsAt b) : ∀ f, entX G o (b + 5) f = .inl (G.2 0, 20, .inl f) := fun f => eA_all G o hb 5 (by decide) f
theorem eA_6 (G : gG) (o : Nat) {b : Nat} (hb : gIsAt b) : ∀ f, entX G o (b + 6) f = .inr (5, [.ref (o + (b + 7))]) := fun f => eA_all G o hb 6 (by decide) f
theorem eA_7 (G : gG) (o : Nat) {b : Nat} (hb : gIsAt b) : ∀ f, entX G o (b + 7) f = .inl (G.2 0, 20, .inl f) := fun f => eA_all G o hb 7 (by decide) f
theorem eA_8 (G : gG) (o : Nat) {b : Nat} (hb : gIsAt b) : ∀ f, entX G o (b + 8) f = .inr (5, [.ref (o + (b + 9))]) := fun f => eA_all G o hb 8 (by decide) f
theorem eA_9 (G : gG) (o : Nat) {b : Nat} (hb : gIsAt b) : ∀ f, entX G o (b + 9) f = .inl (G.2 0, 20, .inl f) := fun f => eA_all G o hb 9 (by decide) f
theorem eA_10 (G : gG) (o : Nat) {b : Nat} (hb : gIsAt b) : ∀ f, entX G o (b + 10) f = .inr (5, [.ref (o + (b + 11))]) := fun f => eA_all G o hb 10 (by decide) f
theorem eA_11 (G : gG) (o : Nat) {b : Nat} (hb : gIsAt b) : ∀ f, entX G o (b + 11) f = .inl (G.2 0, 20, .inl f) := fun f => eA_all G o hb 11 (by decide) f
theorem eA_12 (G : gG) (o : Nat) {b : Nat} (hb : gIsAt b) : ∀ f, entX G o (b + 12) f = .inr (5, [.ref (o + (b + 13))]) := fun f => eA_all G o hb 12 (by decide) f
theorem eA_13 (G : gG) (o : Nat) {b : Nat} (hb : gIsAt b) : ∀ f, entX G o (b + 13) f = .inl (G.2 0, 20, .inl f) := fun f => eA_all G o hb 13 (by decide) f
theorem eA_14 (G : gG) (o : Nat) {b : Nat} (hb : gIsAt b) : ∀ f, entX G o (b + 14) f = .inr (5, [.ref (o + (b + 15))]) := fun f => eA_all G o hb 14 (by decide) f
theorem eA_15 (G : gG) (o : Nat) {b : Nat} (hb : gIsAt b) : ∀ f, entX G o (b + 15) f = .inl (G.2 0, 20, .inl f) := fun f => eA_all G o hb 15 (by decide) f
theorem eA_16 (G : gG) (o : Nat) {b : Nat} (hb : gIsAt b) : ∀ f, entX G o (b + 16) f = .inr (2, [.ref (o + (b + 17)), .ref (o + (b + 19)), .ref (o + (b + 21))]) := fun f => eA_all G o hb 16 (by decide) f
theorem eA_17 (G : gG) (o : Nat) {b : Nat} (hb : gIsAt b) : ∀ f, entX G o (b + 17) f = .inr (5, [.ref (o + (b + 18))]) := fun f => eA_all G o hb 17 (by decide) f
theorem eA_18 (G : gG) (o : Nat) {b : Nat} (hb : gIsAt b) : ∀ f, entX G o (b + 18) f = .inl (G.2 0, 4, .inl f) := fun f => eA_all G o hb 18 (by decide) f
theorem eA_19 (G : gG) (o : Nat) {b : Nat} (hb : gIsAt b) : ∀ f, entX G o (b + 19) f = .inr (5, [.ref (o + (b + 20))]) := fun f => eA_all G o hb 19 (by decide) f
theorem eA_20 (G : gG) (o : Nat) {b : Nat} (hb : gIsAt b) : ∀ f, entX G o (b + 20) f = .inl (G.2 0, 4, .inl f) := fun f => eA_all G o hb 20 (by decide) f
theorem eA_21 (G : gG) (o : Nat) {b : Nat} (hb : gIsAt b) : ∀ f, entX G o (b + 21) f = .inr (5, [.ref (o + (b + 22))]) := fun f => eA_all G o hb 21 (by decide) f
theorem eA_22 (G : gG) (o : Nat) {b : Nat} (hb : gIsAt b) : ∀ f, entX G o (b + 22) f = .inl (G.2 0, 4, .inl f) := fun f => eA_all G o hb 22 (by decide) f
theorem eA_23 (G : gG) (o : Nat) {b : Nat} (hb : gIsAt b) : ∀ f, entX G o (b + 23) f = .inr (7, [.int (f 0), .ref (o + (b + 24)), .ref (o + (b + 26)), .ref (o + (b + 28)), .ref (o + (b + 30))]) := fun f => eA_all G o hb 23 (by decide) f
theorem eA_24 (G : gG) (o : Nat) {b : Nat} (hb : gIsAt b) : ∀ f, entX G o (b + 24) f = .inr (5, [.ref (o + (b + 25))]) := fun f => eA_all G o hb 24 (by decide) f
theorem eA_25 (G : gG) (o : Nat) {b : Nat} (hb : gIsAt b) : ∀ f, entX G o (b + 25) f = .inl (G.2 0, 5, .inl f) := fun f => eA_all G o hb 25 (by decide) f
theorem eA_26 (G : gG) (o : Nat) {b : Nat} (hb : gIsAt b) : ∀ f, entX G o (b + 26) f = .inr (5, [.ref (o + (b + 27))]) := fun f => eA_all G o hb 26 (by decide) f
theorem eA_27 (G : gG) (o : Nat) {b : Nat} (hb : gIsAt b) : ∀ f, entX G o (b + 27) f = .inl (G.2 0, 5, .inl f) := fun f => eA_all G o hb 27 (by decide) f
theorem eA_28 (G : gG) (o : Nat) {b : Nat} (hb : gIsAt b) : ∀ f, entX G o (b + 28) f = .inr (5, [.ref (o + (b + 29))]) := fun f => eA_all G o hb 28 (by decide) f
theorem eA_29 (G : gG) (o : Nat) {b : Nat} (hb : gIsAt b) : ∀ f, entX G o (b + 29) f = .inl (G.2 0, 5, .inl f) := fun f => eA_all G o hb 29 (by decide) f
theorem eA_30 (G : gG) (o : Nat) {b : Nat} (hb : gIsAt b) : ∀ f, entX G o (b + 30) f = .inr (5, [.ref (o + (b + 31))]) := fun f => eA_all G o hb 30 (by decide) f
theorem eA_31 (G : gG) (o : Nat) {b : Nat} (hb : gIsAt b) : ∀ f, entX G o (b + 31) f = .inl (G.2 0, 5, .inl f) := fun f => eA_all G o hb 31 (by decide) f
theorem gIsAt_1 : gIsAt 1 := Or.inl rfl
theorem gin_lt {i : Int32} {n : Nat} (h : gin i n = true) : gil i < n := by
  have := of_decide_eq_true h
  show i.toInt.toNat < n
  omega
theorem gIsAt_37 {i : Int32} (h : gin i 6 = true) : gIsAt (39 + 32 * gil i) := Or.inr (Or.inl ⟨gil i, gin_lt h, rfl⟩)
theorem gIsAt_231 {i : Int32} (h : gin i 2 = true) : gIsAt (233 + 32 * gil i) := Or.inr (Or.inr ⟨gil i, gin_lt h, rfl⟩)
/-- where a row stands: its array behind it, of length L -/
def gRow (G : gG) (o r L : Nat) : Prop := (∀ f, entX G o r f = .inr (5, [.ref (o + (r + 1))])) ∧ (∀ f, entX G o (r + 1) f = .inl (G.2 0, L, .inl f)) ∧ r < 302 ∧ r + 1 < 302
theorem gRow_2 (G : gG) (o : Nat) : gRow G o 2 2 := ⟨eX_2 G o, eX_3 G o, by decide, by decide⟩
theorem gRow_5 (G : gG) (o : Nat) : gRow G o 5 20 := ⟨eX_5 G o, eX_6 G o, by decide, by decide⟩
theorem gRow_7 (G : gG) (o : Nat) : gRow G o 7 20 := ⟨eX_7 G o, eX_8 G o, by decide, by decide⟩
theorem gRow_9 (G : gG) (o : Nat) : gRow G o 9 20 := ⟨eX_9 G o, eX_10 G o, by decide, by decide⟩
theorem gRow_11 (G : gG) (o : Nat) : gRow G o 11 20 := ⟨eX_11 G o, eX_12 G o, by decide, by decide⟩
theorem gRow_13 (G : gG) (o : Nat) : gRow G o 13 20 := ⟨eX_13 G o, eX_14 G o, by decide, by decide⟩
theorem gRow_15 (G : gG) (o : Nat) : gRow G o 15 20 := ⟨eX_15 G o, eX_16 G o, by decide, by decide⟩
theorem gRow_18 (G : gG) (o : Nat) : gRow G o 18 4 := ⟨eX_18 G o, eX_19 G o, by decide, by decide⟩
theorem gRow_20 (G : gG) (o : Nat) : gRow G o 20 4 := ⟨eX_20 G o, eX_21 G o, by decide, by decide⟩
theorem gRow_22 (G : gG) (o : Nat) : gRow G o 22 4 := ⟨eX_22 G o, eX_23 G o, by decide, by decide⟩
theorem gRow_25 (G : gG) (o : Nat) : gRow G o 25 5 := ⟨eX_25 G o, eX_26 G o, by decide, by decide⟩
theorem gRow_27 (G : gG) (o : Nat) : gRow G o 27 5 := ⟨eX_27 G o, eX_28 G o, by decide, by decide⟩
theorem gRow_29 (G : gG) (o : Nat) : gRow G o 29 5 := ⟨eX_29 G o, eX_30 G o, by decide, by decide⟩
theorem gRow_31 (G : gG) (o : Nat) : gRow G o 31 5 := ⟨eX_31 G o, eX_32 G o, by decide, by decide⟩
theorem gRow_34 (G : gG) (o : Nat) : gRow G o 34 60 := ⟨eX_34 G o, eX_35 G o, by decide, by decide⟩
theorem gRow_298 (G : gG) (o : Nat) : gRow G o 298 10 := ⟨eX_298 G o, eX_299 G o, by decide, by decide⟩
theorem gRow_300 (G : gG) (o : Nat) : gRow G o 300 10 := ⟨eX_300 G o, eX_301 G o, by decide, by decide⟩
theorem gRowA_1 (G : gG) (o : Nat) {b : Nat} (hb : gIsAt b) : gRow G o (b + 1) 2 := ⟨eA_1 G o hb, eA_2 G o hb, eA_lt hb 1 (by decide), eA_lt hb 2 (by decide)⟩
theorem gRowA_4 (G : gG) (o : Nat) {b : Nat} (hb : gIsAt b) : gRow G o (b + 4) 20 := ⟨eA_4 G o hb, eA_5 G o hb, eA_lt hb 4 (by decide), eA_lt hb 5 (by decide)⟩
theorem gRowA_6 (G : gG) (o : Nat) {b : Nat} (hb : gIsAt b) : gRow G o (b + 6) 20 := ⟨eA_6 G o hb, eA_7 G o hb, eA_lt hb 6 (by decide), eA_lt hb 7 (by decide)⟩
theorem gRowA_8 (G : gG) (o : Nat) {b : Nat} (hb : gIsAt b) : gRow G o (b + 8) 20 := ⟨eA_8 G o hb, eA_9 G o hb, eA_lt hb 8 (by decide), eA_lt hb 9 (by decide)⟩
theorem gRowA_10 (G : gG) (o : Nat) {b : Nat} (hb : gIsAt b) : gRow G o (b + 10) 20 := ⟨eA_10 G o hb, eA_11 G o hb, eA_lt hb 10 (by decide), eA_lt hb 11 (by decide)⟩
theorem gRowA_12 (G : gG) (o : Nat) {b : Nat} (hb : gIsAt b) : gRow G o (b + 12) 20 := ⟨eA_12 G o hb, eA_13 G o hb, eA_lt hb 12 (by decide), eA_lt hb 13 (by decide)⟩
theorem gRowA_14 (G : gG) (o : Nat) {b : Nat} (hb : gIsAt b) : gRow G o (b + 14) 20 := ⟨eA_14 G o hb, eA_15 G o hb, eA_lt hb 14 (by decide), eA_lt hb 15 (by decide)⟩
theorem gRowA_17 (G : gG) (o : Nat) {b : Nat} (hb : gIsAt b) : gRow G o (b + 17) 4 := ⟨eA_17 G o hb, eA_18 G o hb, eA_lt hb 17 (by decide), eA_lt hb 18 (by decide)⟩
theorem gRowA_19 (G : gG) (o : Nat) {b : Nat} (hb : gIsAt b) : gRow G o (b + 19) 4 := ⟨eA_19 G o hb, eA_20 G o hb, eA_lt hb 19 (by decide), eA_lt hb 20 (by decide)⟩
theorem gRowA_21 (G : gG) (o : Nat) {b : Nat} (hb : gIsAt b) : gRow G o (b + 21) 4 := ⟨eA_21 G o hb, eA_22 G o hb, eA_lt hb 21 (by decide), eA_lt hb 22 (by decide)⟩
theorem gRowA_24 (G : gG) (o : Nat) {b : Nat} (hb : gIsAt b) : gRow G o (b + 24) 5 := ⟨eA_24 G o hb, eA_25 G o hb, eA_lt hb 24 (by decide), eA_lt hb 25 (by decide)⟩
theorem gRowA_26 (G : gG) (o : Nat) {b : Nat} (hb : gIsAt b) : gRow G o (b + 26) 5 := ⟨eA_26 G o hb, eA_27 G o hb, eA_lt hb 26 (by decide), eA_lt hb 27 (by decide)⟩
theorem gRowA_28 (G : gG) (o : Nat) {b : Nat} (hb : gIsAt b) : gRow G o (b + 28) 5 := ⟨eA_28 G o hb, eA_29 G o hb, eA_lt hb 28 (by decide), eA_lt hb 29 (by decide)⟩
theorem gRowA_30 (G : gG) (o : Nat) {b : Nat} (hb : gIsAt b) : gRow G o (b + 30) 5 := ⟨eA_30 G o hb, eA_31 G o hb, eA_lt hb 30 (by decide), eA_lt hb 31 (by decide)⟩
theorem wmX0 : ∀ w ∈ u_ws RX0 TX0 6, w ∈ gT := gmems [166, 168, 170, 172, 174, 176] (by decide +kernel) (by decide +kernel)
theorem wmX1 : ∀ w ∈ u_ws RX1 TX1 7, w ∈ gT := gmems [80, 82, 84, 86, 88, 90, 92] (by decide +kernel) (by decide +kernel)
theorem wmX2 : ∀ w ∈ u_ws RX2 TX2 3, w ∈ gT := gmems [111, 113, 115] (by decide +kernel) (by decide +kernel)
theorem wmX3 : ∀ w ∈ u_ws RX3 TX3 3, w ∈ gT := gmems [218, 220, 222] (by decide +kernel) (by decide +kernel)
theorem wmX4 : ∀ w ∈ u_ws RX4 TX4 2, w ∈ gT := gmems [189, 191] (by decide +kernel) (by decide +kernel)
theorem wmX5 : ∀ w ∈ u_ws RX5 TX5 1, w ∈ gT := gmems [46] (by decide +kernel) (by decide +kernel)
theorem wmX6 : ∀ w ∈ u_ws RX6 TX6 1, w ∈ gT := gmems [211] (by decide +kernel) (by decide +kernel)
theorem wmX7 : ∀ w ∈ u_ws RX7 TX7 5, w ∈ gT := gmems [139, 141, 143, 145, 147] (by decide +kernel) (by decide +kernel)
theorem wmX9 : ∀ w ∈ u_ws RX9 TX9 5, w ∈ gT := gmems [244, 246, 248, 250, 252] (by decide +kernel) (by decide +kernel)
theorem wmX10 : ∀ w ∈ u_ws RX10 TX10 6, w ∈ gT := gmems [260, 262, 264, 266, 268, 270] (by decide +kernel) (by decide +kernel)
theorem q_static_max : Cond.static Lib.Math.max.name ∈ gT := gmem 43 (by decide +kernel) rfl
theorem q_static_min : Cond.static Lib.Math.min.name ∈ gT := gmem 304 (by decide +kernel) rfl
theorem q_code_max : Cond.code Lib.Math.max.name Lib.Math.max.code 2 (some .int) ∈ gT := gmem 44 (by decide +kernel) rfl
theorem q_code_min : Cond.code Lib.Math.min.name Lib.Math.min.code 2 (some .int) ∈ gT := gmem 305 (by decide +kernel) rfl
theorem q_init_Math : Cond.initialized "java/lang/Math" ∈ gT := gmem 11 (by decide +kernel) rfl
theorem q_native_copy : Cond.native arraycopyName ∈ gT := gmem 308 (by decide +kernel) rfl
theorem q_static_copy : Cond.static arraycopyName ∈ gT := gmem 307 (by decide +kernel) rfl
theorem q_init_System : Cond.initialized "java/lang/System" ∈ gT := gmem 19 (by decide +kernel) rfl
def gush (x y : Int32) : Int32 := (x.toUInt32 >>> (y.toUInt32 &&& Int32.toUInt32 31)).toInt32
def gushL (x : Int64) (y : Int32) : Int64 := (x.toUInt64 >>> (y.toInt64.toUInt64 &&& Int64.toUInt64 63)).toInt64
def gshlL (x : Int64) (y : Int32) : Int64 := x <<< (y.toInt64 &&& 63)
def gi2c (x : Int32) : Int32 := (x.toUInt32 % 65536).toInt32
def gcp (n : Int32) (l0 l1 : Nat) : Bool := decide (0 ≤ n.toInt ∧ n.toInt ≤ l0 ∧ n.toInt ≤ l1)
theorem gcp_ok {n : Int32} {l0 l1 : Nat} (h : gcp n l0 l1 = true) : (0 : Int32) = 0 ∧ (0 : Int32) = 0 ∧ 0 ≤ n.toInt ∧ n.toInt ≤ l0 ∧ n.toInt ≤ l1 := ⟨rfl, rfl, of_decide_eq_true h⟩
theorem gIf_t {α : Type} {c : Prop} [Decidable c] {a b : Option α} {q : α} (h : c) (hf : (if c then a else b) = some q) : a = some q := by rwa [if_pos h] at hf
theorem gIf_f {α : Type} {c : Prop} [Decidable c] {a b : Option α} {q : α} (h : ¬ c) (hf : (if c then a else b) = some q) : b = some q := by rwa [if_neg h] at hf
def gFu : Nat := 1000000
theorem g_tabOut (hi : Nat) {x : Int32} (h : ∀ k, k ≤ hi → ¬ x = Int32.ofNat k) : x.toInt < 0 ∨ (hi : Int) < x.toInt := by
  rcases Int.lt_or_le x.toInt 0 with h0 | h0
  · exact Or.inl h0
  rcases Int.lt_or_le (hi : Int) x.toInt with h1 | h1
  · exact Or.inr h1
  refine absurd ?_ (h x.toInt.toNat (by omega))
  apply Int32.toInt_inj.mp
  have hlt := Int32.toInt_lt x
  show x.toInt = (nI x.toInt.toNat).toInt
  rw [nI_toInt (by omega)]
  omega
section GT
variable {p : Program} {l : Launch} {e : Env} {R : Room} {s : State} {m : MethodId} {args : Array Value} {below : List Frame} {meth : Method} {c : Code} {H : Heap} {locs : List Loc} {cells slots : Nat} {Q : State → Prop}
variable {cc : ByteArray} {pc : Nat} {ls : Array Slot} {rest : List Value}
theorem g_tab {x v : Int32} (hxv : x = v) {dflt lo hi : Int} {offs : Array Int} {len : Nat} {off : Int} {tgt : Nat} (hexec : p.tables.exec = Jvm.exec) (hb : c.code = cc) (hdg : decode cc pc = .ok (.tableswitch dflt lo hi offs, len)) (h1 : ¬ v.toInt < lo) (h2 : ¬ hi < v.toInt) (ho : offs[(v.toInt - lo).toNat]? = some off) (ht : (pc : Int) + off = (tgt : Int))
    (k : W p l e R s m args below meth c H locs cells slots Q (F0 m tgt ls rest)) : W p l e R s m args below meth c H locs cells slots Q (F0 m pc ls (.int x :: rest)) := by
  subst hxv
  exact lv_tableIn hexec hb hdg h1 h2 ho ht k
end GT
