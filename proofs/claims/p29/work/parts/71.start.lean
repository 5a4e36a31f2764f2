section ST
/-- an attic's rows at the start -/
def sAt (k : Nat) : Nat → Int32 := if k = 2 then upd (upd (fun _ => 0) 0 60) 1 10 else fun _ => 0
def sX : gS := fun c => if c = 0 then fun _ => 0 else if c < 33 then sAt (c - 1) else if c < 39 then fun _ => 0 else if c < 231 then sAt ((c - 39) % 32) else if c < 233 then fun _ => 0 else if c < 297 then sAt ((c - 233) % 32) else fun _ => 0
/-- n cells from a on -/
def cm (h : Nat → va_E) (a n : Nat) : List va_E := (List.range n).map fun k => h (a + k)
theorem cm_add (h : Nat → va_E) (a n k : Nat) : cm h a (n + k) = cm h a n ++ cm h (a + n) k := by
  unfold cm
  rw [List.range_add, List.map_append, List.map_map]
  congr 1
  refine List.map_congr_left fun j _ => ?_
  show h (a + (n + j)) = h (a + n + j)
  rw [Nat.add_assoc]
theorem cm_cong {h : Nat → va_E} {a n : Nat} {g : Nat → va_E} (e : ∀ k, k < n → h (a + k) = g k) : cm h a n = (List.range n).map g := List.map_congr_left fun k hk => e k (List.mem_range.mp hk)
theorem cw_cm (h : Nat → va_E) (o n : Nat) : cw o (cm h 0 n) = (List.range n).map fun c => (o + c, h c) := by
  unfold cw cm
  apply List.ext_getElem?
  intro i
  by_cases hi : i < n
  · simp [hi]
  · rw [List.getElem?_eq_none (by simp; omega), List.getElem?_eq_none (by simp; omega)]
abbrev eX0 (G : gG) (o : Nat) : Nat → va_E := fun c => entX G o c (sX c)
theorem sX_at {b : Nat} (hb : gIsAt b) {k : Nat} (hk : k < 32) : sX (b + k) = sAt k := by
  unfold sX
  rcases hb with rfl | ⟨i, hi, rfl⟩ | ⟨i, hi, rfl⟩
  · rw [if_neg (by omega), if_pos (by omega), show 1 + k - 1 = k by omega]
  · rw [if_neg (by omega), if_neg (by omega), if_neg (by omega), if_pos (by omega), show (39 + 32 * i + k - 39) % 32 = k by omega]
  · rw [if_neg (by omega), if_neg (by omega), if_neg (by omega), if_neg (by omega), if_neg (by omega), if_pos (by omega), show (233 + 32 * i + k - 233) % 32 = k by omega]
set_option maxRecDepth 100000 in
theorem cm_attic (G : gG) (o : Nat) {b : Nat} (hb : gIsAt b) : cm (eX0 G o) b 32 = Lattic G (o + b) := by
  rw [cm_cong (g := fun k => eAt G o b k (sAt k)) fun k hk => by
    show entX G o (b + k) (sX (b + k)) = _
    rw [eA_all G o hb k hk, sX_at hb hk]]
  rfl
theorem cm_attics (G : gG) (o r : Nat) : ∀ n, (∀ j, j < n → gIsAt (r + 2 + 32 * j)) → cm (eX0 G o) (r + 2) (32 * n) = Latts G (o + r) n := by
  intro n
  induction n with
  | zero => intro _; rfl
  | succ n ih =>
    intro h
    rw [Nat.mul_succ, cm_add, ih fun j hj => h j (by omega), cm_attic G o (h n (by omega)), Latts_succ, show o + (r + 2 + 32 * n) = o + r + (2 + 32 * n) by omega]
theorem cm_Lclass (G : gG) (o : Nat) : cm (eX0 G o) 0 302 = Lclass G o := by
  have e : cm (eX0 G o) 0 (1 + (32 + (3 + (1 + (2 + (32 * 6 + (2 + (32 * 2 + 5)))))))) = cm (eX0 G o) 0 1 ++ (cm (eX0 G o) 1 32 ++ (cm (eX0 G o) 33 3 ++ (cm (eX0 G o) 36 1 ++ (cm (eX0 G o) 37 2 ++ (cm (eX0 G o) 39 (32 * 6) ++ (cm (eX0 G o) 231 2 ++ (cm (eX0 G o) 233 (32 * 2) ++ cm (eX0 G o) 297 5))))))) := by
    rw [cm_add, cm_add, cm_add, cm_add, cm_add, cm_add, cm_add, cm_add]
  refine e.trans ?_
  rw [cm_attic G o (Or.inl rfl), cm_attics G o 37 6 fun j hj => Or.inr (Or.inl ⟨j, hj, by omega⟩), cm_attics G o 231 2 fun j hj => Or.inr (Or.inr ⟨j, hj, by omega⟩)]
  unfold Lclass Lhist Lshelf
  simp only [List.append_assoc, List.cons_append]
  rw [show (fun j : Nat => some (o + 36 + 1 + (2 + 32 * j))) = fun i => some (o + (39 + 32 * i)) from funext fun j => congrArg some (by omega), show (fun j : Nat => some (o + 231 + (2 + 32 * j))) = fun i => some (o + (233 + 32 * i)) from funext fun j => congrArg some (by omega)]
  rfl
theorem Lclass_eq (G : gG) (o : Nat) : cw o (Lclass G o) = gL (entX G o) o 302 sX := by
  rw [← cm_Lclass]
  exact cw_cm _ _ _
def z0 : Nat → Nat := fun k => if k = 0 then 60 else if k = 1 then 10 else 0
theorem z0_0 {k : Nat} (h : 2 ≤ k) : z0 k = 0 := by
  unfold z0
  rw [if_neg (by omega), if_neg (by omega)]
theorem zI_0 : zI z0 := by
  refine ⟨by decide, by decide, by decide, by decide, fun b hb => absurd hb (by decide +revert), fun g hg => ?_, fun s hs => absurd hs (by decide +revert)⟩
  rcases (show g = 0 ∨ g = 1 ∨ g = 2 ∨ g = 3 by omega) with rfl | rfl | rfl | rfl <;> decide
theorem cX_0 : cX z0 sX 1 := by
  refine ⟨by decide, fun k hk => absurd hk (Nat.not_lt_zero k), fun g hg => ?_, fun s hs => absurd hs (Nat.not_lt_zero s)⟩
  rcases (show g = 0 ∨ g = 1 ∨ g = 2 ∨ g = 3 by omega) with rfl | rfl | rfl | rfl <;> decide
theorem hX_0 : hX sX := ⟨0, 0, by decide, by decide, by decide, by decide⟩
end ST
