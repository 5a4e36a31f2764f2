section
variable {p : Program} {l : Launch} {e : Env} {R : Room} {s : State} {m : MethodId} {args : Array Value} {below : List Frame} {meth : Method} {c : Code} {G : gG} {o : Nat} {cc ss : Nat} {Q : State → Prop}
abbrev rmL_cell : Room := { frames := 0, cells := 0, slots := 0, locals := 0 }
def f_L_cell (Lx : Nat) (xs : Nat → Int32) (p0 : Int32) (σ : gS) : Option (Int32 × gS) := if (Int32.ofNat Lx) ≤ p0 then (some (((32452867 * p0) + 15485863), σ)) else (gGd (gin p0 Lx) (some ((xs (gil p0)), σ)))
set_option maxHeartbeats 4000000 in
set_option maxRecDepth 100000 in
theorem c_L_cell (Lx : Nat) (xs : Nat → Int32) (ab : Nat) (p0 : Int32) (σ : gS) (q : Int32 × gS) (hf : f_L_cell Lx xs p0 σ = some q) : Met l yL_cell (gW yL_cell cL_cell 2 (some .int)) rmL_cell (hPc G o [(ab, Lx, xs)] [.ref ab, .int p0] σ) (hQi G o q) 0 0 (gA o 307) := by
  refine h_met (by decide) ⟨rfl, rfl⟩ (fun p e s m args below meth c ls K hS hl => ?_) (Nat.le_of_ble_eq_true rfl)
  have K : gK p s m args meth c G cL_cell 2 RL (some .int) := K
  have hl : lv_has ls 2 [(0, .ref ab), (1, .int p0)] := hl
  obtain ⟨hx, hb, hml, hown, hts, -⟩ := id K
  unfold f_L_cell at hf
  refine lv_iload_n hx hb dL_cell_0 rfl (lv_at hl 1 rfl) ?_
  refine lv_aload_n hx hb dL_cell_1 rfl (lv_at hl 0 rfl) ?_
  refine h_ilen K hS (n := Lx) (f := xs) (by simp) dL_cell_2 ?_
  refine lv_icmp_ge (tgt := 12) hx hb dL_cell_3 (by decide) (fun c1 => ?_) (fun c1 => ?_)
  · have hf := gIf_t c1 hf
    refine lv_ldc (v := 32452867) hx hb hown (hts _ (gmem 527 (by decide +kernel) rfl)) dL_cell_12 ?_
    refine lv_iload_n hx hb dL_cell_14 rfl (lv_at hl 1 rfl) ?_
    refine lv_imul hx hb dL_cell_15 ?_
    refine lv_ldc (v := 15485863) hx hb hown (hts _ (gmem 528 (by decide +kernel) rfl)) dL_cell_16 ?_
    refine lv_iadd hx hb dL_cell_18 ?_
    exact h_iret K hS hf dL_cell_19
  · have hf := gIf_f c1 hf
    refine lv_aload_n hx hb dL_cell_6 rfl (lv_at hl 0 rfl) ?_
    refine lv_iload_n hx hb dL_cell_7 rfl (lv_at hl 1 rfl) ?_
    obtain ⟨h2, hf⟩ := gGd_some hf
    refine h_ild K hS (n := Lx) (f := xs) (by simp) h2 dL_cell_8 ?_
    refine lv_goto (tgt := 19) hx hb dL_cell_9 (by decide) ?_
    exact h_iret K hS hf dL_cell_19
abbrev rmL_low : Room := { frames := 0, cells := 0, slots := 0, locals := 0 }
def f_L_low (p0 : Int32) (p1 : Int32) (σ : gS) : Option (Int32 × gS) := gGd (gne p1) (some (((p0 &&& 2147483647) - (p0 &&& 2147483647) / p1 * p1), σ))
set_option maxHeartbeats 4000000 in
set_option maxRecDepth 100000 in
theorem c_L_low (p0 : Int32) (p1 : Int32) (σ : gS) (q : Int32 × gS) (hf : f_L_low p0 p1 σ = some q) : Met l yL_low (gW yL_low cL_low 2 (some .int)) rmL_low (hPc G o [] [.int p0, .int p1] σ) (hQi G o q) 0 0 (gA o 307) := by
  refine h_met (by decide) ⟨rfl, rfl⟩ (fun p e s m args below meth c ls K hS hl => ?_) (Nat.le_of_ble_eq_true rfl)
  have K : gK p s m args meth c G cL_low 2 RL (some .int) := K
  have hl : lv_has ls 2 [(0, .int p0), (1, .int p1)] := hl
  obtain ⟨hx, hb, hml, hown, hts, -⟩ := id K
  unfold f_L_low at hf
  refine lv_iload_n hx hb dL_low_0 rfl (lv_at hl 0 rfl) ?_
  refine lv_ldc (v := 2147483647) hx hb hown (hts _ (gmem 532 (by decide +kernel) rfl)) dL_low_1 ?_
  refine lv_iand hx hb dL_low_3 ?_
  refine lv_iload_n hx hb dL_low_4 rfl (lv_at hl 1 rfl) ?_
  obtain ⟨h1, hf⟩ := gGd_some hf
  refine lv_irem hx hb dL_low_5 (gne_ne h1) ?_
  exact h_iret K hS hf dL_low_6
abbrev rmL_one : Room := { frames := 0, cells := 0, slots := 0, locals := 0 }
def f_L_one (p0 : Int32) (σ : gS) : Option (Int32 × gS) := gGd (gin p0 20) (some (((σ 302 (gil p0)) - (σ 302 (gil p0)) / 16 * 16), σ))
set_option maxHeartbeats 4000000 in
set_option maxRecDepth 100000 in
theorem c_L_one (p0 : Int32) (σ : gS) (q : Int32 × gS) (hf : f_L_one p0 σ = some q) : Met l yL_one (gW yL_one cL_one 2 (some .int)) rmL_one (hPc G o [] [.ref (o + 302), .int p0] σ) (hQi G o q) 0 0 (gA o 307) := by
  refine h_met (by decide) ⟨rfl, rfl⟩ (fun p e s m args below meth c ls K hS hl => ?_) (Nat.le_of_ble_eq_true rfl)
  have K : gK p s m args meth c G cL_one 2 RL (some .int) := K
  have hl : lv_has ls 2 [(0, .ref (o + 302)), (1, .int p0)] := hl
  obtain ⟨hx, hb, hml, hown, hts, -⟩ := id K
  unfold f_L_one at hf
  refine lv_aload_n hx hb dL_one_0 rfl (lv_at hl 0 rfl) ?_
  refine lv_iload_n hx hb dL_one_1 rfl (lv_at hl 1 rfl) ?_
  obtain ⟨h1, hf⟩ := gGd_some hf
  refine h_iald (cx := 302) K hS (eLL_302 G o) (by decide) h1 rfl dL_one_2 ?_
  refine lv_bipush (v := 16) hx hb dL_one_3 (by decide) ?_
  refine lv_irem hx hb dL_one_5 (by decide) ?_
  exact h_iret K hS hf dL_one_6
abbrev rmL_two : Room := { frames := 0, cells := 0, slots := 0, locals := 0 }
def f_L_two (p0 : Int32) (σ : gS) : Option (Int32 × gS) := gGd (gin p0 20) (some ((((σ 302 (gil p0)) / 16) - ((σ 302 (gil p0)) / 16) / 16 * 16), σ))
set_option maxHeartbeats 4000000 in
set_option maxRecDepth 100000 in
theorem c_L_two (p0 : Int32) (σ : gS) (q : Int32 × gS) (hf : f_L_two p0 σ = some q) : Met l yL_two (gW yL_two cL_two 2 (some .int)) rmL_two (hPc G o [] [.ref (o + 302), .int p0] σ) (hQi G o q) 0 0 (gA o 307) := by
  refine h_met (by decide) ⟨rfl, rfl⟩ (fun p e s m args below meth c ls K hS hl => ?_) (Nat.le_of_ble_eq_true rfl)
  have K : gK p s m args meth c G cL_two 2 RL (some .int) := K
  have hl : lv_has ls 2 [(0, .ref (o + 302)), (1, .int p0)] := hl
  obtain ⟨hx, hb, hml, hown, hts, -⟩ := id K
  unfold f_L_two at hf
  refine lv_aload_n hx hb dL_two_0 rfl (lv_at hl 0 rfl) ?_
  refine lv_iload_n hx hb dL_two_1 rfl (lv_at hl 1 rfl) ?_
  obtain ⟨h1, hf⟩ := gGd_some hf
  refine h_iald (cx := 302) K hS (eLL_302 G o) (by decide) h1 rfl dL_two_2 ?_
  refine lv_bipush (v := 16) hx hb dL_two_3 (by decide) ?_
  refine lv_idiv hx hb dL_two_5 (by decide) ?_
  refine lv_bipush (v := 16) hx hb dL_two_6 (by decide) ?_
  refine lv_irem hx hb dL_two_8 (by decide) ?_
  exact h_iret K hS hf dL_two_9
abbrev rmL_creak : Room := { frames := 0, cells := 0, slots := 0, locals := 0 }
def f_L_creak (p0 : Int32) (σ : gS) : Option (Int32 × gS) := gGd (gin p0 20) (some ((((σ 302 (gil p0)) / 256) - ((σ 302 (gil p0)) / 256) / 16 * 16), σ))
set_option maxHeartbeats 4000000 in
set_option maxRecDepth 100000 in
theorem c_L_creak (p0 : Int32) (σ : gS) (q : Int32 × gS) (hf : f_L_creak p0 σ = some q) : Met l yL_creak (gW yL_creak cL_creak 2 (some .int)) rmL_creak (hPc G o [] [.ref (o + 302), .int p0] σ) (hQi G o q) 0 0 (gA o 307) := by
  refine h_met (by decide) ⟨rfl, rfl⟩ (fun p e s m args below meth c ls K hS hl => ?_) (Nat.le_of_ble_eq_true rfl)
  have K : gK p s m args meth c G cL_creak 2 RL (some .int) := K
  have hl : lv_has ls 2 [(0, .ref (o + 302)), (1, .int p0)] := hl
  obtain ⟨hx, hb, hml, hown, hts, -⟩ := id K
  unfold f_L_creak at hf
  refine lv_aload_n hx hb dL_creak_0 rfl (lv_at hl 0 rfl) ?_
  refine lv_iload_n hx hb dL_creak_1 rfl (lv_at hl 1 rfl) ?_
  obtain ⟨h1, hf⟩ := gGd_some hf
  refine h_iald (cx := 302) K hS (eLL_302 G o) (by decide) h1 rfl dL_creak_2 ?_
  refine lv_sipush (v := 256) hx hb dL_creak_3 (by decide) ?_
  refine lv_idiv hx hb dL_creak_6 (by decide) ?_
  refine lv_bipush (v := 16) hx hb dL_creak_7 (by decide) ?_
  refine lv_irem hx hb dL_creak_9 (by decide) ?_
  exact h_iret K hS hf dL_creak_10
abbrev rmL_minutes : Room := { frames := 0, cells := 0, slots := 0, locals := 0 }
def f_L_minutes (p0 : Int32) (σ : gS) : Option (Int32 × gS) := gGd (gin p0 20) (some (((σ 302 (gil p0)) / 4096), σ))
set_option maxHeartbeats 4000000 in
set_option maxRecDepth 100000 in
theorem c_L_minutes (p0 : Int32) (σ : gS) (q : Int32 × gS) (hf : f_L_minutes p0 σ = some q) : Met l yL_minutes (gW yL_minutes cL_minutes 2 (some .int)) rmL_minutes (hPc G o [] [.ref (o + 302), .int p0] σ) (hQi G o q) 0 0 (gA o 307) := by
  refine h_met (by decide) ⟨rfl, rfl⟩ (fun p e s m args below meth c ls K hS hl => ?_) (Nat.le_of_ble_eq_true rfl)
  have K : gK p s m args meth c G cL_minutes 2 RL (some .int) := K
  have hl : lv_has ls 2 [(0, .ref (o + 302)), (1, .int p0)] := hl
  obtain ⟨hx, hb, hml, hown, hts, -⟩ := id K
  unfold f_L_minutes at hf
  refine lv_aload_n hx hb dL_minutes_0 rfl (lv_at hl 0 rfl) ?_
  refine lv_iload_n hx hb dL_minutes_1 rfl (lv_at hl 1 rfl) ?_
  obtain ⟨h1, hf⟩ := gGd_some hf
  refine h_iald (cx := 302) K hS (eLL_302 G o) (by decide) h1 rfl dL_minutes_2 ?_
  refine lv_sipush (v := 4096) hx hb dL_minutes_3 (by decide) ?_
  refine lv_idiv hx hb dL_minutes_6 (by decide) ?_
  exact h_iret K hS hf dL_minutes_7
abbrev rmL_reach : Room := { frames := 1, cells := 0, slots := 0, locals := 21 }
def f_L_reach_L22 (w3 : Int32) (w4 : Int32) (w6 : Int32) (w7 : Int32) (K127 : Int32 → gS → Option (Int32 × gS)) : Nat → Int32 → Int32 → gS → Option (Int32 × gS)
  | 0, _, _, _ => none
  | n + 1, v5, v8, σ => if (σ 306 4) ≤ v8 then (K127 v5 σ) else (gLet (fun (j4 : Int32) (s5 : gS) => gLet (fun (j7 : Int32) (j8 : Int32) (s9 : gS) => gLet (j7 ||| j8) (fun x11 => if j4 = 0 then (gLet (x11 ||| 0) (fun x13 => f_L_reach_L22 w3 w4 w6 w7 K127 n x13 (v8 + 1) s9)) else (Option.bind (f_L_two v8 s9) (fun q14 => if ((w7 >>> (q14.1 &&& 31)) &&& 1) = 1 then (Option.bind (f_L_one v8 q14.2) (fun q17 => gLet (x11 ||| (1 <<< (q17.1 &&& 31))) (fun x18 => f_L_reach_L22 w3 w4 w6 w7 K127 n x18 (v8 + 1) q17.2))) else (gLet (x11 ||| 0) (fun x16 => f_L_reach_L22 w3 w4 w6 w7 K127 n x16 (v8 + 1) q14.2)))))) (fun J10 => gLet (fun (j19 : Int32) (s20 : gS) => J10 j19 0 s20) (fun J21 => if j4 = 0 then (J21 v5 s5) else (Option.bind (f_L_one v8 s5) (fun q23 => if ((w7 >>> (q23.1 &&& 31)) &&& 1) = 1 then (Option.bind (f_L_two v8 q23.2) (fun q25 => J10 v5 (1 <<< (q25.1 &&& 31)) q25.2)) else (J21 v5 q23.2)))))) (fun J6 => if ((w3 >>> (v8 &&& 31)) &&& 1) = 1 then (J6 1 σ) else (J6 0 σ)))
theorem f_L_reach_L22_s (w3 : Int32) (w4 : Int32) (w6 : Int32) (w7 : Int32) (K127 : Int32 → gS → Option (Int32 × gS)) (n : Nat) (v5 : Int32) (v8 : Int32) (σ : gS) : f_L_reach_L22 w3 w4 w6 w7 K127 (n + 1) v5 v8 σ = (if (σ 306 4) ≤ v8 then (K127 v5 σ) else (gLet (fun (j4 : Int32) (s5 : gS) => gLet (fun (j7 : Int32) (j8 : Int32) (s9 : gS) => gLet (j7 ||| j8) (fun x11 => if j4 = 0 then (gLet (x11 ||| 0) (fun x13 => f_L_reach_L22 w3 w4 w6 w7 K127 n x13 (v8 + 1) s9)) else (Option.bind (f_L_two v8 s9) (fun q14 => if ((w7 >>> (q14.1 &&& 31)) &&& 1) = 1 then (Option.bind (f_L_one v8 q14.2) (fun q17 => gLet (x11 ||| (1 <<< (q17.1 &&& 31))) (fun x18 => f_L_reach_L22 w3 w4 w6 w7 K127 n x18 (v8 + 1) q17.2))) else (gLet (x11 ||| 0) (fun x16 => f_L_reach_L22 w3 w4 w6 w7 K127 n x16 (v8 + 1) q14.2)))))) (fun J10 => gLet (fun (j19 : Int32) (s20 : gS) => J10 j19 0 s20) (fun J21 => if j4 = 0 then (J21 v5 s5) else (Option.bind (f_L_one v8 s5) (fun q23 => if ((w7 >>> (q23.1 &&& 31)) &&& 1) = 1 then (Option.bind (f_L_two v8 q23.2) (fun q25 => J10 v5 (1 <<< (q25.1 &&& 31)) q25.2)) else (J21 v5 q23.2)))))) (fun J6 => if ((w3 >>> (v8 &&& 31)) &&& 1) = 1 then (J6 1 σ) else (J6 0 σ)))) := rfl
def f_L_reach_L8 (w3 : Int32) (w4 : Int32) : Nat → Int32 → Int32 → gS → Option (Int32 × gS)
  | 0, _, _, _ => none
  | n + 1, v5, v6, σ => if w4 ≤ v6 then (some (v5, σ)) else (f_L_reach_L22 w3 w4 v6 v5 (fun (k27 : Int32) (s28 : gS) => f_L_reach_L8 w3 w4 n k27 (v6 + 1) s28) gFu v5 0 σ)
theorem f_L_reach_L8_s (w3 : Int32) (w4 : Int32) (n : Nat) (v5 : Int32) (v6 : Int32) (σ : gS) : f_L_reach_L8 w3 w4 (n + 1) v5 v6 σ = (if w4 ≤ v6 then (some (v5, σ)) else (f_L_reach_L22 w3 w4 v6 v5 (fun (k27 : Int32) (s28 : gS) => f_L_reach_L8 w3 w4 n k27 (v6 + 1) s28) gFu v5 0 σ)) := rfl
def f_L_reach (p0 : Int32) (p1 : Int32) (p2 : Int32) (σ : gS) : Option (Int32 × gS) := gLet (1 <<< (p0 &&& 31)) (fun x1 => f_L_reach_L8 p1 p2 gFu x1 0 σ)
set_option maxHeartbeats 4000000 in
set_option maxRecDepth 100000 in
theorem w_L_reach_L22 (w3 : Int32) (w4 : Int32) (w6 : Int32) (w7 : Int32) (K127 : Int32 → gS → Option (Int32 × gS)) {q : Int32 × gS} (K : gK p s m args meth c G cL_reach 10 RL (some .int)) (hK127 : ∀ (k5 : Int32) (σ : gS), K127 k5 σ = some q → ∀ (H : Heap) (locs : List Loc) (ls : Array Slot), hSt G o [] s σ H locs → lv_has ls 10 [(0, .ref (o + 302)), (1, .ref (o + 306)), (3, .int w3), (4, .int w4), (5, .int k5), (6, .int w6)] → W p l e rmL_reach s m args below meth c H locs 0 0 (MQ below (hQi G o q) args s 0 0 (gA o 307)) (F0 m 127 ls [])) : ∀ (n : Nat) (v5 : Int32) (v8 : Int32) (σ : gS), f_L_reach_L22 w3 w4 w6 w7 K127 n v5 v8 σ = some q → ∀ (H : Heap) (locs : List Loc) (ls : Array Slot), hSt G o [] s σ H locs → lv_has ls 10 [(0, .ref (o + 302)), (1, .ref (o + 306)), (3, .int w3), (4, .int w4), (5, .int v5), (6, .int w6), (7, .int w7), (8, .int v8)] → W p l e rmL_reach s m args below meth c H locs 0 0 (MQ below (hQi G o q) args s 0 0 (gA o 307)) (F0 m 22 ls []) := by
  obtain ⟨hx, hb, hml, hown, hts, -⟩ := id K
  intro n
  induction n with
  | zero =>
    intro v5 v8 σ hf
    exact absurd (show (none : Option _) = some q from hf) (by simp)
  | succ n ih =>
    intro v5 v8 σ hf H locs ls hS hl
    rw [f_L_reach_L22_s] at hf
    refine lv_iload hx hb dL_reach_22 (lv_at hl 7 rfl) ?_
    refine lv_aload_n hx hb dL_reach_24 rfl (lv_at hl 1 rfl) ?_
    refine lv_iconst (v := 4) hx hb dL_reach_25 (by decide) ?_
    refine h_iald (cx := 306) (j := 4) K hS (eLL_306 G o) (by decide) (by decide) (by decide) dL_reach_26 ?_
    refine lv_icmp_ge (tgt := 127) hx hb dL_reach_27 (by decide) (fun c3 => ?_) (fun c3 => ?_)
    · have hf := gIf_t c3 hf
      exact hK127 v5 σ hf _ _ _ hS (lv_sub hl [0, 1, 2, 3, 4, 5] rfl)
    · have hf := gIf_f c3 hf
      refine lv_iload_n hx hb dL_reach_30 rfl (lv_at hl 2 rfl) ?_
      refine lv_iload hx hb dL_reach_31 (lv_at hl 7 rfl) ?_
      refine lv_ishr hx hb dL_reach_33 ?_
      refine lv_iconst (v := 1) hx hb dL_reach_34 (by decide) ?_
      refine lv_iand hx hb dL_reach_35 ?_
      refine lv_iconst (v := 1) hx hb dL_reach_36 (by decide) ?_
      obtain ⟨J6, hJ6, hf⟩ := gLet_some hf
      have wJ6 : ∀ (j4 : Int32) (s5 : gS), J6 j4 s5 = some q → ∀ (H : Heap) (locs : List Loc) (ls : Array Slot), hSt G o [] s s5 H locs → lv_has ls 10 [(0, .ref (o + 302)), (1, .ref (o + 306)), (3, .int w3), (4, .int w4), (5, .int v5), (6, .int w6), (7, .int w7), (8, .int v8)] → W p l e rmL_reach s m args below meth c H locs 0 0 (MQ below (hQi G o q) args s 0 0 (gA o 307)) (F0 m 45 ls [.int j4]) := by
        intro j4 s5 hf H locs ls hS hl
        rw [hJ6] at hf
        refine lv_istore (lv' := [(9, .int j4), (0, .ref (o + 302)), (1, .ref (o + 306)), (3, .int w3), (4, .int w4), (5, .int v5), (6, .int w6), (7, .int w7), (8, .int v8)]) hx hb dL_reach_45 hl (by decide) rfl (fun ls hl => ?_)
        refine lv_iload hx hb dL_reach_47 (lv_at hl 5 rfl) ?_
        refine lv_iload hx hb dL_reach_49 (lv_at hl 0 rfl) ?_
        obtain ⟨J10, hJ10, hf⟩ := gLet_some hf
        have wJ10 : ∀ (j7 : Int32) (j8 : Int32) (s9 : gS), J10 j7 j8 s9 = some q → ∀ (H : Heap) (locs : List Loc) (ls : Array Slot), hSt G o [] s s9 H locs → lv_has ls 10 [(0, .ref (o + 302)), (1, .ref (o + 306)), (3, .int w3), (4, .int w4), (6, .int w6), (7, .int w7), (8, .int v8), (9, .int j4)] → W p l e rmL_reach s m args below meth c H locs 0 0 (MQ below (hQi G o q) args s 0 0 (gA o 307)) (F0 m 81 ls [.int j8, .int j7]) := by
          intro j7 j8 s9 hf H locs ls hS hl
          rw [hJ10] at hf
          refine lv_ior hx hb dL_reach_81 ?_
          obtain ⟨x11, hx11, hf⟩ := gLet_some hf
          refine g_top hx11 ?_
          refine lv_istore (lv' := [(5, .int x11), (0, .ref (o + 302)), (1, .ref (o + 306)), (3, .int w3), (4, .int w4), (6, .int w6), (7, .int w7), (8, .int v8), (9, .int j4)]) hx hb dL_reach_82 hl (by decide) rfl (fun ls hl => ?_)
          refine lv_iload hx hb dL_reach_84 (lv_at hl 0 rfl) ?_
          refine lv_iload hx hb dL_reach_86 (lv_at hl 8 rfl) ?_
          refine lv_if_eq (tgt := 117) hx hb dL_reach_88 (by decide) (fun c12 => ?_) (fun c12 => ?_)
          · have hf := gIf_t c12 hf
            refine lv_iconst (v := 0) hx hb dL_reach_117 (by decide) ?_
            refine lv_ior hx hb dL_reach_118 ?_
            obtain ⟨x13, hx13, hf⟩ := gLet_some hf
            refine g_top hx13 ?_
            refine lv_istore (lv' := [(5, .int x13), (0, .ref (o + 302)), (1, .ref (o + 306)), (3, .int w3), (4, .int w4), (6, .int w6), (7, .int w7), (8, .int v8), (9, .int j4)]) hx hb dL_reach_119 hl (by decide) rfl (fun ls hl => ?_)
            refine lv_iinc (v := (v8 + 1)) (lv' := [(8, .int (v8 + 1)), (5, .int x13), (0, .ref (o + 302)), (1, .ref (o + 306)), (3, .int w3), (4, .int w4), (6, .int w6), (7, .int w7), (9, .int j4)]) hx hb dL_reach_121 hl (k := 7) rfl rfl (by decide) rfl (fun ls hl => ?_)
            refine lv_goto (tgt := 22) hx hb dL_reach_124 (by decide) ?_
            exact ih x13 (v8 + 1) s9 hf _ _ _ hS (lv_sub hl [2, 3, 4, 5, 1, 6, 7, 0] rfl)
          · have hf := gIf_f c12 hf
            refine lv_iload hx hb dL_reach_91 (lv_at hl 6 rfl) ?_
            refine lv_aload_n hx hb dL_reach_93 rfl (lv_at hl 1 rfl) ?_
            refine lv_iload hx hb dL_reach_94 (lv_at hl 7 rfl) ?_
            obtain ⟨q14, hq14, hf⟩ := Option.bind_eq_some_iff.mp hf
            refine h_Si0 (X' := []) (As := [.ref (o + 302), .int v8]) K hS lS_L_16 (by simp) (c_L_two v8 s9 q14 hq14) rfl rfl (Nat.le_of_ble_eq_true rfl) ⟨rfl, rfl⟩ ⟨Nat.le_of_ble_eq_true rfl, Nat.le_of_ble_eq_true rfl⟩ hl.1 ⟨Nat.le_of_ble_eq_true rfl, Nat.le_of_ble_eq_true rfl⟩ dL_reach_96 (fun H locs hS => ?_)
            refine lv_ishr hx hb dL_reach_99 ?_
            refine lv_iconst (v := 1) hx hb dL_reach_100 (by decide) ?_
            refine lv_iand hx hb dL_reach_101 ?_
            refine lv_iconst (v := 1) hx hb dL_reach_102 (by decide) ?_
            refine lv_icmp_ne (tgt := 117) hx hb dL_reach_103 (by decide) (fun c15 => ?_) (fun c15 => ?_)
            · have hf := gIf_f c15 hf
              refine lv_iconst (v := 0) hx hb dL_reach_117 (by decide) ?_
              refine lv_ior hx hb dL_reach_118 ?_
              obtain ⟨x16, hx16, hf⟩ := gLet_some hf
              refine g_top hx16 ?_
              refine lv_istore (lv' := [(5, .int x16), (0, .ref (o + 302)), (1, .ref (o + 306)), (3, .int w3), (4, .int w4), (6, .int w6), (7, .int w7), (8, .int v8), (9, .int j4)]) hx hb dL_reach_119 hl (by decide) rfl (fun ls hl => ?_)
              refine lv_iinc (v := (v8 + 1)) (lv' := [(8, .int (v8 + 1)), (5, .int x16), (0, .ref (o + 302)), (1, .ref (o + 306)), (3, .int w3), (4, .int w4), (6, .int w6), (7, .int w7), (9, .int j4)]) hx hb dL_reach_121 hl (k := 7) rfl rfl (by decide) rfl (fun ls hl => ?_)
              refine lv_goto (tgt := 22) hx hb dL_reach_124 (by decide) ?_
              exact ih x16 (v8 + 1) q14.2 hf _ _ _ hS (lv_sub hl [2, 3, 4, 5, 1, 6, 7, 0] rfl)
            · have hf := gIf_t c15 hf
              refine lv_iconst (v := 1) hx hb dL_reach_106 (by decide) ?_
              refine lv_aload_n hx hb dL_reach_107 rfl (lv_at hl 1 rfl) ?_
              refine lv_iload hx hb dL_reach_108 (lv_at hl 7 rfl) ?_
              obtain ⟨q17, hq17, hf⟩ := Option.bind_eq_some_iff.mp hf
              refine h_Si0 (X' := []) (As := [.ref (o + 302), .int v8]) K hS lS_L_10 (by simp) (c_L_one v8 q14.2 q17 hq17) rfl rfl (Nat.le_of_ble_eq_true rfl) ⟨rfl, rfl⟩ ⟨Nat.le_of_ble_eq_true rfl, Nat.le_of_ble_eq_true rfl⟩ hl.1 ⟨Nat.le_of_ble_eq_true rfl, Nat.le_of_ble_eq_true rfl⟩ dL_reach_110 (fun H locs hS => ?_)
              refine lv_ishl hx hb dL_reach_113 ?_
              refine lv_goto (tgt := 118) hx hb dL_reach_114 (by decide) ?_
              refine lv_ior hx hb dL_reach_118 ?_
              obtain ⟨x18, hx18, hf⟩ := gLet_some hf
              refine g_top hx18 ?_
              refine lv_istore (lv' := [(5, .int x18), (0, .ref (o + 302)), (1, .ref (o + 306)), (3, .int w3), (4, .int w4), (6, .int w6), (7, .int w7), (8, .int v8), (9, .int j4)]) hx hb dL_reach_119 hl (by decide) rfl (fun ls hl => ?_)
              refine lv_iinc (v := (v8 + 1)) (lv' := [(8, .int (v8 + 1)), (5, .int x18), (0, .ref (o + 302)), (1, .ref (o + 306)), (3, .int w3), (4, .int w4), (6, .int w6), (7, .int w7), (9, .int j4)]) hx hb dL_reach_121 hl (k := 7) rfl rfl (by decide) rfl (fun ls hl => ?_)
              refine lv_goto (tgt := 22) hx hb dL_reach_124 (by decide) ?_
              exact ih x18 (v8 + 1) q17.2 hf _ _ _ hS (lv_sub hl [2, 3, 4, 5, 1, 6, 7, 0] rfl)
        clear hJ10
        obtain ⟨J21, hJ21, hf⟩ := gLet_some hf
        have wJ21 : ∀ (j19 : Int32) (s20 : gS), J21 j19 s20 = some q → ∀ (H : Heap) (locs : List Loc) (ls : Array Slot), hSt G o [] s s20 H locs → lv_has ls 10 [(0, .ref (o + 302)), (1, .ref (o + 306)), (3, .int w3), (4, .int w4), (6, .int w6), (7, .int w7), (8, .int v8), (9, .int j4)] → W p l e rmL_reach s m args below meth c H locs 0 0 (MQ below (hQi G o q) args s 0 0 (gA o 307)) (F0 m 80 ls [.int j19]) := by
          intro j19 s20 hf H locs ls hS hl
          rw [hJ21] at hf
          refine lv_iconst (v := 0) hx hb dL_reach_80 (by decide) ?_
          exact wJ10 j19 0 s20 hf _ _ _ hS (lv_sub hl [0, 1, 2, 3, 4, 5, 6, 7] rfl)
        clear hJ21
        refine lv_if_eq (tgt := 80) hx hb dL_reach_51 (by decide) (fun c22 => ?_) (fun c22 => ?_)
        · have hf := gIf_t c22 hf
          exact wJ21 v5 s5 hf _ _ _ hS (lv_sub hl [1, 2, 3, 4, 6, 7, 8, 0] rfl)
        · have hf := gIf_f c22 hf
          refine lv_iload hx hb dL_reach_54 (lv_at hl 7 rfl) ?_
          refine lv_aload_n hx hb dL_reach_56 rfl (lv_at hl 1 rfl) ?_
          refine lv_iload hx hb dL_reach_57 (lv_at hl 8 rfl) ?_
          obtain ⟨q23, hq23, hf⟩ := Option.bind_eq_some_iff.mp hf
          refine h_Si0 (X' := []) (As := [.ref (o + 302), .int v8]) K hS lS_L_10 (by simp) (c_L_one v8 s5 q23 hq23) rfl rfl (Nat.le_of_ble_eq_true rfl) ⟨rfl, rfl⟩ ⟨Nat.le_of_ble_eq_true rfl, Nat.le_of_ble_eq_true rfl⟩ hl.1 ⟨Nat.le_of_ble_eq_true rfl, Nat.le_of_ble_eq_true rfl⟩ dL_reach_59 (fun H locs hS => ?_)
          refine lv_ishr hx hb dL_reach_62 ?_
          refine lv_iconst (v := 1) hx hb dL_reach_63 (by decide) ?_
          refine lv_iand hx hb dL_reach_64 ?_
          refine lv_iconst (v := 1) hx hb dL_reach_65 (by decide) ?_
          refine lv_icmp_ne (tgt := 80) hx hb dL_reach_66 (by decide) (fun c24 => ?_) (fun c24 => ?_)
          · have hf := gIf_f c24 hf
            exact wJ21 v5 q23.2 hf _ _ _ hS (lv_sub hl [1, 2, 3, 4, 6, 7, 8, 0] rfl)
          · have hf := gIf_t c24 hf
            refine lv_iconst (v := 1) hx hb dL_reach_69 (by decide) ?_
            refine lv_aload_n hx hb dL_reach_70 rfl (lv_at hl 1 rfl) ?_
            refine lv_iload hx hb dL_reach_71 (lv_at hl 8 rfl) ?_
            obtain ⟨q25, hq25, hf⟩ := Option.bind_eq_some_iff.mp hf
            refine h_Si0 (X' := []) (As := [.ref (o + 302), .int v8]) K hS lS_L_16 (by simp) (c_L_two v8 q23.2 q25 hq25) rfl rfl (Nat.le_of_ble_eq_true rfl) ⟨rfl, rfl⟩ ⟨Nat.le_of_ble_eq_true rfl, Nat.le_of_ble_eq_true rfl⟩ hl.1 ⟨Nat.le_of_ble_eq_true rfl, Nat.le_of_ble_eq_true rfl⟩ dL_reach_73 (fun H locs hS => ?_)
            refine lv_ishl hx hb dL_reach_76 ?_
            refine lv_goto (tgt := 81) hx hb dL_reach_77 (by decide) ?_
            exact wJ10 v5 (1 <<< (q25.1 &&& 31)) q25.2 hf _ _ _ hS (lv_sub hl [1, 2, 3, 4, 6, 7, 8, 0] rfl)
      clear hJ6
      refine lv_icmp_ne (tgt := 44) hx hb dL_reach_37 (by decide) (fun c26 => ?_) (fun c26 => ?_)
      · have hf := gIf_f c26 hf
        refine lv_iconst (v := 0) hx hb dL_reach_44 (by decide) ?_
        exact wJ6 0 σ hf _ _ _ hS (lv_sub hl [0, 1, 2, 3, 4, 5, 6, 7] rfl)
      · have hf := gIf_t c26 hf
        refine lv_iconst (v := 1) hx hb dL_reach_40 (by decide) ?_
        refine lv_goto (tgt := 45) hx hb dL_reach_41 (by decide) ?_
        exact wJ6 1 σ hf _ _ _ hS (lv_sub hl [0, 1, 2, 3, 4, 5, 6, 7] rfl)
set_option maxHeartbeats 4000000 in
set_option maxRecDepth 100000 in
theorem w_L_reach_L8 (w3 : Int32) (w4 : Int32) {q : Int32 × gS} (K : gK p s m args meth c G cL_reach 10 RL (some .int)) : ∀ (n : Nat) (v5 : Int32) (v6 : Int32) (σ : gS), f_L_reach_L8 w3 w4 n v5 v6 σ = some q → ∀ (H : Heap) (locs : List Loc) (ls : Array Slot), hSt G o [] s σ H locs → lv_has ls 10 [(0, .ref (o + 302)), (1, .ref (o + 306)), (3, .int w3), (4, .int w4), (5, .int v5), (6, .int v6)] → W p l e rmL_reach s m args below meth c H locs 0 0 (MQ below (hQi G o q) args s 0 0 (gA o 307)) (F0 m 8 ls []) := by
  obtain ⟨hx, hb, hml, hown, hts, -⟩ := id K
  intro n
  induction n with
  | zero =>
    intro v5 v6 σ hf
    exact absurd (show (none : Option _) = some q from hf) (by simp)
  | succ n ih =>
    intro v5 v6 σ hf H locs ls hS hl
    rw [f_L_reach_L8_s] at hf
    refine lv_iload hx hb dL_reach_8 (lv_at hl 5 rfl) ?_
    refine lv_iload hx hb dL_reach_10 (lv_at hl 3 rfl) ?_
    refine lv_icmp_ge (tgt := 133) hx hb dL_reach_12 (by decide) (fun c2 => ?_) (fun c2 => ?_)
    · have hf := gIf_t c2 hf
      refine lv_iload hx hb dL_reach_133 (lv_at hl 4 rfl) ?_
      exact h_iret K hS hf dL_reach_135
    · have hf := gIf_f c2 hf
      refine lv_iload hx hb dL_reach_15 (lv_at hl 4 rfl) ?_
      refine lv_istore (lv' := [(7, .int v5), (0, .ref (o + 302)), (1, .ref (o + 306)), (3, .int w3), (4, .int w4), (5, .int v5), (6, .int v6)]) hx hb dL_reach_17 hl (by decide) rfl (fun ls hl => ?_)
      refine lv_iconst (v := 0) hx hb dL_reach_19 (by decide) ?_
      refine lv_istore (lv' := [(8, .int 0), (7, .int v5), (0, .ref (o + 302)), (1, .ref (o + 306)), (3, .int w3), (4, .int w4), (5, .int v5), (6, .int v6)]) hx hb dL_reach_20 hl (by decide) rfl (fun ls hl => ?_)
      refine w_L_reach_L22 w3 w4 v6 v5 _ K ?_ gFu v5 0 σ hf _ _ _ hS (lv_sub hl [2, 3, 4, 5, 6, 7, 1, 0] rfl)
      · intro k27 s28 hf H locs ls hS hl
        refine lv_iinc (v := (v6 + 1)) (lv' := [(6, .int (v6 + 1)), (0, .ref (o + 302)), (1, .ref (o + 306)), (3, .int w3), (4, .int w4), (5, .int k27)]) hx hb dL_reach_127 hl (k := 5) rfl rfl (by decide) rfl (fun ls hl => ?_)
        refine lv_goto (tgt := 8) hx hb dL_reach_130 (by decide) ?_
        exact ih k27 (v6 + 1) s28 hf _ _ _ hS (lv_sub hl [1, 2, 3, 4, 5, 0] rfl)
set_option maxHeartbeats 4000000 in
set_option maxRecDepth 100000 in
theorem c_L_reach (p0 : Int32) (p1 : Int32) (p2 : Int32) (σ : gS) (q : Int32 × gS) (hf : f_L_reach p0 p1 p2 σ = some q) : Met l yL_reach (gW yL_reach cL_reach 10 (some .int)) rmL_reach (hPc G o [] [.ref (o + 302), .ref (o + 306), .int p0, .int p1, .int p2] σ) (hQi G o q) 0 0 (gA o 307) := by
  refine h_met (by decide) ⟨rfl, rfl⟩ (fun p e s m args below meth c ls K hS hl => ?_) (Nat.le_of_ble_eq_true rfl)
  have K : gK p s m args meth c G cL_reach 10 RL (some .int) := K
  have hl : lv_has ls 10 [(0, .ref (o + 302)), (1, .ref (o + 306)), (2, .int p0), (3, .int p1), (4, .int p2)] := hl
  obtain ⟨hx, hb, hml, hown, hts, -⟩ := id K
  unfold f_L_reach at hf
  refine lv_iconst (v := 1) hx hb dL_reach_0 (by decide) ?_
  refine lv_iload_n hx hb dL_reach_1 rfl (lv_at hl 2 rfl) ?_
  refine lv_ishl hx hb dL_reach_2 ?_
  obtain ⟨x1, hx1, hf⟩ := gLet_some hf
  refine g_top hx1 ?_
  refine lv_istore (lv' := [(5, .int x1), (0, .ref (o + 302)), (1, .ref (o + 306)), (2, .int p0), (3, .int p1), (4, .int p2)]) hx hb dL_reach_3 hl (by decide) rfl (fun ls hl => ?_)
  refine lv_iconst (v := 0) hx hb dL_reach_5 (by decide) ?_
  refine lv_istore (lv' := [(6, .int 0), (5, .int x1), (0, .ref (o + 302)), (1, .ref (o + 306)), (2, .int p0), (3, .int p1), (4, .int p2)]) hx hb dL_reach_6 hl (by decide) rfl (fun ls hl => ?_)
  refine w_L_reach_L8 p1 p2 K gFu x1 0 σ hf _ _ _ hS (lv_sub hl [2, 3, 5, 6, 1, 0] rfl)
abbrev rmL_all : Room := { frames := 0, cells := 0, slots := 0, locals := 0 }
def f_L_all (σ : gS) : Option (Int32 × gS) := some (((1 <<< ((σ 306 4) &&& 31)) - 1), σ)
set_option maxHeartbeats 4000000 in
set_option maxRecDepth 100000 in
theorem c_L_all (σ : gS) (q : Int32 × gS) (hf : f_L_all σ = some q) : Met l yL_all (gW yL_all cL_all 1 (some .int)) rmL_all (hPc G o [] [.ref (o + 306)] σ) (hQi G o q) 0 0 (gA o 307) := by
  refine h_met (by decide) ⟨rfl, rfl⟩ (fun p e s m args below meth c ls K hS hl => ?_) (Nat.le_of_ble_eq_true rfl)
  have K : gK p s m args meth c G cL_all 1 RL (some .int) := K
  have hl : lv_has ls 1 [(0, .ref (o + 306))] := hl
  obtain ⟨hx, hb, hml, hown, hts, -⟩ := id K
  unfold f_L_all at hf
  refine lv_iconst (v := 1) hx hb dL_all_0 (by decide) ?_
  refine lv_aload_n hx hb dL_all_1 rfl (lv_at hl 0 rfl) ?_
  refine lv_iconst (v := 4) hx hb dL_all_2 (by decide) ?_
  refine h_iald (cx := 306) (j := 4) K hS (eLL_306 G o) (by decide) (by decide) (by decide) dL_all_3 ?_
  refine lv_ishl hx hb dL_all_4 ?_
  refine lv_iconst (v := 1) hx hb dL_all_5 (by decide) ?_
  refine lv_isub hx hb dL_all_6 ?_
  exact h_iret K hS hf dL_all_7
abbrev rmL_far : Room := { frames := 2, cells := 0, slots := 0, locals := 50 }
def f_L_far_L8 (w2 : Int32) (w3 : Int32) : Nat → Int32 → Int32 → gS → Option (Int32 × gS)
  | 0, _, _, _ => none
  | n + 1, v4, v5, σ => if v5 < 0 then (some (v4, σ)) else (Option.bind (f_L_all σ) (fun q2 => Option.bind (f_L_reach w2 q2.1 v5 q2.2) (fun q3 => if ((q3.1 >>> (w3 &&& 31)) &&& 1) = 1 then (f_L_far_L8 w2 w3 n v5 (v5 + (-1)) q3.2) else (f_L_far_L8 w2 w3 n v4 (v5 + (-1)) q3.2))))
theorem f_L_far_L8_s (w2 : Int32) (w3 : Int32) (n : Nat) (v4 : Int32) (v5 : Int32) (σ : gS) : f_L_far_L8 w2 w3 (n + 1) v4 v5 σ = (if v5 < 0 then (some (v4, σ)) else (Option.bind (f_L_all σ) (fun q2 => Option.bind (f_L_reach w2 q2.1 v5 q2.2) (fun q3 => if ((q3.1 >>> (w3 &&& 31)) &&& 1) = 1 then (f_L_far_L8 w2 w3 n v5 (v5 + (-1)) q3.2) else (f_L_far_L8 w2 w3 n v4 (v5 + (-1)) q3.2))))) := rfl
def f_L_far (p0 : Int32) (p1 : Int32) (σ : gS) : Option (Int32 × gS) := f_L_far_L8 p0 p1 gFu (-6) 9 σ
set_option maxHeartbeats 4000000 in
set_option maxRecDepth 100000 in
theorem w_L_far_L8 (w2 : Int32) (w3 : Int32) {q : Int32 × gS} (K : gK p s m args meth c G cL_far 6 RL (some .int)) : ∀ (n : Nat) (v4 : Int32) (v5 : Int32) (σ : gS), f_L_far_L8 w2 w3 n v4 v5 σ = some q → ∀ (H : Heap) (locs : List Loc) (ls : Array Slot), hSt G o [] s σ H locs → lv_has ls 6 [(0, .ref (o + 302)), (1, .ref (o + 306)), (2, .int w2), (3, .int w3), (4, .int v4), (5, .int v5)] → W p l e rmL_far s m args below meth c H locs 0 0 (MQ below (hQi G o q) args s 0 0 (gA o 307)) (F0 m 8 ls []) := by
  obtain ⟨hx, hb, hml, hown, hts, -⟩ := id K
  intro n
  induction n with
  | zero =>
    intro v4 v5 σ hf
    exact absurd (show (none : Option _) = some q from hf) (by simp)
  | succ n ih =>
    intro v4 v5 σ hf H locs ls hS hl
    rw [f_L_far_L8_s] at hf
    refine lv_iload hx hb dL_far_8 (lv_at hl 5 rfl) ?_
    refine lv_if_lt (tgt := 48) hx hb dL_far_10 (by decide) (fun c1 => ?_) (fun c1 => ?_)
    · have hf := gIf_t c1 hf
      refine lv_iload hx hb dL_far_48 (lv_at hl 4 rfl) ?_
      exact h_iret K hS hf dL_far_50
    · have hf := gIf_f c1 hf
      refine lv_aload_n hx hb dL_far_13 rfl (lv_at hl 0 rfl) ?_
      refine lv_aload_n hx hb dL_far_14 rfl (lv_at hl 1 rfl) ?_
      refine lv_iload_n hx hb dL_far_15 rfl (lv_at hl 2 rfl) ?_
      refine lv_aload_n hx hb dL_far_16 rfl (lv_at hl 1 rfl) ?_
      obtain ⟨q2, hq2, hf⟩ := Option.bind_eq_some_iff.mp hf
      refine h_Si0 (X' := []) (As := [.ref (o + 306)]) K hS lS_L_21 (by simp) (c_L_all σ q2 hq2) rfl rfl (Nat.le_of_ble_eq_true rfl) ⟨rfl, rfl⟩ ⟨Nat.le_of_ble_eq_true rfl, Nat.le_of_ble_eq_true rfl⟩ hl.1 ⟨Nat.le_of_ble_eq_true rfl, Nat.le_of_ble_eq_true rfl⟩ dL_far_17 (fun H locs hS => ?_)
      refine lv_iload hx hb dL_far_20 (lv_at hl 5 rfl) ?_
      obtain ⟨q3, hq3, hf⟩ := Option.bind_eq_some_iff.mp hf
      refine h_Si0 (X' := []) (As := [.ref (o + 302), .ref (o + 306), .int w2, .int q2.1, .int v5]) K hS lS_L_25 (by simp) (c_L_reach w2 q2.1 v5 q2.2 q3 hq3) rfl rfl (Nat.le_of_ble_eq_true rfl) ⟨rfl, rfl⟩ ⟨Nat.le_of_ble_eq_true rfl, Nat.le_of_ble_eq_true rfl⟩ hl.1 ⟨Nat.le_of_ble_eq_true rfl, Nat.le_of_ble_eq_true rfl⟩ dL_far_22 (fun H locs hS => ?_)
      refine lv_iload_n hx hb dL_far_25 rfl (lv_at hl 3 rfl) ?_
      refine lv_ishr hx hb dL_far_26 ?_
      refine lv_iconst (v := 1) hx hb dL_far_27 (by decide) ?_
      refine lv_iand hx hb dL_far_28 ?_
      refine lv_iconst (v := 1) hx hb dL_far_29 (by decide) ?_
      refine lv_icmp_ne (tgt := 38) hx hb dL_far_30 (by decide) (fun c4 => ?_) (fun c4 => ?_)
      · have hf := gIf_f c4 hf
        refine lv_iload hx hb dL_far_38 (lv_at hl 4 rfl) ?_
        refine lv_istore (lv' := [(4, .int v4), (0, .ref (o + 302)), (1, .ref (o + 306)), (2, .int w2), (3, .int w3), (5, .int v5)]) hx hb dL_far_40 hl (by decide) rfl (fun ls hl => ?_)
        refine lv_iinc (v := (v5 + (-1))) (lv' := [(5, .int (v5 + (-1))), (4, .int v4), (0, .ref (o + 302)), (1, .ref (o + 306)), (2, .int w2), (3, .int w3)]) hx hb dL_far_42 hl (k := 5) rfl rfl (by decide) rfl (fun ls hl => ?_)
        refine lv_goto (tgt := 8) hx hb dL_far_45 (by decide) ?_
        exact ih v4 (v5 + (-1)) q3.2 hf _ _ _ hS (lv_sub hl [2, 3, 4, 5, 1, 0] rfl)
      · have hf := gIf_t c4 hf
        refine lv_iload hx hb dL_far_33 (lv_at hl 5 rfl) ?_
        refine lv_goto (tgt := 40) hx hb dL_far_35 (by decide) ?_
        refine lv_istore (lv' := [(4, .int v5), (0, .ref (o + 302)), (1, .ref (o + 306)), (2, .int w2), (3, .int w3), (5, .int v5)]) hx hb dL_far_40 hl (by decide) rfl (fun ls hl => ?_)
        refine lv_iinc (v := (v5 + (-1))) (lv' := [(5, .int (v5 + (-1))), (4, .int v5), (0, .ref (o + 302)), (1, .ref (o + 306)), (2, .int w2), (3, .int w3)]) hx hb dL_far_42 hl (k := 5) rfl rfl (by decide) rfl (fun ls hl => ?_)
        refine lv_goto (tgt := 8) hx hb dL_far_45 (by decide) ?_
        exact ih v5 (v5 + (-1)) q3.2 hf _ _ _ hS (lv_sub hl [2, 3, 4, 5, 1, 0] rfl)
set_option maxHeartbeats 4000000 in
set_option maxRecDepth 100000 in
theorem c_L_far (p0 : Int32) (p1 : Int32) (σ : gS) (q : Int32 × gS) (hf : f_L_far p0 p1 σ = some q) : Met l yL_far (gW yL_far cL_far 6 (some .int)) rmL_far (hPc G o [] [.ref (o + 302), .ref (o + 306), .int p0, .int p1] σ) (hQi G o q) 0 0 (gA o 307) := by
  refine h_met (by decide) ⟨rfl, rfl⟩ (fun p e s m args below meth c ls K hS hl => ?_) (Nat.le_of_ble_eq_true rfl)
  have K : gK p s m args meth c G cL_far 6 RL (some .int) := K
  have hl : lv_has ls 6 [(0, .ref (o + 302)), (1, .ref (o + 306)), (2, .int p0), (3, .int p1)] := hl
  obtain ⟨hx, hb, hml, hown, hts, -⟩ := id K
  unfold f_L_far at hf
  refine lv_bipush (v := (-6)) hx hb dL_far_0 (by decide) ?_
  refine lv_istore (lv' := [(4, .int (-6)), (0, .ref (o + 302)), (1, .ref (o + 306)), (2, .int p0), (3, .int p1)]) hx hb dL_far_2 hl (by decide) rfl (fun ls hl => ?_)
  refine lv_bipush (v := 9) hx hb dL_far_4 (by decide) ?_
  refine lv_istore (lv' := [(5, .int 9), (4, .int (-6)), (0, .ref (o + 302)), (1, .ref (o + 306)), (2, .int p0), (3, .int p1)]) hx hb dL_far_6 hl (by decide) rfl (fun ls hl => ?_)
  refine w_L_far_L8 p0 p1 K gFu (-6) 9 σ hf _ _ _ hS (lv_sub hl [2, 3, 4, 5, 1, 0] rfl)
abbrev rmL_loud : Room := { frames := 3, cells := 0, slots := 0, locals := 75 }
def f_L_loud (p0 : Int32) (p1 : Int32) (σ : gS) : Option (Int32 × gS) := gGd (gin p1 20) (Option.bind (f_L_one p0 σ) (fun q2 => Option.bind (f_L_far (σ 305 (gil p1)) q2.1 q2.2) (fun q3 => gGd (gin p1 20) (Option.bind (f_L_two p0 q3.2) (fun q5 => Option.bind (f_L_far (q3.2 305 (gil p1)) q5.1 q5.2) (fun q6 => gLet (fun (j7 : Int32) (s8 : gS) => if j7 < 0 then (some (0, s8)) else (Option.bind (f_L_creak p0 s8) (fun q11 => if j7 ≤ q11.1 then (Option.bind (f_L_creak p0 q11.2) (fun q13 => some ((q13.1 - j7), q13.2))) else (some (0, q11.2))))) (fun J9 => if 0 ≤ q3.1 then (gLet (fun (s15 : gS) => J9 q3.1 s15) (fun J16 => if q6.1 < 0 then (J16 q6.2) else (if q6.1 ≤ q3.1 then (J9 q6.1 q6.2) else (J16 q6.2)))) else (J9 q6.1 q6.2))))))))
set_option maxHeartbeats 4000000 in
set_option maxRecDepth 100000 in
theorem c_L_loud (p0 : Int32) (p1 : Int32) (σ : gS) (q : Int32 × gS) (hf : f_L_loud p0 p1 σ = some q) : Met l yL_loud (gW yL_loud cL_loud 8 (some .int)) rmL_loud (hPc G o [] [.ref (o + 302), .ref (o + 305), .ref (o + 306), .int p0, .int p1] σ) (hQi G o q) 0 0 (gA o 307) := by
  refine h_met (by decide) ⟨rfl, rfl⟩ (fun p e s m args below meth c ls K hS hl => ?_) (Nat.le_of_ble_eq_true rfl)
  have K : gK p s m args meth c G cL_loud 8 RL (some .int) := K
  have hl : lv_has ls 8 [(0, .ref (o + 302)), (1, .ref (o + 305)), (2, .ref (o + 306)), (3, .int p0), (4, .int p1)] := hl
  obtain ⟨hx, hb, hml, hown, hts, -⟩ := id K
  unfold f_L_loud at hf
  refine lv_aload_n hx hb dL_loud_0 rfl (lv_at hl 0 rfl) ?_
  refine lv_aload_n hx hb dL_loud_1 rfl (lv_at hl 2 rfl) ?_
  refine lv_aload_n hx hb dL_loud_2 rfl (lv_at hl 1 rfl) ?_
  refine lv_iload hx hb dL_loud_3 (lv_at hl 4 rfl) ?_
  obtain ⟨h1, hf⟩ := gGd_some hf
  refine h_iald (cx := 305) K hS (eLL_305 G o) (by decide) h1 rfl dL_loud_5 ?_
  refine lv_aload_n hx hb dL_loud_6 rfl (lv_at hl 0 rfl) ?_
  refine lv_iload_n hx hb dL_loud_7 rfl (lv_at hl 3 rfl) ?_
  obtain ⟨q2, hq2, hf⟩ := Option.bind_eq_some_iff.mp hf
  refine h_Si0 (X' := []) (As := [.ref (o + 302), .int p0]) K hS lS_L_10 (by simp) (c_L_one p0 σ q2 hq2) rfl rfl (Nat.le_of_ble_eq_true rfl) ⟨rfl, rfl⟩ ⟨Nat.le_of_ble_eq_true rfl, Nat.le_of_ble_eq_true rfl⟩ hl.1 ⟨Nat.le_of_ble_eq_true rfl, Nat.le_of_ble_eq_true rfl⟩ dL_loud_8 (fun H locs hS => ?_)
  obtain ⟨q3, hq3, hf⟩ := Option.bind_eq_some_iff.mp hf
  refine h_Si0 (X' := []) (As := [.ref (o + 302), .ref (o + 306), .int (σ 305 (gil p1)), .int q2.1]) K hS lS_L_29 (by simp) (c_L_far (σ 305 (gil p1)) q2.1 q2.2 q3 hq3) rfl rfl (Nat.le_of_ble_eq_true rfl) ⟨rfl, rfl⟩ ⟨Nat.le_of_ble_eq_true rfl, Nat.le_of_ble_eq_true rfl⟩ hl.1 ⟨Nat.le_of_ble_eq_true rfl, Nat.le_of_ble_eq_true rfl⟩ dL_loud_11 (fun H locs hS => ?_)
  refine lv_istore (lv' := [(5, .int q3.1), (0, .ref (o + 302)), (1, .ref (o + 305)), (2, .ref (o + 306)), (3, .int p0), (4, .int p1)]) hx hb dL_loud_14 hl (by decide) rfl (fun ls hl => ?_)
  refine lv_aload_n hx hb dL_loud_16 rfl (lv_at hl 1 rfl) ?_
  refine lv_aload_n hx hb dL_loud_17 rfl (lv_at hl 3 rfl) ?_
  refine lv_aload_n hx hb dL_loud_18 rfl (lv_at hl 2 rfl) ?_
  refine lv_iload hx hb dL_loud_19 (lv_at hl 5 rfl) ?_
  obtain ⟨h4, hf⟩ := gGd_some hf
  refine h_iald (cx := 305) K hS (eLL_305 G o) (by decide) h4 rfl dL_loud_21 ?_
  refine lv_aload_n hx hb dL_loud_22 rfl (lv_at hl 1 rfl) ?_
  refine lv_iload_n hx hb dL_loud_23 rfl (lv_at hl 4 rfl) ?_
  obtain ⟨q5, hq5, hf⟩ := Option.bind_eq_some_iff.mp hf
  refine h_Si0 (X' := []) (As := [.ref (o + 302), .int p0]) K hS lS_L_16 (by simp) (c_L_two p0 q3.2 q5 hq5) rfl rfl (Nat.le_of_ble_eq_true rfl) ⟨rfl, rfl⟩ ⟨Nat.le_of_ble_eq_true rfl, Nat.le_of_ble_eq_true rfl⟩ hl.1 ⟨Nat.le_of_ble_eq_true rfl, Nat.le_of_ble_eq_true rfl⟩ dL_loud_24 (fun H locs hS => ?_)
  obtain ⟨q6, hq6, hf⟩ := Option.bind_eq_some_iff.mp hf
  refine h_Si0 (X' := []) (As := [.ref (o + 302), .ref (o + 306), .int (q3.2 305 (gil p1)), .int q5.1]) K hS lS_L_29 (by simp) (c_L_far (q3.2 305 (gil p1)) q5.1 q5.2 q6 hq6) rfl rfl (Nat.le_of_ble_eq_true rfl) ⟨rfl, rfl⟩ ⟨Nat.le_of_ble_eq_true rfl, Nat.le_of_ble_eq_true rfl⟩ hl.1 ⟨Nat.le_of_ble_eq_true rfl, Nat.le_of_ble_eq_true rfl⟩ dL_loud_27 (fun H locs hS => ?_)
  refine lv_istore (lv' := [(6, .int q6.1), (5, .int q3.1), (0, .ref (o + 302)), (1, .ref (o + 305)), (2, .ref (o + 306)), (3, .int p0), (4, .int p1)]) hx hb dL_loud_30 hl (by decide) rfl (fun ls hl => ?_)
  refine lv_iload hx hb dL_loud_32 (lv_at hl 1 rfl) ?_
  obtain ⟨J9, hJ9, hf⟩ := gLet_some hf
  have wJ9 : ∀ (j7 : Int32) (s8 : gS), J9 j7 s8 = some q → ∀ (H : Heap) (locs : List Loc) (ls : Array Slot), hSt G o [] s s8 H locs → lv_has ls 8 [(0, .ref (o + 302)), (3, .int p0)] → W p l e rmL_loud s m args below meth c H locs 0 0 (MQ below (hQi G o q) args s 0 0 (gA o 307)) (F0 m 61 ls [.int j7]) := by
    intro j7 s8 hf H locs ls hS hl
    rw [hJ9] at hf
    refine lv_istore (lv' := [(7, .int j7), (0, .ref (o + 302)), (3, .int p0)]) hx hb dL_loud_61 hl (by decide) rfl (fun ls hl => ?_)
    refine lv_iload hx hb dL_loud_63 (lv_at hl 0 rfl) ?_
    refine lv_if_lt (tgt := 78) hx hb dL_loud_65 (by decide) (fun c10 => ?_) (fun c10 => ?_)
    · have hf := gIf_t c10 hf
      refine lv_iconst (v := 0) hx hb dL_loud_78 (by decide) ?_
      refine lv_goto (tgt := 90) hx hb dL_loud_79 (by decide) ?_
      exact h_iret K hS hf dL_loud_90
    · have hf := gIf_f c10 hf
      refine lv_aload_n hx hb dL_loud_68 rfl (lv_at hl 1 rfl) ?_
      refine lv_iload_n hx hb dL_loud_69 rfl (lv_at hl 2 rfl) ?_
      obtain ⟨q11, hq11, hf⟩ := Option.bind_eq_some_iff.mp hf
      refine h_Si0 (X' := []) (As := [.ref (o + 302), .int p0]) K hS lS_L_33 (by simp) (c_L_creak p0 s8 q11 hq11) rfl rfl (Nat.le_of_ble_eq_true rfl) ⟨rfl, rfl⟩ ⟨Nat.le_of_ble_eq_true rfl, Nat.le_of_ble_eq_true rfl⟩ hl.1 ⟨Nat.le_of_ble_eq_true rfl, Nat.le_of_ble_eq_true rfl⟩ dL_loud_70 (fun H locs hS => ?_)
      refine lv_iload hx hb dL_loud_73 (lv_at hl 0 rfl) ?_
      refine lv_icmp_ge (tgt := 82) hx hb dL_loud_75 (by decide) (fun c12 => ?_) (fun c12 => ?_)
      · have hf := gIf_t c12 hf
        refine lv_aload_n hx hb dL_loud_82 rfl (lv_at hl 1 rfl) ?_
        refine lv_iload_n hx hb dL_loud_83 rfl (lv_at hl 2 rfl) ?_
        obtain ⟨q13, hq13, hf⟩ := Option.bind_eq_some_iff.mp hf
        refine h_Si0 (X' := []) (As := [.ref (o + 302), .int p0]) K hS lS_L_33 (by simp) (c_L_creak p0 q11.2 q13 hq13) rfl rfl (Nat.le_of_ble_eq_true rfl) ⟨rfl, rfl⟩ ⟨Nat.le_of_ble_eq_true rfl, Nat.le_of_ble_eq_true rfl⟩ hl.1 ⟨Nat.le_of_ble_eq_true rfl, Nat.le_of_ble_eq_true rfl⟩ dL_loud_84 (fun H locs hS => ?_)
        refine lv_iload hx hb dL_loud_87 (lv_at hl 0 rfl) ?_
        refine lv_isub hx hb dL_loud_89 ?_
        exact h_iret K hS hf dL_loud_90
      · have hf := gIf_f c12 hf
        refine lv_iconst (v := 0) hx hb dL_loud_78 (by decide) ?_
        refine lv_goto (tgt := 90) hx hb dL_loud_79 (by decide) ?_
        exact h_iret K hS hf dL_loud_90
  clear hJ9
  refine lv_if_ge (tgt := 42) hx hb dL_loud_34 (by decide) (fun c14 => ?_) (fun c14 => ?_)
  · have hf := gIf_t c14 hf
    refine lv_iload hx hb dL_loud_42 (lv_at hl 0 rfl) ?_
    obtain ⟨J16, hJ16, hf⟩ := gLet_some hf
    have wJ16 : ∀  (s15 : gS), J16  s15 = some q → ∀ (H : Heap) (locs : List Loc) (ls : Array Slot), hSt G o [] s s15 H locs → lv_has ls 8 [(0, .ref (o + 302)), (3, .int p0), (5, .int q3.1)] → W p l e rmL_loud s m args below meth c H locs 0 0 (MQ below (hQi G o q) args s 0 0 (gA o 307)) (F0 m 54 ls []) := by
      intro  s15 hf H locs ls hS hl
      rw [hJ16] at hf
      refine lv_iload hx hb dL_loud_54 (lv_at hl 2 rfl) ?_
      refine lv_goto (tgt := 61) hx hb dL_loud_56 (by decide) ?_
      exact wJ9 q3.1 s15 hf _ _ _ hS (lv_sub hl [0, 1] rfl)
    clear hJ16
    refine lv_if_lt (tgt := 54) hx hb dL_loud_44 (by decide) (fun c17 => ?_) (fun c17 => ?_)
    · have hf := gIf_t c17 hf
      exact wJ16  q6.2 hf _ _ _ hS (lv_sub hl [2, 5, 1] rfl)
    · have hf := gIf_f c17 hf
      refine lv_iload hx hb dL_loud_47 (lv_at hl 1 rfl) ?_
      refine lv_iload hx hb dL_loud_49 (lv_at hl 0 rfl) ?_
      refine lv_icmp_ge (tgt := 59) hx hb dL_loud_51 (by decide) (fun c18 => ?_) (fun c18 => ?_)
      · have hf := gIf_t c18 hf
        refine lv_iload hx hb dL_loud_59 (lv_at hl 0 rfl) ?_
        exact wJ9 q6.1 q6.2 hf _ _ _ hS (lv_sub hl [2, 5] rfl)
      · have hf := gIf_f c18 hf
        exact wJ16  q6.2 hf _ _ _ hS (lv_sub hl [2, 5, 1] rfl)
  · have hf := gIf_f c14 hf
    refine lv_iload hx hb dL_loud_37 (lv_at hl 0 rfl) ?_
    refine lv_goto (tgt := 61) hx hb dL_loud_39 (by decide) ?_
    exact wJ9 q6.1 q6.2 hf _ _ _ hS (lv_sub hl [2, 5] rfl)
abbrev rmL_watched : Room := { frames := 0, cells := 0, slots := 0, locals := 0 }
def f_L_watched_L4 : Nat → Int32 → Int32 → gS → Option (Int32 × gS)
  | 0, _, _, _ => none
  | n + 1, v2, v3, σ => if (σ 306 5) ≤ v3 then (some (v2, σ)) else (gGd (gin (10 + v3) 20) (if (σ 305 (gil (10 + v3))) ≤ 0 then (gLet (v2 ||| 0) (fun x4 => f_L_watched_L4 n x4 (v3 + 1) σ)) else (gGd (gin v3 20) (gLet (v2 ||| (1 <<< ((σ 305 (gil v3)) &&& 31))) (fun x6 => f_L_watched_L4 n x6 (v3 + 1) σ)))))
theorem f_L_watched_L4_s (n : Nat) (v2 : Int32) (v3 : Int32) (σ : gS) : f_L_watched_L4 (n + 1) v2 v3 σ = (if (σ 306 5) ≤ v3 then (some (v2, σ)) else (gGd (gin (10 + v3) 20) (if (σ 305 (gil (10 + v3))) ≤ 0 then (gLet (v2 ||| 0) (fun x4 => f_L_watched_L4 n x4 (v3 + 1) σ)) else (gGd (gin v3 20) (gLet (v2 ||| (1 <<< ((σ 305 (gil v3)) &&& 31))) (fun x6 => f_L_watched_L4 n x6 (v3 + 1) σ)))))) := rfl
def f_L_watched (σ : gS) : Option (Int32 × gS) := f_L_watched_L4 gFu 0 0 σ
set_option maxHeartbeats 4000000 in
set_option maxRecDepth 100000 in
theorem w_L_watched_L4 {q : Int32 × gS} (K : gK p s m args meth c G cL_watched 4 RL (some .int)) : ∀ (n : Nat) (v2 : Int32) (v3 : Int32) (σ : gS), f_L_watched_L4 n v2 v3 σ = some q → ∀ (H : Heap) (locs : List Loc) (ls : Array Slot), hSt G o [] s σ H locs → lv_has ls 4 [(0, .ref (o + 305)), (1, .ref (o + 306)), (2, .int v2), (3, .int v3)] → W p l e rmL_watched s m args below meth c H locs 0 0 (MQ below (hQi G o q) args s 0 0 (gA o 307)) (F0 m 4 ls []) := by
  obtain ⟨hx, hb, hml, hown, hts, -⟩ := id K
  intro n
  induction n with
  | zero =>
    intro v2 v3 σ hf
    exact absurd (show (none : Option _) = some q from hf) (by simp)
  | succ n ih =>
    intro v2 v3 σ hf H locs ls hS hl
    rw [f_L_watched_L4_s] at hf
    refine lv_iload_n hx hb dL_watched_4 rfl (lv_at hl 3 rfl) ?_
    refine lv_aload_n hx hb dL_watched_5 rfl (lv_at hl 1 rfl) ?_
    refine lv_iconst (v := 5) hx hb dL_watched_6 (by decide) ?_
    refine h_iald (cx := 306) (j := 5) K hS (eLL_306 G o) (by decide) (by decide) (by decide) dL_watched_7 ?_
    refine lv_icmp_ge (tgt := 38) hx hb dL_watched_8 (by decide) (fun c1 => ?_) (fun c1 => ?_)
    · have hf := gIf_t c1 hf
      refine lv_iload_n hx hb dL_watched_38 rfl (lv_at hl 2 rfl) ?_
      exact h_iret K hS hf dL_watched_39
    · have hf := gIf_f c1 hf
      refine lv_iload_n hx hb dL_watched_11 rfl (lv_at hl 2 rfl) ?_
      refine lv_aload_n hx hb dL_watched_12 rfl (lv_at hl 0 rfl) ?_
      refine lv_bipush (v := 10) hx hb dL_watched_13 (by decide) ?_
      refine lv_iload_n hx hb dL_watched_15 rfl (lv_at hl 3 rfl) ?_
      refine lv_iadd hx hb dL_watched_16 ?_
      obtain ⟨h2, hf⟩ := gGd_some hf
      refine h_iald (cx := 305) K hS (eLL_305 G o) (by decide) h2 rfl dL_watched_17 ?_
      refine lv_if_le (tgt := 29) hx hb dL_watched_18 (by decide) (fun c3 => ?_) (fun c3 => ?_)
      · have hf := gIf_t c3 hf
        refine lv_iconst (v := 0) hx hb dL_watched_29 (by decide) ?_
        refine lv_ior hx hb dL_watched_30 ?_
        obtain ⟨x4, hx4, hf⟩ := gLet_some hf
        refine g_top hx4 ?_
        refine lv_istore_n (lv' := [(2, .int x4), (0, .ref (o + 305)), (1, .ref (o + 306)), (3, .int v3)]) hx hb dL_watched_31 rfl hl (by decide) rfl (fun ls hl => ?_)
        refine lv_iinc (v := (v3 + 1)) (lv' := [(3, .int (v3 + 1)), (2, .int x4), (0, .ref (o + 305)), (1, .ref (o + 306))]) hx hb dL_watched_32 hl (k := 3) rfl rfl (by decide) rfl (fun ls hl => ?_)
        refine lv_goto (tgt := 4) hx hb dL_watched_35 (by decide) ?_
        exact ih x4 (v3 + 1) σ hf _ _ _ hS (lv_sub hl [2, 3, 1, 0] rfl)
      · have hf := gIf_f c3 hf
        refine lv_iconst (v := 1) hx hb dL_watched_21 (by decide) ?_
        refine lv_aload_n hx hb dL_watched_22 rfl (lv_at hl 0 rfl) ?_
        refine lv_iload_n hx hb dL_watched_23 rfl (lv_at hl 3 rfl) ?_
        obtain ⟨h5, hf⟩ := gGd_some hf
        refine h_iald (cx := 305) K hS (eLL_305 G o) (by decide) h5 rfl dL_watched_24 ?_
        refine lv_ishl hx hb dL_watched_25 ?_
        refine lv_goto (tgt := 30) hx hb dL_watched_26 (by decide) ?_
        refine lv_ior hx hb dL_watched_30 ?_
        obtain ⟨x6, hx6, hf⟩ := gLet_some hf
        refine g_top hx6 ?_
        refine lv_istore_n (lv' := [(2, .int x6), (0, .ref (o + 305)), (1, .ref (o + 306)), (3, .int v3)]) hx hb dL_watched_31 rfl hl (by decide) rfl (fun ls hl => ?_)
        refine lv_iinc (v := (v3 + 1)) (lv' := [(3, .int (v3 + 1)), (2, .int x6), (0, .ref (o + 305)), (1, .ref (o + 306))]) hx hb dL_watched_32 hl (k := 3) rfl rfl (by decide) rfl (fun ls hl => ?_)
        refine lv_goto (tgt := 4) hx hb dL_watched_35 (by decide) ?_
        exact ih x6 (v3 + 1) σ hf _ _ _ hS (lv_sub hl [2, 3, 1, 0] rfl)
set_option maxHeartbeats 4000000 in
set_option maxRecDepth 100000 in
theorem c_L_watched (σ : gS) (q : Int32 × gS) (hf : f_L_watched σ = some q) : Met l yL_watched (gW yL_watched cL_watched 4 (some .int)) rmL_watched (hPc G o [] [.ref (o + 305), .ref (o + 306)] σ) (hQi G o q) 0 0 (gA o 307) := by
  refine h_met (by decide) ⟨rfl, rfl⟩ (fun p e s m args below meth c ls K hS hl => ?_) (Nat.le_of_ble_eq_true rfl)
  have K : gK p s m args meth c G cL_watched 4 RL (some .int) := K
  have hl : lv_has ls 4 [(0, .ref (o + 305)), (1, .ref (o + 306))] := hl
  obtain ⟨hx, hb, hml, hown, hts, -⟩ := id K
  unfold f_L_watched at hf
  refine lv_iconst (v := 0) hx hb dL_watched_0 (by decide) ?_
  refine lv_istore_n (lv' := [(2, .int 0), (0, .ref (o + 305)), (1, .ref (o + 306))]) hx hb dL_watched_1 rfl hl (by decide) rfl (fun ls hl => ?_)
  refine lv_iconst (v := 0) hx hb dL_watched_2 (by decide) ?_
  refine lv_istore_n (lv' := [(3, .int 0), (2, .int 0), (0, .ref (o + 305)), (1, .ref (o + 306))]) hx hb dL_watched_3 rfl hl (by decide) rfl (fun ls hl => ?_)
  refine w_L_watched_L4 K gFu 0 0 σ hf _ _ _ hS (lv_sub hl [2, 3, 1, 0] rfl)
abbrev rmL_free : Room := { frames := 1, cells := 0, slots := 0, locals := 23 }
def f_L_free (p0 : Int32) (p1 : Int32) (σ : gS) : Option (Int32 × gS) := Option.bind (f_L_one p1 σ) (fun q1 => Option.bind (f_L_two p1 q1.2) (fun q2 => gLet ((1 <<< (q1.1 &&& 31)) ||| (1 <<< (q2.1 &&& 31))) (fun x3 => gGd (gin (4 + p0) 12) (if (((q2.2 304 (gil (4 + p0))) >>> (p1 &&& 31)) &&& 1) = 0 then (Option.bind (f_L_watched q2.2) (fun q6 => if (q6.1 &&& x3) = 0 then (some (1, q6.2)) else (some (0, q6.2)))) else (some (0, q2.2))))))
set_option maxHeartbeats 4000000 in
set_option maxRecDepth 100000 in
theorem c_L_free (p0 : Int32) (p1 : Int32) (σ : gS) (q : Int32 × gS) (hf : f_L_free p0 p1 σ = some q) : Met l yL_free (gW yL_free cL_free 7 (some .boolean)) rmL_free (hPc G o [] [.ref (o + 302), .ref (o + 304), .ref (o + 305), .ref (o + 306), .int p0, .int p1] σ) (hQi G o q) 0 0 (gA o 307) := by
  refine h_met (by decide) ⟨rfl, rfl⟩ (fun p e s m args below meth c ls K hS hl => ?_) (Nat.le_of_ble_eq_true rfl)
  have K : gK p s m args meth c G cL_free 7 RL (some .boolean) := K
  have hl : lv_has ls 7 [(0, .ref (o + 302)), (1, .ref (o + 304)), (2, .ref (o + 305)), (3, .ref (o + 306)), (4, .int p0), (5, .int p1)] := hl
  obtain ⟨hx, hb, hml, hown, hts, -⟩ := id K
  unfold f_L_free at hf
  refine lv_iconst (v := 1) hx hb dL_free_0 (by decide) ?_
  refine lv_aload_n hx hb dL_free_1 rfl (lv_at hl 0 rfl) ?_
  refine lv_iload hx hb dL_free_2 (lv_at hl 5 rfl) ?_
  obtain ⟨q1, hq1, hf⟩ := Option.bind_eq_some_iff.mp hf
  refine h_Si0 (X' := []) (As := [.ref (o + 302), .int p1]) K hS lS_L_10 (by simp) (c_L_one p1 σ q1 hq1) rfl rfl (Nat.le_of_ble_eq_true rfl) ⟨rfl, rfl⟩ ⟨Nat.le_of_ble_eq_true rfl, Nat.le_of_ble_eq_true rfl⟩ hl.1 ⟨Nat.le_of_ble_eq_true rfl, Nat.le_of_ble_eq_true rfl⟩ dL_free_4 (fun H locs hS => ?_)
  refine lv_ishl hx hb dL_free_7 ?_
  refine lv_iconst (v := 1) hx hb dL_free_8 (by decide) ?_
  refine lv_aload_n hx hb dL_free_9 rfl (lv_at hl 0 rfl) ?_
  refine lv_iload hx hb dL_free_10 (lv_at hl 5 rfl) ?_
  obtain ⟨q2, hq2, hf⟩ := Option.bind_eq_some_iff.mp hf
  refine h_Si0 (X' := []) (As := [.ref (o + 302), .int p1]) K hS lS_L_16 (by simp) (c_L_two p1 q1.2 q2 hq2) rfl rfl (Nat.le_of_ble_eq_true rfl) ⟨rfl, rfl⟩ ⟨Nat.le_of_ble_eq_true rfl, Nat.le_of_ble_eq_true rfl⟩ hl.1 ⟨Nat.le_of_ble_eq_true rfl, Nat.le_of_ble_eq_true rfl⟩ dL_free_12 (fun H locs hS => ?_)
  refine lv_ishl hx hb dL_free_15 ?_
  refine lv_ior hx hb dL_free_16 ?_
  obtain ⟨x3, hx3, hf⟩ := gLet_some hf
  refine g_top hx3 ?_
  refine lv_istore (lv' := [(6, .int x3), (0, .ref (o + 302)), (1, .ref (o + 304)), (2, .ref (o + 305)), (3, .ref (o + 306)), (4, .int p0), (5, .int p1)]) hx hb dL_free_17 hl (by decide) rfl (fun ls hl => ?_)
  refine lv_aload_n hx hb dL_free_19 rfl (lv_at hl 2 rfl) ?_
  refine lv_iconst (v := 4) hx hb dL_free_20 (by decide) ?_
  refine lv_iload hx hb dL_free_21 (lv_at hl 5 rfl) ?_
  refine lv_iadd hx hb dL_free_23 ?_
  obtain ⟨h4, hf⟩ := gGd_some hf
  refine h_iald (cx := 304) K hS (eLL_304 G o) (by decide) h4 rfl dL_free_24 ?_
  refine lv_iload hx hb dL_free_25 (lv_at hl 6 rfl) ?_
  refine lv_ishr hx hb dL_free_27 ?_
  refine lv_iconst (v := 1) hx hb dL_free_28 (by decide) ?_
  refine lv_iand hx hb dL_free_29 ?_
  refine lv_if_ne (tgt := 48) hx hb dL_free_30 (by decide) (fun c5 => ?_) (fun c5 => ?_)
  · have hf := gIf_f c5 hf
    refine lv_iconst (v := 0) hx hb dL_free_48 (by decide) ?_
    exact h_zret K hS rfl hf dL_free_49
  · have hf := gIf_t c5 hf
    refine lv_aload_n hx hb dL_free_33 rfl (lv_at hl 3 rfl) ?_
    refine lv_aload_n hx hb dL_free_34 rfl (lv_at hl 4 rfl) ?_
    obtain ⟨q6, hq6, hf⟩ := Option.bind_eq_some_iff.mp hf
    refine h_Si0 (X' := []) (As := [.ref (o + 305), .ref (o + 306)]) K hS lS_L_36 (by simp) (c_L_watched q2.2 q6 hq6) rfl rfl (Nat.le_of_ble_eq_true rfl) ⟨rfl, rfl⟩ ⟨Nat.le_of_ble_eq_true rfl, Nat.le_of_ble_eq_true rfl⟩ hl.1 ⟨Nat.le_of_ble_eq_true rfl, Nat.le_of_ble_eq_true rfl⟩ dL_free_35 (fun H locs hS => ?_)
    refine lv_iload hx hb dL_free_38 (lv_at hl 0 rfl) ?_
    refine lv_iand hx hb dL_free_40 ?_
    refine lv_if_ne (tgt := 48) hx hb dL_free_41 (by decide) (fun c7 => ?_) (fun c7 => ?_)
    · have hf := gIf_f c7 hf
      refine lv_iconst (v := 0) hx hb dL_free_48 (by decide) ?_
      exact h_zret K hS rfl hf dL_free_49
    · have hf := gIf_t c7 hf
      refine lv_iconst (v := 1) hx hb dL_free_44 (by decide) ?_
      refine lv_goto (tgt := 49) hx hb dL_free_45 (by decide) ?_
      exact h_zret K hS rfl hf dL_free_49
abbrev rmL_open : Room := { frames := 2, cells := 0, slots := 0, locals := 49 }
def f_L_open_L6 (w4 : Int32) : Nat → Int32 → Int32 → gS → Option (Int32 × gS)
  | 0, _, _, _ => none
  | n + 1, v5, v6, σ => if (σ 306 4) ≤ v6 then (some (v5, σ)) else (Option.bind (f_L_free w4 v6 σ) (fun q2 => if q2.1 = 0 then (gLet (v5 ||| 0) (fun x4 => f_L_open_L6 w4 n x4 (v6 + 1) q2.2)) else (gLet (v5 ||| (1 <<< (v6 &&& 31))) (fun x5 => f_L_open_L6 w4 n x5 (v6 + 1) q2.2))))
theorem f_L_open_L6_s (w4 : Int32) (n : Nat) (v5 : Int32) (v6 : Int32) (σ : gS) : f_L_open_L6 w4 (n + 1) v5 v6 σ = (if (σ 306 4) ≤ v6 then (some (v5, σ)) else (Option.bind (f_L_free w4 v6 σ) (fun q2 => if q2.1 = 0 then (gLet (v5 ||| 0) (fun x4 => f_L_open_L6 w4 n x4 (v6 + 1) q2.2)) else (gLet (v5 ||| (1 <<< (v6 &&& 31))) (fun x5 => f_L_open_L6 w4 n x5 (v6 + 1) q2.2))))) := rfl
def f_L_open (p0 : Int32) (σ : gS) : Option (Int32 × gS) := f_L_open_L6 p0 gFu 0 0 σ
set_option maxHeartbeats 4000000 in
set_option maxRecDepth 100000 in
theorem w_L_open_L6 (w4 : Int32) {q : Int32 × gS} (K : gK p s m args meth c G cL_open 7 RL (some .int)) : ∀ (n : Nat) (v5 : Int32) (v6 : Int32) (σ : gS), f_L_open_L6 w4 n v5 v6 σ = some q → ∀ (H : Heap) (locs : List Loc) (ls : Array Slot), hSt G o [] s σ H locs → lv_has ls 7 [(0, .ref (o + 302)), (1, .ref (o + 304)), (2, .ref (o + 305)), (3, .ref (o + 306)), (4, .int w4), (5, .int v5), (6, .int v6)] → W p l e rmL_open s m args below meth c H locs 0 0 (MQ below (hQi G o q) args s 0 0 (gA o 307)) (F0 m 6 ls []) := by
  obtain ⟨hx, hb, hml, hown, hts, -⟩ := id K
  intro n
  induction n with
  | zero =>
    intro v5 v6 σ hf
    exact absurd (show (none : Option _) = some q from hf) (by simp)
  | succ n ih =>
    intro v5 v6 σ hf H locs ls hS hl
    rw [f_L_open_L6_s] at hf
    refine lv_iload hx hb dL_open_6 (lv_at hl 6 rfl) ?_
    refine lv_aload_n hx hb dL_open_8 rfl (lv_at hl 3 rfl) ?_
    refine lv_iconst (v := 4) hx hb dL_open_9 (by decide) ?_
    refine h_iald (cx := 306) (j := 4) K hS (eLL_306 G o) (by decide) (by decide) (by decide) dL_open_10 ?_
    refine lv_icmp_ge (tgt := 47) hx hb dL_open_11 (by decide) (fun c1 => ?_) (fun c1 => ?_)
    · have hf := gIf_t c1 hf
      refine lv_iload hx hb dL_open_47 (lv_at hl 5 rfl) ?_
      exact h_iret K hS hf dL_open_49
    · have hf := gIf_f c1 hf
      refine lv_iload hx hb dL_open_14 (lv_at hl 5 rfl) ?_
      refine lv_aload_n hx hb dL_open_16 rfl (lv_at hl 0 rfl) ?_
      refine lv_aload_n hx hb dL_open_17 rfl (lv_at hl 1 rfl) ?_
      refine lv_aload_n hx hb dL_open_18 rfl (lv_at hl 2 rfl) ?_
      refine lv_aload_n hx hb dL_open_19 rfl (lv_at hl 3 rfl) ?_
      refine lv_iload hx hb dL_open_20 (lv_at hl 4 rfl) ?_
      refine lv_iload hx hb dL_open_22 (lv_at hl 6 rfl) ?_
      obtain ⟨q2, hq2, hf⟩ := Option.bind_eq_some_iff.mp hf
      refine h_Si0 (X' := []) (As := [.ref (o + 302), .ref (o + 304), .ref (o + 305), .ref (o + 306), .int w4, .int v6]) K hS lS_L_40 (by simp) (c_L_free w4 v6 σ q2 hq2) rfl rfl (Nat.le_of_ble_eq_true rfl) ⟨rfl, rfl⟩ ⟨Nat.le_of_ble_eq_true rfl, Nat.le_of_ble_eq_true rfl⟩ hl.1 ⟨Nat.le_of_ble_eq_true rfl, Nat.le_of_ble_eq_true rfl⟩ dL_open_24 (fun H locs hS => ?_)
      refine lv_if_eq (tgt := 37) hx hb dL_open_27 (by decide) (fun c3 => ?_) (fun c3 => ?_)
      · have hf := gIf_t c3 hf
        refine lv_iconst (v := 0) hx hb dL_open_37 (by decide) ?_
        refine lv_ior hx hb dL_open_38 ?_
        obtain ⟨x4, hx4, hf⟩ := gLet_some hf
        refine g_top hx4 ?_
        refine lv_istore (lv' := [(5, .int x4), (0, .ref (o + 302)), (1, .ref (o + 304)), (2, .ref (o + 305)), (3, .ref (o + 306)), (4, .int w4), (6, .int v6)]) hx hb dL_open_39 hl (by decide) rfl (fun ls hl => ?_)
        refine lv_iinc (v := (v6 + 1)) (lv' := [(6, .int (v6 + 1)), (5, .int x4), (0, .ref (o + 302)), (1, .ref (o + 304)), (2, .ref (o + 305)), (3, .ref (o + 306)), (4, .int w4)]) hx hb dL_open_41 hl (k := 6) rfl rfl (by decide) rfl (fun ls hl => ?_)
        refine lv_goto (tgt := 6) hx hb dL_open_44 (by decide) ?_
        exact ih x4 (v6 + 1) q2.2 hf _ _ _ hS (lv_sub hl [2, 3, 4, 5, 6, 1, 0] rfl)
      · have hf := gIf_f c3 hf
        refine lv_iconst (v := 1) hx hb dL_open_30 (by decide) ?_
        refine lv_iload hx hb dL_open_31 (lv_at hl 6 rfl) ?_
        refine lv_ishl hx hb dL_open_33 ?_
        refine lv_goto (tgt := 38) hx hb dL_open_34 (by decide) ?_
        refine lv_ior hx hb dL_open_38 ?_
        obtain ⟨x5, hx5, hf⟩ := gLet_some hf
        refine g_top hx5 ?_
        refine lv_istore (lv' := [(5, .int x5), (0, .ref (o + 302)), (1, .ref (o + 304)), (2, .ref (o + 305)), (3, .ref (o + 306)), (4, .int w4), (6, .int v6)]) hx hb dL_open_39 hl (by decide) rfl (fun ls hl => ?_)
        refine lv_iinc (v := (v6 + 1)) (lv' := [(6, .int (v6 + 1)), (5, .int x5), (0, .ref (o + 302)), (1, .ref (o + 304)), (2, .ref (o + 305)), (3, .ref (o + 306)), (4, .int w4)]) hx hb dL_open_41 hl (k := 6) rfl rfl (by decide) rfl (fun ls hl => ?_)
        refine lv_goto (tgt := 6) hx hb dL_open_44 (by decide) ?_
        exact ih x5 (v6 + 1) q2.2 hf _ _ _ hS (lv_sub hl [2, 3, 4, 5, 6, 1, 0] rfl)
set_option maxHeartbeats 4000000 in
set_option maxRecDepth 100000 in
theorem c_L_open (p0 : Int32) (σ : gS) (q : Int32 × gS) (hf : f_L_open p0 σ = some q) : Met l yL_open (gW yL_open cL_open 7 (some .int)) rmL_open (hPc G o [] [.ref (o + 302), .ref (o + 304), .ref (o + 305), .ref (o + 306), .int p0] σ) (hQi G o q) 0 0 (gA o 307) := by
  refine h_met (by decide) ⟨rfl, rfl⟩ (fun p e s m args below meth c ls K hS hl => ?_) (Nat.le_of_ble_eq_true rfl)
  have K : gK p s m args meth c G cL_open 7 RL (some .int) := K
  have hl : lv_has ls 7 [(0, .ref (o + 302)), (1, .ref (o + 304)), (2, .ref (o + 305)), (3, .ref (o + 306)), (4, .int p0)] := hl
  obtain ⟨hx, hb, hml, hown, hts, -⟩ := id K
  unfold f_L_open at hf
  refine lv_iconst (v := 0) hx hb dL_open_0 (by decide) ?_
  refine lv_istore (lv' := [(5, .int 0), (0, .ref (o + 302)), (1, .ref (o + 304)), (2, .ref (o + 305)), (3, .ref (o + 306)), (4, .int p0)]) hx hb dL_open_1 hl (by decide) rfl (fun ls hl => ?_)
  refine lv_iconst (v := 0) hx hb dL_open_3 (by decide) ?_
  refine lv_istore (lv' := [(6, .int 0), (5, .int 0), (0, .ref (o + 302)), (1, .ref (o + 304)), (2, .ref (o + 305)), (3, .ref (o + 306)), (4, .int p0)]) hx hb dL_open_4 hl (by decide) rfl (fun ls hl => ?_)
  refine w_L_open_L6 p0 K gFu 0 0 σ hf _ _ _ hS (lv_sub hl [2, 3, 4, 5, 6, 1, 0] rfl)
abbrev rmL_pass : Room := { frames := 0, cells := 0, slots := 0, locals := 0 }
def f_L_pass_L23 (w3 : Int32) (w4 : Int32) (w5 : Int32) (K58 : gS → Option (Int32 × gS)) : Nat → Int32 → gS → Option (Int32 × gS)
  | 0, _, _ => none
  | n + 1, v6, σ => if 15 ≤ v6 then (K58 σ) else (gGd (gin v6 20) (gLet (fun (j5 : Int32) (j6 : Int32) (s7 : gS) => gGd (gin j5 20) (gLet (up2 s7 305 (gil j5) j6) (fun s9 => f_L_pass_L23 w3 w4 w5 K58 n (v6 + 1) s9))) (fun J8 => if (σ 305 (gil v6)) ≤ 1 then (J8 v6 0 σ) else (gGd (gin v6 20) (J8 v6 ((σ 305 (gil v6)) - 1) σ)))))
theorem f_L_pass_L23_s (w3 : Int32) (w4 : Int32) (w5 : Int32) (K58 : gS → Option (Int32 × gS)) (n : Nat) (v6 : Int32) (σ : gS) : f_L_pass_L23 w3 w4 w5 K58 (n + 1) v6 σ = (if 15 ≤ v6 then (K58 σ) else (gGd (gin v6 20) (gLet (fun (j5 : Int32) (j6 : Int32) (s7 : gS) => gGd (gin j5 20) (gLet (up2 s7 305 (gil j5) j6) (fun s9 => f_L_pass_L23 w3 w4 w5 K58 n (v6 + 1) s9))) (fun J8 => if (σ 305 (gil v6)) ≤ 1 then (J8 v6 0 σ) else (gGd (gin v6 20) (J8 v6 ((σ 305 (gil v6)) - 1) σ)))))) := rfl
def f_L_pass_L74 (w3 : Int32) (w4 : Int32) (w5 : Int32) (K92 : gS → Option (Int32 × gS)) : Nat → Int32 → gS → Option (Int32 × gS)
  | 0, _, _ => none
  | n + 1, v6, σ => if 8 ≤ v6 then (K92 σ) else (gGd (gin v6 12) (gLet (up2 σ 304 (gil v6) 0) (fun s17 => f_L_pass_L74 w3 w4 w5 K92 n (v6 + 1) s17)))
theorem f_L_pass_L74_s (w3 : Int32) (w4 : Int32) (w5 : Int32) (K92 : gS → Option (Int32 × gS)) (n : Nat) (v6 : Int32) (σ : gS) : f_L_pass_L74 w3 w4 w5 K92 (n + 1) v6 σ = (if 8 ≤ v6 then (K92 σ) else (gGd (gin v6 12) (gLet (up2 σ 304 (gil v6) 0) (fun s17 => f_L_pass_L74 w3 w4 w5 K92 n (v6 + 1) s17)))) := rfl
def f_L_pass_L6 (w3 : Int32) (K98 : Int32 → gS → Option (Int32 × gS)) : Nat → Int32 → Int32 → gS → Option (Int32 × gS)
  | 0, _, _, _ => none
  | n + 1, v4, v5, σ => if w3 ≤ v5 then (K98 v4 σ) else (gLet (up2 σ 306 2 ((σ 306 2) + 1)) (fun s2 => f_L_pass_L23 w3 v4 v5 (fun (s13 : gS) => gGd (gne (s13 306 0)) (if ((s13 306 2) - (s13 306 2) / (s13 306 0) * (s13 306 0)) = 0 then (f_L_pass_L74 w3 (v4 + 1) v5 (fun (s19 : gS) => f_L_pass_L6 w3 K98 n (v4 + 1) (v5 + 1) s19) gFu 4 s13) else (f_L_pass_L6 w3 K98 n v4 (v5 + 1) s13))) gFu 10 s2))
theorem f_L_pass_L6_s (w3 : Int32) (K98 : Int32 → gS → Option (Int32 × gS)) (n : Nat) (v4 : Int32) (v5 : Int32) (σ : gS) : f_L_pass_L6 w3 K98 (n + 1) v4 v5 σ = (if w3 ≤ v5 then (K98 v4 σ) else (gLet (up2 σ 306 2 ((σ 306 2) + 1)) (fun s2 => f_L_pass_L23 w3 v4 v5 (fun (s13 : gS) => gGd (gne (s13 306 0)) (if ((s13 306 2) - (s13 306 2) / (s13 306 0) * (s13 306 0)) = 0 then (f_L_pass_L74 w3 (v4 + 1) v5 (fun (s19 : gS) => f_L_pass_L6 w3 K98 n (v4 + 1) (v5 + 1) s19) gFu 4 s13) else (f_L_pass_L6 w3 K98 n v4 (v5 + 1) s13))) gFu 10 s2))) := rfl
def f_L_pass (p0 : Int32) (σ : gS) : Option (Int32 × gS) := f_L_pass_L6 p0 (fun (k21 : Int32) (s22 : gS) => gLet (up2 s22 306 3 ((s22 306 3) + k21)) (fun s23 => some (k21, s23))) gFu 0 0 σ
set_option maxHeartbeats 4000000 in
set_option maxRecDepth 100000 in
theorem w_L_pass_L23 (w3 : Int32) (w4 : Int32) (w5 : Int32) (K58 : gS → Option (Int32 × gS)) {q : Int32 × gS} (K : gK p s m args meth c G cL_pass 7 RL (some .int)) (hK58 : ∀ (σ : gS), K58 σ = some q → ∀ (H : Heap) (locs : List Loc) (ls : Array Slot), hSt G o [] s σ H locs → lv_has ls 7 [(0, .ref (o + 304)), (1, .ref (o + 305)), (2, .ref (o + 306)), (3, .int w3), (4, .int w4), (5, .int w5)] → W p l e rmL_pass s m args below meth c H locs 0 0 (MQ below (hQi G o q) args s 0 0 (gA o 307)) (F0 m 58 ls [])) : ∀ (n : Nat) (v6 : Int32) (σ : gS), f_L_pass_L23 w3 w4 w5 K58 n v6 σ = some q → ∀ (H : Heap) (locs : List Loc) (ls : Array Slot), hSt G o [] s σ H locs → lv_has ls 7 [(0, .ref (o + 304)), (1, .ref (o + 305)), (2, .ref (o + 306)), (3, .int w3), (4, .int w4), (5, .int w5), (6, .int v6)] → W p l e rmL_pass s m args below meth c H locs 0 0 (MQ below (hQi G o q) args s 0 0 (gA o 307)) (F0 m 23 ls []) := by
  obtain ⟨hx, hb, hml, hown, hts, -⟩ := id K
  intro n
  induction n with
  | zero =>
    intro v6 σ hf
    exact absurd (show (none : Option _) = some q from hf) (by simp)
  | succ n ih =>
    intro v6 σ hf H locs ls hS hl
    rw [f_L_pass_L23_s] at hf
    refine lv_iload hx hb dL_pass_23 (lv_at hl 6 rfl) ?_
    refine lv_bipush (v := 15) hx hb dL_pass_25 (by decide) ?_
    refine lv_icmp_ge (tgt := 58) hx hb dL_pass_27 (by decide) (fun c3 => ?_) (fun c3 => ?_)
    · have hf := gIf_t c3 hf
      exact hK58 σ hf _ _ _ hS (lv_sub hl [0, 1, 2, 3, 4, 5] rfl)
    · have hf := gIf_f c3 hf
      refine lv_aload_n hx hb dL_pass_30 rfl (lv_at hl 1 rfl) ?_
      refine lv_iload hx hb dL_pass_31 (lv_at hl 6 rfl) ?_
      refine lv_aload_n hx hb dL_pass_33 rfl (lv_at hl 1 rfl) ?_
      refine lv_iload hx hb dL_pass_34 (lv_at hl 6 rfl) ?_
      obtain ⟨h4, hf⟩ := gGd_some hf
      refine h_iald (cx := 305) K hS (eLL_305 G o) (by decide) h4 rfl dL_pass_36 ?_
      refine lv_iconst (v := 1) hx hb dL_pass_37 (by decide) ?_
      obtain ⟨J8, hJ8, hf⟩ := gLet_some hf
      have wJ8 : ∀ (j5 : Int32) (j6 : Int32) (s7 : gS), J8 j5 j6 s7 = some q → ∀ (H : Heap) (locs : List Loc) (ls : Array Slot), hSt G o [] s s7 H locs → lv_has ls 7 [(0, .ref (o + 304)), (1, .ref (o + 305)), (2, .ref (o + 306)), (3, .int w3), (4, .int w4), (5, .int w5), (6, .int v6)] → W p l e rmL_pass s m args below meth c H locs 0 0 (MQ below (hQi G o q) args s 0 0 (gA o 307)) (F0 m 51 ls [.int j6, .int j5, .ref (o + 305)]) := by
        intro j5 j6 s7 hf H locs ls hS hl
        rw [hJ8] at hf
        obtain ⟨h10, hf⟩ := gGd_some hf
        obtain ⟨s9, hs9, hf⟩ := gLet_some hf
        refine h_iast (cx := 305) K hS (eLL_305 G o) (by decide) h10 rfl dL_pass_51 (fun H locs hS => ?_)
        rw [← hs9] at hS
        refine lv_iinc (v := (v6 + 1)) (lv' := [(6, .int (v6 + 1)), (0, .ref (o + 304)), (1, .ref (o + 305)), (2, .ref (o + 306)), (3, .int w3), (4, .int w4), (5, .int w5)]) hx hb dL_pass_52 hl (k := 6) rfl rfl (by decide) rfl (fun ls hl => ?_)
        refine lv_goto (tgt := 23) hx hb dL_pass_55 (by decide) ?_
        exact ih (v6 + 1) s9 hf _ _ _ hS (lv_sub hl [1, 2, 3, 4, 5, 6, 0] rfl)
      clear hJ8
      refine lv_icmp_le (tgt := 50) hx hb dL_pass_38 (by decide) (fun c11 => ?_) (fun c11 => ?_)
      · have hf := gIf_t c11 hf
        refine lv_iconst (v := 0) hx hb dL_pass_50 (by decide) ?_
        exact wJ8 v6 0 σ hf _ _ _ hS (lv_sub hl [0, 1, 2, 3, 4, 5, 6] rfl)
      · have hf := gIf_f c11 hf
        refine lv_aload_n hx hb dL_pass_41 rfl (lv_at hl 1 rfl) ?_
        refine lv_iload hx hb dL_pass_42 (lv_at hl 6 rfl) ?_
        obtain ⟨h12, hf⟩ := gGd_some hf
        refine h_iald (cx := 305) K hS (eLL_305 G o) (by decide) h12 rfl dL_pass_44 ?_
        refine lv_iconst (v := 1) hx hb dL_pass_45 (by decide) ?_
        refine lv_isub hx hb dL_pass_46 ?_
        refine lv_goto (tgt := 51) hx hb dL_pass_47 (by decide) ?_
        exact wJ8 v6 ((σ 305 (gil v6)) - 1) σ hf _ _ _ hS (lv_sub hl [0, 1, 2, 3, 4, 5, 6] rfl)
set_option maxHeartbeats 4000000 in
set_option maxRecDepth 100000 in
theorem w_L_pass_L74 (w3 : Int32) (w4 : Int32) (w5 : Int32) (K92 : gS → Option (Int32 × gS)) {q : Int32 × gS} (K : gK p s m args meth c G cL_pass 7 RL (some .int)) (hK92 : ∀ (σ : gS), K92 σ = some q → ∀ (H : Heap) (locs : List Loc) (ls : Array Slot), hSt G o [] s σ H locs → lv_has ls 7 [(0, .ref (o + 304)), (1, .ref (o + 305)), (2, .ref (o + 306)), (3, .int w3), (4, .int w4), (5, .int w5)] → W p l e rmL_pass s m args below meth c H locs 0 0 (MQ below (hQi G o q) args s 0 0 (gA o 307)) (F0 m 92 ls [])) : ∀ (n : Nat) (v6 : Int32) (σ : gS), f_L_pass_L74 w3 w4 w5 K92 n v6 σ = some q → ∀ (H : Heap) (locs : List Loc) (ls : Array Slot), hSt G o [] s σ H locs → lv_has ls 7 [(0, .ref (o + 304)), (1, .ref (o + 305)), (2, .ref (o + 306)), (3, .int w3), (4, .int w4), (5, .int w5), (6, .int v6)] → W p l e rmL_pass s m args below meth c H locs 0 0 (MQ below (hQi G o q) args s 0 0 (gA o 307)) (F0 m 74 ls []) := by
  obtain ⟨hx, hb, hml, hown, hts, -⟩ := id K
  intro n
  induction n with
  | zero =>
    intro v6 σ hf
    exact absurd (show (none : Option _) = some q from hf) (by simp)
  | succ n ih =>
    intro v6 σ hf H locs ls hS hl
    rw [f_L_pass_L74_s] at hf
    refine lv_iload hx hb dL_pass_74 (lv_at hl 6 rfl) ?_
    refine lv_bipush (v := 8) hx hb dL_pass_76 (by decide) ?_
    refine lv_icmp_ge (tgt := 92) hx hb dL_pass_78 (by decide) (fun c16 => ?_) (fun c16 => ?_)
    · have hf := gIf_t c16 hf
      exact hK92 σ hf _ _ _ hS (lv_sub hl [0, 1, 2, 3, 4, 5] rfl)
    · have hf := gIf_f c16 hf
      refine lv_aload_n hx hb dL_pass_81 rfl (lv_at hl 0 rfl) ?_
      refine lv_iload hx hb dL_pass_82 (lv_at hl 6 rfl) ?_
      refine lv_iconst (v := 0) hx hb dL_pass_84 (by decide) ?_
      obtain ⟨h18, hf⟩ := gGd_some hf
      obtain ⟨s17, hs17, hf⟩ := gLet_some hf
      refine h_iast (cx := 304) K hS (eLL_304 G o) (by decide) h18 rfl dL_pass_85 (fun H locs hS => ?_)
      rw [← hs17] at hS
      refine lv_iinc (v := (v6 + 1)) (lv' := [(6, .int (v6 + 1)), (0, .ref (o + 304)), (1, .ref (o + 305)), (2, .ref (o + 306)), (3, .int w3), (4, .int w4), (5, .int w5)]) hx hb dL_pass_86 hl (k := 6) rfl rfl (by decide) rfl (fun ls hl => ?_)
      refine lv_goto (tgt := 74) hx hb dL_pass_89 (by decide) ?_
      exact ih (v6 + 1) s17 hf _ _ _ hS (lv_sub hl [1, 2, 3, 4, 5, 6, 0] rfl)
set_option maxHeartbeats 4000000 in
set_option maxRecDepth 100000 in
theorem w_L_pass_L6 (w3 : Int32) (K98 : Int32 → gS → Option (Int32 × gS)) {q : Int32 × gS} (K : gK p s m args meth c G cL_pass 7 RL (some .int)) (hK98 : ∀ (k4 : Int32) (σ : gS), K98 k4 σ = some q → ∀ (H : Heap) (locs : List Loc) (ls : Array Slot), hSt G o [] s σ H locs → lv_has ls 7 [(2, .ref (o + 306)), (4, .int k4)] → W p l e rmL_pass s m args below meth c H locs 0 0 (MQ below (hQi G o q) args s 0 0 (gA o 307)) (F0 m 98 ls [])) : ∀ (n : Nat) (v4 : Int32) (v5 : Int32) (σ : gS), f_L_pass_L6 w3 K98 n v4 v5 σ = some q → ∀ (H : Heap) (locs : List Loc) (ls : Array Slot), hSt G o [] s σ H locs → lv_has ls 7 [(0, .ref (o + 304)), (1, .ref (o + 305)), (2, .ref (o + 306)), (3, .int w3), (4, .int v4), (5, .int v5)] → W p l e rmL_pass s m args below meth c H locs 0 0 (MQ below (hQi G o q) args s 0 0 (gA o 307)) (F0 m 6 ls []) := by
  obtain ⟨hx, hb, hml, hown, hts, -⟩ := id K
  intro n
  induction n with
  | zero =>
    intro v4 v5 σ hf
    exact absurd (show (none : Option _) = some q from hf) (by simp)
  | succ n ih =>
    intro v4 v5 σ hf H locs ls hS hl
    rw [f_L_pass_L6_s] at hf
    refine lv_iload hx hb dL_pass_6 (lv_at hl 5 rfl) ?_
    refine lv_iload_n hx hb dL_pass_8 rfl (lv_at hl 3 rfl) ?_
    refine lv_icmp_ge (tgt := 98) hx hb dL_pass_9 (by decide) (fun c1 => ?_) (fun c1 => ?_)
    · have hf := gIf_t c1 hf
      exact hK98 v4 σ hf _ _ _ hS (lv_sub hl [2, 4] rfl)
    · have hf := gIf_f c1 hf
      refine lv_aload_n hx hb dL_pass_12 rfl (lv_at hl 2 rfl) ?_
      refine lv_iconst (v := 2) hx hb dL_pass_13 (by decide) ?_
      refine lv_dup2_11 hx hb dL_pass_14 rfl rfl ?_
      refine h_iald (cx := 306) (j := 2) K hS (eLL_306 G o) (by decide) (by decide) (by decide) dL_pass_15 ?_
      refine lv_iconst (v := 1) hx hb dL_pass_16 (by decide) ?_
      refine lv_iadd hx hb dL_pass_17 ?_
      obtain ⟨s2, hs2, hf⟩ := gLet_some hf
      refine h_iast (cx := 306) (j := 2) K hS (eLL_306 G o) (by decide) (by decide) (by decide) dL_pass_18 (fun H locs hS => ?_)
      rw [← hs2] at hS
      refine lv_bipush (v := 10) hx hb dL_pass_19 (by decide) ?_
      refine lv_istore (lv' := [(6, .int 10), (0, .ref (o + 304)), (1, .ref (o + 305)), (2, .ref (o + 306)), (3, .int w3), (4, .int v4), (5, .int v5)]) hx hb dL_pass_21 hl (by decide) rfl (fun ls hl => ?_)
      refine w_L_pass_L23 w3 v4 v5 _ K ?_ gFu 10 s2 hf _ _ _ hS (lv_sub hl [1, 2, 3, 4, 5, 6, 0] rfl)
      · intro  s13 hf H locs ls hS hl
        refine lv_aload_n hx hb dL_pass_58 rfl (lv_at hl 2 rfl) ?_
        refine lv_iconst (v := 2) hx hb dL_pass_59 (by decide) ?_
        refine h_iald (cx := 306) (j := 2) K hS (eLL_306 G o) (by decide) (by decide) (by decide) dL_pass_60 ?_
        refine lv_aload_n hx hb dL_pass_61 rfl (lv_at hl 2 rfl) ?_
        refine lv_iconst (v := 0) hx hb dL_pass_62 (by decide) ?_
        refine h_iald (cx := 306) (j := 0) K hS (eLL_306 G o) (by decide) (by decide) (by decide) dL_pass_63 ?_
        obtain ⟨h14, hf⟩ := gGd_some hf
        refine lv_irem hx hb dL_pass_64 (gne_ne h14) ?_
        refine lv_if_ne (tgt := 92) hx hb dL_pass_65 (by decide) (fun c15 => ?_) (fun c15 => ?_)
        · have hf := gIf_f c15 hf
          refine lv_iinc (v := (v5 + 1)) (lv' := [(5, .int (v5 + 1)), (0, .ref (o + 304)), (1, .ref (o + 305)), (2, .ref (o + 306)), (3, .int w3), (4, .int v4)]) hx hb dL_pass_92 hl (k := 5) rfl rfl (by decide) rfl (fun ls hl => ?_)
          refine lv_goto (tgt := 6) hx hb dL_pass_95 (by decide) ?_
          exact ih v4 (v5 + 1) s13 hf _ _ _ hS (lv_sub hl [1, 2, 3, 4, 5, 0] rfl)
        · have hf := gIf_t c15 hf
          refine lv_iinc (v := (v4 + 1)) (lv' := [(4, .int (v4 + 1)), (0, .ref (o + 304)), (1, .ref (o + 305)), (2, .ref (o + 306)), (3, .int w3), (5, .int v5)]) hx hb dL_pass_68 hl (k := 4) rfl rfl (by decide) rfl (fun ls hl => ?_)
          refine lv_iconst (v := 4) hx hb dL_pass_71 (by decide) ?_
          refine lv_istore (lv' := [(6, .int 4), (4, .int (v4 + 1)), (0, .ref (o + 304)), (1, .ref (o + 305)), (2, .ref (o + 306)), (3, .int w3), (5, .int v5)]) hx hb dL_pass_72 hl (by decide) rfl (fun ls hl => ?_)
          refine w_L_pass_L74 w3 (v4 + 1) v5 _ K ?_ gFu 4 s13 hf _ _ _ hS (lv_sub hl [2, 3, 4, 5, 1, 6, 0] rfl)
          · intro  s19 hf H locs ls hS hl
            refine lv_iinc (v := (v5 + 1)) (lv' := [(5, .int (v5 + 1)), (0, .ref (o + 304)), (1, .ref (o + 305)), (2, .ref (o + 306)), (3, .int w3), (4, .int (v4 + 1))]) hx hb dL_pass_92 hl (k := 5) rfl rfl (by decide) rfl (fun ls hl => ?_)
            refine lv_goto (tgt := 6) hx hb dL_pass_95 (by decide) ?_
            exact ih (v4 + 1) (v5 + 1) s19 hf _ _ _ hS (lv_sub hl [1, 2, 3, 4, 5, 0] rfl)
set_option maxHeartbeats 4000000 in
set_option maxRecDepth 100000 in
theorem c_L_pass (p0 : Int32) (σ : gS) (q : Int32 × gS) (hf : f_L_pass p0 σ = some q) : Met l yL_pass (gW yL_pass cL_pass 7 (some .int)) rmL_pass (hPc G o [] [.ref (o + 304), .ref (o + 305), .ref (o + 306), .int p0] σ) (hQi G o q) 0 0 (gA o 307) := by
  refine h_met (by decide) ⟨rfl, rfl⟩ (fun p e s m args below meth c ls K hS hl => ?_) (Nat.le_of_ble_eq_true rfl)
  have K : gK p s m args meth c G cL_pass 7 RL (some .int) := K
  have hl : lv_has ls 7 [(0, .ref (o + 304)), (1, .ref (o + 305)), (2, .ref (o + 306)), (3, .int p0)] := hl
  obtain ⟨hx, hb, hml, hown, hts, -⟩ := id K
  unfold f_L_pass at hf
  refine lv_iconst (v := 0) hx hb dL_pass_0 (by decide) ?_
  refine lv_istore (lv' := [(4, .int 0), (0, .ref (o + 304)), (1, .ref (o + 305)), (2, .ref (o + 306)), (3, .int p0)]) hx hb dL_pass_1 hl (by decide) rfl (fun ls hl => ?_)
  refine lv_iconst (v := 0) hx hb dL_pass_3 (by decide) ?_
  refine lv_istore (lv' := [(5, .int 0), (4, .int 0), (0, .ref (o + 304)), (1, .ref (o + 305)), (2, .ref (o + 306)), (3, .int p0)]) hx hb dL_pass_4 hl (by decide) rfl (fun ls hl => ?_)
  refine w_L_pass_L6 p0 _ K ?_ gFu 0 0 σ hf _ _ _ hS (lv_sub hl [2, 3, 4, 5, 1, 0] rfl)
  · intro k21 s22 hf H locs ls hS hl
    refine lv_aload_n hx hb dL_pass_98 rfl (lv_at hl 0 rfl) ?_
    refine lv_iconst (v := 3) hx hb dL_pass_99 (by decide) ?_
    refine lv_dup2_11 hx hb dL_pass_100 rfl rfl ?_
    refine h_iald (cx := 306) (j := 3) K hS (eLL_306 G o) (by decide) (by decide) (by decide) dL_pass_101 ?_
    refine lv_iload hx hb dL_pass_102 (lv_at hl 1 rfl) ?_
    refine lv_iadd hx hb dL_pass_104 ?_
    obtain ⟨s23, hs23, hf⟩ := gLet_some hf
    refine h_iast (cx := 306) (j := 3) K hS (eLL_306 G o) (by decide) (by decide) (by decide) dL_pass_105 (fun H locs hS => ?_)
    rw [← hs23] at hS
    refine lv_iload hx hb dL_pass_106 (lv_at hl 1 rfl) ?_
    exact h_iret K hS hf dL_pass_108
abbrev rmL_glide : Room := { frames := 4, cells := 0, slots := 0, locals := 102 }
def f_L_glide_L14 (w5 : Int32) (w6 : Int32) (K94 : Int32 → gS → Option (Int32 × gS)) : Nat → Int32 → Int32 → gS → Option (Int32 × gS)
  | 0, _, _, _ => none
  | n + 1, v7, v8, σ => if (σ 306 5) ≤ v8 then (K94 v7 σ) else (Option.bind (f_L_loud w6 v8 σ) (fun q4 => gGd (gin (5 + v8) 20) (if q4.1 < (q4.2 305 (gil (5 + v8))) then (f_L_glide_L14 w5 w6 K94 n v7 (v8 + 1) q4.2) else (gLet (v7 ||| (1 <<< (v8 &&& 31))) (fun x7 => gGd (gin (15 + v8) 20) (gGd (gin (10 + v8) 20) (gLet (fun (j10 : Int32) (j11 : Int32) (j12 : Int32) (s13 : gS) => gGd (gin j10 20) (gLet (up2 s13 305 (gil j10) (j11 + j12)) (fun s15 => gGd (gin (10 + v8) 20) (gLet (up2 s15 305 (gil (10 + v8)) (s15 306 1)) (fun s16 => f_L_glide_L14 w5 w6 K94 n x7 (v8 + 1) s16))))) (fun J14 => if (q4.2 305 (gil (10 + v8))) ≤ 0 then (J14 (15 + v8) (q4.2 305 (gil (15 + v8))) 1 q4.2) else (J14 (15 + v8) (q4.2 305 (gil (15 + v8))) 0 q4.2)))))))))
theorem f_L_glide_L14_s (w5 : Int32) (w6 : Int32) (K94 : Int32 → gS → Option (Int32 × gS)) (n : Nat) (v7 : Int32) (v8 : Int32) (σ : gS) : f_L_glide_L14 w5 w6 K94 (n + 1) v7 v8 σ = (if (σ 306 5) ≤ v8 then (K94 v7 σ) else (Option.bind (f_L_loud w6 v8 σ) (fun q4 => gGd (gin (5 + v8) 20) (if q4.1 < (q4.2 305 (gil (5 + v8))) then (f_L_glide_L14 w5 w6 K94 n v7 (v8 + 1) q4.2) else (gLet (v7 ||| (1 <<< (v8 &&& 31))) (fun x7 => gGd (gin (15 + v8) 20) (gGd (gin (10 + v8) 20) (gLet (fun (j10 : Int32) (j11 : Int32) (j12 : Int32) (s13 : gS) => gGd (gin j10 20) (gLet (up2 s13 305 (gil j10) (j11 + j12)) (fun s15 => gGd (gin (10 + v8) 20) (gLet (up2 s15 305 (gil (10 + v8)) (s15 306 1)) (fun s16 => f_L_glide_L14 w5 w6 K94 n x7 (v8 + 1) s16))))) (fun J14 => if (q4.2 305 (gil (10 + v8))) ≤ 0 then (J14 (15 + v8) (q4.2 305 (gil (15 + v8))) 1 q4.2) else (J14 (15 + v8) (q4.2 305 (gil (15 + v8))) 0 q4.2)))))))))) := rfl
def f_L_glide (p0 : Int32) (p1 : Int32) (σ : gS) : Option (Int32 × gS) := gGd (gin p1 20) (gGd (gin p1 20) (gLet (up2 σ 303 (gil p1) ((σ 303 (gil p1)) + 1)) (fun s2 => f_L_glide_L14 p0 p1 (fun (k20 : Int32) (s21 : gS) => Option.bind (f_L_minutes p1 s21) (fun q22 => Option.bind (f_L_pass q22.1 q22.2) (fun q23 => gGd (gin p0 12) (Option.bind (f_L_one p1 q23.2) (fun q25 => gLet (fun (j26 : Int32) (j27 : Int32) (s28 : gS) => gGd (gin j26 12) (gLet (up2 s28 304 (gil j26) j27) (fun s30 => gGd (gin (4 + p0) 12) (gGd (gin (4 + p0) 12) (gLet (up2 s30 304 (gil (4 + p0)) ((s30 304 (gil (4 + p0))) ||| (1 <<< (p1 &&& 31)))) (fun s32 => gGd (gin (8 + p0) 12) (gGd (gin (8 + p0) 12) (gLet (up2 s32 304 (gil (8 + p0)) ((s32 304 (gil (8 + p0))) + 1)) (fun s34 => some (k20, s34)))))))))) (fun J29 => if (q23.2 304 (gil p0)) = q25.1 then (Option.bind (f_L_two p1 q25.2) (fun q40 => J29 p0 q40.1 q40.2)) else (Option.bind (f_L_one p1 q25.2) (fun q39 => J29 p0 q39.1 q39.2)))))))) gFu 0 0 s2)))
set_option maxHeartbeats 4000000 in
set_option maxRecDepth 100000 in
theorem w_L_glide_L14 (w5 : Int32) (w6 : Int32) (K94 : Int32 → gS → Option (Int32 × gS)) {q : Int32 × gS} (K : gK p s m args meth c G cL_glide 9 RL (some .int)) (hK94 : ∀ (k7 : Int32) (σ : gS), K94 k7 σ = some q → ∀ (H : Heap) (locs : List Loc) (ls : Array Slot), hSt G o [] s σ H locs → lv_has ls 9 [(0, .ref (o + 302)), (2, .ref (o + 304)), (3, .ref (o + 305)), (4, .ref (o + 306)), (5, .int w5), (6, .int w6), (7, .int k7)] → W p l e rmL_glide s m args below meth c H locs 0 0 (MQ below (hQi G o q) args s 0 0 (gA o 307)) (F0 m 94 ls [])) : ∀ (n : Nat) (v7 : Int32) (v8 : Int32) (σ : gS), f_L_glide_L14 w5 w6 K94 n v7 v8 σ = some q → ∀ (H : Heap) (locs : List Loc) (ls : Array Slot), hSt G o [] s σ H locs → lv_has ls 9 [(0, .ref (o + 302)), (2, .ref (o + 304)), (3, .ref (o + 305)), (4, .ref (o + 306)), (5, .int w5), (6, .int w6), (7, .int v7), (8, .int v8)] → W p l e rmL_glide s m args below meth c H locs 0 0 (MQ below (hQi G o q) args s 0 0 (gA o 307)) (F0 m 14 ls []) := by
  obtain ⟨hx, hb, hml, hown, hts, -⟩ := id K
  intro n
  induction n with
  | zero =>
    intro v7 v8 σ hf
    exact absurd (show (none : Option _) = some q from hf) (by simp)
  | succ n ih =>
    intro v7 v8 σ hf H locs ls hS hl
    rw [f_L_glide_L14_s] at hf
    refine lv_iload hx hb dL_glide_14 (lv_at hl 7 rfl) ?_
    refine lv_aload hx hb dL_glide_16 (lv_at hl 3 rfl) ?_
    refine lv_iconst (v := 5) hx hb dL_glide_18 (by decide) ?_
    refine h_iald (cx := 306) (j := 5) K hS (eLL_306 G o) (by decide) (by decide) (by decide) dL_glide_19 ?_
    refine lv_icmp_ge (tgt := 94) hx hb dL_glide_20 (by decide) (fun c3 => ?_) (fun c3 => ?_)
    · have hf := gIf_t c3 hf
      exact hK94 v7 σ hf _ _ _ hS (lv_sub hl [0, 1, 2, 3, 4, 5, 6] rfl)
    · have hf := gIf_f c3 hf
      refine lv_aload_n hx hb dL_glide_23 rfl (lv_at hl 0 rfl) ?_
      refine lv_aload_n hx hb dL_glide_24 rfl (lv_at hl 2 rfl) ?_
      refine lv_aload hx hb dL_glide_25 (lv_at hl 3 rfl) ?_
      refine lv_iload hx hb dL_glide_27 (lv_at hl 5 rfl) ?_
      refine lv_iload hx hb dL_glide_29 (lv_at hl 7 rfl) ?_
      obtain ⟨q4, hq4, hf⟩ := Option.bind_eq_some_iff.mp hf
      refine h_Si0 (X' := []) (As := [.ref (o + 302), .ref (o + 305), .ref (o + 306), .int w6, .int v8]) K hS lS_L_44 (by simp) (c_L_loud w6 v8 σ q4 hq4) rfl rfl (Nat.le_of_ble_eq_true rfl) ⟨rfl, rfl⟩ ⟨Nat.le_of_ble_eq_true rfl, Nat.le_of_ble_eq_true rfl⟩ hl.1 ⟨Nat.le_of_ble_eq_true rfl, Nat.le_of_ble_eq_true rfl⟩ dL_glide_31 (fun H locs hS => ?_)
      refine lv_aload_n hx hb dL_glide_34 rfl (lv_at hl 2 rfl) ?_
      refine lv_iconst (v := 5) hx hb dL_glide_35 (by decide) ?_
      refine lv_iload hx hb dL_glide_36 (lv_at hl 7 rfl) ?_
      refine lv_iadd hx hb dL_glide_38 ?_
      obtain ⟨h5, hf⟩ := gGd_some hf
      refine h_iald (cx := 305) K hS (eLL_305 G o) (by decide) h5 rfl dL_glide_39 ?_
      refine lv_icmp_lt (tgt := 88) hx hb dL_glide_40 (by decide) (fun c6 => ?_) (fun c6 => ?_)
      · have hf := gIf_t c6 hf
        refine lv_iinc (v := (v8 + 1)) (lv' := [(8, .int (v8 + 1)), (0, .ref (o + 302)), (2, .ref (o + 304)), (3, .ref (o + 305)), (4, .ref (o + 306)), (5, .int w5), (6, .int w6), (7, .int v7)]) hx hb dL_glide_88 hl (k := 7) rfl rfl (by decide) rfl (fun ls hl => ?_)
        refine lv_goto (tgt := 14) hx hb dL_glide_91 (by decide) ?_
        exact ih v7 (v8 + 1) q4.2 hf _ _ _ hS (lv_sub hl [1, 2, 3, 4, 5, 6, 7, 0] rfl)
      · have hf := gIf_f c6 hf
        refine lv_iload hx hb dL_glide_43 (lv_at hl 6 rfl) ?_
        refine lv_iconst (v := 1) hx hb dL_glide_45 (by decide) ?_
        refine lv_iload hx hb dL_glide_46 (lv_at hl 7 rfl) ?_
        refine lv_ishl hx hb dL_glide_48 ?_
        refine lv_ior hx hb dL_glide_49 ?_
        obtain ⟨x7, hx7, hf⟩ := gLet_some hf
        refine g_top hx7 ?_
        refine lv_istore (lv' := [(7, .int x7), (0, .ref (o + 302)), (2, .ref (o + 304)), (3, .ref (o + 305)), (4, .ref (o + 306)), (5, .int w5), (6, .int w6), (8, .int v8)]) hx hb dL_glide_50 hl (by decide) rfl (fun ls hl => ?_)
        refine lv_aload_n hx hb dL_glide_52 rfl (lv_at hl 3 rfl) ?_
        refine lv_bipush (v := 15) hx hb dL_glide_53 (by decide) ?_
        refine lv_iload hx hb dL_glide_55 (lv_at hl 7 rfl) ?_
        refine lv_iadd hx hb dL_glide_57 ?_
        refine lv_dup2_11 hx hb dL_glide_58 rfl rfl ?_
        obtain ⟨h8, hf⟩ := gGd_some hf
        refine h_iald (cx := 305) K hS (eLL_305 G o) (by decide) h8 rfl dL_glide_59 ?_
        refine lv_aload_n hx hb dL_glide_60 rfl (lv_at hl 3 rfl) ?_
        refine lv_bipush (v := 10) hx hb dL_glide_61 (by decide) ?_
        refine lv_iload hx hb dL_glide_63 (lv_at hl 7 rfl) ?_
        refine lv_iadd hx hb dL_glide_65 ?_
        obtain ⟨h9, hf⟩ := gGd_some hf
        refine h_iald (cx := 305) K hS (eLL_305 G o) (by decide) h9 rfl dL_glide_66 ?_
        obtain ⟨J14, hJ14, hf⟩ := gLet_some hf
        have wJ14 : ∀ (j10 : Int32) (j11 : Int32) (j12 : Int32) (s13 : gS), J14 j10 j11 j12 s13 = some q → ∀ (H : Heap) (locs : List Loc) (ls : Array Slot), hSt G o [] s s13 H locs → lv_has ls 9 [(0, .ref (o + 302)), (2, .ref (o + 304)), (3, .ref (o + 305)), (4, .ref (o + 306)), (5, .int w5), (6, .int w6), (7, .int x7), (8, .int v8)] → W p l e rmL_glide s m args below meth c H locs 0 0 (MQ below (hQi G o q) args s 0 0 (gA o 307)) (F0 m 75 ls [.int j12, .int j11, .int j10, .ref (o + 305)]) := by
          intro j10 j11 j12 s13 hf H locs ls hS hl
          rw [hJ14] at hf
          refine lv_iadd hx hb dL_glide_75 ?_
          obtain ⟨h18, hf⟩ := gGd_some hf
          obtain ⟨s15, hs15, hf⟩ := gLet_some hf
          refine h_iast (cx := 305) K hS (eLL_305 G o) (by decide) h18 rfl dL_glide_76 (fun H locs hS => ?_)
          rw [← hs15] at hS
          refine lv_aload_n hx hb dL_glide_77 rfl (lv_at hl 2 rfl) ?_
          refine lv_bipush (v := 10) hx hb dL_glide_78 (by decide) ?_
          refine lv_iload hx hb dL_glide_80 (lv_at hl 7 rfl) ?_
          refine lv_iadd hx hb dL_glide_82 ?_
          refine lv_aload hx hb dL_glide_83 (lv_at hl 3 rfl) ?_
          refine lv_iconst (v := 1) hx hb dL_glide_85 (by decide) ?_
          refine h_iald (cx := 306) (j := 1) K hS (eLL_306 G o) (by decide) (by decide) (by decide) dL_glide_86 ?_
          obtain ⟨h17, hf⟩ := gGd_some hf
          obtain ⟨s16, hs16, hf⟩ := gLet_some hf
          refine h_iast (cx := 305) K hS (eLL_305 G o) (by decide) h17 rfl dL_glide_87 (fun H locs hS => ?_)
          rw [← hs16] at hS
          refine lv_iinc (v := (v8 + 1)) (lv' := [(8, .int (v8 + 1)), (0, .ref (o + 302)), (2, .ref (o + 304)), (3, .ref (o + 305)), (4, .ref (o + 306)), (5, .int w5), (6, .int w6), (7, .int x7)]) hx hb dL_glide_88 hl (k := 7) rfl rfl (by decide) rfl (fun ls hl => ?_)
          refine lv_goto (tgt := 14) hx hb dL_glide_91 (by decide) ?_
          exact ih x7 (v8 + 1) s16 hf _ _ _ hS (lv_sub hl [1, 2, 3, 4, 5, 6, 7, 0] rfl)
        clear hJ14
        refine lv_if_le (tgt := 74) hx hb dL_glide_67 (by decide) (fun c19 => ?_) (fun c19 => ?_)
        · have hf := gIf_t c19 hf
          refine lv_iconst (v := 1) hx hb dL_glide_74 (by decide) ?_
          exact wJ14 (15 + v8) (q4.2 305 (gil (15 + v8))) 1 q4.2 hf _ _ _ hS (lv_sub hl [1, 2, 3, 4, 5, 6, 0, 7] rfl)
        · have hf := gIf_f c19 hf
          refine lv_iconst (v := 0) hx hb dL_glide_70 (by decide) ?_
          refine lv_goto (tgt := 75) hx hb dL_glide_71 (by decide) ?_
          exact wJ14 (15 + v8) (q4.2 305 (gil (15 + v8))) 0 q4.2 hf _ _ _ hS (lv_sub hl [1, 2, 3, 4, 5, 6, 0, 7] rfl)
set_option maxHeartbeats 4000000 in
set_option maxRecDepth 100000 in
theorem c_L_glide (p0 : Int32) (p1 : Int32) (σ : gS) (q : Int32 × gS) (hf : f_L_glide p0 p1 σ = some q) : Met l yL_glide (gW yL_glide cL_glide 9 (some .int)) rmL_glide (hPc G o [] [.ref (o + 302), .ref (o + 303), .ref (o + 304), .ref (o + 305), .ref (o + 306), .int p0, .int p1] σ) (hQi G o q) 0 0 (gA o 307) := by
  refine h_met (by decide) ⟨rfl, rfl⟩ (fun p e s m args below meth c ls K hS hl => ?_) (Nat.le_of_ble_eq_true rfl)
  have K : gK p s m args meth c G cL_glide 9 RL (some .int) := K
  have hl : lv_has ls 9 [(0, .ref (o + 302)), (1, .ref (o + 303)), (2, .ref (o + 304)), (3, .ref (o + 305)), (4, .ref (o + 306)), (5, .int p0), (6, .int p1)] := hl
  obtain ⟨hx, hb, hml, hown, hts, -⟩ := id K
  unfold f_L_glide at hf
  refine lv_iconst (v := 0) hx hb dL_glide_0 (by decide) ?_
  refine lv_istore (lv' := [(7, .int 0), (0, .ref (o + 302)), (1, .ref (o + 303)), (2, .ref (o + 304)), (3, .ref (o + 305)), (4, .ref (o + 306)), (5, .int p0), (6, .int p1)]) hx hb dL_glide_1 hl (by decide) rfl (fun ls hl => ?_)
  refine lv_aload_n hx hb dL_glide_3 rfl (lv_at hl 2 rfl) ?_
  refine lv_iload hx hb dL_glide_4 (lv_at hl 7 rfl) ?_
  refine lv_dup2_11 hx hb dL_glide_6 rfl rfl ?_
  obtain ⟨h1, hf⟩ := gGd_some hf
  refine h_iald (cx := 303) K hS (eLL_303 G o) (by decide) h1 rfl dL_glide_7 ?_
  refine lv_iconst (v := 1) hx hb dL_glide_8 (by decide) ?_
  refine lv_iadd hx hb dL_glide_9 ?_
  obtain ⟨h41, hf⟩ := gGd_some hf
  obtain ⟨s2, hs2, hf⟩ := gLet_some hf
  refine h_iast (cx := 303) K hS (eLL_303 G o) (by decide) h41 rfl dL_glide_10 (fun H locs hS => ?_)
  rw [← hs2] at hS
  refine lv_iconst (v := 0) hx hb dL_glide_11 (by decide) ?_
  refine lv_istore (lv' := [(8, .int 0), (7, .int 0), (0, .ref (o + 302)), (1, .ref (o + 303)), (2, .ref (o + 304)), (3, .ref (o + 305)), (4, .ref (o + 306)), (5, .int p0), (6, .int p1)]) hx hb dL_glide_12 hl (by decide) rfl (fun ls hl => ?_)
  refine w_L_glide_L14 p0 p1 _ K ?_ gFu 0 0 s2 hf _ _ _ hS (lv_sub hl [2, 4, 5, 6, 7, 8, 1, 0] rfl)
  · intro k20 s21 hf H locs ls hS hl
    refine lv_aload_n hx hb dL_glide_94 rfl (lv_at hl 1 rfl) ?_
    refine lv_aload_n hx hb dL_glide_95 rfl (lv_at hl 2 rfl) ?_
    refine lv_aload hx hb dL_glide_96 (lv_at hl 3 rfl) ?_
    refine lv_aload_n hx hb dL_glide_98 rfl (lv_at hl 0 rfl) ?_
    refine lv_iload hx hb dL_glide_99 (lv_at hl 5 rfl) ?_
    obtain ⟨q22, hq22, hf⟩ := Option.bind_eq_some_iff.mp hf
    refine h_Si0 (X' := []) (As := [.ref (o + 302), .int p1]) K hS lS_L_48 (by simp) (c_L_minutes p1 s21 q22 hq22) rfl rfl (Nat.le_of_ble_eq_true rfl) ⟨rfl, rfl⟩ ⟨Nat.le_of_ble_eq_true rfl, Nat.le_of_ble_eq_true rfl⟩ hl.1 ⟨Nat.le_of_ble_eq_true rfl, Nat.le_of_ble_eq_true rfl⟩ dL_glide_101 (fun H locs hS => ?_)
    obtain ⟨q23, hq23, hf⟩ := Option.bind_eq_some_iff.mp hf
    refine h_Si0 (X' := []) (As := [.ref (o + 304), .ref (o + 305), .ref (o + 306), .int q22.1]) K hS lS_L_51 (by simp) (c_L_pass q22.1 q22.2 q23 hq23) rfl rfl (Nat.le_of_ble_eq_true rfl) ⟨rfl, rfl⟩ ⟨Nat.le_of_ble_eq_true rfl, Nat.le_of_ble_eq_true rfl⟩ hl.1 ⟨Nat.le_of_ble_eq_true rfl, Nat.le_of_ble_eq_true rfl⟩ dL_glide_104 (fun H locs hS => ?_)
    refine lv_pop hx hb dL_glide_107 rfl ?_
    refine lv_aload_n hx hb dL_glide_108 rfl (lv_at hl 1 rfl) ?_
    refine lv_iload hx hb dL_glide_109 (lv_at hl 4 rfl) ?_
    refine lv_aload_n hx hb dL_glide_111 rfl (lv_at hl 1 rfl) ?_
    refine lv_iload hx hb dL_glide_112 (lv_at hl 4 rfl) ?_
    obtain ⟨h24, hf⟩ := gGd_some hf
    refine h_iald (cx := 304) K hS (eLL_304 G o) (by decide) h24 rfl dL_glide_114 ?_
    refine lv_aload_n hx hb dL_glide_115 rfl (lv_at hl 0 rfl) ?_
    refine lv_iload hx hb dL_glide_116 (lv_at hl 5 rfl) ?_
    obtain ⟨q25, hq25, hf⟩ := Option.bind_eq_some_iff.mp hf
    refine h_Si0 (X' := []) (As := [.ref (o + 302), .int p1]) K hS lS_L_10 (by simp) (c_L_one p1 q23.2 q25 hq25) rfl rfl (Nat.le_of_ble_eq_true rfl) ⟨rfl, rfl⟩ ⟨Nat.le_of_ble_eq_true rfl, Nat.le_of_ble_eq_true rfl⟩ hl.1 ⟨Nat.le_of_ble_eq_true rfl, Nat.le_of_ble_eq_true rfl⟩ dL_glide_118 (fun H locs hS => ?_)
    obtain ⟨J29, hJ29, hf⟩ := gLet_some hf
    have wJ29 : ∀ (j26 : Int32) (j27 : Int32) (s28 : gS), J29 j26 j27 s28 = some q → ∀ (H : Heap) (locs : List Loc) (ls : Array Slot), hSt G o [] s s28 H locs → lv_has ls 9 [(2, .ref (o + 304)), (5, .int p0), (6, .int p1), (7, .int k20)] → W p l e rmL_glide s m args below meth c H locs 0 0 (MQ below (hQi G o q) args s 0 0 (gA o 307)) (F0 m 139 ls [.int j27, .int j26, .ref (o + 304)]) := by
      intro j26 j27 s28 hf H locs ls hS hl
      rw [hJ29] at hf
      obtain ⟨h37, hf⟩ := gGd_some hf
      obtain ⟨s30, hs30, hf⟩ := gLet_some hf
      refine h_iast (cx := 304) K hS (eLL_304 G o) (by decide) h37 rfl dL_glide_139 (fun H locs hS => ?_)
      rw [← hs30] at hS
      refine lv_aload_n hx hb dL_glide_140 rfl (lv_at hl 0 rfl) ?_
      refine lv_iconst (v := 4) hx hb dL_glide_141 (by decide) ?_
      refine lv_iload hx hb dL_glide_142 (lv_at hl 1 rfl) ?_
      refine lv_iadd hx hb dL_glide_144 ?_
      refine lv_dup2_11 hx hb dL_glide_145 rfl rfl ?_
      obtain ⟨h31, hf⟩ := gGd_some hf
      refine h_iald (cx := 304) K hS (eLL_304 G o) (by decide) h31 rfl dL_glide_146 ?_
      refine lv_iconst (v := 1) hx hb dL_glide_147 (by decide) ?_
      refine lv_iload hx hb dL_glide_148 (lv_at hl 2 rfl) ?_
      refine lv_ishl hx hb dL_glide_150 ?_
      refine lv_ior hx hb dL_glide_151 ?_
      obtain ⟨h36, hf⟩ := gGd_some hf
      obtain ⟨s32, hs32, hf⟩ := gLet_some hf
      refine h_iast (cx := 304) K hS (eLL_304 G o) (by decide) h36 rfl dL_glide_152 (fun H locs hS => ?_)
      rw [← hs32] at hS
      refine lv_aload_n hx hb dL_glide_153 rfl (lv_at hl 0 rfl) ?_
      refine lv_bipush (v := 8) hx hb dL_glide_154 (by decide) ?_
      refine lv_iload hx hb dL_glide_156 (lv_at hl 1 rfl) ?_
      refine lv_iadd hx hb dL_glide_158 ?_
      refine lv_dup2_11 hx hb dL_glide_159 rfl rfl ?_
      obtain ⟨h33, hf⟩ := gGd_some hf
      refine h_iald (cx := 304) K hS (eLL_304 G o) (by decide) h33 rfl dL_glide_160 ?_
      refine lv_iconst (v := 1) hx hb dL_glide_161 (by decide) ?_
      refine lv_iadd hx hb dL_glide_162 ?_
      obtain ⟨h35, hf⟩ := gGd_some hf
      obtain ⟨s34, hs34, hf⟩ := gLet_some hf
      refine h_iast (cx := 304) K hS (eLL_304 G o) (by decide) h35 rfl dL_glide_163 (fun H locs hS => ?_)
      rw [← hs34] at hS
      refine lv_iload hx hb dL_glide_164 (lv_at hl 3 rfl) ?_
      exact h_iret K hS hf dL_glide_166
    clear hJ29
    refine lv_icmp_ne (tgt := 133) hx hb dL_glide_121 (by decide) (fun c38 => ?_) (fun c38 => ?_)
    · have hf := gIf_f c38 hf
      refine lv_aload_n hx hb dL_glide_133 rfl (lv_at hl 0 rfl) ?_
      refine lv_iload hx hb dL_glide_134 (lv_at hl 5 rfl) ?_
      obtain ⟨q39, hq39, hf⟩ := Option.bind_eq_some_iff.mp hf
      refine h_Si0 (X' := []) (As := [.ref (o + 302), .int p1]) K hS lS_L_10 (by simp) (c_L_one p1 q25.2 q39 hq39) rfl rfl (Nat.le_of_ble_eq_true rfl) ⟨rfl, rfl⟩ ⟨Nat.le_of_ble_eq_true rfl, Nat.le_of_ble_eq_true rfl⟩ hl.1 ⟨Nat.le_of_ble_eq_true rfl, Nat.le_of_ble_eq_true rfl⟩ dL_glide_136 (fun H locs hS => ?_)
      exact wJ29 p0 q39.1 q39.2 hf _ _ _ hS (lv_sub hl [1, 4, 5, 6] rfl)
    · have hf := gIf_t c38 hf
      refine lv_aload_n hx hb dL_glide_124 rfl (lv_at hl 0 rfl) ?_
      refine lv_iload hx hb dL_glide_125 (lv_at hl 5 rfl) ?_
      obtain ⟨q40, hq40, hf⟩ := Option.bind_eq_some_iff.mp hf
      refine h_Si0 (X' := []) (As := [.ref (o + 302), .int p1]) K hS lS_L_16 (by simp) (c_L_two p1 q25.2 q40 hq40) rfl rfl (Nat.le_of_ble_eq_true rfl) ⟨rfl, rfl⟩ ⟨Nat.le_of_ble_eq_true rfl, Nat.le_of_ble_eq_true rfl⟩ hl.1 ⟨Nat.le_of_ble_eq_true rfl, Nat.le_of_ble_eq_true rfl⟩ dL_glide_127 (fun H locs hS => ?_)
      refine lv_goto (tgt := 139) hx hb dL_glide_130 (by decide) ?_
      exact wJ29 p0 q40.1 q40.2 hf _ _ _ hS (lv_sub hl [1, 4, 5, 6] rfl)
end
