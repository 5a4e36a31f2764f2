section
variable {p : Program} {l : Launch} {e : Env} {R : Room} {s : State} {m : MethodId} {args : Array Value} {below : List Frame} {meth : Method} {c : Code} {G : gG} {o : Nat} {cc ss : Nat} {Q : State → Prop}
abbrev rmL_trail : Room := { frames := 7, cells := 0, slots := 0, locals := 171 }
def f_L_trail_L137 (w4 : Int32) (w5 : Int32) (w6 : Int32) (w8 : Int32) (w9 : Int32) (K269 : gS → Option (Int32 × gS)) : Nat → Int32 → gS → Option (Int32 × gS)
  | 0, _, _ => none
  | n + 1, v10, σ => if w9 < v10 then (K269 σ) else (gLet (fun (j27 : Int32) (s28 : gS) => Option.bind (f_L_one v10 s28) (fun q30 => gLet (fun (j31 : Int32) (s32 : gS) => gLet (fun (j34 : Int32) (s35 : gS) => gLet (fun (j37 : Int32) (j38 : Int32) (s39 : gS) => if j37 = j38 then (f_L_trail_L137 w4 w5 w6 w8 w9 K269 n (v10 + 1) s39) else (some (0, s39))) (fun J40 => if v10 = w9 then (J40 j34 1 s35) else (J40 j34 0 s35))) (fun J36 => gLet (fun  (s43 : gS) => J36 0 s43) (fun J44 => if j27 = 0 then (J44 s32) else (Option.bind (f_L_reason j31 (w5 &&& ((1 <<< (v10 &&& 31)) ^^^ (-1))) s32) (fun q46 => if 2 ≤ q46.1 then (J44 q46.2) else (J36 1 q46.2)))))) (fun J33 => if q30.1 = w6 then (Option.bind (f_L_two v10 q30.2) (fun q50 => J33 q50.1 q50.2)) else (Option.bind (f_L_one v10 q30.2) (fun q49 => J33 q49.1 q49.2))))) (fun J29 => gLet (fun  (s51 : gS) => J29 0 s51) (fun J52 => if ((w5 >>> (v10 &&& 31)) &&& 1) = 1 then (Option.bind (f_L_one v10 σ) (fun q54 => gLet (fun  (s55 : gS) => J29 1 s55) (fun J56 => if q54.1 = w6 then (J56 q54.2) else (Option.bind (f_L_two v10 q54.2) (fun q58 => if q58.1 = w6 then (J56 q58.2) else (J52 q58.2)))))) else (J52 σ))))
theorem f_L_trail_L137_s (w4 : Int32) (w5 : Int32) (w6 : Int32) (w8 : Int32) (w9 : Int32) (K269 : gS → Option (Int32 × gS)) (n : Nat) (v10 : Int32) (σ : gS) : f_L_trail_L137 w4 w5 w6 w8 w9 K269 (n + 1) v10 σ = (if w9 < v10 then (K269 σ) else (gLet (fun (j27 : Int32) (s28 : gS) => Option.bind (f_L_one v10 s28) (fun q30 => gLet (fun (j31 : Int32) (s32 : gS) => gLet (fun (j34 : Int32) (s35 : gS) => gLet (fun (j37 : Int32) (j38 : Int32) (s39 : gS) => if j37 = j38 then (f_L_trail_L137 w4 w5 w6 w8 w9 K269 n (v10 + 1) s39) else (some (0, s39))) (fun J40 => if v10 = w9 then (J40 j34 1 s35) else (J40 j34 0 s35))) (fun J36 => gLet (fun (s43 : gS) => J36 0 s43) (fun J44 => if j27 = 0 then (J44 s32) else (Option.bind (f_L_reason j31 (w5 &&& ((1 <<< (v10 &&& 31)) ^^^ (-1))) s32) (fun q46 => if 2 ≤ q46.1 then (J44 q46.2) else (J36 1 q46.2)))))) (fun J33 => if q30.1 = w6 then (Option.bind (f_L_two v10 q30.2) (fun q50 => J33 q50.1 q50.2)) else (Option.bind (f_L_one v10 q30.2) (fun q49 => J33 q49.1 q49.2))))) (fun J29 => gLet (fun (s51 : gS) => J29 0 s51) (fun J52 => if ((w5 >>> (v10 &&& 31)) &&& 1) = 1 then (Option.bind (f_L_one v10 σ) (fun q54 => gLet (fun (s55 : gS) => J29 1 s55) (fun J56 => if q54.1 = w6 then (J56 q54.2) else (Option.bind (f_L_two v10 q54.2) (fun q58 => if q58.1 = w6 then (J56 q58.2) else (J52 q58.2)))))) else (J52 σ))))) := rfl
def f_L_trail_L80 (w4 : Int32) (K314 : Int32 → gS → Option (Int32 × gS)) : Nat → Int32 → Int32 → Int32 → gS → Option (Int32 × gS)
  | 0, _, _, _, _ => none
  | n + 1, v5, v6, v8, σ => if v5 = 0 then (K314 v8 σ) else (Option.bind (f_X10_trail w4 v8 σ) (fun q20 => gLet (gMix σ q20.2) (fun s21 => if q20.1 < 0 then (some (0, s21)) else (if ((v5 >>> (q20.1 &&& 31)) &&& 1) = 0 then (some (0, s21)) else (Option.bind (f_L_one q20.1 s21) (fun q24 => if q24.1 = v6 then (f_L_trail_L137 w4 v5 v6 v8 q20.1 (fun (s60 : gS) => gLet (v5 &&& ((1 <<< (q20.1 &&& 31)) ^^^ (-1))) (fun x61 => Option.bind (f_L_one q20.1 s60) (fun q62 => if q62.1 = v6 then (Option.bind (f_L_two q20.1 q62.2) (fun q65 => f_L_trail_L80 w4 K314 n x61 q65.1 (v8 + 1) q65.2)) else (Option.bind (f_L_one q20.1 q62.2) (fun q64 => f_L_trail_L80 w4 K314 n x61 q64.1 (v8 + 1) q64.2))))) gFu 0 q24.2) else (Option.bind (f_L_two q20.1 q24.2) (fun q66 => if q66.1 = v6 then (f_L_trail_L137 w4 v5 v6 v8 q20.1 (fun (s68 : gS) => gLet (v5 &&& ((1 <<< (q20.1 &&& 31)) ^^^ (-1))) (fun x69 => Option.bind (f_L_one q20.1 s68) (fun q70 => if q70.1 = v6 then (Option.bind (f_L_two q20.1 q70.2) (fun q73 => f_L_trail_L80 w4 K314 n x69 q73.1 (v8 + 1) q73.2)) else (Option.bind (f_L_one q20.1 q70.2) (fun q72 => f_L_trail_L80 w4 K314 n x69 q72.1 (v8 + 1) q72.2))))) gFu 0 q66.2) else (some (0, q66.2))))))))))
theorem f_L_trail_L80_s (w4 : Int32) (K314 : Int32 → gS → Option (Int32 × gS)) (n : Nat) (v5 : Int32) (v6 : Int32) (v8 : Int32) (σ : gS) : f_L_trail_L80 w4 K314 (n + 1) v5 v6 v8 σ = (if v5 = 0 then (K314 v8 σ) else (Option.bind (f_X10_trail w4 v8 σ) (fun q20 => gLet (gMix σ q20.2) (fun s21 => if q20.1 < 0 then (some (0, s21)) else (if ((v5 >>> (q20.1 &&& 31)) &&& 1) = 0 then (some (0, s21)) else (Option.bind (f_L_one q20.1 s21) (fun q24 => if q24.1 = v6 then (f_L_trail_L137 w4 v5 v6 v8 q20.1 (fun (s60 : gS) => gLet (v5 &&& ((1 <<< (q20.1 &&& 31)) ^^^ (-1))) (fun x61 => Option.bind (f_L_one q20.1 s60) (fun q62 => if q62.1 = v6 then (Option.bind (f_L_two q20.1 q62.2) (fun q65 => f_L_trail_L80 w4 K314 n x61 q65.1 (v8 + 1) q65.2)) else (Option.bind (f_L_one q20.1 q62.2) (fun q64 => f_L_trail_L80 w4 K314 n x61 q64.1 (v8 + 1) q64.2))))) gFu 0 q24.2) else (Option.bind (f_L_two q20.1 q24.2) (fun q66 => if q66.1 = v6 then (f_L_trail_L137 w4 v5 v6 v8 q20.1 (fun (s68 : gS) => gLet (v5 &&& ((1 <<< (q20.1 &&& 31)) ^^^ (-1))) (fun x69 => Option.bind (f_L_one q20.1 s68) (fun q70 => if q70.1 = v6 then (Option.bind (f_L_two q20.1 q70.2) (fun q73 => f_L_trail_L80 w4 K314 n x69 q73.1 (v8 + 1) q73.2)) else (Option.bind (f_L_one q20.1 q70.2) (fun q72 => f_L_trail_L80 w4 K314 n x69 q72.1 (v8 + 1) q72.2))))) gFu 0 q66.2) else (some (0, q66.2))))))))))) := rfl
def f_L_trail (p0 : Int32) (σ : gS) : Option (Int32 × gS) := Option.bind (f_L_all σ) (fun q1 => gGd (gin (4 + p0) 12) (gLet (q1.1 &&& ((q1.2 304 (gil (4 + p0))) ^^^ (-1))) (fun x3 => gGd (gin p0 12) (gLet (q1.2 304 (gil p0)) (fun x5 => Option.bind (f_L_reason x5 x3 q1.2) (fun q6 => Option.bind (f_X10_reason p0 q6.2) (fun q7 => gLet (gMix q6.2 q7.2) (fun s8 => gLet (fun (s9 : gS) => Option.bind (f_X10_reason p0 s9) (fun q11 => gLet (gMix s9 q11.2) (fun s12 => if q11.1 = q6.1 then (Option.bind (f_X10_trail p0 0 s12) (fun q14 => gLet (gMix s12 q14.2) (fun s15 => if q14.1 = (-5) then (some (1, s15)) else (some (0, s15))))) else (some (0, s12))))) (fun J10 => if q7.1 = q6.1 then (if q6.1 = 0 then (f_L_trail_L80 p0 (fun (k74 : Int32) (s75 : gS) => Option.bind (f_X10_trail p0 k74 s75) (fun q76 => gLet (gMix s75 q76.2) (fun s77 => if q76.1 = (-6) then (some (1, s77)) else (some (0, s77))))) gFu x3 x5 0 s8) else (J10 s8)) else (J10 s8))))))))))
set_option maxHeartbeats 4000000 in
set_option maxRecDepth 100000 in
theorem w_L_trail_L137 (w4 : Int32) (w5 : Int32) (w6 : Int32) (w8 : Int32) (w9 : Int32) (K269 : gS → Option (Int32 × gS)) {q : Int32 × gS} (K : gK p s m args meth c G cL_trail 14 RL (some .boolean)) (hK269 : ∀ (σ : gS), K269 σ = some q → ∀ (H : Heap) (locs : List Loc) (ls : Array Slot), hSt G o [] s σ H locs → lv_has ls 14 [(0, .ref (o + 0)), (1, .ref (o + 302)), (3, .ref (o + 306)), (4, .int w4), (5, .int w5), (6, .int w6), (8, .int w8), (9, .int w9)] → W p l e rmL_trail s m args below meth c H locs 0 0 (MQ below (hQi G o q) args s 0 0 (gA o 307)) (F0 m 269 ls [])) : ∀ (n : Nat) (v10 : Int32) (σ : gS), f_L_trail_L137 w4 w5 w6 w8 w9 K269 n v10 σ = some q → ∀ (H : Heap) (locs : List Loc) (ls : Array Slot), hSt G o [] s σ H locs → lv_has ls 14 [(0, .ref (o + 0)), (1, .ref (o + 302)), (3, .ref (o + 306)), (4, .int w4), (5, .int w5), (6, .int w6), (8, .int w8), (9, .int w9), (10, .int v10)] → W p l e rmL_trail s m args below meth c H locs 0 0 (MQ below (hQi G o q) args s 0 0 (gA o 307)) (F0 m 137 ls []) := by
  obtain ⟨hx, hb, hml, hown, hts, -⟩ := id K
  intro n
  induction n with
  | zero =>
    intro v10 σ hf
    exact absurd (show (none : Option _) = some q from hf) (by simp)
  | succ n ih =>
    intro v10 σ hf H locs ls hS hl
    rw [f_L_trail_L137_s] at hf
    refine lv_iload hx hb dL_trail_137 (lv_at hl 8 rfl) ?_
    refine lv_iload hx hb dL_trail_139 (lv_at hl 7 rfl) ?_
    refine lv_icmp_gt (tgt := 269) hx hb dL_trail_141 (by decide) (fun c26 => ?_) (fun c26 => ?_)
    · have hf := gIf_t c26 hf
      exact hK269 σ hf _ _ _ hS (lv_sub hl [0, 1, 2, 3, 4, 5, 6, 7] rfl)
    · have hf := gIf_f c26 hf
      refine lv_iload hx hb dL_trail_144 (lv_at hl 4 rfl) ?_
      refine lv_iload hx hb dL_trail_146 (lv_at hl 8 rfl) ?_
      refine lv_ishr hx hb dL_trail_148 ?_
      refine lv_iconst (v := 1) hx hb dL_trail_149 (by decide) ?_
      refine lv_iand hx hb dL_trail_150 ?_
      refine lv_iconst (v := 1) hx hb dL_trail_151 (by decide) ?_
      obtain ⟨J29, hJ29, hf⟩ := gLet_some hf
      have wJ29 : ∀ (j27 : Int32) (s28 : gS), J29 j27 s28 = some q → ∀ (H : Heap) (locs : List Loc) (ls : Array Slot), hSt G o [] s s28 H locs → lv_has ls 14 [(0, .ref (o + 0)), (1, .ref (o + 302)), (3, .ref (o + 306)), (4, .int w4), (5, .int w5), (6, .int w6), (8, .int w8), (9, .int w9), (10, .int v10)] → W p l e rmL_trail s m args below meth c H locs 0 0 (MQ below (hQi G o q) args s 0 0 (gA o 307)) (F0 m 182 ls [.int j27]) := by
        intro j27 s28 hf H locs ls hS hl
        rw [hJ29] at hf
        refine lv_istore (lv' := [(11, .int j27), (0, .ref (o + 0)), (1, .ref (o + 302)), (3, .ref (o + 306)), (4, .int w4), (5, .int w5), (6, .int w6), (8, .int w8), (9, .int w9), (10, .int v10)]) hx hb dL_trail_182 hl (by decide) rfl (fun ls hl => ?_)
        refine lv_aload_n hx hb dL_trail_184 rfl (lv_at hl 2 rfl) ?_
        refine lv_iload hx hb dL_trail_185 (lv_at hl 9 rfl) ?_
        obtain ⟨q30, hq30, hf⟩ := Option.bind_eq_some_iff.mp hf
        refine h_Si0 (X' := []) (As := [.ref (o + 302), .int v10]) K hS lS_L_10 (by simp) (c_L_one v10 s28 q30 hq30) rfl rfl (Nat.le_of_ble_eq_true rfl) ⟨rfl, rfl⟩ ⟨Nat.le_of_ble_eq_true rfl, Nat.le_of_ble_eq_true rfl⟩ hl.1 ⟨Nat.le_of_ble_eq_true rfl, Nat.le_of_ble_eq_true rfl⟩ dL_trail_187 (fun H locs hS => ?_)
        refine lv_iload hx hb dL_trail_190 (lv_at hl 6 rfl) ?_
        obtain ⟨J33, hJ33, hf⟩ := gLet_some hf
        have wJ33 : ∀ (j31 : Int32) (s32 : gS), J33 j31 s32 = some q → ∀ (H : Heap) (locs : List Loc) (ls : Array Slot), hSt G o [] s s32 H locs → lv_has ls 14 [(0, .ref (o + 0)), (1, .ref (o + 302)), (3, .ref (o + 306)), (4, .int w4), (5, .int w5), (6, .int w6), (8, .int w8), (9, .int w9), (10, .int v10), (11, .int j27)] → W p l e rmL_trail s m args below meth c H locs 0 0 (MQ below (hQi G o q) args s 0 0 (gA o 307)) (F0 m 210 ls [.int j31]) := by
          intro j31 s32 hf H locs ls hS hl
          rw [hJ33] at hf
          refine lv_istore (lv' := [(12, .int j31), (0, .ref (o + 0)), (1, .ref (o + 302)), (3, .ref (o + 306)), (4, .int w4), (5, .int w5), (6, .int w6), (8, .int w8), (9, .int w9), (10, .int v10), (11, .int j27)]) hx hb dL_trail_210 hl (by decide) rfl (fun ls hl => ?_)
          refine lv_iload hx hb dL_trail_212 (lv_at hl 10 rfl) ?_
          obtain ⟨J36, hJ36, hf⟩ := gLet_some hf
          have wJ36 : ∀ (j34 : Int32) (s35 : gS), J36 j34 s35 = some q → ∀ (H : Heap) (locs : List Loc) (ls : Array Slot), hSt G o [] s s35 H locs → lv_has ls 14 [(0, .ref (o + 0)), (1, .ref (o + 302)), (3, .ref (o + 306)), (4, .int w4), (5, .int w5), (6, .int w6), (8, .int w8), (9, .int w9), (10, .int v10)] → W p l e rmL_trail s m args below meth c H locs 0 0 (MQ below (hQi G o q) args s 0 0 (gA o 307)) (F0 m 242 ls [.int j34]) := by
            intro j34 s35 hf H locs ls hS hl
            rw [hJ36] at hf
            refine lv_istore (lv' := [(13, .int j34), (0, .ref (o + 0)), (1, .ref (o + 302)), (3, .ref (o + 306)), (4, .int w4), (5, .int w5), (6, .int w6), (8, .int w8), (9, .int w9), (10, .int v10)]) hx hb dL_trail_242 hl (by decide) rfl (fun ls hl => ?_)
            refine lv_iload hx hb dL_trail_244 (lv_at hl 0 rfl) ?_
            refine lv_iload hx hb dL_trail_246 (lv_at hl 9 rfl) ?_
            refine lv_iload hx hb dL_trail_248 (lv_at hl 8 rfl) ?_
            obtain ⟨J40, hJ40, hf⟩ := gLet_some hf
            have wJ40 : ∀ (j37 : Int32) (j38 : Int32) (s39 : gS), J40 j37 j38 s39 = some q → ∀ (H : Heap) (locs : List Loc) (ls : Array Slot), hSt G o [] s s39 H locs → lv_has ls 14 [(0, .ref (o + 0)), (1, .ref (o + 302)), (3, .ref (o + 306)), (4, .int w4), (5, .int w5), (6, .int w6), (8, .int w8), (9, .int w9), (10, .int v10)] → W p l e rmL_trail s m args below meth c H locs 0 0 (MQ below (hQi G o q) args s 0 0 (gA o 307)) (F0 m 258 ls [.int j38, .int j37]) := by
              intro j37 j38 s39 hf H locs ls hS hl
              rw [hJ40] at hf
              refine lv_icmp_eq (tgt := 263) hx hb dL_trail_258 (by decide) (fun c41 => ?_) (fun c41 => ?_)
              · have hf := gIf_t c41 hf
                refine lv_iinc (v := (v10 + 1)) (lv' := [(10, .int (v10 + 1)), (0, .ref (o + 0)), (1, .ref (o + 302)), (3, .ref (o + 306)), (4, .int w4), (5, .int w5), (6, .int w6), (8, .int w8), (9, .int w9)]) hx hb dL_trail_263 hl (k := 8) rfl rfl (by decide) rfl (fun ls hl => ?_)
                refine lv_goto (tgt := 137) hx hb dL_trail_266 (by decide) ?_
                exact ih (v10 + 1) s39 hf _ _ _ hS (lv_sub hl [1, 2, 3, 4, 5, 6, 7, 8, 0] rfl)
              · have hf := gIf_f c41 hf
                refine lv_iconst (v := 0) hx hb dL_trail_261 (by decide) ?_
                exact h_zret K hS rfl hf dL_trail_262
            clear hJ40
            refine lv_icmp_ne (tgt := 257) hx hb dL_trail_250 (by decide) (fun c42 => ?_) (fun c42 => ?_)
            · have hf := gIf_f c42 hf
              refine lv_iconst (v := 0) hx hb dL_trail_257 (by decide) ?_
              exact wJ40 j34 0 s35 hf _ _ _ hS (lv_sub hl [1, 2, 3, 4, 5, 6, 7, 8, 9] rfl)
            · have hf := gIf_t c42 hf
              refine lv_iconst (v := 1) hx hb dL_trail_253 (by decide) ?_
              refine lv_goto (tgt := 258) hx hb dL_trail_254 (by decide) ?_
              exact wJ40 j34 1 s35 hf _ _ _ hS (lv_sub hl [1, 2, 3, 4, 5, 6, 7, 8, 9] rfl)
          clear hJ36
          obtain ⟨J44, hJ44, hf⟩ := gLet_some hf
          have wJ44 : ∀  (s43 : gS), J44  s43 = some q → ∀ (H : Heap) (locs : List Loc) (ls : Array Slot), hSt G o [] s s43 H locs → lv_has ls 14 [(0, .ref (o + 0)), (1, .ref (o + 302)), (3, .ref (o + 306)), (4, .int w4), (5, .int w5), (6, .int w6), (8, .int w8), (9, .int w9), (10, .int v10)] → W p l e rmL_trail s m args below meth c H locs 0 0 (MQ below (hQi G o q) args s 0 0 (gA o 307)) (F0 m 241 ls []) := by
            intro  s43 hf H locs ls hS hl
            rw [hJ44] at hf
            refine lv_iconst (v := 0) hx hb dL_trail_241 (by decide) ?_
            exact wJ36 0 s43 hf _ _ _ hS (lv_sub hl [0, 1, 2, 3, 4, 5, 6, 7, 8] rfl)
          clear hJ44
          refine lv_if_eq (tgt := 241) hx hb dL_trail_214 (by decide) (fun c45 => ?_) (fun c45 => ?_)
          · have hf := gIf_t c45 hf
            exact wJ44  s32 hf _ _ _ hS (lv_sub hl [1, 2, 3, 4, 5, 6, 7, 8, 9] rfl)
          · have hf := gIf_f c45 hf
            refine lv_aload_n hx hb dL_trail_217 rfl (lv_at hl 2 rfl) ?_
            refine lv_aload_n hx hb dL_trail_218 rfl (lv_at hl 3 rfl) ?_
            refine lv_iload hx hb dL_trail_219 (lv_at hl 0 rfl) ?_
            refine lv_iload hx hb dL_trail_221 (lv_at hl 5 rfl) ?_
            refine lv_iconst (v := 1) hx hb dL_trail_223 (by decide) ?_
            refine lv_iload hx hb dL_trail_224 (lv_at hl 9 rfl) ?_
            refine lv_ishl hx hb dL_trail_226 ?_
            refine lv_iconst (v := (-1)) hx hb dL_trail_227 (by decide) ?_
            refine lv_ixor hx hb dL_trail_228 ?_
            refine lv_iand hx hb dL_trail_229 ?_
            obtain ⟨q46, hq46, hf⟩ := Option.bind_eq_some_iff.mp hf
            refine h_Si0 (X' := []) (As := [.ref (o + 302), .ref (o + 306), .int j31, .int (w5 &&& ((1 <<< (v10 &&& 31)) ^^^ (-1)))]) K hS lS_L_78 (by simp) (c_L_reason j31 (w5 &&& ((1 <<< (v10 &&& 31)) ^^^ (-1))) s32 q46 hq46) rfl rfl (Nat.le_of_ble_eq_true rfl) ⟨rfl, rfl⟩ ⟨Nat.le_of_ble_eq_true rfl, Nat.le_of_ble_eq_true rfl⟩ hl.1 ⟨Nat.le_of_ble_eq_true rfl, Nat.le_of_ble_eq_true rfl⟩ dL_trail_230 (fun H locs hS => ?_)
            refine lv_iconst (v := 2) hx hb dL_trail_233 (by decide) ?_
            refine lv_icmp_ge (tgt := 241) hx hb dL_trail_234 (by decide) (fun c47 => ?_) (fun c47 => ?_)
            · have hf := gIf_t c47 hf
              exact wJ44  q46.2 hf _ _ _ hS (lv_sub hl [1, 2, 3, 4, 5, 6, 7, 8, 9] rfl)
            · have hf := gIf_f c47 hf
              refine lv_iconst (v := 1) hx hb dL_trail_237 (by decide) ?_
              refine lv_goto (tgt := 242) hx hb dL_trail_238 (by decide) ?_
              exact wJ36 1 q46.2 hf _ _ _ hS (lv_sub hl [1, 2, 3, 4, 5, 6, 7, 8, 9] rfl)
        clear hJ33
        refine lv_icmp_ne (tgt := 204) hx hb dL_trail_192 (by decide) (fun c48 => ?_) (fun c48 => ?_)
        · have hf := gIf_f c48 hf
          refine lv_aload_n hx hb dL_trail_204 rfl (lv_at hl 2 rfl) ?_
          refine lv_iload hx hb dL_trail_205 (lv_at hl 9 rfl) ?_
          obtain ⟨q49, hq49, hf⟩ := Option.bind_eq_some_iff.mp hf
          refine h_Si0 (X' := []) (As := [.ref (o + 302), .int v10]) K hS lS_L_10 (by simp) (c_L_one v10 q30.2 q49 hq49) rfl rfl (Nat.le_of_ble_eq_true rfl) ⟨rfl, rfl⟩ ⟨Nat.le_of_ble_eq_true rfl, Nat.le_of_ble_eq_true rfl⟩ hl.1 ⟨Nat.le_of_ble_eq_true rfl, Nat.le_of_ble_eq_true rfl⟩ dL_trail_207 (fun H locs hS => ?_)
          exact wJ33 q49.1 q49.2 hf _ _ _ hS (lv_sub hl [1, 2, 3, 4, 5, 6, 7, 8, 9, 0] rfl)
        · have hf := gIf_t c48 hf
          refine lv_aload_n hx hb dL_trail_195 rfl (lv_at hl 2 rfl) ?_
          refine lv_iload hx hb dL_trail_196 (lv_at hl 9 rfl) ?_
          obtain ⟨q50, hq50, hf⟩ := Option.bind_eq_some_iff.mp hf
          refine h_Si0 (X' := []) (As := [.ref (o + 302), .int v10]) K hS lS_L_16 (by simp) (c_L_two v10 q30.2 q50 hq50) rfl rfl (Nat.le_of_ble_eq_true rfl) ⟨rfl, rfl⟩ ⟨Nat.le_of_ble_eq_true rfl, Nat.le_of_ble_eq_true rfl⟩ hl.1 ⟨Nat.le_of_ble_eq_true rfl, Nat.le_of_ble_eq_true rfl⟩ dL_trail_198 (fun H locs hS => ?_)
          refine lv_goto (tgt := 210) hx hb dL_trail_201 (by decide) ?_
          exact wJ33 q50.1 q50.2 hf _ _ _ hS (lv_sub hl [1, 2, 3, 4, 5, 6, 7, 8, 9, 0] rfl)
      clear hJ29
      obtain ⟨J52, hJ52, hf⟩ := gLet_some hf
      have wJ52 : ∀  (s51 : gS), J52  s51 = some q → ∀ (H : Heap) (locs : List Loc) (ls : Array Slot), hSt G o [] s s51 H locs → lv_has ls 14 [(0, .ref (o + 0)), (1, .ref (o + 302)), (3, .ref (o + 306)), (4, .int w4), (5, .int w5), (6, .int w6), (8, .int w8), (9, .int w9), (10, .int v10)] → W p l e rmL_trail s m args below meth c H locs 0 0 (MQ below (hQi G o q) args s 0 0 (gA o 307)) (F0 m 181 ls []) := by
        intro  s51 hf H locs ls hS hl
        rw [hJ52] at hf
        refine lv_iconst (v := 0) hx hb dL_trail_181 (by decide) ?_
        exact wJ29 0 s51 hf _ _ _ hS (lv_sub hl [0, 1, 2, 3, 4, 5, 6, 7, 8] rfl)
      clear hJ52
      refine lv_icmp_ne (tgt := 181) hx hb dL_trail_152 (by decide) (fun c53 => ?_) (fun c53 => ?_)
      · have hf := gIf_f c53 hf
        exact wJ52  σ hf _ _ _ hS (lv_sub hl [0, 1, 2, 3, 4, 5, 6, 7, 8] rfl)
      · have hf := gIf_t c53 hf
        refine lv_aload_n hx hb dL_trail_155 rfl (lv_at hl 1 rfl) ?_
        refine lv_iload hx hb dL_trail_156 (lv_at hl 8 rfl) ?_
        obtain ⟨q54, hq54, hf⟩ := Option.bind_eq_some_iff.mp hf
        refine h_Si0 (X' := []) (As := [.ref (o + 302), .int v10]) K hS lS_L_10 (by simp) (c_L_one v10 σ q54 hq54) rfl rfl (Nat.le_of_ble_eq_true rfl) ⟨rfl, rfl⟩ ⟨Nat.le_of_ble_eq_true rfl, Nat.le_of_ble_eq_true rfl⟩ hl.1 ⟨Nat.le_of_ble_eq_true rfl, Nat.le_of_ble_eq_true rfl⟩ dL_trail_158 (fun H locs hS => ?_)
        refine lv_iload hx hb dL_trail_161 (lv_at hl 5 rfl) ?_
        obtain ⟨J56, hJ56, hf⟩ := gLet_some hf
        have wJ56 : ∀  (s55 : gS), J56  s55 = some q → ∀ (H : Heap) (locs : List Loc) (ls : Array Slot), hSt G o [] s s55 H locs → lv_has ls 14 [(0, .ref (o + 0)), (1, .ref (o + 302)), (3, .ref (o + 306)), (4, .int w4), (5, .int w5), (6, .int w6), (8, .int w8), (9, .int w9), (10, .int v10)] → W p l e rmL_trail s m args below meth c H locs 0 0 (MQ below (hQi G o q) args s 0 0 (gA o 307)) (F0 m 177 ls []) := by
          intro  s55 hf H locs ls hS hl
          rw [hJ56] at hf
          refine lv_iconst (v := 1) hx hb dL_trail_177 (by decide) ?_
          refine lv_goto (tgt := 182) hx hb dL_trail_178 (by decide) ?_
          exact wJ29 1 s55 hf _ _ _ hS (lv_sub hl [0, 1, 2, 3, 4, 5, 6, 7, 8] rfl)
        clear hJ56
        refine lv_icmp_eq (tgt := 177) hx hb dL_trail_163 (by decide) (fun c57 => ?_) (fun c57 => ?_)
        · have hf := gIf_t c57 hf
          exact wJ56  q54.2 hf _ _ _ hS (lv_sub hl [0, 1, 2, 3, 4, 5, 6, 7, 8] rfl)
        · have hf := gIf_f c57 hf
          refine lv_aload_n hx hb dL_trail_166 rfl (lv_at hl 1 rfl) ?_
          refine lv_iload hx hb dL_trail_167 (lv_at hl 8 rfl) ?_
          obtain ⟨q58, hq58, hf⟩ := Option.bind_eq_some_iff.mp hf
          refine h_Si0 (X' := []) (As := [.ref (o + 302), .int v10]) K hS lS_L_16 (by simp) (c_L_two v10 q54.2 q58 hq58) rfl rfl (Nat.le_of_ble_eq_true rfl) ⟨rfl, rfl⟩ ⟨Nat.le_of_ble_eq_true rfl, Nat.le_of_ble_eq_true rfl⟩ hl.1 ⟨Nat.le_of_ble_eq_true rfl, Nat.le_of_ble_eq_true rfl⟩ dL_trail_169 (fun H locs hS => ?_)
          refine lv_iload hx hb dL_trail_172 (lv_at hl 5 rfl) ?_
          refine lv_icmp_ne (tgt := 181) hx hb dL_trail_174 (by decide) (fun c59 => ?_) (fun c59 => ?_)
          · have hf := gIf_f c59 hf
            exact wJ52  q58.2 hf _ _ _ hS (lv_sub hl [0, 1, 2, 3, 4, 5, 6, 7, 8] rfl)
          · have hf := gIf_t c59 hf
            exact wJ56  q58.2 hf _ _ _ hS (lv_sub hl [0, 1, 2, 3, 4, 5, 6, 7, 8] rfl)
set_option maxHeartbeats 4000000 in
set_option maxRecDepth 100000 in
theorem w_L_trail_L80 (w4 : Int32) (K314 : Int32 → gS → Option (Int32 × gS)) {q : Int32 × gS} (K : gK p s m args meth c G cL_trail 14 RL (some .boolean)) (hK314 : ∀ (k8 : Int32) (σ : gS), K314 k8 σ = some q → ∀ (H : Heap) (locs : List Loc) (ls : Array Slot), hSt G o [] s σ H locs → lv_has ls 14 [(0, .ref (o + 0)), (4, .int w4), (8, .int k8)] → W p l e rmL_trail s m args below meth c H locs 0 0 (MQ below (hQi G o q) args s 0 0 (gA o 307)) (F0 m 314 ls [])) : ∀ (n : Nat) (v5 : Int32) (v6 : Int32) (v8 : Int32) (σ : gS), f_L_trail_L80 w4 K314 n v5 v6 v8 σ = some q → ∀ (H : Heap) (locs : List Loc) (ls : Array Slot), hSt G o [] s σ H locs → lv_has ls 14 [(0, .ref (o + 0)), (1, .ref (o + 302)), (3, .ref (o + 306)), (4, .int w4), (5, .int v5), (6, .int v6), (8, .int v8)] → W p l e rmL_trail s m args below meth c H locs 0 0 (MQ below (hQi G o q) args s 0 0 (gA o 307)) (F0 m 80 ls []) := by
  obtain ⟨hx, hb, hml, hown, hts, -⟩ := id K
  intro n
  induction n with
  | zero =>
    intro v5 v6 v8 σ hf
    exact absurd (show (none : Option _) = some q from hf) (by simp)
  | succ n ih =>
    intro v5 v6 v8 σ hf H locs ls hS hl
    rw [f_L_trail_L80_s] at hf
    refine lv_iload hx hb dL_trail_80 (lv_at hl 4 rfl) ?_
    refine lv_if_eq (tgt := 314) hx hb dL_trail_82 (by decide) (fun c19 => ?_) (fun c19 => ?_)
    · have hf := gIf_t c19 hf
      exact hK314 v8 σ hf _ _ _ hS (lv_sub hl [0, 3, 6] rfl)
    · have hf := gIf_f c19 hf
      refine lv_aload_n hx hb dL_trail_85 rfl (lv_at hl 0 rfl) ?_
      refine lv_iload hx hb dL_trail_86 (lv_at hl 3 rfl) ?_
      refine lv_iload hx hb dL_trail_88 (lv_at hl 6 rfl) ?_
      obtain ⟨q20, hq20, hf⟩ := Option.bind_eq_some_iff.mp hf
      obtain ⟨s21, hs21, hf⟩ := gLet_some hf
      refine h_Vi (As := [.int w4, .int v8]) K hS lV_L_84 (c_X10_trail w4 v8 σ q20 hq20) rfl rfl (Nat.le_of_ble_eq_true rfl) ⟨⟨Nat.le_of_ble_eq_true rfl, Nat.le_of_ble_eq_true rfl⟩, rfl, rfl⟩ hl.1 ⟨Nat.le_of_ble_eq_true rfl, Nat.le_of_ble_eq_true rfl⟩ dL_trail_90 (fun H locs hS => ?_)
      rw [← hs21] at hS
      refine lv_istore (lv' := [(9, .int q20.1), (0, .ref (o + 0)), (1, .ref (o + 302)), (3, .ref (o + 306)), (4, .int w4), (5, .int v5), (6, .int v6), (8, .int v8)]) hx hb dL_trail_93 hl (by decide) rfl (fun ls hl => ?_)
      refine lv_iload hx hb dL_trail_95 (lv_at hl 0 rfl) ?_
      refine lv_if_lt (tgt := 132) hx hb dL_trail_97 (by decide) (fun c22 => ?_) (fun c22 => ?_)
      · have hf := gIf_t c22 hf
        refine lv_iconst (v := 0) hx hb dL_trail_132 (by decide) ?_
        exact h_zret K hS rfl hf dL_trail_133
      · have hf := gIf_f c22 hf
        refine lv_iload hx hb dL_trail_100 (lv_at hl 5 rfl) ?_
        refine lv_iload hx hb dL_trail_102 (lv_at hl 0 rfl) ?_
        refine lv_ishr hx hb dL_trail_104 ?_
        refine lv_iconst (v := 1) hx hb dL_trail_105 (by decide) ?_
        refine lv_iand hx hb dL_trail_106 ?_
        refine lv_if_eq (tgt := 132) hx hb dL_trail_107 (by decide) (fun c23 => ?_) (fun c23 => ?_)
        · have hf := gIf_t c23 hf
          refine lv_iconst (v := 0) hx hb dL_trail_132 (by decide) ?_
          exact h_zret K hS rfl hf dL_trail_133
        · have hf := gIf_f c23 hf
          refine lv_aload_n hx hb dL_trail_110 rfl (lv_at hl 2 rfl) ?_
          refine lv_iload hx hb dL_trail_111 (lv_at hl 0 rfl) ?_
          obtain ⟨q24, hq24, hf⟩ := Option.bind_eq_some_iff.mp hf
          refine h_Si0 (X' := []) (As := [.ref (o + 302), .int q20.1]) K hS lS_L_10 (by simp) (c_L_one q20.1 s21 q24 hq24) rfl rfl (Nat.le_of_ble_eq_true rfl) ⟨rfl, rfl⟩ ⟨Nat.le_of_ble_eq_true rfl, Nat.le_of_ble_eq_true rfl⟩ hl.1 ⟨Nat.le_of_ble_eq_true rfl, Nat.le_of_ble_eq_true rfl⟩ dL_trail_113 (fun H locs hS => ?_)
          refine lv_iload hx hb dL_trail_116 (lv_at hl 6 rfl) ?_
          refine lv_icmp_eq (tgt := 134) hx hb dL_trail_118 (by decide) (fun c25 => ?_) (fun c25 => ?_)
          · have hf := gIf_t c25 hf
            refine lv_iconst (v := 0) hx hb dL_trail_134 (by decide) ?_
            refine lv_istore (lv' := [(10, .int 0), (9, .int q20.1), (0, .ref (o + 0)), (1, .ref (o + 302)), (3, .ref (o + 306)), (4, .int w4), (5, .int v5), (6, .int v6), (8, .int v8)]) hx hb dL_trail_135 hl (by decide) rfl (fun ls hl => ?_)
            refine w_L_trail_L137 w4 v5 v6 v8 q20.1 _ K ?_ gFu 0 q24.2 hf _ _ _ hS (lv_sub hl [2, 3, 4, 5, 6, 7, 8, 1, 0] rfl)
            · intro  s60 hf H locs ls hS hl
              refine lv_iload hx hb dL_trail_269 (lv_at hl 4 rfl) ?_
              refine lv_iconst (v := 1) hx hb dL_trail_271 (by decide) ?_
              refine lv_iload hx hb dL_trail_272 (lv_at hl 7 rfl) ?_
              refine lv_ishl hx hb dL_trail_274 ?_
              refine lv_iconst (v := (-1)) hx hb dL_trail_275 (by decide) ?_
              refine lv_ixor hx hb dL_trail_276 ?_
              refine lv_iand hx hb dL_trail_277 ?_
              obtain ⟨x61, hx61, hf⟩ := gLet_some hf
              refine g_top hx61 ?_
              refine lv_istore (lv' := [(5, .int x61), (0, .ref (o + 0)), (1, .ref (o + 302)), (3, .ref (o + 306)), (4, .int w4), (6, .int v6), (8, .int v8), (9, .int q20.1)]) hx hb dL_trail_278 hl (by decide) rfl (fun ls hl => ?_)
              refine lv_aload_n hx hb dL_trail_280 rfl (lv_at hl 2 rfl) ?_
              refine lv_iload hx hb dL_trail_281 (lv_at hl 7 rfl) ?_
              obtain ⟨q62, hq62, hf⟩ := Option.bind_eq_some_iff.mp hf
              refine h_Si0 (X' := []) (As := [.ref (o + 302), .int q20.1]) K hS lS_L_10 (by simp) (c_L_one q20.1 s60 q62 hq62) rfl rfl (Nat.le_of_ble_eq_true rfl) ⟨rfl, rfl⟩ ⟨Nat.le_of_ble_eq_true rfl, Nat.le_of_ble_eq_true rfl⟩ hl.1 ⟨Nat.le_of_ble_eq_true rfl, Nat.le_of_ble_eq_true rfl⟩ dL_trail_283 (fun H locs hS => ?_)
              refine lv_iload hx hb dL_trail_286 (lv_at hl 5 rfl) ?_
              refine lv_icmp_ne (tgt := 300) hx hb dL_trail_288 (by decide) (fun c63 => ?_) (fun c63 => ?_)
              · have hf := gIf_f c63 hf
                refine lv_aload_n hx hb dL_trail_300 rfl (lv_at hl 2 rfl) ?_
                refine lv_iload hx hb dL_trail_301 (lv_at hl 7 rfl) ?_
                obtain ⟨q64, hq64, hf⟩ := Option.bind_eq_some_iff.mp hf
                refine h_Si0 (X' := []) (As := [.ref (o + 302), .int q20.1]) K hS lS_L_10 (by simp) (c_L_one q20.1 q62.2 q64 hq64) rfl rfl (Nat.le_of_ble_eq_true rfl) ⟨rfl, rfl⟩ ⟨Nat.le_of_ble_eq_true rfl, Nat.le_of_ble_eq_true rfl⟩ hl.1 ⟨Nat.le_of_ble_eq_true rfl, Nat.le_of_ble_eq_true rfl⟩ dL_trail_303 (fun H locs hS => ?_)
                refine lv_istore (lv' := [(6, .int q64.1), (5, .int x61), (0, .ref (o + 0)), (1, .ref (o + 302)), (3, .ref (o + 306)), (4, .int w4), (8, .int v8), (9, .int q20.1)]) hx hb dL_trail_306 hl (by decide) rfl (fun ls hl => ?_)
                refine lv_iinc (v := (v8 + 1)) (lv' := [(8, .int (v8 + 1)), (6, .int q64.1), (5, .int x61), (0, .ref (o + 0)), (1, .ref (o + 302)), (3, .ref (o + 306)), (4, .int w4), (9, .int q20.1)]) hx hb dL_trail_308 hl (k := 6) rfl rfl (by decide) rfl (fun ls hl => ?_)
                refine lv_goto (tgt := 80) hx hb dL_trail_311 (by decide) ?_
                exact ih x61 q64.1 (v8 + 1) q64.2 hf _ _ _ hS (lv_sub hl [3, 4, 5, 6, 2, 1, 0] rfl)
              · have hf := gIf_t c63 hf
                refine lv_aload_n hx hb dL_trail_291 rfl (lv_at hl 2 rfl) ?_
                refine lv_iload hx hb dL_trail_292 (lv_at hl 7 rfl) ?_
                obtain ⟨q65, hq65, hf⟩ := Option.bind_eq_some_iff.mp hf
                refine h_Si0 (X' := []) (As := [.ref (o + 302), .int q20.1]) K hS lS_L_16 (by simp) (c_L_two q20.1 q62.2 q65 hq65) rfl rfl (Nat.le_of_ble_eq_true rfl) ⟨rfl, rfl⟩ ⟨Nat.le_of_ble_eq_true rfl, Nat.le_of_ble_eq_true rfl⟩ hl.1 ⟨Nat.le_of_ble_eq_true rfl, Nat.le_of_ble_eq_true rfl⟩ dL_trail_294 (fun H locs hS => ?_)
                refine lv_goto (tgt := 306) hx hb dL_trail_297 (by decide) ?_
                refine lv_istore (lv' := [(6, .int q65.1), (5, .int x61), (0, .ref (o + 0)), (1, .ref (o + 302)), (3, .ref (o + 306)), (4, .int w4), (8, .int v8), (9, .int q20.1)]) hx hb dL_trail_306 hl (by decide) rfl (fun ls hl => ?_)
                refine lv_iinc (v := (v8 + 1)) (lv' := [(8, .int (v8 + 1)), (6, .int q65.1), (5, .int x61), (0, .ref (o + 0)), (1, .ref (o + 302)), (3, .ref (o + 306)), (4, .int w4), (9, .int q20.1)]) hx hb dL_trail_308 hl (k := 6) rfl rfl (by decide) rfl (fun ls hl => ?_)
                refine lv_goto (tgt := 80) hx hb dL_trail_311 (by decide) ?_
                exact ih x61 q65.1 (v8 + 1) q65.2 hf _ _ _ hS (lv_sub hl [3, 4, 5, 6, 2, 1, 0] rfl)
          · have hf := gIf_f c25 hf
            refine lv_aload_n hx hb dL_trail_121 rfl (lv_at hl 2 rfl) ?_
            refine lv_iload hx hb dL_trail_122 (lv_at hl 0 rfl) ?_
            obtain ⟨q66, hq66, hf⟩ := Option.bind_eq_some_iff.mp hf
            refine h_Si0 (X' := []) (As := [.ref (o + 302), .int q20.1]) K hS lS_L_16 (by simp) (c_L_two q20.1 q24.2 q66 hq66) rfl rfl (Nat.le_of_ble_eq_true rfl) ⟨rfl, rfl⟩ ⟨Nat.le_of_ble_eq_true rfl, Nat.le_of_ble_eq_true rfl⟩ hl.1 ⟨Nat.le_of_ble_eq_true rfl, Nat.le_of_ble_eq_true rfl⟩ dL_trail_124 (fun H locs hS => ?_)
            refine lv_iload hx hb dL_trail_127 (lv_at hl 6 rfl) ?_
            refine lv_icmp_eq (tgt := 134) hx hb dL_trail_129 (by decide) (fun c67 => ?_) (fun c67 => ?_)
            · have hf := gIf_t c67 hf
              refine lv_iconst (v := 0) hx hb dL_trail_134 (by decide) ?_
              refine lv_istore (lv' := [(10, .int 0), (9, .int q20.1), (0, .ref (o + 0)), (1, .ref (o + 302)), (3, .ref (o + 306)), (4, .int w4), (5, .int v5), (6, .int v6), (8, .int v8)]) hx hb dL_trail_135 hl (by decide) rfl (fun ls hl => ?_)
              refine w_L_trail_L137 w4 v5 v6 v8 q20.1 _ K ?_ gFu 0 q66.2 hf _ _ _ hS (lv_sub hl [2, 3, 4, 5, 6, 7, 8, 1, 0] rfl)
              · intro  s68 hf H locs ls hS hl
                refine lv_iload hx hb dL_trail_269 (lv_at hl 4 rfl) ?_
                refine lv_iconst (v := 1) hx hb dL_trail_271 (by decide) ?_
                refine lv_iload hx hb dL_trail_272 (lv_at hl 7 rfl) ?_
                refine lv_ishl hx hb dL_trail_274 ?_
                refine lv_iconst (v := (-1)) hx hb dL_trail_275 (by decide) ?_
                refine lv_ixor hx hb dL_trail_276 ?_
                refine lv_iand hx hb dL_trail_277 ?_
                obtain ⟨x69, hx69, hf⟩ := gLet_some hf
                refine g_top hx69 ?_
                refine lv_istore (lv' := [(5, .int x69), (0, .ref (o + 0)), (1, .ref (o + 302)), (3, .ref (o + 306)), (4, .int w4), (6, .int v6), (8, .int v8), (9, .int q20.1)]) hx hb dL_trail_278 hl (by decide) rfl (fun ls hl => ?_)
                refine lv_aload_n hx hb dL_trail_280 rfl (lv_at hl 2 rfl) ?_
                refine lv_iload hx hb dL_trail_281 (lv_at hl 7 rfl) ?_
                obtain ⟨q70, hq70, hf⟩ := Option.bind_eq_some_iff.mp hf
                refine h_Si0 (X' := []) (As := [.ref (o + 302), .int q20.1]) K hS lS_L_10 (by simp) (c_L_one q20.1 s68 q70 hq70) rfl rfl (Nat.le_of_ble_eq_true rfl) ⟨rfl, rfl⟩ ⟨Nat.le_of_ble_eq_true rfl, Nat.le_of_ble_eq_true rfl⟩ hl.1 ⟨Nat.le_of_ble_eq_true rfl, Nat.le_of_ble_eq_true rfl⟩ dL_trail_283 (fun H locs hS => ?_)
                refine lv_iload hx hb dL_trail_286 (lv_at hl 5 rfl) ?_
                refine lv_icmp_ne (tgt := 300) hx hb dL_trail_288 (by decide) (fun c71 => ?_) (fun c71 => ?_)
                · have hf := gIf_f c71 hf
                  refine lv_aload_n hx hb dL_trail_300 rfl (lv_at hl 2 rfl) ?_
                  refine lv_iload hx hb dL_trail_301 (lv_at hl 7 rfl) ?_
                  obtain ⟨q72, hq72, hf⟩ := Option.bind_eq_some_iff.mp hf
                  refine h_Si0 (X' := []) (As := [.ref (o + 302), .int q20.1]) K hS lS_L_10 (by simp) (c_L_one q20.1 q70.2 q72 hq72) rfl rfl (Nat.le_of_ble_eq_true rfl) ⟨rfl, rfl⟩ ⟨Nat.le_of_ble_eq_true rfl, Nat.le_of_ble_eq_true rfl⟩ hl.1 ⟨Nat.le_of_ble_eq_true rfl, Nat.le_of_ble_eq_true rfl⟩ dL_trail_303 (fun H locs hS => ?_)
                  refine lv_istore (lv' := [(6, .int q72.1), (5, .int x69), (0, .ref (o + 0)), (1, .ref (o + 302)), (3, .ref (o + 306)), (4, .int w4), (8, .int v8), (9, .int q20.1)]) hx hb dL_trail_306 hl (by decide) rfl (fun ls hl => ?_)
                  refine lv_iinc (v := (v8 + 1)) (lv' := [(8, .int (v8 + 1)), (6, .int q72.1), (5, .int x69), (0, .ref (o + 0)), (1, .ref (o + 302)), (3, .ref (o + 306)), (4, .int w4), (9, .int q20.1)]) hx hb dL_trail_308 hl (k := 6) rfl rfl (by decide) rfl (fun ls hl => ?_)
                  refine lv_goto (tgt := 80) hx hb dL_trail_311 (by decide) ?_
                  exact ih x69 q72.1 (v8 + 1) q72.2 hf _ _ _ hS (lv_sub hl [3, 4, 5, 6, 2, 1, 0] rfl)
                · have hf := gIf_t c71 hf
                  refine lv_aload_n hx hb dL_trail_291 rfl (lv_at hl 2 rfl) ?_
                  refine lv_iload hx hb dL_trail_292 (lv_at hl 7 rfl) ?_
                  obtain ⟨q73, hq73, hf⟩ := Option.bind_eq_some_iff.mp hf
                  refine h_Si0 (X' := []) (As := [.ref (o + 302), .int q20.1]) K hS lS_L_16 (by simp) (c_L_two q20.1 q70.2 q73 hq73) rfl rfl (Nat.le_of_ble_eq_true rfl) ⟨rfl, rfl⟩ ⟨Nat.le_of_ble_eq_true rfl, Nat.le_of_ble_eq_true rfl⟩ hl.1 ⟨Nat.le_of_ble_eq_true rfl, Nat.le_of_ble_eq_true rfl⟩ dL_trail_294 (fun H locs hS => ?_)
                  refine lv_goto (tgt := 306) hx hb dL_trail_297 (by decide) ?_
                  refine lv_istore (lv' := [(6, .int q73.1), (5, .int x69), (0, .ref (o + 0)), (1, .ref (o + 302)), (3, .ref (o + 306)), (4, .int w4), (8, .int v8), (9, .int q20.1)]) hx hb dL_trail_306 hl (by decide) rfl (fun ls hl => ?_)
                  refine lv_iinc (v := (v8 + 1)) (lv' := [(8, .int (v8 + 1)), (6, .int q73.1), (5, .int x69), (0, .ref (o + 0)), (1, .ref (o + 302)), (3, .ref (o + 306)), (4, .int w4), (9, .int q20.1)]) hx hb dL_trail_308 hl (k := 6) rfl rfl (by decide) rfl (fun ls hl => ?_)
                  refine lv_goto (tgt := 80) hx hb dL_trail_311 (by decide) ?_
                  exact ih x69 q73.1 (v8 + 1) q73.2 hf _ _ _ hS (lv_sub hl [3, 4, 5, 6, 2, 1, 0] rfl)
            · have hf := gIf_f c67 hf
              refine lv_iconst (v := 0) hx hb dL_trail_132 (by decide) ?_
              exact h_zret K hS rfl hf dL_trail_133
set_option maxHeartbeats 4000000 in
set_option maxRecDepth 100000 in
theorem c_L_trail (p0 : Int32) (σ : gS) (q : Int32 × gS) (hf : f_L_trail p0 σ = some q) : Met l yL_trail (gW yL_trail cL_trail 14 (some .boolean)) rmL_trail (hPc G o [] [.ref (o + 0), .ref (o + 302), .ref (o + 304), .ref (o + 306), .int p0] σ) (hQi G o q) 0 0 (gA o 307) := by
  refine h_met (by decide) ⟨rfl, rfl⟩ (fun p e s m args below meth c ls K hS hl => ?_) (Nat.le_of_ble_eq_true rfl)
  have K : gK p s m args meth c G cL_trail 14 RL (some .boolean) := K
  have hl : lv_has ls 14 [(0, .ref (o + 0)), (1, .ref (o + 302)), (2, .ref (o + 304)), (3, .ref (o + 306)), (4, .int p0)] := hl
  obtain ⟨hx, hb, hml, hown, hts, -⟩ := id K
  unfold f_L_trail at hf
  refine lv_aload_n hx hb dL_trail_0 rfl (lv_at hl 3 rfl) ?_
  obtain ⟨q1, hq1, hf⟩ := Option.bind_eq_some_iff.mp hf
  refine h_Si0 (X' := []) (As := [.ref (o + 306)]) K hS lS_L_21 (by simp) (c_L_all σ q1 hq1) rfl rfl (Nat.le_of_ble_eq_true rfl) ⟨rfl, rfl⟩ ⟨Nat.le_of_ble_eq_true rfl, Nat.le_of_ble_eq_true rfl⟩ hl.1 ⟨Nat.le_of_ble_eq_true rfl, Nat.le_of_ble_eq_true rfl⟩ dL_trail_1 (fun H locs hS => ?_)
  refine lv_aload_n hx hb dL_trail_4 rfl (lv_at hl 2 rfl) ?_
  refine lv_iconst (v := 4) hx hb dL_trail_5 (by decide) ?_
  refine lv_iload hx hb dL_trail_6 (lv_at hl 4 rfl) ?_
  refine lv_iadd hx hb dL_trail_8 ?_
  obtain ⟨h2, hf⟩ := gGd_some hf
  refine h_iald (cx := 304) K hS (eLL_304 G o) (by decide) h2 rfl dL_trail_9 ?_
  refine lv_iconst (v := (-1)) hx hb dL_trail_10 (by decide) ?_
  refine lv_ixor hx hb dL_trail_11 ?_
  refine lv_iand hx hb dL_trail_12 ?_
  obtain ⟨x3, hx3, hf⟩ := gLet_some hf
  refine g_top hx3 ?_
  refine lv_istore (lv' := [(5, .int x3), (0, .ref (o + 0)), (1, .ref (o + 302)), (2, .ref (o + 304)), (3, .ref (o + 306)), (4, .int p0)]) hx hb dL_trail_13 hl (by decide) rfl (fun ls hl => ?_)
  refine lv_aload_n hx hb dL_trail_15 rfl (lv_at hl 3 rfl) ?_
  refine lv_iload hx hb dL_trail_16 (lv_at hl 5 rfl) ?_
  obtain ⟨h4, hf⟩ := gGd_some hf
  refine h_iald (cx := 304) K hS (eLL_304 G o) (by decide) h4 rfl dL_trail_18 ?_
  obtain ⟨x5, hx5, hf⟩ := gLet_some hf
  refine g_top hx5 ?_
  refine lv_istore (lv' := [(6, .int x5), (5, .int x3), (0, .ref (o + 0)), (1, .ref (o + 302)), (2, .ref (o + 304)), (3, .ref (o + 306)), (4, .int p0)]) hx hb dL_trail_19 hl (by decide) rfl (fun ls hl => ?_)
  refine lv_aload_n hx hb dL_trail_21 rfl (lv_at hl 3 rfl) ?_
  refine lv_aload_n hx hb dL_trail_22 rfl (lv_at hl 5 rfl) ?_
  refine lv_iload hx hb dL_trail_23 (lv_at hl 0 rfl) ?_
  refine lv_iload hx hb dL_trail_25 (lv_at hl 1 rfl) ?_
  obtain ⟨q6, hq6, hf⟩ := Option.bind_eq_some_iff.mp hf
  refine h_Si0 (X' := []) (As := [.ref (o + 302), .ref (o + 306), .int x5, .int x3]) K hS lS_L_78 (by simp) (c_L_reason x5 x3 q1.2 q6 hq6) rfl rfl (Nat.le_of_ble_eq_true rfl) ⟨rfl, rfl⟩ ⟨Nat.le_of_ble_eq_true rfl, Nat.le_of_ble_eq_true rfl⟩ hl.1 ⟨Nat.le_of_ble_eq_true rfl, Nat.le_of_ble_eq_true rfl⟩ dL_trail_27 (fun H locs hS => ?_)
  refine lv_istore (lv' := [(7, .int q6.1), (6, .int x5), (5, .int x3), (0, .ref (o + 0)), (1, .ref (o + 302)), (2, .ref (o + 304)), (3, .ref (o + 306)), (4, .int p0)]) hx hb dL_trail_30 hl (by decide) rfl (fun ls hl => ?_)
  refine lv_aload_n hx hb dL_trail_32 rfl (lv_at hl 3 rfl) ?_
  refine lv_iload hx hb dL_trail_33 (lv_at hl 7 rfl) ?_
  obtain ⟨q7, hq7, hf⟩ := Option.bind_eq_some_iff.mp hf
  obtain ⟨s8, hs8, hf⟩ := gLet_some hf
  refine h_Vi (As := [.int p0]) K hS lV_L_81 (c_X10_reason p0 q6.2 q7 hq7) rfl rfl (Nat.le_of_ble_eq_true rfl) ⟨⟨Nat.le_of_ble_eq_true rfl, Nat.le_of_ble_eq_true rfl⟩, rfl, rfl⟩ hl.1 ⟨Nat.le_of_ble_eq_true rfl, Nat.le_of_ble_eq_true rfl⟩ dL_trail_35 (fun H locs hS => ?_)
  rw [← hs8] at hS
  refine lv_iload hx hb dL_trail_38 (lv_at hl 0 rfl) ?_
  obtain ⟨J10, hJ10, hf⟩ := gLet_some hf
  have wJ10 : ∀  (s9 : gS), J10  s9 = some q → ∀ (H : Heap) (locs : List Loc) (ls : Array Slot), hSt G o [] s s9 H locs → lv_has ls 14 [(0, .ref (o + 0)), (4, .int p0), (7, .int q6.1)] → W p l e rmL_trail s m args below meth c H locs 0 0 (MQ below (hQi G o q) args s 0 0 (gA o 307)) (F0 m 48 ls []) := by
    intro  s9 hf H locs ls hS hl
    rw [hJ10] at hf
    refine lv_aload_n hx hb dL_trail_48 rfl (lv_at hl 0 rfl) ?_
    refine lv_iload hx hb dL_trail_49 (lv_at hl 1 rfl) ?_
    obtain ⟨q11, hq11, hf⟩ := Option.bind_eq_some_iff.mp hf
    obtain ⟨s12, hs12, hf⟩ := gLet_some hf
    refine h_Vi (As := [.int p0]) K hS lV_L_81 (c_X10_reason p0 s9 q11 hq11) rfl rfl (Nat.le_of_ble_eq_true rfl) ⟨⟨Nat.le_of_ble_eq_true rfl, Nat.le_of_ble_eq_true rfl⟩, rfl, rfl⟩ hl.1 ⟨Nat.le_of_ble_eq_true rfl, Nat.le_of_ble_eq_true rfl⟩ dL_trail_51 (fun H locs hS => ?_)
    rw [← hs12] at hS
    refine lv_iload hx hb dL_trail_54 (lv_at hl 2 rfl) ?_
    refine lv_icmp_ne (tgt := 75) hx hb dL_trail_56 (by decide) (fun c13 => ?_) (fun c13 => ?_)
    · have hf := gIf_f c13 hf
      refine lv_iconst (v := 0) hx hb dL_trail_75 (by decide) ?_
      exact h_zret K hS rfl hf dL_trail_76
    · have hf := gIf_t c13 hf
      refine lv_aload_n hx hb dL_trail_59 rfl (lv_at hl 0 rfl) ?_
      refine lv_iload hx hb dL_trail_60 (lv_at hl 1 rfl) ?_
      refine lv_iconst (v := 0) hx hb dL_trail_62 (by decide) ?_
      obtain ⟨q14, hq14, hf⟩ := Option.bind_eq_some_iff.mp hf
      obtain ⟨s15, hs15, hf⟩ := gLet_some hf
      refine h_Vi (As := [.int p0, .int 0]) K hS lV_L_84 (c_X10_trail p0 0 s12 q14 hq14) rfl rfl (Nat.le_of_ble_eq_true rfl) ⟨⟨Nat.le_of_ble_eq_true rfl, Nat.le_of_ble_eq_true rfl⟩, rfl, rfl⟩ hl.1 ⟨Nat.le_of_ble_eq_true rfl, Nat.le_of_ble_eq_true rfl⟩ dL_trail_63 (fun H locs hS => ?_)
      rw [← hs15] at hS
      refine lv_bipush (v := (-5)) hx hb dL_trail_66 (by decide) ?_
      refine lv_icmp_ne (tgt := 75) hx hb dL_trail_68 (by decide) (fun c16 => ?_) (fun c16 => ?_)
      · have hf := gIf_f c16 hf
        refine lv_iconst (v := 0) hx hb dL_trail_75 (by decide) ?_
        exact h_zret K hS rfl hf dL_trail_76
      · have hf := gIf_t c16 hf
        refine lv_iconst (v := 1) hx hb dL_trail_71 (by decide) ?_
        refine lv_goto (tgt := 76) hx hb dL_trail_72 (by decide) ?_
        exact h_zret K hS rfl hf dL_trail_76
  clear hJ10
  refine lv_icmp_ne (tgt := 48) hx hb dL_trail_40 (by decide) (fun c17 => ?_) (fun c17 => ?_)
  · have hf := gIf_f c17 hf
    exact wJ10  s8 hf _ _ _ hS (lv_sub hl [3, 7, 0] rfl)
  · have hf := gIf_t c17 hf
    refine lv_iload hx hb dL_trail_43 (lv_at hl 0 rfl) ?_
    refine lv_if_eq (tgt := 77) hx hb dL_trail_45 (by decide) (fun c18 => ?_) (fun c18 => ?_)
    · have hf := gIf_t c18 hf
      refine lv_iconst (v := 0) hx hb dL_trail_77 (by decide) ?_
      refine lv_istore (lv' := [(8, .int 0), (7, .int q6.1), (6, .int x5), (5, .int x3), (0, .ref (o + 0)), (1, .ref (o + 302)), (2, .ref (o + 304)), (3, .ref (o + 306)), (4, .int p0)]) hx hb dL_trail_78 hl (by decide) rfl (fun ls hl => ?_)
      refine w_L_trail_L80 p0 _ K ?_ gFu x3 x5 0 s8 hf _ _ _ hS (lv_sub hl [4, 5, 7, 8, 3, 2, 0] rfl)
      · intro k74 s75 hf H locs ls hS hl
        refine lv_aload_n hx hb dL_trail_314 rfl (lv_at hl 0 rfl) ?_
        refine lv_iload hx hb dL_trail_315 (lv_at hl 1 rfl) ?_
        refine lv_iload hx hb dL_trail_317 (lv_at hl 2 rfl) ?_
        obtain ⟨q76, hq76, hf⟩ := Option.bind_eq_some_iff.mp hf
        obtain ⟨s77, hs77, hf⟩ := gLet_some hf
        refine h_Vi (As := [.int p0, .int k74]) K hS lV_L_84 (c_X10_trail p0 k74 s75 q76 hq76) rfl rfl (Nat.le_of_ble_eq_true rfl) ⟨⟨Nat.le_of_ble_eq_true rfl, Nat.le_of_ble_eq_true rfl⟩, rfl, rfl⟩ hl.1 ⟨Nat.le_of_ble_eq_true rfl, Nat.le_of_ble_eq_true rfl⟩ dL_trail_319 (fun H locs hS => ?_)
        rw [← hs77] at hS
        refine lv_bipush (v := (-6)) hx hb dL_trail_322 (by decide) ?_
        refine lv_icmp_ne (tgt := 331) hx hb dL_trail_324 (by decide) (fun c78 => ?_) (fun c78 => ?_)
        · have hf := gIf_f c78 hf
          refine lv_iconst (v := 0) hx hb dL_trail_331 (by decide) ?_
          exact h_zret K hS rfl hf dL_trail_332
        · have hf := gIf_t c78 hf
          refine lv_iconst (v := 1) hx hb dL_trail_327 (by decide) ?_
          refine lv_goto (tgt := 332) hx hb dL_trail_328 (by decide) ?_
          exact h_zret K hS rfl hf dL_trail_332
    · have hf := gIf_f c18 hf
      exact wJ10  s8 hf _ _ _ hS (lv_sub hl [3, 7, 0] rfl)
abbrev rmL_pairs : Room := { frames := 2, cells := 0, slots := 0, locals := 50 }
def f_L_pairs_L5 (w2 : Int32) : Nat → Int32 → Int32 → gS → Option (Int32 × gS)
  | 0, _, _, _ => none
  | n + 1, v3, v4, σ => if 100 ≤ v4 then (some (v3, σ)) else (if (v4 / 10) ≤ (v4 - v4 / 10 * 10) then (f_L_pairs_L5 w2 n (v3 + 0) (v4 + 1) σ) else (Option.bind (f_L_reach (v4 / 10) w2 9 σ) (fun q3 => gLet (v3 + ((q3.1 >>> ((v4 - v4 / 10 * 10) &&& 31)) &&& 1)) (fun x4 => f_L_pairs_L5 w2 n x4 (v4 + 1) q3.2))))
theorem f_L_pairs_L5_s (w2 : Int32) (n : Nat) (v3 : Int32) (v4 : Int32) (σ : gS) : f_L_pairs_L5 w2 (n + 1) v3 v4 σ = (if 100 ≤ v4 then (some (v3, σ)) else (if (v4 / 10) ≤ (v4 - v4 / 10 * 10) then (f_L_pairs_L5 w2 n (v3 + 0) (v4 + 1) σ) else (Option.bind (f_L_reach (v4 / 10) w2 9 σ) (fun q3 => gLet (v3 + ((q3.1 >>> ((v4 - v4 / 10 * 10) &&& 31)) &&& 1)) (fun x4 => f_L_pairs_L5 w2 n x4 (v4 + 1) q3.2))))) := rfl
def f_L_pairs (p0 : Int32) (σ : gS) : Option (Int32 × gS) := f_L_pairs_L5 p0 gFu 0 0 σ
set_option maxHeartbeats 4000000 in
set_option maxRecDepth 100000 in
theorem w_L_pairs_L5 (w2 : Int32) {q : Int32 × gS} (K : gK p s m args meth c G cL_pairs 5 RL (some .int)) : ∀ (n : Nat) (v3 : Int32) (v4 : Int32) (σ : gS), f_L_pairs_L5 w2 n v3 v4 σ = some q → ∀ (H : Heap) (locs : List Loc) (ls : Array Slot), hSt G o [] s σ H locs → lv_has ls 5 [(0, .ref (o + 302)), (1, .ref (o + 306)), (2, .int w2), (3, .int v3), (4, .int v4)] → W p l e rmL_pairs s m args below meth c H locs 0 0 (MQ below (hQi G o q) args s 0 0 (gA o 307)) (F0 m 5 ls []) := by
  obtain ⟨hx, hb, hml, hown, hts, -⟩ := id K
  intro n
  induction n with
  | zero =>
    intro v3 v4 σ hf
    exact absurd (show (none : Option _) = some q from hf) (by simp)
  | succ n ih =>
    intro v3 v4 σ hf H locs ls hS hl
    rw [f_L_pairs_L5_s] at hf
    refine lv_iload hx hb dL_pairs_5 (lv_at hl 4 rfl) ?_
    refine lv_bipush (v := 100) hx hb dL_pairs_7 (by decide) ?_
    refine lv_icmp_ge (tgt := 59) hx hb dL_pairs_9 (by decide) (fun c1 => ?_) (fun c1 => ?_)
    · have hf := gIf_t c1 hf
      refine lv_iload_n hx hb dL_pairs_59 rfl (lv_at hl 3 rfl) ?_
      exact h_iret K hS hf dL_pairs_60
    · have hf := gIf_f c1 hf
      refine lv_iload_n hx hb dL_pairs_12 rfl (lv_at hl 3 rfl) ?_
      refine lv_iload hx hb dL_pairs_13 (lv_at hl 4 rfl) ?_
      refine lv_bipush (v := 10) hx hb dL_pairs_15 (by decide) ?_
      refine lv_irem hx hb dL_pairs_17 (by decide) ?_
      refine lv_iload hx hb dL_pairs_18 (lv_at hl 4 rfl) ?_
      refine lv_bipush (v := 10) hx hb dL_pairs_20 (by decide) ?_
      refine lv_idiv hx hb dL_pairs_22 (by decide) ?_
      refine lv_icmp_ge (tgt := 50) hx hb dL_pairs_23 (by decide) (fun c2 => ?_) (fun c2 => ?_)
      · have hf := gIf_t c2 hf
        refine lv_iconst (v := 0) hx hb dL_pairs_50 (by decide) ?_
        refine lv_iadd hx hb dL_pairs_51 ?_
        refine lv_istore_n (lv' := [(3, .int (v3 + 0)), (0, .ref (o + 302)), (1, .ref (o + 306)), (2, .int w2), (4, .int v4)]) hx hb dL_pairs_52 rfl hl (by decide) rfl (fun ls hl => ?_)
        refine lv_iinc (v := (v4 + 1)) (lv' := [(4, .int (v4 + 1)), (3, .int (v3 + 0)), (0, .ref (o + 302)), (1, .ref (o + 306)), (2, .int w2)]) hx hb dL_pairs_53 hl (k := 4) rfl rfl (by decide) rfl (fun ls hl => ?_)
        refine lv_goto (tgt := 5) hx hb dL_pairs_56 (by decide) ?_
        exact ih (v3 + 0) (v4 + 1) σ hf _ _ _ hS (lv_sub hl [2, 3, 4, 1, 0] rfl)
      · have hf := gIf_f c2 hf
        refine lv_aload_n hx hb dL_pairs_26 rfl (lv_at hl 0 rfl) ?_
        refine lv_aload_n hx hb dL_pairs_27 rfl (lv_at hl 1 rfl) ?_
        refine lv_iload hx hb dL_pairs_28 (lv_at hl 4 rfl) ?_
        refine lv_bipush (v := 10) hx hb dL_pairs_30 (by decide) ?_
        refine lv_idiv hx hb dL_pairs_32 (by decide) ?_
        refine lv_iload_n hx hb dL_pairs_33 rfl (lv_at hl 2 rfl) ?_
        refine lv_bipush (v := 9) hx hb dL_pairs_34 (by decide) ?_
        obtain ⟨q3, hq3, hf⟩ := Option.bind_eq_some_iff.mp hf
        refine h_Si0 (X' := []) (As := [.ref (o + 302), .ref (o + 306), .int (v4 / 10), .int w2, .int 9]) K hS lS_L_25 (by simp) (c_L_reach (v4 / 10) w2 9 σ q3 hq3) rfl rfl (Nat.le_of_ble_eq_true rfl) ⟨rfl, rfl⟩ ⟨Nat.le_of_ble_eq_true rfl, Nat.le_of_ble_eq_true rfl⟩ hl.1 ⟨Nat.le_of_ble_eq_true rfl, Nat.le_of_ble_eq_true rfl⟩ dL_pairs_36 (fun H locs hS => ?_)
        refine lv_iload hx hb dL_pairs_39 (lv_at hl 4 rfl) ?_
        refine lv_bipush (v := 10) hx hb dL_pairs_41 (by decide) ?_
        refine lv_irem hx hb dL_pairs_43 (by decide) ?_
        refine lv_ishr hx hb dL_pairs_44 ?_
        refine lv_iconst (v := 1) hx hb dL_pairs_45 (by decide) ?_
        refine lv_iand hx hb dL_pairs_46 ?_
        refine lv_goto (tgt := 51) hx hb dL_pairs_47 (by decide) ?_
        refine lv_iadd hx hb dL_pairs_51 ?_
        obtain ⟨x4, hx4, hf⟩ := gLet_some hf
        refine g_top hx4 ?_
        refine lv_istore_n (lv' := [(3, .int x4), (0, .ref (o + 302)), (1, .ref (o + 306)), (2, .int w2), (4, .int v4)]) hx hb dL_pairs_52 rfl hl (by decide) rfl (fun ls hl => ?_)
        refine lv_iinc (v := (v4 + 1)) (lv' := [(4, .int (v4 + 1)), (3, .int x4), (0, .ref (o + 302)), (1, .ref (o + 306)), (2, .int w2)]) hx hb dL_pairs_53 hl (k := 4) rfl rfl (by decide) rfl (fun ls hl => ?_)
        refine lv_goto (tgt := 5) hx hb dL_pairs_56 (by decide) ?_
        exact ih x4 (v4 + 1) q3.2 hf _ _ _ hS (lv_sub hl [2, 3, 4, 1, 0] rfl)
set_option maxHeartbeats 4000000 in
set_option maxRecDepth 100000 in
theorem c_L_pairs (p0 : Int32) (σ : gS) (q : Int32 × gS) (hf : f_L_pairs p0 σ = some q) : Met l yL_pairs (gW yL_pairs cL_pairs 5 (some .int)) rmL_pairs (hPc G o [] [.ref (o + 302), .ref (o + 306), .int p0] σ) (hQi G o q) 0 0 (gA o 307) := by
  refine h_met (by decide) ⟨rfl, rfl⟩ (fun p e s m args below meth c ls K hS hl => ?_) (Nat.le_of_ble_eq_true rfl)
  have K : gK p s m args meth c G cL_pairs 5 RL (some .int) := K
  have hl : lv_has ls 5 [(0, .ref (o + 302)), (1, .ref (o + 306)), (2, .int p0)] := hl
  obtain ⟨hx, hb, hml, hown, hts, -⟩ := id K
  unfold f_L_pairs at hf
  refine lv_iconst (v := 0) hx hb dL_pairs_0 (by decide) ?_
  refine lv_istore_n (lv' := [(3, .int 0), (0, .ref (o + 302)), (1, .ref (o + 306)), (2, .int p0)]) hx hb dL_pairs_1 rfl hl (by decide) rfl (fun ls hl => ?_)
  refine lv_iconst (v := 0) hx hb dL_pairs_2 (by decide) ?_
  refine lv_istore (lv' := [(4, .int 0), (3, .int 0), (0, .ref (o + 302)), (1, .ref (o + 306)), (2, .int p0)]) hx hb dL_pairs_3 hl (by decide) rfl (fun ls hl => ?_)
  refine w_L_pairs_L5 p0 K gFu 0 0 σ hf _ _ _ hS (lv_sub hl [2, 3, 4, 1, 0] rfl)
abbrev rmL_gap : Room := { frames := 5, cells := 0, slots := 0, locals := 119 }
def f_L_gap_L25 (w3 : Int32) (K98 : Int32 → Int32 → gS → Option (Int32 × gS)) : Nat → Int32 → Int32 → Int32 → gS → Option (Int32 × gS)
  | 0, _, _, _, _ => none
  | n + 1, v4, v5, v6, σ => if v6 < 0 then (K98 v4 v5 σ) else (Option.bind (f_L_all σ) (fun q5 => Option.bind (f_L_pairs (q5.1 &&& ((1 <<< (v6 &&& 31)) ^^^ (-1))) q5.2) (fun q6 => gLet (w3 - q6.1) (fun x7 => gLet (fun (j8 : Int32) (s9 : gS) => if x7 ≤ 0 then (f_L_gap_L25 w3 K98 n j8 v5 (v6 + (-1)) s9) else (if x7 < v5 then (f_L_gap_L25 w3 K98 n j8 v5 (v6 + (-1)) s9) else (f_L_gap_L25 w3 K98 n j8 x7 (v6 + (-1)) s9))) (fun J10 => gLet (fun  (s13 : gS) => J10 v4 s13) (fun J14 => if x7 ≤ 0 then (J14 q6.2) else (if x7 < v5 then (J14 q6.2) else (J10 v6 q6.2))))))))
theorem f_L_gap_L25_s (w3 : Int32) (K98 : Int32 → Int32 → gS → Option (Int32 × gS)) (n : Nat) (v4 : Int32) (v5 : Int32) (v6 : Int32) (σ : gS) : f_L_gap_L25 w3 K98 (n + 1) v4 v5 v6 σ = (if v6 < 0 then (K98 v4 v5 σ) else (Option.bind (f_L_all σ) (fun q5 => Option.bind (f_L_pairs (q5.1 &&& ((1 <<< (v6 &&& 31)) ^^^ (-1))) q5.2) (fun q6 => gLet (w3 - q6.1) (fun x7 => gLet (fun (j8 : Int32) (s9 : gS) => if x7 ≤ 0 then (f_L_gap_L25 w3 K98 n j8 v5 (v6 + (-1)) s9) else (if x7 < v5 then (f_L_gap_L25 w3 K98 n j8 v5 (v6 + (-1)) s9) else (f_L_gap_L25 w3 K98 n j8 x7 (v6 + (-1)) s9))) (fun J10 => gLet (fun (s13 : gS) => J10 v4 s13) (fun J14 => if x7 ≤ 0 then (J14 q6.2) else (if x7 < v5 then (J14 q6.2) else (J10 v6 q6.2))))))))) := rfl
def f_L_gap (σ : gS) : Option (Int32 × gS) := Option.bind (f_L_all σ) (fun q1 => Option.bind (f_L_pairs q1.1 q1.2) (fun q2 => gLet ((q2.2 306 4) - 1) (fun x3 => f_L_gap_L25 q2.1 (fun (k17 : Int32) (k18 : Int32) (s19 : gS) => Option.bind (f_X10_worstGap 0 s19) (fun q20 => gLet (gMix s19 q20.2) (fun s21 => if q20.1 = k17 then (Option.bind (f_X10_worstGap 1 s21) (fun q23 => gLet (gMix s21 q23.2) (fun s24 => if q23.1 = k18 then (some (1, s24)) else (some (0, s24))))) else (some (0, s21))))) gFu (-6) (-6) x3 q2.2)))
set_option maxHeartbeats 4000000 in
set_option maxRecDepth 100000 in
theorem w_L_gap_L25 (w3 : Int32) (K98 : Int32 → Int32 → gS → Option (Int32 × gS)) {q : Int32 × gS} (K : gK p s m args meth c G cL_gap 8 RL (some .boolean)) (hK98 : ∀ (k4 : Int32) (k5 : Int32) (σ : gS), K98 k4 k5 σ = some q → ∀ (H : Heap) (locs : List Loc) (ls : Array Slot), hSt G o [] s σ H locs → lv_has ls 8 [(0, .ref (o + 0)), (4, .int k4), (5, .int k5)] → W p l e rmL_gap s m args below meth c H locs 0 0 (MQ below (hQi G o q) args s 0 0 (gA o 307)) (F0 m 98 ls [])) : ∀ (n : Nat) (v4 : Int32) (v5 : Int32) (v6 : Int32) (σ : gS), f_L_gap_L25 w3 K98 n v4 v5 v6 σ = some q → ∀ (H : Heap) (locs : List Loc) (ls : Array Slot), hSt G o [] s σ H locs → lv_has ls 8 [(0, .ref (o + 0)), (1, .ref (o + 302)), (2, .ref (o + 306)), (3, .int w3), (4, .int v4), (5, .int v5), (6, .int v6)] → W p l e rmL_gap s m args below meth c H locs 0 0 (MQ below (hQi G o q) args s 0 0 (gA o 307)) (F0 m 25 ls []) := by
  obtain ⟨hx, hb, hml, hown, hts, -⟩ := id K
  intro n
  induction n with
  | zero =>
    intro v4 v5 v6 σ hf
    exact absurd (show (none : Option _) = some q from hf) (by simp)
  | succ n ih =>
    intro v4 v5 v6 σ hf H locs ls hS hl
    rw [f_L_gap_L25_s] at hf
    refine lv_iload hx hb dL_gap_25 (lv_at hl 6 rfl) ?_
    refine lv_if_lt (tgt := 98) hx hb dL_gap_27 (by decide) (fun c4 => ?_) (fun c4 => ?_)
    · have hf := gIf_t c4 hf
      exact hK98 v4 v5 σ hf _ _ _ hS (lv_sub hl [0, 4, 5] rfl)
    · have hf := gIf_f c4 hf
      refine lv_iload_n hx hb dL_gap_30 rfl (lv_at hl 3 rfl) ?_
      refine lv_aload_n hx hb dL_gap_31 rfl (lv_at hl 1 rfl) ?_
      refine lv_aload_n hx hb dL_gap_32 rfl (lv_at hl 2 rfl) ?_
      refine lv_aload_n hx hb dL_gap_33 rfl (lv_at hl 2 rfl) ?_
      obtain ⟨q5, hq5, hf⟩ := Option.bind_eq_some_iff.mp hf
      refine h_Si0 (X' := []) (As := [.ref (o + 306)]) K hS lS_L_21 (by simp) (c_L_all σ q5 hq5) rfl rfl (Nat.le_of_ble_eq_true rfl) ⟨rfl, rfl⟩ ⟨Nat.le_of_ble_eq_true rfl, Nat.le_of_ble_eq_true rfl⟩ hl.1 ⟨Nat.le_of_ble_eq_true rfl, Nat.le_of_ble_eq_true rfl⟩ dL_gap_34 (fun H locs hS => ?_)
      refine lv_iconst (v := 1) hx hb dL_gap_37 (by decide) ?_
      refine lv_iload hx hb dL_gap_38 (lv_at hl 6 rfl) ?_
      refine lv_ishl hx hb dL_gap_40 ?_
      refine lv_iconst (v := (-1)) hx hb dL_gap_41 (by decide) ?_
      refine lv_ixor hx hb dL_gap_42 ?_
      refine lv_iand hx hb dL_gap_43 ?_
      obtain ⟨q6, hq6, hf⟩ := Option.bind_eq_some_iff.mp hf
      refine h_Si0 (X' := []) (As := [.ref (o + 302), .ref (o + 306), .int (q5.1 &&& ((1 <<< (v6 &&& 31)) ^^^ (-1)))]) K hS lS_L_87 (by simp) (c_L_pairs (q5.1 &&& ((1 <<< (v6 &&& 31)) ^^^ (-1))) q5.2 q6 hq6) rfl rfl (Nat.le_of_ble_eq_true rfl) ⟨rfl, rfl⟩ ⟨Nat.le_of_ble_eq_true rfl, Nat.le_of_ble_eq_true rfl⟩ hl.1 ⟨Nat.le_of_ble_eq_true rfl, Nat.le_of_ble_eq_true rfl⟩ dL_gap_44 (fun H locs hS => ?_)
      refine lv_isub hx hb dL_gap_47 ?_
      obtain ⟨x7, hx7, hf⟩ := gLet_some hf
      refine g_top hx7 ?_
      refine lv_istore (lv' := [(7, .int x7), (0, .ref (o + 0)), (1, .ref (o + 302)), (2, .ref (o + 306)), (3, .int w3), (4, .int v4), (5, .int v5), (6, .int v6)]) hx hb dL_gap_48 hl (by decide) rfl (fun ls hl => ?_)
      refine lv_iload hx hb dL_gap_50 (lv_at hl 0 rfl) ?_
      obtain ⟨J10, hJ10, hf⟩ := gLet_some hf
      have wJ10 : ∀ (j8 : Int32) (s9 : gS), J10 j8 s9 = some q → ∀ (H : Heap) (locs : List Loc) (ls : Array Slot), hSt G o [] s s9 H locs → lv_has ls 8 [(0, .ref (o + 0)), (1, .ref (o + 302)), (2, .ref (o + 306)), (3, .int w3), (5, .int v5), (6, .int v6), (7, .int x7)] → W p l e rmL_gap s m args below meth c H locs 0 0 (MQ below (hQi G o q) args s 0 0 (gA o 307)) (F0 m 69 ls [.int j8]) := by
        intro j8 s9 hf H locs ls hS hl
        rw [hJ10] at hf
        refine lv_istore (lv' := [(4, .int j8), (0, .ref (o + 0)), (1, .ref (o + 302)), (2, .ref (o + 306)), (3, .int w3), (5, .int v5), (6, .int v6), (7, .int x7)]) hx hb dL_gap_69 hl (by decide) rfl (fun ls hl => ?_)
        refine lv_iload hx hb dL_gap_71 (lv_at hl 7 rfl) ?_
        refine lv_if_le (tgt := 88) hx hb dL_gap_73 (by decide) (fun c11 => ?_) (fun c11 => ?_)
        · have hf := gIf_t c11 hf
          refine lv_iload hx hb dL_gap_88 (lv_at hl 5 rfl) ?_
          refine lv_istore (lv' := [(5, .int v5), (4, .int j8), (0, .ref (o + 0)), (1, .ref (o + 302)), (2, .ref (o + 306)), (3, .int w3), (6, .int v6), (7, .int x7)]) hx hb dL_gap_90 hl (by decide) rfl (fun ls hl => ?_)
          refine lv_iinc (v := (v6 + (-1))) (lv' := [(6, .int (v6 + (-1))), (5, .int v5), (4, .int j8), (0, .ref (o + 0)), (1, .ref (o + 302)), (2, .ref (o + 306)), (3, .int w3), (7, .int x7)]) hx hb dL_gap_92 hl (k := 6) rfl rfl (by decide) rfl (fun ls hl => ?_)
          refine lv_goto (tgt := 25) hx hb dL_gap_95 (by decide) ?_
          exact ih j8 v5 (v6 + (-1)) s9 hf _ _ _ hS (lv_sub hl [3, 4, 5, 6, 2, 1, 0] rfl)
        · have hf := gIf_f c11 hf
          refine lv_iload hx hb dL_gap_76 (lv_at hl 7 rfl) ?_
          refine lv_iload hx hb dL_gap_78 (lv_at hl 5 rfl) ?_
          refine lv_icmp_lt (tgt := 88) hx hb dL_gap_80 (by decide) (fun c12 => ?_) (fun c12 => ?_)
          · have hf := gIf_t c12 hf
            refine lv_iload hx hb dL_gap_88 (lv_at hl 5 rfl) ?_
            refine lv_istore (lv' := [(5, .int v5), (4, .int j8), (0, .ref (o + 0)), (1, .ref (o + 302)), (2, .ref (o + 306)), (3, .int w3), (6, .int v6), (7, .int x7)]) hx hb dL_gap_90 hl (by decide) rfl (fun ls hl => ?_)
            refine lv_iinc (v := (v6 + (-1))) (lv' := [(6, .int (v6 + (-1))), (5, .int v5), (4, .int j8), (0, .ref (o + 0)), (1, .ref (o + 302)), (2, .ref (o + 306)), (3, .int w3), (7, .int x7)]) hx hb dL_gap_92 hl (k := 6) rfl rfl (by decide) rfl (fun ls hl => ?_)
            refine lv_goto (tgt := 25) hx hb dL_gap_95 (by decide) ?_
            exact ih j8 v5 (v6 + (-1)) s9 hf _ _ _ hS (lv_sub hl [3, 4, 5, 6, 2, 1, 0] rfl)
          · have hf := gIf_f c12 hf
            refine lv_iload hx hb dL_gap_83 (lv_at hl 7 rfl) ?_
            refine lv_goto (tgt := 90) hx hb dL_gap_85 (by decide) ?_
            refine lv_istore (lv' := [(5, .int x7), (4, .int j8), (0, .ref (o + 0)), (1, .ref (o + 302)), (2, .ref (o + 306)), (3, .int w3), (6, .int v6), (7, .int x7)]) hx hb dL_gap_90 hl (by decide) rfl (fun ls hl => ?_)
            refine lv_iinc (v := (v6 + (-1))) (lv' := [(6, .int (v6 + (-1))), (5, .int x7), (4, .int j8), (0, .ref (o + 0)), (1, .ref (o + 302)), (2, .ref (o + 306)), (3, .int w3), (7, .int x7)]) hx hb dL_gap_92 hl (k := 6) rfl rfl (by decide) rfl (fun ls hl => ?_)
            refine lv_goto (tgt := 25) hx hb dL_gap_95 (by decide) ?_
            exact ih j8 x7 (v6 + (-1)) s9 hf _ _ _ hS (lv_sub hl [3, 4, 5, 6, 2, 1, 0] rfl)
      clear hJ10
      obtain ⟨J14, hJ14, hf⟩ := gLet_some hf
      have wJ14 : ∀  (s13 : gS), J14  s13 = some q → ∀ (H : Heap) (locs : List Loc) (ls : Array Slot), hSt G o [] s s13 H locs → lv_has ls 8 [(0, .ref (o + 0)), (1, .ref (o + 302)), (2, .ref (o + 306)), (3, .int w3), (4, .int v4), (5, .int v5), (6, .int v6), (7, .int x7)] → W p l e rmL_gap s m args below meth c H locs 0 0 (MQ below (hQi G o q) args s 0 0 (gA o 307)) (F0 m 67 ls []) := by
        intro  s13 hf H locs ls hS hl
        rw [hJ14] at hf
        refine lv_iload hx hb dL_gap_67 (lv_at hl 4 rfl) ?_
        exact wJ10 v4 s13 hf _ _ _ hS (lv_sub hl [0, 1, 2, 3, 5, 6, 7] rfl)
      clear hJ14
      refine lv_if_le (tgt := 67) hx hb dL_gap_52 (by decide) (fun c15 => ?_) (fun c15 => ?_)
      · have hf := gIf_t c15 hf
        exact wJ14  q6.2 hf _ _ _ hS (lv_sub hl [1, 2, 3, 4, 5, 6, 7, 0] rfl)
      · have hf := gIf_f c15 hf
        refine lv_iload hx hb dL_gap_55 (lv_at hl 0 rfl) ?_
        refine lv_iload hx hb dL_gap_57 (lv_at hl 6 rfl) ?_
        refine lv_icmp_lt (tgt := 67) hx hb dL_gap_59 (by decide) (fun c16 => ?_) (fun c16 => ?_)
        · have hf := gIf_t c16 hf
          exact wJ14  q6.2 hf _ _ _ hS (lv_sub hl [1, 2, 3, 4, 5, 6, 7, 0] rfl)
        · have hf := gIf_f c16 hf
          refine lv_iload hx hb dL_gap_62 (lv_at hl 7 rfl) ?_
          refine lv_goto (tgt := 69) hx hb dL_gap_64 (by decide) ?_
          exact wJ10 v6 q6.2 hf _ _ _ hS (lv_sub hl [1, 2, 3, 4, 6, 7, 0] rfl)
set_option maxHeartbeats 4000000 in
set_option maxRecDepth 100000 in
theorem c_L_gap (σ : gS) (q : Int32 × gS) (hf : f_L_gap σ = some q) : Met l yL_gap (gW yL_gap cL_gap 8 (some .boolean)) rmL_gap (hPc G o [] [.ref (o + 0), .ref (o + 302), .ref (o + 306)] σ) (hQi G o q) 0 0 (gA o 307) := by
  refine h_met (by decide) ⟨rfl, rfl⟩ (fun p e s m args below meth c ls K hS hl => ?_) (Nat.le_of_ble_eq_true rfl)
  have K : gK p s m args meth c G cL_gap 8 RL (some .boolean) := K
  have hl : lv_has ls 8 [(0, .ref (o + 0)), (1, .ref (o + 302)), (2, .ref (o + 306))] := hl
  obtain ⟨hx, hb, hml, hown, hts, -⟩ := id K
  unfold f_L_gap at hf
  refine lv_aload_n hx hb dL_gap_0 rfl (lv_at hl 1 rfl) ?_
  refine lv_aload_n hx hb dL_gap_1 rfl (lv_at hl 2 rfl) ?_
  refine lv_aload_n hx hb dL_gap_2 rfl (lv_at hl 2 rfl) ?_
  obtain ⟨q1, hq1, hf⟩ := Option.bind_eq_some_iff.mp hf
  refine h_Si0 (X' := []) (As := [.ref (o + 306)]) K hS lS_L_21 (by simp) (c_L_all σ q1 hq1) rfl rfl (Nat.le_of_ble_eq_true rfl) ⟨rfl, rfl⟩ ⟨Nat.le_of_ble_eq_true rfl, Nat.le_of_ble_eq_true rfl⟩ hl.1 ⟨Nat.le_of_ble_eq_true rfl, Nat.le_of_ble_eq_true rfl⟩ dL_gap_3 (fun H locs hS => ?_)
  obtain ⟨q2, hq2, hf⟩ := Option.bind_eq_some_iff.mp hf
  refine h_Si0 (X' := []) (As := [.ref (o + 302), .ref (o + 306), .int q1.1]) K hS lS_L_87 (by simp) (c_L_pairs q1.1 q1.2 q2 hq2) rfl rfl (Nat.le_of_ble_eq_true rfl) ⟨rfl, rfl⟩ ⟨Nat.le_of_ble_eq_true rfl, Nat.le_of_ble_eq_true rfl⟩ hl.1 ⟨Nat.le_of_ble_eq_true rfl, Nat.le_of_ble_eq_true rfl⟩ dL_gap_6 (fun H locs hS => ?_)
  refine lv_istore_n (lv' := [(3, .int q2.1), (0, .ref (o + 0)), (1, .ref (o + 302)), (2, .ref (o + 306))]) hx hb dL_gap_9 rfl hl (by decide) rfl (fun ls hl => ?_)
  refine lv_bipush (v := (-6)) hx hb dL_gap_10 (by decide) ?_
  refine lv_istore (lv' := [(4, .int (-6)), (3, .int q2.1), (0, .ref (o + 0)), (1, .ref (o + 302)), (2, .ref (o + 306))]) hx hb dL_gap_12 hl (by decide) rfl (fun ls hl => ?_)
  refine lv_bipush (v := (-6)) hx hb dL_gap_14 (by decide) ?_
  refine lv_istore (lv' := [(5, .int (-6)), (4, .int (-6)), (3, .int q2.1), (0, .ref (o + 0)), (1, .ref (o + 302)), (2, .ref (o + 306))]) hx hb dL_gap_16 hl (by decide) rfl (fun ls hl => ?_)
  refine lv_aload_n hx hb dL_gap_18 rfl (lv_at hl 5 rfl) ?_
  refine lv_iconst (v := 4) hx hb dL_gap_19 (by decide) ?_
  refine h_iald (cx := 306) (j := 4) K hS (eLL_306 G o) (by decide) (by decide) (by decide) dL_gap_20 ?_
  refine lv_iconst (v := 1) hx hb dL_gap_21 (by decide) ?_
  refine lv_isub hx hb dL_gap_22 ?_
  obtain ⟨x3, hx3, hf⟩ := gLet_some hf
  refine g_top hx3 ?_
  refine lv_istore (lv' := [(6, .int x3), (5, .int (-6)), (4, .int (-6)), (3, .int q2.1), (0, .ref (o + 0)), (1, .ref (o + 302)), (2, .ref (o + 306))]) hx hb dL_gap_23 hl (by decide) rfl (fun ls hl => ?_)
  refine w_L_gap_L25 q2.1 _ K ?_ gFu (-6) (-6) x3 q2.2 hf _ _ _ hS (lv_sub hl [4, 5, 6, 3, 2, 1, 0] rfl)
  · intro k17 k18 s19 hf H locs ls hS hl
    refine lv_aload_n hx hb dL_gap_98 rfl (lv_at hl 0 rfl) ?_
    refine lv_iconst (v := 0) hx hb dL_gap_99 (by decide) ?_
    obtain ⟨q20, hq20, hf⟩ := Option.bind_eq_some_iff.mp hf
    obtain ⟨s21, hs21, hf⟩ := gLet_some hf
    refine h_Vi (As := [.int 0]) K hS lV_L_91 (c_X10_worstGap 0 s19 q20 hq20) rfl rfl (Nat.le_of_ble_eq_true rfl) ⟨⟨Nat.le_of_ble_eq_true rfl, Nat.le_of_ble_eq_true rfl⟩, rfl, rfl⟩ hl.1 ⟨Nat.le_of_ble_eq_true rfl, Nat.le_of_ble_eq_true rfl⟩ dL_gap_100 (fun H locs hS => ?_)
    rw [← hs21] at hS
    refine lv_iload hx hb dL_gap_103 (lv_at hl 1 rfl) ?_
    refine lv_icmp_ne (tgt := 122) hx hb dL_gap_105 (by decide) (fun c22 => ?_) (fun c22 => ?_)
    · have hf := gIf_f c22 hf
      refine lv_iconst (v := 0) hx hb dL_gap_122 (by decide) ?_
      exact h_zret K hS rfl hf dL_gap_123
    · have hf := gIf_t c22 hf
      refine lv_aload_n hx hb dL_gap_108 rfl (lv_at hl 0 rfl) ?_
      refine lv_iconst (v := 1) hx hb dL_gap_109 (by decide) ?_
      obtain ⟨q23, hq23, hf⟩ := Option.bind_eq_some_iff.mp hf
      obtain ⟨s24, hs24, hf⟩ := gLet_some hf
      refine h_Vi (As := [.int 1]) K hS lV_L_91 (c_X10_worstGap 1 s21 q23 hq23) rfl rfl (Nat.le_of_ble_eq_true rfl) ⟨⟨Nat.le_of_ble_eq_true rfl, Nat.le_of_ble_eq_true rfl⟩, rfl, rfl⟩ hl.1 ⟨Nat.le_of_ble_eq_true rfl, Nat.le_of_ble_eq_true rfl⟩ dL_gap_110 (fun H locs hS => ?_)
      rw [← hs24] at hS
      refine lv_iload hx hb dL_gap_113 (lv_at hl 2 rfl) ?_
      refine lv_icmp_ne (tgt := 122) hx hb dL_gap_115 (by decide) (fun c25 => ?_) (fun c25 => ?_)
      · have hf := gIf_f c25 hf
        refine lv_iconst (v := 0) hx hb dL_gap_122 (by decide) ?_
        exact h_zret K hS rfl hf dL_gap_123
      · have hf := gIf_t c25 hf
        refine lv_iconst (v := 1) hx hb dL_gap_118 (by decide) ?_
        refine lv_goto (tgt := 123) hx hb dL_gap_119 (by decide) ?_
        exact h_zret K hS rfl hf dL_gap_123
abbrev rmL_boards : Room := { frames := 5, cells := 0, slots := 0, locals := 110 }
def f_L_boards_L21 (w6 : Int32) (K81 : Int32 → Int32 → gS → Option (Int32 × gS)) : Nat → Int32 → Int32 → Int32 → gS → Option (Int32 × gS)
  | 0, _, _, _, _ => none
  | n + 1, v7, v8, v9, σ => if 4 ≤ v9 then (K81 v7 v8 σ) else (gGd (gin (4 + v9) 12) (gLet (v7 ||| ((((σ 304 (gil (4 + v9))) >>> (w6 &&& 31)) &&& 1) <<< (v9 &&& 31))) (fun x4 => Option.bind (f_L_free v9 w6 σ) (fun q5 => if q5.1 = 0 then (gLet (v8 ||| 0) (fun x7 => f_L_boards_L21 w6 K81 n x4 x7 (v9 + 1) q5.2)) else (gLet (v8 ||| (1 <<< (v9 &&& 31))) (fun x8 => f_L_boards_L21 w6 K81 n x4 x8 (v9 + 1) q5.2))))))
theorem f_L_boards_L21_s (w6 : Int32) (K81 : Int32 → Int32 → gS → Option (Int32 × gS)) (n : Nat) (v7 : Int32) (v8 : Int32) (v9 : Int32) (σ : gS) : f_L_boards_L21 w6 K81 (n + 1) v7 v8 v9 σ = (if 4 ≤ v9 then (K81 v7 v8 σ) else (gGd (gin (4 + v9) 12) (gLet (v7 ||| ((((σ 304 (gil (4 + v9))) >>> (w6 &&& 31)) &&& 1) <<< (v9 &&& 31))) (fun x4 => Option.bind (f_L_free v9 w6 σ) (fun q5 => if q5.1 = 0 then (gLet (v8 ||| 0) (fun x7 => f_L_boards_L21 w6 K81 n x4 x7 (v9 + 1) q5.2)) else (gLet (v8 ||| (1 <<< (v9 &&& 31))) (fun x8 => f_L_boards_L21 w6 K81 n x4 x8 (v9 + 1) q5.2))))))) := rfl
def f_L_boards_L3 (K192 : gS → Option (Int32 × gS)) : Nat → Int32 → gS → Option (Int32 × gS)
  | 0, _, _ => none
  | n + 1, v6, σ => if (σ 306 4) ≤ v6 then (K192 σ) else (f_L_boards_L21 v6 (fun (k9 : Int32) (k10 : Int32) (s11 : gS) => Option.bind (f_X10_board v6 0 s11) (fun q12 => gLet (gMix s11 q12.2) (fun s13 => Option.bind (f_L_one v6 s13) (fun q14 => if q12.1 = q14.1 then (Option.bind (f_X10_board v6 1 q14.2) (fun q16 => gLet (gMix q14.2 q16.2) (fun s17 => Option.bind (f_L_two v6 s17) (fun q18 => if q16.1 = q18.1 then (Option.bind (f_X10_board v6 2 q18.2) (fun q20 => gLet (gMix q18.2 q20.2) (fun s21 => Option.bind (f_L_creak v6 s21) (fun q22 => if q20.1 = q22.1 then (Option.bind (f_X10_board v6 3 q22.2) (fun q24 => gLet (gMix q22.2 q24.2) (fun s25 => Option.bind (f_L_minutes v6 s25) (fun q26 => if q24.1 = q26.1 then (Option.bind (f_X10_board v6 4 q26.2) (fun q28 => gLet (gMix q26.2 q28.2) (fun s29 => if q28.1 = k9 then (Option.bind (f_X10_board v6 5 s29) (fun q31 => gLet (gMix s29 q31.2) (fun s32 => if q31.1 = k10 then (Option.bind (f_X10_board v6 6 s32) (fun q34 => gLet (gMix s32 q34.2) (fun s35 => gGd (gin v6 20) (if q34.1 = (s35 303 (gil v6)) then (f_L_boards_L3 K192 n (v6 + 1) s35) else (some (0, s35)))))) else (some (0, s32))))) else (some (0, s29))))) else (some (0, q26.2)))))) else (some (0, q22.2)))))) else (some (0, q18.2)))))) else (some (0, q14.2)))))) gFu 0 0 0 σ)
theorem f_L_boards_L3_s (K192 : gS → Option (Int32 × gS)) (n : Nat) (v6 : Int32) (σ : gS) : f_L_boards_L3 K192 (n + 1) v6 σ = (if (σ 306 4) ≤ v6 then (K192 σ) else (f_L_boards_L21 v6 (fun (k9 : Int32) (k10 : Int32) (s11 : gS) => Option.bind (f_X10_board v6 0 s11) (fun q12 => gLet (gMix s11 q12.2) (fun s13 => Option.bind (f_L_one v6 s13) (fun q14 => if q12.1 = q14.1 then (Option.bind (f_X10_board v6 1 q14.2) (fun q16 => gLet (gMix q14.2 q16.2) (fun s17 => Option.bind (f_L_two v6 s17) (fun q18 => if q16.1 = q18.1 then (Option.bind (f_X10_board v6 2 q18.2) (fun q20 => gLet (gMix q18.2 q20.2) (fun s21 => Option.bind (f_L_creak v6 s21) (fun q22 => if q20.1 = q22.1 then (Option.bind (f_X10_board v6 3 q22.2) (fun q24 => gLet (gMix q22.2 q24.2) (fun s25 => Option.bind (f_L_minutes v6 s25) (fun q26 => if q24.1 = q26.1 then (Option.bind (f_X10_board v6 4 q26.2) (fun q28 => gLet (gMix q26.2 q28.2) (fun s29 => if q28.1 = k9 then (Option.bind (f_X10_board v6 5 s29) (fun q31 => gLet (gMix s29 q31.2) (fun s32 => if q31.1 = k10 then (Option.bind (f_X10_board v6 6 s32) (fun q34 => gLet (gMix s32 q34.2) (fun s35 => gGd (gin v6 20) (if q34.1 = (s35 303 (gil v6)) then (f_L_boards_L3 K192 n (v6 + 1) s35) else (some (0, s35)))))) else (some (0, s32))))) else (some (0, s29))))) else (some (0, q26.2)))))) else (some (0, q22.2)))))) else (some (0, q18.2)))))) else (some (0, q14.2)))))) gFu 0 0 0 σ)) := rfl
def f_L_boards (σ : gS) : Option (Int32 × gS) := f_L_boards_L3 (fun (s38 : gS) => Option.bind (f_X10_board (s38 306 4) 0 s38) (fun q39 => gLet (gMix s38 q39.2) (fun s40 => if q39.1 = (-1) then (some (1, s40)) else (some (0, s40))))) gFu 0 σ
set_option maxHeartbeats 4000000 in
set_option maxRecDepth 100000 in
theorem w_L_boards_L21 (w6 : Int32) (K81 : Int32 → Int32 → gS → Option (Int32 × gS)) {q : Int32 × gS} (K : gK p s m args meth c G cL_boards 10 RL (some .boolean)) (hK81 : ∀ (k7 : Int32) (k8 : Int32) (σ : gS), K81 k7 k8 σ = some q → ∀ (H : Heap) (locs : List Loc) (ls : Array Slot), hSt G o [] s σ H locs → lv_has ls 10 [(0, .ref (o + 0)), (1, .ref (o + 302)), (2, .ref (o + 303)), (3, .ref (o + 304)), (4, .ref (o + 305)), (5, .ref (o + 306)), (6, .int w6), (7, .int k7), (8, .int k8)] → W p l e rmL_boards s m args below meth c H locs 0 0 (MQ below (hQi G o q) args s 0 0 (gA o 307)) (F0 m 81 ls [])) : ∀ (n : Nat) (v7 : Int32) (v8 : Int32) (v9 : Int32) (σ : gS), f_L_boards_L21 w6 K81 n v7 v8 v9 σ = some q → ∀ (H : Heap) (locs : List Loc) (ls : Array Slot), hSt G o [] s σ H locs → lv_has ls 10 [(0, .ref (o + 0)), (1, .ref (o + 302)), (2, .ref (o + 303)), (3, .ref (o + 304)), (4, .ref (o + 305)), (5, .ref (o + 306)), (6, .int w6), (7, .int v7), (8, .int v8), (9, .int v9)] → W p l e rmL_boards s m args below meth c H locs 0 0 (MQ below (hQi G o q) args s 0 0 (gA o 307)) (F0 m 21 ls []) := by
  obtain ⟨hx, hb, hml, hown, hts, -⟩ := id K
  intro n
  induction n with
  | zero =>
    intro v7 v8 v9 σ hf
    exact absurd (show (none : Option _) = some q from hf) (by simp)
  | succ n ih =>
    intro v7 v8 v9 σ hf H locs ls hS hl
    rw [f_L_boards_L21_s] at hf
    refine lv_iload hx hb dL_boards_21 (lv_at hl 9 rfl) ?_
    refine lv_iconst (v := 4) hx hb dL_boards_23 (by decide) ?_
    refine lv_icmp_ge (tgt := 81) hx hb dL_boards_24 (by decide) (fun c2 => ?_) (fun c2 => ?_)
    · have hf := gIf_t c2 hf
      exact hK81 v7 v8 σ hf _ _ _ hS (lv_sub hl [0, 1, 2, 3, 4, 5, 6, 7, 8] rfl)
    · have hf := gIf_f c2 hf
      refine lv_iload hx hb dL_boards_27 (lv_at hl 7 rfl) ?_
      refine lv_aload_n hx hb dL_boards_29 rfl (lv_at hl 3 rfl) ?_
      refine lv_iconst (v := 4) hx hb dL_boards_30 (by decide) ?_
      refine lv_iload hx hb dL_boards_31 (lv_at hl 9 rfl) ?_
      refine lv_iadd hx hb dL_boards_33 ?_
      obtain ⟨h3, hf⟩ := gGd_some hf
      refine h_iald (cx := 304) K hS (eLL_304 G o) (by decide) h3 rfl dL_boards_34 ?_
      refine lv_iload hx hb dL_boards_35 (lv_at hl 6 rfl) ?_
      refine lv_ishr hx hb dL_boards_37 ?_
      refine lv_iconst (v := 1) hx hb dL_boards_38 (by decide) ?_
      refine lv_iand hx hb dL_boards_39 ?_
      refine lv_iload hx hb dL_boards_40 (lv_at hl 9 rfl) ?_
      refine lv_ishl hx hb dL_boards_42 ?_
      refine lv_ior hx hb dL_boards_43 ?_
      obtain ⟨x4, hx4, hf⟩ := gLet_some hf
      refine g_top hx4 ?_
      refine lv_istore (lv' := [(7, .int x4), (0, .ref (o + 0)), (1, .ref (o + 302)), (2, .ref (o + 303)), (3, .ref (o + 304)), (4, .ref (o + 305)), (5, .ref (o + 306)), (6, .int w6), (8, .int v8), (9, .int v9)]) hx hb dL_boards_44 hl (by decide) rfl (fun ls hl => ?_)
      refine lv_iload hx hb dL_boards_46 (lv_at hl 8 rfl) ?_
      refine lv_aload_n hx hb dL_boards_48 rfl (lv_at hl 2 rfl) ?_
      refine lv_aload_n hx hb dL_boards_49 rfl (lv_at hl 4 rfl) ?_
      refine lv_aload hx hb dL_boards_50 (lv_at hl 5 rfl) ?_
      refine lv_aload hx hb dL_boards_52 (lv_at hl 6 rfl) ?_
      refine lv_iload hx hb dL_boards_54 (lv_at hl 9 rfl) ?_
      refine lv_iload hx hb dL_boards_56 (lv_at hl 7 rfl) ?_
      obtain ⟨q5, hq5, hf⟩ := Option.bind_eq_some_iff.mp hf
      refine h_Si0 (X' := []) (As := [.ref (o + 302), .ref (o + 304), .ref (o + 305), .ref (o + 306), .int v9, .int w6]) K hS lS_L_40 (by simp) (c_L_free v9 w6 σ q5 hq5) rfl rfl (Nat.le_of_ble_eq_true rfl) ⟨rfl, rfl⟩ ⟨Nat.le_of_ble_eq_true rfl, Nat.le_of_ble_eq_true rfl⟩ hl.1 ⟨Nat.le_of_ble_eq_true rfl, Nat.le_of_ble_eq_true rfl⟩ dL_boards_58 (fun H locs hS => ?_)
      refine lv_if_eq (tgt := 71) hx hb dL_boards_61 (by decide) (fun c6 => ?_) (fun c6 => ?_)
      · have hf := gIf_t c6 hf
        refine lv_iconst (v := 0) hx hb dL_boards_71 (by decide) ?_
        refine lv_ior hx hb dL_boards_72 ?_
        obtain ⟨x7, hx7, hf⟩ := gLet_some hf
        refine g_top hx7 ?_
        refine lv_istore (lv' := [(8, .int x7), (7, .int x4), (0, .ref (o + 0)), (1, .ref (o + 302)), (2, .ref (o + 303)), (3, .ref (o + 304)), (4, .ref (o + 305)), (5, .ref (o + 306)), (6, .int w6), (9, .int v9)]) hx hb dL_boards_73 hl (by decide) rfl (fun ls hl => ?_)
        refine lv_iinc (v := (v9 + 1)) (lv' := [(9, .int (v9 + 1)), (8, .int x7), (7, .int x4), (0, .ref (o + 0)), (1, .ref (o + 302)), (2, .ref (o + 303)), (3, .ref (o + 304)), (4, .ref (o + 305)), (5, .ref (o + 306)), (6, .int w6)]) hx hb dL_boards_75 hl (k := 9) rfl rfl (by decide) rfl (fun ls hl => ?_)
        refine lv_goto (tgt := 21) hx hb dL_boards_78 (by decide) ?_
        exact ih x4 x7 (v9 + 1) q5.2 hf _ _ _ hS (lv_sub hl [3, 4, 5, 6, 7, 8, 9, 2, 1, 0] rfl)
      · have hf := gIf_f c6 hf
        refine lv_iconst (v := 1) hx hb dL_boards_64 (by decide) ?_
        refine lv_iload hx hb dL_boards_65 (lv_at hl 9 rfl) ?_
        refine lv_ishl hx hb dL_boards_67 ?_
        refine lv_goto (tgt := 72) hx hb dL_boards_68 (by decide) ?_
        refine lv_ior hx hb dL_boards_72 ?_
        obtain ⟨x8, hx8, hf⟩ := gLet_some hf
        refine g_top hx8 ?_
        refine lv_istore (lv' := [(8, .int x8), (7, .int x4), (0, .ref (o + 0)), (1, .ref (o + 302)), (2, .ref (o + 303)), (3, .ref (o + 304)), (4, .ref (o + 305)), (5, .ref (o + 306)), (6, .int w6), (9, .int v9)]) hx hb dL_boards_73 hl (by decide) rfl (fun ls hl => ?_)
        refine lv_iinc (v := (v9 + 1)) (lv' := [(9, .int (v9 + 1)), (8, .int x8), (7, .int x4), (0, .ref (o + 0)), (1, .ref (o + 302)), (2, .ref (o + 303)), (3, .ref (o + 304)), (4, .ref (o + 305)), (5, .ref (o + 306)), (6, .int w6)]) hx hb dL_boards_75 hl (k := 9) rfl rfl (by decide) rfl (fun ls hl => ?_)
        refine lv_goto (tgt := 21) hx hb dL_boards_78 (by decide) ?_
        exact ih x4 x8 (v9 + 1) q5.2 hf _ _ _ hS (lv_sub hl [3, 4, 5, 6, 7, 8, 9, 2, 1, 0] rfl)
set_option maxHeartbeats 4000000 in
set_option maxRecDepth 100000 in
theorem w_L_boards_L3 (K192 : gS → Option (Int32 × gS)) {q : Int32 × gS} (K : gK p s m args meth c G cL_boards 10 RL (some .boolean)) (hK192 : ∀ (σ : gS), K192 σ = some q → ∀ (H : Heap) (locs : List Loc) (ls : Array Slot), hSt G o [] s σ H locs → lv_has ls 10 [(0, .ref (o + 0)), (5, .ref (o + 306))] → W p l e rmL_boards s m args below meth c H locs 0 0 (MQ below (hQi G o q) args s 0 0 (gA o 307)) (F0 m 192 ls [])) : ∀ (n : Nat) (v6 : Int32) (σ : gS), f_L_boards_L3 K192 n v6 σ = some q → ∀ (H : Heap) (locs : List Loc) (ls : Array Slot), hSt G o [] s σ H locs → lv_has ls 10 [(0, .ref (o + 0)), (1, .ref (o + 302)), (2, .ref (o + 303)), (3, .ref (o + 304)), (4, .ref (o + 305)), (5, .ref (o + 306)), (6, .int v6)] → W p l e rmL_boards s m args below meth c H locs 0 0 (MQ below (hQi G o q) args s 0 0 (gA o 307)) (F0 m 3 ls []) := by
  obtain ⟨hx, hb, hml, hown, hts, -⟩ := id K
  intro n
  induction n with
  | zero =>
    intro v6 σ hf
    exact absurd (show (none : Option _) = some q from hf) (by simp)
  | succ n ih =>
    intro v6 σ hf H locs ls hS hl
    rw [f_L_boards_L3_s] at hf
    refine lv_iload hx hb dL_boards_3 (lv_at hl 6 rfl) ?_
    refine lv_aload hx hb dL_boards_5 (lv_at hl 5 rfl) ?_
    refine lv_iconst (v := 4) hx hb dL_boards_7 (by decide) ?_
    refine h_iald (cx := 306) (j := 4) K hS (eLL_306 G o) (by decide) (by decide) (by decide) dL_boards_8 ?_
    refine lv_icmp_ge (tgt := 192) hx hb dL_boards_9 (by decide) (fun c1 => ?_) (fun c1 => ?_)
    · have hf := gIf_t c1 hf
      exact hK192 σ hf _ _ _ hS (lv_sub hl [0, 5] rfl)
    · have hf := gIf_f c1 hf
      refine lv_iconst (v := 0) hx hb dL_boards_12 (by decide) ?_
      refine lv_istore (lv' := [(7, .int 0), (0, .ref (o + 0)), (1, .ref (o + 302)), (2, .ref (o + 303)), (3, .ref (o + 304)), (4, .ref (o + 305)), (5, .ref (o + 306)), (6, .int v6)]) hx hb dL_boards_13 hl (by decide) rfl (fun ls hl => ?_)
      refine lv_iconst (v := 0) hx hb dL_boards_15 (by decide) ?_
      refine lv_istore (lv' := [(8, .int 0), (7, .int 0), (0, .ref (o + 0)), (1, .ref (o + 302)), (2, .ref (o + 303)), (3, .ref (o + 304)), (4, .ref (o + 305)), (5, .ref (o + 306)), (6, .int v6)]) hx hb dL_boards_16 hl (by decide) rfl (fun ls hl => ?_)
      refine lv_iconst (v := 0) hx hb dL_boards_18 (by decide) ?_
      refine lv_istore (lv' := [(9, .int 0), (8, .int 0), (7, .int 0), (0, .ref (o + 0)), (1, .ref (o + 302)), (2, .ref (o + 303)), (3, .ref (o + 304)), (4, .ref (o + 305)), (5, .ref (o + 306)), (6, .int v6)]) hx hb dL_boards_19 hl (by decide) rfl (fun ls hl => ?_)
      refine w_L_boards_L21 v6 _ K ?_ gFu 0 0 0 σ hf _ _ _ hS (lv_sub hl [3, 4, 5, 6, 7, 8, 9, 2, 1, 0] rfl)
      · intro k9 k10 s11 hf H locs ls hS hl
        refine lv_aload_n hx hb dL_boards_81 rfl (lv_at hl 0 rfl) ?_
        refine lv_iload hx hb dL_boards_82 (lv_at hl 6 rfl) ?_
        refine lv_iconst (v := 0) hx hb dL_boards_84 (by decide) ?_
        obtain ⟨q12, hq12, hf⟩ := Option.bind_eq_some_iff.mp hf
        obtain ⟨s13, hs13, hf⟩ := gLet_some hf
        refine h_Vi (As := [.int v6, .int 0]) K hS lV_L_94 (c_X10_board v6 0 s11 q12 hq12) rfl rfl (Nat.le_of_ble_eq_true rfl) ⟨⟨Nat.le_of_ble_eq_true rfl, Nat.le_of_ble_eq_true rfl⟩, rfl, rfl⟩ hl.1 ⟨Nat.le_of_ble_eq_true rfl, Nat.le_of_ble_eq_true rfl⟩ dL_boards_85 (fun H locs hS => ?_)
        rw [← hs13] at hS
        refine lv_aload_n hx hb dL_boards_88 rfl (lv_at hl 1 rfl) ?_
        refine lv_iload hx hb dL_boards_89 (lv_at hl 6 rfl) ?_
        obtain ⟨q14, hq14, hf⟩ := Option.bind_eq_some_iff.mp hf
        refine h_Si0 (X' := []) (As := [.ref (o + 302), .int v6]) K hS lS_L_10 (by simp) (c_L_one v6 s13 q14 hq14) rfl rfl (Nat.le_of_ble_eq_true rfl) ⟨rfl, rfl⟩ ⟨Nat.le_of_ble_eq_true rfl, Nat.le_of_ble_eq_true rfl⟩ hl.1 ⟨Nat.le_of_ble_eq_true rfl, Nat.le_of_ble_eq_true rfl⟩ dL_boards_91 (fun H locs hS => ?_)
        refine lv_icmp_ne (tgt := 184) hx hb dL_boards_94 (by decide) (fun c15 => ?_) (fun c15 => ?_)
        · have hf := gIf_f c15 hf
          refine lv_iconst (v := 0) hx hb dL_boards_184 (by decide) ?_
          exact h_zret K hS rfl hf dL_boards_185
        · have hf := gIf_t c15 hf
          refine lv_aload_n hx hb dL_boards_97 rfl (lv_at hl 0 rfl) ?_
          refine lv_iload hx hb dL_boards_98 (lv_at hl 6 rfl) ?_
          refine lv_iconst (v := 1) hx hb dL_boards_100 (by decide) ?_
          obtain ⟨q16, hq16, hf⟩ := Option.bind_eq_some_iff.mp hf
          obtain ⟨s17, hs17, hf⟩ := gLet_some hf
          refine h_Vi (As := [.int v6, .int 1]) K hS lV_L_94 (c_X10_board v6 1 q14.2 q16 hq16) rfl rfl (Nat.le_of_ble_eq_true rfl) ⟨⟨Nat.le_of_ble_eq_true rfl, Nat.le_of_ble_eq_true rfl⟩, rfl, rfl⟩ hl.1 ⟨Nat.le_of_ble_eq_true rfl, Nat.le_of_ble_eq_true rfl⟩ dL_boards_101 (fun H locs hS => ?_)
          rw [← hs17] at hS
          refine lv_aload_n hx hb dL_boards_104 rfl (lv_at hl 1 rfl) ?_
          refine lv_iload hx hb dL_boards_105 (lv_at hl 6 rfl) ?_
          obtain ⟨q18, hq18, hf⟩ := Option.bind_eq_some_iff.mp hf
          refine h_Si0 (X' := []) (As := [.ref (o + 302), .int v6]) K hS lS_L_16 (by simp) (c_L_two v6 s17 q18 hq18) rfl rfl (Nat.le_of_ble_eq_true rfl) ⟨rfl, rfl⟩ ⟨Nat.le_of_ble_eq_true rfl, Nat.le_of_ble_eq_true rfl⟩ hl.1 ⟨Nat.le_of_ble_eq_true rfl, Nat.le_of_ble_eq_true rfl⟩ dL_boards_107 (fun H locs hS => ?_)
          refine lv_icmp_ne (tgt := 184) hx hb dL_boards_110 (by decide) (fun c19 => ?_) (fun c19 => ?_)
          · have hf := gIf_f c19 hf
            refine lv_iconst (v := 0) hx hb dL_boards_184 (by decide) ?_
            exact h_zret K hS rfl hf dL_boards_185
          · have hf := gIf_t c19 hf
            refine lv_aload_n hx hb dL_boards_113 rfl (lv_at hl 0 rfl) ?_
            refine lv_iload hx hb dL_boards_114 (lv_at hl 6 rfl) ?_
            refine lv_iconst (v := 2) hx hb dL_boards_116 (by decide) ?_
            obtain ⟨q20, hq20, hf⟩ := Option.bind_eq_some_iff.mp hf
            obtain ⟨s21, hs21, hf⟩ := gLet_some hf
            refine h_Vi (As := [.int v6, .int 2]) K hS lV_L_94 (c_X10_board v6 2 q18.2 q20 hq20) rfl rfl (Nat.le_of_ble_eq_true rfl) ⟨⟨Nat.le_of_ble_eq_true rfl, Nat.le_of_ble_eq_true rfl⟩, rfl, rfl⟩ hl.1 ⟨Nat.le_of_ble_eq_true rfl, Nat.le_of_ble_eq_true rfl⟩ dL_boards_117 (fun H locs hS => ?_)
            rw [← hs21] at hS
            refine lv_aload_n hx hb dL_boards_120 rfl (lv_at hl 1 rfl) ?_
            refine lv_iload hx hb dL_boards_121 (lv_at hl 6 rfl) ?_
            obtain ⟨q22, hq22, hf⟩ := Option.bind_eq_some_iff.mp hf
            refine h_Si0 (X' := []) (As := [.ref (o + 302), .int v6]) K hS lS_L_33 (by simp) (c_L_creak v6 s21 q22 hq22) rfl rfl (Nat.le_of_ble_eq_true rfl) ⟨rfl, rfl⟩ ⟨Nat.le_of_ble_eq_true rfl, Nat.le_of_ble_eq_true rfl⟩ hl.1 ⟨Nat.le_of_ble_eq_true rfl, Nat.le_of_ble_eq_true rfl⟩ dL_boards_123 (fun H locs hS => ?_)
            refine lv_icmp_ne (tgt := 184) hx hb dL_boards_126 (by decide) (fun c23 => ?_) (fun c23 => ?_)
            · have hf := gIf_f c23 hf
              refine lv_iconst (v := 0) hx hb dL_boards_184 (by decide) ?_
              exact h_zret K hS rfl hf dL_boards_185
            · have hf := gIf_t c23 hf
              refine lv_aload_n hx hb dL_boards_129 rfl (lv_at hl 0 rfl) ?_
              refine lv_iload hx hb dL_boards_130 (lv_at hl 6 rfl) ?_
              refine lv_iconst (v := 3) hx hb dL_boards_132 (by decide) ?_
              obtain ⟨q24, hq24, hf⟩ := Option.bind_eq_some_iff.mp hf
              obtain ⟨s25, hs25, hf⟩ := gLet_some hf
              refine h_Vi (As := [.int v6, .int 3]) K hS lV_L_94 (c_X10_board v6 3 q22.2 q24 hq24) rfl rfl (Nat.le_of_ble_eq_true rfl) ⟨⟨Nat.le_of_ble_eq_true rfl, Nat.le_of_ble_eq_true rfl⟩, rfl, rfl⟩ hl.1 ⟨Nat.le_of_ble_eq_true rfl, Nat.le_of_ble_eq_true rfl⟩ dL_boards_133 (fun H locs hS => ?_)
              rw [← hs25] at hS
              refine lv_aload_n hx hb dL_boards_136 rfl (lv_at hl 1 rfl) ?_
              refine lv_iload hx hb dL_boards_137 (lv_at hl 6 rfl) ?_
              obtain ⟨q26, hq26, hf⟩ := Option.bind_eq_some_iff.mp hf
              refine h_Si0 (X' := []) (As := [.ref (o + 302), .int v6]) K hS lS_L_48 (by simp) (c_L_minutes v6 s25 q26 hq26) rfl rfl (Nat.le_of_ble_eq_true rfl) ⟨rfl, rfl⟩ ⟨Nat.le_of_ble_eq_true rfl, Nat.le_of_ble_eq_true rfl⟩ hl.1 ⟨Nat.le_of_ble_eq_true rfl, Nat.le_of_ble_eq_true rfl⟩ dL_boards_139 (fun H locs hS => ?_)
              refine lv_icmp_ne (tgt := 184) hx hb dL_boards_142 (by decide) (fun c27 => ?_) (fun c27 => ?_)
              · have hf := gIf_f c27 hf
                refine lv_iconst (v := 0) hx hb dL_boards_184 (by decide) ?_
                exact h_zret K hS rfl hf dL_boards_185
              · have hf := gIf_t c27 hf
                refine lv_aload_n hx hb dL_boards_145 rfl (lv_at hl 0 rfl) ?_
                refine lv_iload hx hb dL_boards_146 (lv_at hl 6 rfl) ?_
                refine lv_iconst (v := 4) hx hb dL_boards_148 (by decide) ?_
                obtain ⟨q28, hq28, hf⟩ := Option.bind_eq_some_iff.mp hf
                obtain ⟨s29, hs29, hf⟩ := gLet_some hf
                refine h_Vi (As := [.int v6, .int 4]) K hS lV_L_94 (c_X10_board v6 4 q26.2 q28 hq28) rfl rfl (Nat.le_of_ble_eq_true rfl) ⟨⟨Nat.le_of_ble_eq_true rfl, Nat.le_of_ble_eq_true rfl⟩, rfl, rfl⟩ hl.1 ⟨Nat.le_of_ble_eq_true rfl, Nat.le_of_ble_eq_true rfl⟩ dL_boards_149 (fun H locs hS => ?_)
                rw [← hs29] at hS
                refine lv_iload hx hb dL_boards_152 (lv_at hl 7 rfl) ?_
                refine lv_icmp_ne (tgt := 184) hx hb dL_boards_154 (by decide) (fun c30 => ?_) (fun c30 => ?_)
                · have hf := gIf_f c30 hf
                  refine lv_iconst (v := 0) hx hb dL_boards_184 (by decide) ?_
                  exact h_zret K hS rfl hf dL_boards_185
                · have hf := gIf_t c30 hf
                  refine lv_aload_n hx hb dL_boards_157 rfl (lv_at hl 0 rfl) ?_
                  refine lv_iload hx hb dL_boards_158 (lv_at hl 6 rfl) ?_
                  refine lv_iconst (v := 5) hx hb dL_boards_160 (by decide) ?_
                  obtain ⟨q31, hq31, hf⟩ := Option.bind_eq_some_iff.mp hf
                  obtain ⟨s32, hs32, hf⟩ := gLet_some hf
                  refine h_Vi (As := [.int v6, .int 5]) K hS lV_L_94 (c_X10_board v6 5 s29 q31 hq31) rfl rfl (Nat.le_of_ble_eq_true rfl) ⟨⟨Nat.le_of_ble_eq_true rfl, Nat.le_of_ble_eq_true rfl⟩, rfl, rfl⟩ hl.1 ⟨Nat.le_of_ble_eq_true rfl, Nat.le_of_ble_eq_true rfl⟩ dL_boards_161 (fun H locs hS => ?_)
                  rw [← hs32] at hS
                  refine lv_iload hx hb dL_boards_164 (lv_at hl 8 rfl) ?_
                  refine lv_icmp_ne (tgt := 184) hx hb dL_boards_166 (by decide) (fun c33 => ?_) (fun c33 => ?_)
                  · have hf := gIf_f c33 hf
                    refine lv_iconst (v := 0) hx hb dL_boards_184 (by decide) ?_
                    exact h_zret K hS rfl hf dL_boards_185
                  · have hf := gIf_t c33 hf
                    refine lv_aload_n hx hb dL_boards_169 rfl (lv_at hl 0 rfl) ?_
                    refine lv_iload hx hb dL_boards_170 (lv_at hl 6 rfl) ?_
                    refine lv_bipush (v := 6) hx hb dL_boards_172 (by decide) ?_
                    obtain ⟨q34, hq34, hf⟩ := Option.bind_eq_some_iff.mp hf
                    obtain ⟨s35, hs35, hf⟩ := gLet_some hf
                    refine h_Vi (As := [.int v6, .int 6]) K hS lV_L_94 (c_X10_board v6 6 s32 q34 hq34) rfl rfl (Nat.le_of_ble_eq_true rfl) ⟨⟨Nat.le_of_ble_eq_true rfl, Nat.le_of_ble_eq_true rfl⟩, rfl, rfl⟩ hl.1 ⟨Nat.le_of_ble_eq_true rfl, Nat.le_of_ble_eq_true rfl⟩ dL_boards_174 (fun H locs hS => ?_)
                    rw [← hs35] at hS
                    refine lv_aload_n hx hb dL_boards_177 rfl (lv_at hl 2 rfl) ?_
                    refine lv_iload hx hb dL_boards_178 (lv_at hl 6 rfl) ?_
                    obtain ⟨h36, hf⟩ := gGd_some hf
                    refine h_iald (cx := 303) K hS (eLL_303 G o) (by decide) h36 rfl dL_boards_180 ?_
                    refine lv_icmp_eq (tgt := 186) hx hb dL_boards_181 (by decide) (fun c37 => ?_) (fun c37 => ?_)
                    · have hf := gIf_t c37 hf
                      refine lv_iinc (v := (v6 + 1)) (lv' := [(6, .int (v6 + 1)), (0, .ref (o + 0)), (1, .ref (o + 302)), (2, .ref (o + 303)), (3, .ref (o + 304)), (4, .ref (o + 305)), (5, .ref (o + 306)), (7, .int k9), (8, .int k10)]) hx hb dL_boards_186 hl (k := 6) rfl rfl (by decide) rfl (fun ls hl => ?_)
                      refine lv_goto (tgt := 3) hx hb dL_boards_189 (by decide) ?_
                      exact ih (v6 + 1) s35 hf _ _ _ hS (lv_sub hl [1, 2, 3, 4, 5, 6, 0] rfl)
                    · have hf := gIf_f c37 hf
                      refine lv_iconst (v := 0) hx hb dL_boards_184 (by decide) ?_
                      exact h_zret K hS rfl hf dL_boards_185
set_option maxHeartbeats 4000000 in
set_option maxRecDepth 100000 in
theorem c_L_boards (σ : gS) (q : Int32 × gS) (hf : f_L_boards σ = some q) : Met l yL_boards (gW yL_boards cL_boards 10 (some .boolean)) rmL_boards (hPc G o [] [.ref (o + 0), .ref (o + 302), .ref (o + 303), .ref (o + 304), .ref (o + 305), .ref (o + 306)] σ) (hQi G o q) 0 0 (gA o 307) := by
  refine h_met (by decide) ⟨rfl, rfl⟩ (fun p e s m args below meth c ls K hS hl => ?_) (Nat.le_of_ble_eq_true rfl)
  have K : gK p s m args meth c G cL_boards 10 RL (some .boolean) := K
  have hl : lv_has ls 10 [(0, .ref (o + 0)), (1, .ref (o + 302)), (2, .ref (o + 303)), (3, .ref (o + 304)), (4, .ref (o + 305)), (5, .ref (o + 306))] := hl
  obtain ⟨hx, hb, hml, hown, hts, -⟩ := id K
  unfold f_L_boards at hf
  refine lv_iconst (v := 0) hx hb dL_boards_0 (by decide) ?_
  refine lv_istore (lv' := [(6, .int 0), (0, .ref (o + 0)), (1, .ref (o + 302)), (2, .ref (o + 303)), (3, .ref (o + 304)), (4, .ref (o + 305)), (5, .ref (o + 306))]) hx hb dL_boards_1 hl (by decide) rfl (fun ls hl => ?_)
  refine w_L_boards_L3 _ K ?_ gFu 0 σ hf _ _ _ hS (lv_sub hl [1, 2, 3, 4, 5, 6, 0] rfl)
  · intro  s38 hf H locs ls hS hl
    refine lv_aload_n hx hb dL_boards_192 rfl (lv_at hl 0 rfl) ?_
    refine lv_aload hx hb dL_boards_193 (lv_at hl 1 rfl) ?_
    refine lv_iconst (v := 4) hx hb dL_boards_195 (by decide) ?_
    refine h_iald (cx := 306) (j := 4) K hS (eLL_306 G o) (by decide) (by decide) (by decide) dL_boards_196 ?_
    refine lv_iconst (v := 0) hx hb dL_boards_197 (by decide) ?_
    obtain ⟨q39, hq39, hf⟩ := Option.bind_eq_some_iff.mp hf
    obtain ⟨s40, hs40, hf⟩ := gLet_some hf
    refine h_Vi (As := [.int (s38 306 4), .int 0]) K hS lV_L_94 (c_X10_board (s38 306 4) 0 s38 q39 hq39) rfl rfl (Nat.le_of_ble_eq_true rfl) ⟨⟨Nat.le_of_ble_eq_true rfl, Nat.le_of_ble_eq_true rfl⟩, rfl, rfl⟩ hl.1 ⟨Nat.le_of_ble_eq_true rfl, Nat.le_of_ble_eq_true rfl⟩ dL_boards_198 (fun H locs hS => ?_)
    rw [← hs40] at hS
    refine lv_iconst (v := (-1)) hx hb dL_boards_201 (by decide) ?_
    refine lv_icmp_ne (tgt := 209) hx hb dL_boards_202 (by decide) (fun c41 => ?_) (fun c41 => ?_)
    · have hf := gIf_f c41 hf
      refine lv_iconst (v := 0) hx hb dL_boards_209 (by decide) ?_
      exact h_zret K hS rfl hf dL_boards_210
    · have hf := gIf_t c41 hf
      refine lv_iconst (v := 1) hx hb dL_boards_205 (by decide) ?_
      refine lv_goto (tgt := 210) hx hb dL_boards_206 (by decide) ?_
      exact h_zret K hS rfl hf dL_boards_210
abbrev rmL_tells : Room := { frames := 6, cells := 0, slots := 0, locals := 139 }
def f_L_tells_L31 (w6 : Int32) (w7 : Int32) (w8 : Int32) (K96 : Int32 → gS → Option (Int32 × gS)) : Nat → Int32 → Int32 → gS → Option (Int32 × gS)
  | 0, _, _, _ => none
  | n + 1, v9, v10, σ => if (σ 306 4) ≤ v10 then (K96 v9 σ) else (if ((w8 >>> (v10 &&& 31)) &&& 1) = 1 then (Option.bind (f_L_one v10 σ) (fun q6 => gGd (gin w7 12) (gLet (fun (j8 : Int32) (s9 : gS) => gLet (j8 ||| (1 <<< (v10 &&& 31))) (fun x11 => f_L_tells_L31 w6 w7 w8 K96 n x11 (v10 + 1) s9)) (fun J10 => if q6.1 = (q6.2 304 (gil w7)) then (J10 v9 q6.2) else (Option.bind (f_L_two v10 q6.2) (fun q13 => gGd (gin w7 12) (if q13.1 = (q13.2 304 (gil w7)) then (J10 v9 q13.2) else (gLet (v9 ||| 0) (fun x16 => f_L_tells_L31 w6 w7 w8 K96 n x16 (v10 + 1) q13.2))))))))) else (gLet (v9 ||| 0) (fun x5 => f_L_tells_L31 w6 w7 w8 K96 n x5 (v10 + 1) σ)))
theorem f_L_tells_L31_s (w6 : Int32) (w7 : Int32) (w8 : Int32) (K96 : Int32 → gS → Option (Int32 × gS)) (n : Nat) (v9 : Int32) (v10 : Int32) (σ : gS) : f_L_tells_L31 w6 w7 w8 K96 (n + 1) v9 v10 σ = (if (σ 306 4) ≤ v10 then (K96 v9 σ) else (if ((w8 >>> (v10 &&& 31)) &&& 1) = 1 then (Option.bind (f_L_one v10 σ) (fun q6 => gGd (gin w7 12) (gLet (fun (j8 : Int32) (s9 : gS) => gLet (j8 ||| (1 <<< (v10 &&& 31))) (fun x11 => f_L_tells_L31 w6 w7 w8 K96 n x11 (v10 + 1) s9)) (fun J10 => if q6.1 = (q6.2 304 (gil w7)) then (J10 v9 q6.2) else (Option.bind (f_L_two v10 q6.2) (fun q13 => gGd (gin w7 12) (if q13.1 = (q13.2 304 (gil w7)) then (J10 v9 q13.2) else (gLet (v9 ||| 0) (fun x16 => f_L_tells_L31 w6 w7 w8 K96 n x16 (v10 + 1) q13.2))))))))) else (gLet (v9 ||| 0) (fun x5 => f_L_tells_L31 w6 w7 w8 K96 n x5 (v10 + 1) σ)))) := rfl
def f_L_tells_L6 (w6 : Int32) (K187 : gS → Option (Int32 × gS)) : Nat → Int32 → gS → Option (Int32 × gS)
  | 0, _, _ => none
  | n + 1, v7, σ => if 4 ≤ v7 then (K187 σ) else (Option.bind (f_L_open v7 σ) (fun q2 => f_L_tells_L31 w6 v7 q2.1 (fun (k17 : Int32) (s18 : gS) => Option.bind (f_X10_ghost v7 0 s18) (fun q19 => gLet (gMix s18 q19.2) (fun s20 => gGd (gin v7 12) (if q19.1 = (s20 304 (gil v7)) then (Option.bind (f_X10_ghost v7 1 s20) (fun q23 => gLet (gMix s20 q23.2) (fun s24 => gGd (gin (4 + v7) 12) (if q23.1 = (s24 304 (gil (4 + v7))) then (Option.bind (f_X10_ghost v7 2 s24) (fun q27 => gLet (gMix s24 q27.2) (fun s28 => if q27.1 = k17 then (Option.bind (f_X10_ghost v7 3 s28) (fun q30 => gLet (gMix s28 q30.2) (fun s31 => gGd (gin v7 12) (Option.bind (f_L_reach (s31 304 (gil v7)) q2.1 9 s31) (fun q33 => if q30.1 = q33.1 then (Option.bind (f_X10_ghost v7 4 q33.2) (fun q35 => gLet (gMix q33.2 q35.2) (fun s36 => gGd (gin (8 + v7) 12) (if q35.1 = (s36 304 (gil (8 + v7))) then (f_L_tells_L6 w6 K187 n (v7 + 1) s36) else (some (0, s36)))))) else (some (0, q33.2))))))) else (some (0, s28))))) else (some (0, s24)))))) else (some (0, s20)))))) gFu 0 0 q2.2))
theorem f_L_tells_L6_s (w6 : Int32) (K187 : gS → Option (Int32 × gS)) (n : Nat) (v7 : Int32) (σ : gS) : f_L_tells_L6 w6 K187 (n + 1) v7 σ = (if 4 ≤ v7 then (K187 σ) else (Option.bind (f_L_open v7 σ) (fun q2 => f_L_tells_L31 w6 v7 q2.1 (fun (k17 : Int32) (s18 : gS) => Option.bind (f_X10_ghost v7 0 s18) (fun q19 => gLet (gMix s18 q19.2) (fun s20 => gGd (gin v7 12) (if q19.1 = (s20 304 (gil v7)) then (Option.bind (f_X10_ghost v7 1 s20) (fun q23 => gLet (gMix s20 q23.2) (fun s24 => gGd (gin (4 + v7) 12) (if q23.1 = (s24 304 (gil (4 + v7))) then (Option.bind (f_X10_ghost v7 2 s24) (fun q27 => gLet (gMix s24 q27.2) (fun s28 => if q27.1 = k17 then (Option.bind (f_X10_ghost v7 3 s28) (fun q30 => gLet (gMix s28 q30.2) (fun s31 => gGd (gin v7 12) (Option.bind (f_L_reach (s31 304 (gil v7)) q2.1 9 s31) (fun q33 => if q30.1 = q33.1 then (Option.bind (f_X10_ghost v7 4 q33.2) (fun q35 => gLet (gMix q33.2 q35.2) (fun s36 => gGd (gin (8 + v7) 12) (if q35.1 = (s36 304 (gil (8 + v7))) then (f_L_tells_L6 w6 K187 n (v7 + 1) s36) else (some (0, s36)))))) else (some (0, q33.2))))))) else (some (0, s28))))) else (some (0, s24)))))) else (some (0, s20)))))) gFu 0 0 q2.2))) := rfl
def f_L_tells_L205 (w6 : Int32) (w7 : Int32) (K274 : Int32 → gS → Option (Int32 × gS)) : Nat → Int32 → Int32 → gS → Option (Int32 × gS)
  | 0, _, _, _ => none
  | n + 1, v8, v9, σ => if (σ 306 4) ≤ v9 then (K274 v8 σ) else (Option.bind (f_L_loud v9 w7 σ) (fun q42 => gGd (gin (5 + w7) 20) (gLet (fun (j44 : Int32) (j45 : Int32) (s46 : gS) => gLet (j44 ||| j45) (fun x48 => Option.bind (f_X10_loudness v9 w7 s46) (fun q49 => gLet (gMix s46 q49.2) (fun s50 => if q49.1 = q42.1 then (f_L_tells_L205 w6 w7 K274 n x48 (v9 + 1) s50) else (some (0, s50)))))) (fun J47 => if q42.1 < (q42.2 305 (gil (5 + w7))) then (J47 v8 0 q42.2) else (J47 v8 (1 <<< (v9 &&& 31)) q42.2)))))
theorem f_L_tells_L205_s (w6 : Int32) (w7 : Int32) (K274 : Int32 → gS → Option (Int32 × gS)) (n : Nat) (v8 : Int32) (v9 : Int32) (σ : gS) : f_L_tells_L205 w6 w7 K274 (n + 1) v8 v9 σ = (if (σ 306 4) ≤ v9 then (K274 v8 σ) else (Option.bind (f_L_loud v9 w7 σ) (fun q42 => gGd (gin (5 + w7) 20) (gLet (fun (j44 : Int32) (j45 : Int32) (s46 : gS) => gLet (j44 ||| j45) (fun x48 => Option.bind (f_X10_loudness v9 w7 s46) (fun q49 => gLet (gMix s46 q49.2) (fun s50 => if q49.1 = q42.1 then (f_L_tells_L205 w6 w7 K274 n x48 (v9 + 1) s50) else (some (0, s50)))))) (fun J47 => if q42.1 < (q42.2 305 (gil (5 + w7))) then (J47 v8 0 q42.2) else (J47 v8 (1 <<< (v9 &&& 31)) q42.2)))))) := rfl
def f_L_tells_L190 (K386 : Int32 → gS → Option (Int32 × gS)) : Nat → Int32 → Int32 → gS → Option (Int32 × gS)
  | 0, _, _, _ => none
  | n + 1, v6, v7, σ => if (σ 306 5) ≤ v7 then (K386 v6 σ) else (f_L_tells_L205 v6 v7 (fun (k53 : Int32) (s54 : gS) => gGd (gin (10 + v7) 20) (gLet (fun (j56 : Int32) (j57 : Int32) (s58 : gS) => gLet (j56 ||| j57) (fun x60 => Option.bind (f_X10_sleeperOf v7 0 s58) (fun q61 => gLet (gMix s58 q61.2) (fun s62 => gGd (gin v7 20) (if q61.1 = (s62 305 (gil v7)) then (Option.bind (f_X10_sleeperOf v7 1 s62) (fun q65 => gLet (gMix s62 q65.2) (fun s66 => gGd (gin (5 + v7) 20) (if q65.1 = (s66 305 (gil (5 + v7))) then (Option.bind (f_X10_sleeperOf v7 2 s66) (fun q69 => gLet (gMix s66 q69.2) (fun s70 => gGd (gin (10 + v7) 20) (if q69.1 = (s70 305 (gil (10 + v7))) then (Option.bind (f_X10_sleeperOf v7 3 s70) (fun q73 => gLet (gMix s70 q73.2) (fun s74 => gGd (gin (15 + v7) 20) (if q73.1 = (s74 305 (gil (15 + v7))) then (Option.bind (f_X10_sleeperOf v7 4 s74) (fun q77 => gLet (gMix s74 q77.2) (fun s78 => if q77.1 = k53 then (f_L_tells_L190 K386 n x60 (v7 + 1) s78) else (some (0, s78))))) else (some (0, s74)))))) else (some (0, s70)))))) else (some (0, s66)))))) else (some (0, s62))))))) (fun J59 => if (s54 305 (gil (10 + v7))) ≤ 0 then (J59 v6 0 s54) else (J59 v6 (1 <<< (v7 &&& 31)) s54)))) gFu 0 0 σ)
theorem f_L_tells_L190_s (K386 : Int32 → gS → Option (Int32 × gS)) (n : Nat) (v6 : Int32) (v7 : Int32) (σ : gS) : f_L_tells_L190 K386 (n + 1) v6 v7 σ = (if (σ 306 5) ≤ v7 then (K386 v6 σ) else (f_L_tells_L205 v6 v7 (fun (k53 : Int32) (s54 : gS) => gGd (gin (10 + v7) 20) (gLet (fun (j56 : Int32) (j57 : Int32) (s58 : gS) => gLet (j56 ||| j57) (fun x60 => Option.bind (f_X10_sleeperOf v7 0 s58) (fun q61 => gLet (gMix s58 q61.2) (fun s62 => gGd (gin v7 20) (if q61.1 = (s62 305 (gil v7)) then (Option.bind (f_X10_sleeperOf v7 1 s62) (fun q65 => gLet (gMix s62 q65.2) (fun s66 => gGd (gin (5 + v7) 20) (if q65.1 = (s66 305 (gil (5 + v7))) then (Option.bind (f_X10_sleeperOf v7 2 s66) (fun q69 => gLet (gMix s66 q69.2) (fun s70 => gGd (gin (10 + v7) 20) (if q69.1 = (s70 305 (gil (10 + v7))) then (Option.bind (f_X10_sleeperOf v7 3 s70) (fun q73 => gLet (gMix s70 q73.2) (fun s74 => gGd (gin (15 + v7) 20) (if q73.1 = (s74 305 (gil (15 + v7))) then (Option.bind (f_X10_sleeperOf v7 4 s74) (fun q77 => gLet (gMix s74 q77.2) (fun s78 => if q77.1 = k53 then (f_L_tells_L190 K386 n x60 (v7 + 1) s78) else (some (0, s78))))) else (some (0, s74)))))) else (some (0, s70)))))) else (some (0, s66)))))) else (some (0, s62))))))) (fun J59 => if (s54 305 (gil (10 + v7))) ≤ 0 then (J59 v6 0 s54) else (J59 v6 (1 <<< (v7 &&& 31)) s54)))) gFu 0 0 σ)) := rfl
def f_L_tells (σ : gS) : Option (Int32 × gS) := f_L_tells_L6 0 (fun (s39 : gS) => f_L_tells_L190 (fun (k81 : Int32) (s82 : gS) => Option.bind (f_X10_count 0 s82) (fun q83 => gLet (gMix s82 q83.2) (fun s84 => gLet (fun (j85 : Int32) (s86 : gS) => if j85 = 0 then (some (0, s86)) else (Option.bind (f_L_boards s86) (fun q89 => if q89.1 = 0 then (some (0, q89.2)) else (some (1, q89.2))))) (fun J87 => gLet (fun (s91 : gS) => J87 0 s91) (fun J92 => if q83.1 = (s84 306 0) then (Option.bind (f_X10_count 1 s84) (fun q94 => gLet (gMix s84 q94.2) (fun s95 => if q94.1 = (s95 306 1) then (Option.bind (f_X10_count 2 s95) (fun q97 => gLet (gMix s95 q97.2) (fun s98 => if q97.1 = (s98 306 2) then (Option.bind (f_X10_count 3 s98) (fun q100 => gLet (gMix s98 q100.2) (fun s101 => if q100.1 = (s101 306 4) then (Option.bind (f_X10_count 4 s101) (fun q103 => gLet (gMix s101 q103.2) (fun s104 => if q103.1 = (s104 306 5) then (Option.bind (f_X10_count 5 s104) (fun q106 => gLet (gMix s104 q106.2) (fun s107 => if q106.1 = k81 then (Option.bind (f_X10_count 6 s107) (fun q109 => gLet (gMix s107 q109.2) (fun s110 => Option.bind (f_L_watched s110) (fun q111 => if q109.1 = q111.1 then (Option.bind (f_X10_count 7 q111.2) (fun q113 => gLet (gMix q111.2 q113.2) (fun s114 => if q113.1 = (s114 306 3) then (Option.bind (f_X10_count 8 s114) (fun q116 => gLet (gMix s114 q116.2) (fun s117 => gGd (gne (s117 306 0)) (if q116.1 = ((s117 306 0) - ((s117 306 2) - (s117 306 2) / (s117 306 0) * (s117 306 0))) then (J87 1 s117) else (J92 s117))))) else (J92 s114)))) else (J92 q111.2))))) else (J92 s107)))) else (J92 s104)))) else (J92 s101)))) else (J92 s98)))) else (J92 s95)))) else (J92 s84)))))) gFu 0 0 s39) gFu 0 σ
set_option maxHeartbeats 4000000 in
set_option maxRecDepth 100000 in
theorem w_L_tells_L31 (w6 : Int32) (w7 : Int32) (w8 : Int32) (K96 : Int32 → gS → Option (Int32 × gS)) {q : Int32 × gS} (K : gK p s m args meth c G cL_tells 11 RL (some .boolean)) (hK96 : ∀ (k9 : Int32) (σ : gS), K96 k9 σ = some q → ∀ (H : Heap) (locs : List Loc) (ls : Array Slot), hSt G o [] s σ H locs → lv_has ls 11 [(0, .ref (o + 0)), (1, .ref (o + 302)), (2, .ref (o + 303)), (3, .ref (o + 304)), (4, .ref (o + 305)), (5, .ref (o + 306)), (6, .int w6), (7, .int w7), (8, .int w8), (9, .int k9)] → W p l e rmL_tells s m args below meth c H locs 0 0 (MQ below (hQi G o q) args s 0 0 (gA o 307)) (F0 m 96 ls [])) : ∀ (n : Nat) (v9 : Int32) (v10 : Int32) (σ : gS), f_L_tells_L31 w6 w7 w8 K96 n v9 v10 σ = some q → ∀ (H : Heap) (locs : List Loc) (ls : Array Slot), hSt G o [] s σ H locs → lv_has ls 11 [(0, .ref (o + 0)), (1, .ref (o + 302)), (2, .ref (o + 303)), (3, .ref (o + 304)), (4, .ref (o + 305)), (5, .ref (o + 306)), (6, .int w6), (7, .int w7), (8, .int w8), (9, .int v9), (10, .int v10)] → W p l e rmL_tells s m args below meth c H locs 0 0 (MQ below (hQi G o q) args s 0 0 (gA o 307)) (F0 m 31 ls []) := by
  obtain ⟨hx, hb, hml, hown, hts, -⟩ := id K
  intro n
  induction n with
  | zero =>
    intro v9 v10 σ hf
    exact absurd (show (none : Option _) = some q from hf) (by simp)
  | succ n ih =>
    intro v9 v10 σ hf H locs ls hS hl
    rw [f_L_tells_L31_s] at hf
    refine lv_iload hx hb dL_tells_31 (lv_at hl 10 rfl) ?_
    refine lv_aload hx hb dL_tells_33 (lv_at hl 5 rfl) ?_
    refine lv_iconst (v := 4) hx hb dL_tells_35 (by decide) ?_
    refine h_iald (cx := 306) (j := 4) K hS (eLL_306 G o) (by decide) (by decide) (by decide) dL_tells_36 ?_
    refine lv_icmp_ge (tgt := 96) hx hb dL_tells_37 (by decide) (fun c3 => ?_) (fun c3 => ?_)
    · have hf := gIf_t c3 hf
      exact hK96 v9 σ hf _ _ _ hS (lv_sub hl [0, 1, 2, 3, 4, 5, 6, 7, 8, 9] rfl)
    · have hf := gIf_f c3 hf
      refine lv_iload hx hb dL_tells_40 (lv_at hl 9 rfl) ?_
      refine lv_iload hx hb dL_tells_42 (lv_at hl 8 rfl) ?_
      refine lv_iload hx hb dL_tells_44 (lv_at hl 10 rfl) ?_
      refine lv_ishr hx hb dL_tells_46 ?_
      refine lv_iconst (v := 1) hx hb dL_tells_47 (by decide) ?_
      refine lv_iand hx hb dL_tells_48 ?_
      refine lv_iconst (v := 1) hx hb dL_tells_49 (by decide) ?_
      refine lv_icmp_ne (tgt := 86) hx hb dL_tells_50 (by decide) (fun c4 => ?_) (fun c4 => ?_)
      · have hf := gIf_f c4 hf
        refine lv_iconst (v := 0) hx hb dL_tells_86 (by decide) ?_
        refine lv_ior hx hb dL_tells_87 ?_
        obtain ⟨x5, hx5, hf⟩ := gLet_some hf
        refine g_top hx5 ?_
        refine lv_istore (lv' := [(9, .int x5), (0, .ref (o + 0)), (1, .ref (o + 302)), (2, .ref (o + 303)), (3, .ref (o + 304)), (4, .ref (o + 305)), (5, .ref (o + 306)), (6, .int w6), (7, .int w7), (8, .int w8), (10, .int v10)]) hx hb dL_tells_88 hl (by decide) rfl (fun ls hl => ?_)
        refine lv_iinc (v := (v10 + 1)) (lv' := [(10, .int (v10 + 1)), (9, .int x5), (0, .ref (o + 0)), (1, .ref (o + 302)), (2, .ref (o + 303)), (3, .ref (o + 304)), (4, .ref (o + 305)), (5, .ref (o + 306)), (6, .int w6), (7, .int w7), (8, .int w8)]) hx hb dL_tells_90 hl (k := 10) rfl rfl (by decide) rfl (fun ls hl => ?_)
        refine lv_goto (tgt := 31) hx hb dL_tells_93 (by decide) ?_
        exact ih x5 (v10 + 1) σ hf _ _ _ hS (lv_sub hl [2, 3, 4, 5, 6, 7, 8, 9, 10, 1, 0] rfl)
      · have hf := gIf_t c4 hf
        refine lv_aload_n hx hb dL_tells_53 rfl (lv_at hl 1 rfl) ?_
        refine lv_iload hx hb dL_tells_54 (lv_at hl 10 rfl) ?_
        obtain ⟨q6, hq6, hf⟩ := Option.bind_eq_some_iff.mp hf
        refine h_Si0 (X' := []) (As := [.ref (o + 302), .int v10]) K hS lS_L_10 (by simp) (c_L_one v10 σ q6 hq6) rfl rfl (Nat.le_of_ble_eq_true rfl) ⟨rfl, rfl⟩ ⟨Nat.le_of_ble_eq_true rfl, Nat.le_of_ble_eq_true rfl⟩ hl.1 ⟨Nat.le_of_ble_eq_true rfl, Nat.le_of_ble_eq_true rfl⟩ dL_tells_56 (fun H locs hS => ?_)
        refine lv_aload_n hx hb dL_tells_59 rfl (lv_at hl 3 rfl) ?_
        refine lv_iload hx hb dL_tells_60 (lv_at hl 7 rfl) ?_
        obtain ⟨h7, hf⟩ := gGd_some hf
        refine h_iald (cx := 304) K hS (eLL_304 G o) (by decide) h7 rfl dL_tells_62 ?_
        obtain ⟨J10, hJ10, hf⟩ := gLet_some hf
        have wJ10 : ∀ (j8 : Int32) (s9 : gS), J10 j8 s9 = some q → ∀ (H : Heap) (locs : List Loc) (ls : Array Slot), hSt G o [] s s9 H locs → lv_has ls 11 [(0, .ref (o + 0)), (1, .ref (o + 302)), (2, .ref (o + 303)), (3, .ref (o + 304)), (4, .ref (o + 305)), (5, .ref (o + 306)), (6, .int w6), (7, .int w7), (8, .int w8), (10, .int v10)] → W p l e rmL_tells s m args below meth c H locs 0 0 (MQ below (hQi G o q) args s 0 0 (gA o 307)) (F0 m 79 ls [.int j8]) := by
          intro j8 s9 hf H locs ls hS hl
          rw [hJ10] at hf
          refine lv_iconst (v := 1) hx hb dL_tells_79 (by decide) ?_
          refine lv_iload hx hb dL_tells_80 (lv_at hl 9 rfl) ?_
          refine lv_ishl hx hb dL_tells_82 ?_
          refine lv_goto (tgt := 87) hx hb dL_tells_83 (by decide) ?_
          refine lv_ior hx hb dL_tells_87 ?_
          obtain ⟨x11, hx11, hf⟩ := gLet_some hf
          refine g_top hx11 ?_
          refine lv_istore (lv' := [(9, .int x11), (0, .ref (o + 0)), (1, .ref (o + 302)), (2, .ref (o + 303)), (3, .ref (o + 304)), (4, .ref (o + 305)), (5, .ref (o + 306)), (6, .int w6), (7, .int w7), (8, .int w8), (10, .int v10)]) hx hb dL_tells_88 hl (by decide) rfl (fun ls hl => ?_)
          refine lv_iinc (v := (v10 + 1)) (lv' := [(10, .int (v10 + 1)), (9, .int x11), (0, .ref (o + 0)), (1, .ref (o + 302)), (2, .ref (o + 303)), (3, .ref (o + 304)), (4, .ref (o + 305)), (5, .ref (o + 306)), (6, .int w6), (7, .int w7), (8, .int w8)]) hx hb dL_tells_90 hl (k := 10) rfl rfl (by decide) rfl (fun ls hl => ?_)
          refine lv_goto (tgt := 31) hx hb dL_tells_93 (by decide) ?_
          exact ih x11 (v10 + 1) s9 hf _ _ _ hS (lv_sub hl [2, 3, 4, 5, 6, 7, 8, 9, 10, 1, 0] rfl)
        clear hJ10
        refine lv_icmp_eq (tgt := 79) hx hb dL_tells_63 (by decide) (fun c12 => ?_) (fun c12 => ?_)
        · have hf := gIf_t c12 hf
          exact wJ10 v9 q6.2 hf _ _ _ hS (lv_sub hl [0, 1, 2, 3, 4, 5, 6, 7, 8, 10] rfl)
        · have hf := gIf_f c12 hf
          refine lv_aload_n hx hb dL_tells_66 rfl (lv_at hl 1 rfl) ?_
          refine lv_iload hx hb dL_tells_67 (lv_at hl 10 rfl) ?_
          obtain ⟨q13, hq13, hf⟩ := Option.bind_eq_some_iff.mp hf
          refine h_Si0 (X' := []) (As := [.ref (o + 302), .int v10]) K hS lS_L_16 (by simp) (c_L_two v10 q6.2 q13 hq13) rfl rfl (Nat.le_of_ble_eq_true rfl) ⟨rfl, rfl⟩ ⟨Nat.le_of_ble_eq_true rfl, Nat.le_of_ble_eq_true rfl⟩ hl.1 ⟨Nat.le_of_ble_eq_true rfl, Nat.le_of_ble_eq_true rfl⟩ dL_tells_69 (fun H locs hS => ?_)
          refine lv_aload_n hx hb dL_tells_72 rfl (lv_at hl 3 rfl) ?_
          refine lv_iload hx hb dL_tells_73 (lv_at hl 7 rfl) ?_
          obtain ⟨h14, hf⟩ := gGd_some hf
          refine h_iald (cx := 304) K hS (eLL_304 G o) (by decide) h14 rfl dL_tells_75 ?_
          refine lv_icmp_ne (tgt := 86) hx hb dL_tells_76 (by decide) (fun c15 => ?_) (fun c15 => ?_)
          · have hf := gIf_f c15 hf
            refine lv_iconst (v := 0) hx hb dL_tells_86 (by decide) ?_
            refine lv_ior hx hb dL_tells_87 ?_
            obtain ⟨x16, hx16, hf⟩ := gLet_some hf
            refine g_top hx16 ?_
            refine lv_istore (lv' := [(9, .int x16), (0, .ref (o + 0)), (1, .ref (o + 302)), (2, .ref (o + 303)), (3, .ref (o + 304)), (4, .ref (o + 305)), (5, .ref (o + 306)), (6, .int w6), (7, .int w7), (8, .int w8), (10, .int v10)]) hx hb dL_tells_88 hl (by decide) rfl (fun ls hl => ?_)
            refine lv_iinc (v := (v10 + 1)) (lv' := [(10, .int (v10 + 1)), (9, .int x16), (0, .ref (o + 0)), (1, .ref (o + 302)), (2, .ref (o + 303)), (3, .ref (o + 304)), (4, .ref (o + 305)), (5, .ref (o + 306)), (6, .int w6), (7, .int w7), (8, .int w8)]) hx hb dL_tells_90 hl (k := 10) rfl rfl (by decide) rfl (fun ls hl => ?_)
            refine lv_goto (tgt := 31) hx hb dL_tells_93 (by decide) ?_
            exact ih x16 (v10 + 1) q13.2 hf _ _ _ hS (lv_sub hl [2, 3, 4, 5, 6, 7, 8, 9, 10, 1, 0] rfl)
          · have hf := gIf_t c15 hf
            exact wJ10 v9 q13.2 hf _ _ _ hS (lv_sub hl [0, 1, 2, 3, 4, 5, 6, 7, 8, 10] rfl)
set_option maxHeartbeats 4000000 in
set_option maxRecDepth 100000 in
theorem w_L_tells_L6 (w6 : Int32) (K187 : gS → Option (Int32 × gS)) {q : Int32 × gS} (K : gK p s m args meth c G cL_tells 11 RL (some .boolean)) (hK187 : ∀ (σ : gS), K187 σ = some q → ∀ (H : Heap) (locs : List Loc) (ls : Array Slot), hSt G o [] s σ H locs → lv_has ls 11 [(0, .ref (o + 0)), (1, .ref (o + 302)), (2, .ref (o + 303)), (3, .ref (o + 304)), (4, .ref (o + 305)), (5, .ref (o + 306)), (6, .int w6)] → W p l e rmL_tells s m args below meth c H locs 0 0 (MQ below (hQi G o q) args s 0 0 (gA o 307)) (F0 m 187 ls [])) : ∀ (n : Nat) (v7 : Int32) (σ : gS), f_L_tells_L6 w6 K187 n v7 σ = some q → ∀ (H : Heap) (locs : List Loc) (ls : Array Slot), hSt G o [] s σ H locs → lv_has ls 11 [(0, .ref (o + 0)), (1, .ref (o + 302)), (2, .ref (o + 303)), (3, .ref (o + 304)), (4, .ref (o + 305)), (5, .ref (o + 306)), (6, .int w6), (7, .int v7)] → W p l e rmL_tells s m args below meth c H locs 0 0 (MQ below (hQi G o q) args s 0 0 (gA o 307)) (F0 m 6 ls []) := by
  obtain ⟨hx, hb, hml, hown, hts, -⟩ := id K
  intro n
  induction n with
  | zero =>
    intro v7 σ hf
    exact absurd (show (none : Option _) = some q from hf) (by simp)
  | succ n ih =>
    intro v7 σ hf H locs ls hS hl
    rw [f_L_tells_L6_s] at hf
    refine lv_iload hx hb dL_tells_6 (lv_at hl 7 rfl) ?_
    refine lv_iconst (v := 4) hx hb dL_tells_8 (by decide) ?_
    refine lv_icmp_ge (tgt := 187) hx hb dL_tells_9 (by decide) (fun c1 => ?_) (fun c1 => ?_)
    · have hf := gIf_t c1 hf
      exact hK187 σ hf _ _ _ hS (lv_sub hl [0, 1, 2, 3, 4, 5, 6] rfl)
    · have hf := gIf_f c1 hf
      refine lv_aload_n hx hb dL_tells_12 rfl (lv_at hl 1 rfl) ?_
      refine lv_aload_n hx hb dL_tells_13 rfl (lv_at hl 3 rfl) ?_
      refine lv_aload hx hb dL_tells_14 (lv_at hl 4 rfl) ?_
      refine lv_aload hx hb dL_tells_16 (lv_at hl 5 rfl) ?_
      refine lv_iload hx hb dL_tells_18 (lv_at hl 7 rfl) ?_
      obtain ⟨q2, hq2, hf⟩ := Option.bind_eq_some_iff.mp hf
      refine h_Si0 (X' := []) (As := [.ref (o + 302), .ref (o + 304), .ref (o + 305), .ref (o + 306), .int v7]) K hS lS_L_56 (by simp) (c_L_open v7 σ q2 hq2) rfl rfl (Nat.le_of_ble_eq_true rfl) ⟨rfl, rfl⟩ ⟨Nat.le_of_ble_eq_true rfl, Nat.le_of_ble_eq_true rfl⟩ hl.1 ⟨Nat.le_of_ble_eq_true rfl, Nat.le_of_ble_eq_true rfl⟩ dL_tells_20 (fun H locs hS => ?_)
      refine lv_istore (lv' := [(8, .int q2.1), (0, .ref (o + 0)), (1, .ref (o + 302)), (2, .ref (o + 303)), (3, .ref (o + 304)), (4, .ref (o + 305)), (5, .ref (o + 306)), (6, .int w6), (7, .int v7)]) hx hb dL_tells_23 hl (by decide) rfl (fun ls hl => ?_)
      refine lv_iconst (v := 0) hx hb dL_tells_25 (by decide) ?_
      refine lv_istore (lv' := [(9, .int 0), (8, .int q2.1), (0, .ref (o + 0)), (1, .ref (o + 302)), (2, .ref (o + 303)), (3, .ref (o + 304)), (4, .ref (o + 305)), (5, .ref (o + 306)), (6, .int w6), (7, .int v7)]) hx hb dL_tells_26 hl (by decide) rfl (fun ls hl => ?_)
      refine lv_iconst (v := 0) hx hb dL_tells_28 (by decide) ?_
      refine lv_istore (lv' := [(10, .int 0), (9, .int 0), (8, .int q2.1), (0, .ref (o + 0)), (1, .ref (o + 302)), (2, .ref (o + 303)), (3, .ref (o + 304)), (4, .ref (o + 305)), (5, .ref (o + 306)), (6, .int w6), (7, .int v7)]) hx hb dL_tells_29 hl (by decide) rfl (fun ls hl => ?_)
      refine w_L_tells_L31 w6 v7 q2.1 _ K ?_ gFu 0 0 q2.2 hf _ _ _ hS (lv_sub hl [3, 4, 5, 6, 7, 8, 9, 10, 2, 1, 0] rfl)
      · intro k17 s18 hf H locs ls hS hl
        refine lv_aload_n hx hb dL_tells_96 rfl (lv_at hl 0 rfl) ?_
        refine lv_iload hx hb dL_tells_97 (lv_at hl 7 rfl) ?_
        refine lv_iconst (v := 0) hx hb dL_tells_99 (by decide) ?_
        obtain ⟨q19, hq19, hf⟩ := Option.bind_eq_some_iff.mp hf
        obtain ⟨s20, hs20, hf⟩ := gLet_some hf
        refine h_Vi (As := [.int v7, .int 0]) K hS lV_L_97 (c_X10_ghost v7 0 s18 q19 hq19) rfl rfl (Nat.le_of_ble_eq_true rfl) ⟨⟨Nat.le_of_ble_eq_true rfl, Nat.le_of_ble_eq_true rfl⟩, rfl, rfl⟩ hl.1 ⟨Nat.le_of_ble_eq_true rfl, Nat.le_of_ble_eq_true rfl⟩ dL_tells_100 (fun H locs hS => ?_)
        rw [← hs20] at hS
        refine lv_aload_n hx hb dL_tells_103 rfl (lv_at hl 3 rfl) ?_
        refine lv_iload hx hb dL_tells_104 (lv_at hl 7 rfl) ?_
        obtain ⟨h21, hf⟩ := gGd_some hf
        refine h_iald (cx := 304) K hS (eLL_304 G o) (by decide) h21 rfl dL_tells_106 ?_
        refine lv_icmp_ne (tgt := 179) hx hb dL_tells_107 (by decide) (fun c22 => ?_) (fun c22 => ?_)
        · have hf := gIf_f c22 hf
          refine lv_iconst (v := 0) hx hb dL_tells_179 (by decide) ?_
          exact h_zret K hS rfl hf dL_tells_180
        · have hf := gIf_t c22 hf
          refine lv_aload_n hx hb dL_tells_110 rfl (lv_at hl 0 rfl) ?_
          refine lv_iload hx hb dL_tells_111 (lv_at hl 7 rfl) ?_
          refine lv_iconst (v := 1) hx hb dL_tells_113 (by decide) ?_
          obtain ⟨q23, hq23, hf⟩ := Option.bind_eq_some_iff.mp hf
          obtain ⟨s24, hs24, hf⟩ := gLet_some hf
          refine h_Vi (As := [.int v7, .int 1]) K hS lV_L_97 (c_X10_ghost v7 1 s20 q23 hq23) rfl rfl (Nat.le_of_ble_eq_true rfl) ⟨⟨Nat.le_of_ble_eq_true rfl, Nat.le_of_ble_eq_true rfl⟩, rfl, rfl⟩ hl.1 ⟨Nat.le_of_ble_eq_true rfl, Nat.le_of_ble_eq_true rfl⟩ dL_tells_114 (fun H locs hS => ?_)
          rw [← hs24] at hS
          refine lv_aload_n hx hb dL_tells_117 rfl (lv_at hl 3 rfl) ?_
          refine lv_iconst (v := 4) hx hb dL_tells_118 (by decide) ?_
          refine lv_iload hx hb dL_tells_119 (lv_at hl 7 rfl) ?_
          refine lv_iadd hx hb dL_tells_121 ?_
          obtain ⟨h25, hf⟩ := gGd_some hf
          refine h_iald (cx := 304) K hS (eLL_304 G o) (by decide) h25 rfl dL_tells_122 ?_
          refine lv_icmp_ne (tgt := 179) hx hb dL_tells_123 (by decide) (fun c26 => ?_) (fun c26 => ?_)
          · have hf := gIf_f c26 hf
            refine lv_iconst (v := 0) hx hb dL_tells_179 (by decide) ?_
            exact h_zret K hS rfl hf dL_tells_180
          · have hf := gIf_t c26 hf
            refine lv_aload_n hx hb dL_tells_126 rfl (lv_at hl 0 rfl) ?_
            refine lv_iload hx hb dL_tells_127 (lv_at hl 7 rfl) ?_
            refine lv_iconst (v := 2) hx hb dL_tells_129 (by decide) ?_
            obtain ⟨q27, hq27, hf⟩ := Option.bind_eq_some_iff.mp hf
            obtain ⟨s28, hs28, hf⟩ := gLet_some hf
            refine h_Vi (As := [.int v7, .int 2]) K hS lV_L_97 (c_X10_ghost v7 2 s24 q27 hq27) rfl rfl (Nat.le_of_ble_eq_true rfl) ⟨⟨Nat.le_of_ble_eq_true rfl, Nat.le_of_ble_eq_true rfl⟩, rfl, rfl⟩ hl.1 ⟨Nat.le_of_ble_eq_true rfl, Nat.le_of_ble_eq_true rfl⟩ dL_tells_130 (fun H locs hS => ?_)
            rw [← hs28] at hS
            refine lv_iload hx hb dL_tells_133 (lv_at hl 9 rfl) ?_
            refine lv_icmp_ne (tgt := 179) hx hb dL_tells_135 (by decide) (fun c29 => ?_) (fun c29 => ?_)
            · have hf := gIf_f c29 hf
              refine lv_iconst (v := 0) hx hb dL_tells_179 (by decide) ?_
              exact h_zret K hS rfl hf dL_tells_180
            · have hf := gIf_t c29 hf
              refine lv_aload_n hx hb dL_tells_138 rfl (lv_at hl 0 rfl) ?_
              refine lv_iload hx hb dL_tells_139 (lv_at hl 7 rfl) ?_
              refine lv_iconst (v := 3) hx hb dL_tells_141 (by decide) ?_
              obtain ⟨q30, hq30, hf⟩ := Option.bind_eq_some_iff.mp hf
              obtain ⟨s31, hs31, hf⟩ := gLet_some hf
              refine h_Vi (As := [.int v7, .int 3]) K hS lV_L_97 (c_X10_ghost v7 3 s28 q30 hq30) rfl rfl (Nat.le_of_ble_eq_true rfl) ⟨⟨Nat.le_of_ble_eq_true rfl, Nat.le_of_ble_eq_true rfl⟩, rfl, rfl⟩ hl.1 ⟨Nat.le_of_ble_eq_true rfl, Nat.le_of_ble_eq_true rfl⟩ dL_tells_142 (fun H locs hS => ?_)
              rw [← hs31] at hS
              refine lv_aload_n hx hb dL_tells_145 rfl (lv_at hl 1 rfl) ?_
              refine lv_aload hx hb dL_tells_146 (lv_at hl 5 rfl) ?_
              refine lv_aload_n hx hb dL_tells_148 rfl (lv_at hl 3 rfl) ?_
              refine lv_iload hx hb dL_tells_149 (lv_at hl 7 rfl) ?_
              obtain ⟨h32, hf⟩ := gGd_some hf
              refine h_iald (cx := 304) K hS (eLL_304 G o) (by decide) h32 rfl dL_tells_151 ?_
              refine lv_iload hx hb dL_tells_152 (lv_at hl 8 rfl) ?_
              refine lv_bipush (v := 9) hx hb dL_tells_154 (by decide) ?_
              obtain ⟨q33, hq33, hf⟩ := Option.bind_eq_some_iff.mp hf
              refine h_Si0 (X' := []) (As := [.ref (o + 302), .ref (o + 306), .int (s31 304 (gil v7)), .int q2.1, .int 9]) K hS lS_L_25 (by simp) (c_L_reach (s31 304 (gil v7)) q2.1 9 s31 q33 hq33) rfl rfl (Nat.le_of_ble_eq_true rfl) ⟨rfl, rfl⟩ ⟨Nat.le_of_ble_eq_true rfl, Nat.le_of_ble_eq_true rfl⟩ hl.1 ⟨Nat.le_of_ble_eq_true rfl, Nat.le_of_ble_eq_true rfl⟩ dL_tells_156 (fun H locs hS => ?_)
              refine lv_icmp_ne (tgt := 179) hx hb dL_tells_159 (by decide) (fun c34 => ?_) (fun c34 => ?_)
              · have hf := gIf_f c34 hf
                refine lv_iconst (v := 0) hx hb dL_tells_179 (by decide) ?_
                exact h_zret K hS rfl hf dL_tells_180
              · have hf := gIf_t c34 hf
                refine lv_aload_n hx hb dL_tells_162 rfl (lv_at hl 0 rfl) ?_
                refine lv_iload hx hb dL_tells_163 (lv_at hl 7 rfl) ?_
                refine lv_iconst (v := 4) hx hb dL_tells_165 (by decide) ?_
                obtain ⟨q35, hq35, hf⟩ := Option.bind_eq_some_iff.mp hf
                obtain ⟨s36, hs36, hf⟩ := gLet_some hf
                refine h_Vi (As := [.int v7, .int 4]) K hS lV_L_97 (c_X10_ghost v7 4 q33.2 q35 hq35) rfl rfl (Nat.le_of_ble_eq_true rfl) ⟨⟨Nat.le_of_ble_eq_true rfl, Nat.le_of_ble_eq_true rfl⟩, rfl, rfl⟩ hl.1 ⟨Nat.le_of_ble_eq_true rfl, Nat.le_of_ble_eq_true rfl⟩ dL_tells_166 (fun H locs hS => ?_)
                rw [← hs36] at hS
                refine lv_aload_n hx hb dL_tells_169 rfl (lv_at hl 3 rfl) ?_
                refine lv_bipush (v := 8) hx hb dL_tells_170 (by decide) ?_
                refine lv_iload hx hb dL_tells_172 (lv_at hl 7 rfl) ?_
                refine lv_iadd hx hb dL_tells_174 ?_
                obtain ⟨h37, hf⟩ := gGd_some hf
                refine h_iald (cx := 304) K hS (eLL_304 G o) (by decide) h37 rfl dL_tells_175 ?_
                refine lv_icmp_eq (tgt := 181) hx hb dL_tells_176 (by decide) (fun c38 => ?_) (fun c38 => ?_)
                · have hf := gIf_t c38 hf
                  refine lv_iinc (v := (v7 + 1)) (lv' := [(7, .int (v7 + 1)), (0, .ref (o + 0)), (1, .ref (o + 302)), (2, .ref (o + 303)), (3, .ref (o + 304)), (4, .ref (o + 305)), (5, .ref (o + 306)), (6, .int w6), (8, .int q2.1), (9, .int k17)]) hx hb dL_tells_181 hl (k := 7) rfl rfl (by decide) rfl (fun ls hl => ?_)
                  refine lv_goto (tgt := 6) hx hb dL_tells_184 (by decide) ?_
                  exact ih (v7 + 1) s36 hf _ _ _ hS (lv_sub hl [1, 2, 3, 4, 5, 6, 7, 0] rfl)
                · have hf := gIf_f c38 hf
                  refine lv_iconst (v := 0) hx hb dL_tells_179 (by decide) ?_
                  exact h_zret K hS rfl hf dL_tells_180
set_option maxHeartbeats 4000000 in
set_option maxRecDepth 100000 in
theorem w_L_tells_L205 (w6 : Int32) (w7 : Int32) (K274 : Int32 → gS → Option (Int32 × gS)) {q : Int32 × gS} (K : gK p s m args meth c G cL_tells 11 RL (some .boolean)) (hK274 : ∀ (k8 : Int32) (σ : gS), K274 k8 σ = some q → ∀ (H : Heap) (locs : List Loc) (ls : Array Slot), hSt G o [] s σ H locs → lv_has ls 11 [(0, .ref (o + 0)), (1, .ref (o + 302)), (2, .ref (o + 303)), (3, .ref (o + 304)), (4, .ref (o + 305)), (5, .ref (o + 306)), (6, .int w6), (7, .int w7), (8, .int k8)] → W p l e rmL_tells s m args below meth c H locs 0 0 (MQ below (hQi G o q) args s 0 0 (gA o 307)) (F0 m 274 ls [])) : ∀ (n : Nat) (v8 : Int32) (v9 : Int32) (σ : gS), f_L_tells_L205 w6 w7 K274 n v8 v9 σ = some q → ∀ (H : Heap) (locs : List Loc) (ls : Array Slot), hSt G o [] s σ H locs → lv_has ls 11 [(0, .ref (o + 0)), (1, .ref (o + 302)), (2, .ref (o + 303)), (3, .ref (o + 304)), (4, .ref (o + 305)), (5, .ref (o + 306)), (6, .int w6), (7, .int w7), (8, .int v8), (9, .int v9)] → W p l e rmL_tells s m args below meth c H locs 0 0 (MQ below (hQi G o q) args s 0 0 (gA o 307)) (F0 m 205 ls []) := by
  obtain ⟨hx, hb, hml, hown, hts, -⟩ := id K
  intro n
  induction n with
  | zero =>
    intro v8 v9 σ hf
    exact absurd (show (none : Option _) = some q from hf) (by simp)
  | succ n ih =>
    intro v8 v9 σ hf H locs ls hS hl
    rw [f_L_tells_L205_s] at hf
    refine lv_iload hx hb dL_tells_205 (lv_at hl 9 rfl) ?_
    refine lv_aload hx hb dL_tells_207 (lv_at hl 5 rfl) ?_
    refine lv_iconst (v := 4) hx hb dL_tells_209 (by decide) ?_
    refine h_iald (cx := 306) (j := 4) K hS (eLL_306 G o) (by decide) (by decide) (by decide) dL_tells_210 ?_
    refine lv_icmp_ge (tgt := 274) hx hb dL_tells_211 (by decide) (fun c41 => ?_) (fun c41 => ?_)
    · have hf := gIf_t c41 hf
      exact hK274 v8 σ hf _ _ _ hS (lv_sub hl [0, 1, 2, 3, 4, 5, 6, 7, 8] rfl)
    · have hf := gIf_f c41 hf
      refine lv_aload_n hx hb dL_tells_214 rfl (lv_at hl 1 rfl) ?_
      refine lv_aload hx hb dL_tells_215 (lv_at hl 4 rfl) ?_
      refine lv_aload hx hb dL_tells_217 (lv_at hl 5 rfl) ?_
      refine lv_iload hx hb dL_tells_219 (lv_at hl 9 rfl) ?_
      refine lv_iload hx hb dL_tells_221 (lv_at hl 7 rfl) ?_
      obtain ⟨q42, hq42, hf⟩ := Option.bind_eq_some_iff.mp hf
      refine h_Si0 (X' := []) (As := [.ref (o + 302), .ref (o + 305), .ref (o + 306), .int v9, .int w7]) K hS lS_L_44 (by simp) (c_L_loud v9 w7 σ q42 hq42) rfl rfl (Nat.le_of_ble_eq_true rfl) ⟨rfl, rfl⟩ ⟨Nat.le_of_ble_eq_true rfl, Nat.le_of_ble_eq_true rfl⟩ hl.1 ⟨Nat.le_of_ble_eq_true rfl, Nat.le_of_ble_eq_true rfl⟩ dL_tells_223 (fun H locs hS => ?_)
      refine lv_istore (lv' := [(10, .int q42.1), (0, .ref (o + 0)), (1, .ref (o + 302)), (2, .ref (o + 303)), (3, .ref (o + 304)), (4, .ref (o + 305)), (5, .ref (o + 306)), (6, .int w6), (7, .int w7), (8, .int v8), (9, .int v9)]) hx hb dL_tells_226 hl (by decide) rfl (fun ls hl => ?_)
      refine lv_iload hx hb dL_tells_228 (lv_at hl 9 rfl) ?_
      refine lv_iload hx hb dL_tells_230 (lv_at hl 0 rfl) ?_
      refine lv_aload hx hb dL_tells_232 (lv_at hl 5 rfl) ?_
      refine lv_iconst (v := 5) hx hb dL_tells_234 (by decide) ?_
      refine lv_iload hx hb dL_tells_235 (lv_at hl 8 rfl) ?_
      refine lv_iadd hx hb dL_tells_237 ?_
      obtain ⟨h43, hf⟩ := gGd_some hf
      refine h_iald (cx := 305) K hS (eLL_305 G o) (by decide) h43 rfl dL_tells_238 ?_
      obtain ⟨J47, hJ47, hf⟩ := gLet_some hf
      have wJ47 : ∀ (j44 : Int32) (j45 : Int32) (s46 : gS), J47 j44 j45 s46 = some q → ∀ (H : Heap) (locs : List Loc) (ls : Array Slot), hSt G o [] s s46 H locs → lv_has ls 11 [(0, .ref (o + 0)), (1, .ref (o + 302)), (2, .ref (o + 303)), (3, .ref (o + 304)), (4, .ref (o + 305)), (5, .ref (o + 306)), (6, .int w6), (7, .int w7), (9, .int v9), (10, .int q42.1)] → W p l e rmL_tells s m args below meth c H locs 0 0 (MQ below (hQi G o q) args s 0 0 (gA o 307)) (F0 m 250 ls [.int j45, .int j44]) := by
        intro j44 j45 s46 hf H locs ls hS hl
        rw [hJ47] at hf
        refine lv_ior hx hb dL_tells_250 ?_
        obtain ⟨x48, hx48, hf⟩ := gLet_some hf
        refine g_top hx48 ?_
        refine lv_istore (lv' := [(8, .int x48), (0, .ref (o + 0)), (1, .ref (o + 302)), (2, .ref (o + 303)), (3, .ref (o + 304)), (4, .ref (o + 305)), (5, .ref (o + 306)), (6, .int w6), (7, .int w7), (9, .int v9), (10, .int q42.1)]) hx hb dL_tells_251 hl (by decide) rfl (fun ls hl => ?_)
        refine lv_aload_n hx hb dL_tells_253 rfl (lv_at hl 1 rfl) ?_
        refine lv_iload hx hb dL_tells_254 (lv_at hl 9 rfl) ?_
        refine lv_iload hx hb dL_tells_256 (lv_at hl 8 rfl) ?_
        obtain ⟨q49, hq49, hf⟩ := Option.bind_eq_some_iff.mp hf
        obtain ⟨s50, hs50, hf⟩ := gLet_some hf
        refine h_Vi (As := [.int v9, .int w7]) K hS lV_L_100 (c_X10_loudness v9 w7 s46 q49 hq49) rfl rfl (Nat.le_of_ble_eq_true rfl) ⟨⟨Nat.le_of_ble_eq_true rfl, Nat.le_of_ble_eq_true rfl⟩, rfl, rfl⟩ hl.1 ⟨Nat.le_of_ble_eq_true rfl, Nat.le_of_ble_eq_true rfl⟩ dL_tells_258 (fun H locs hS => ?_)
        rw [← hs50] at hS
        refine lv_iload hx hb dL_tells_261 (lv_at hl 10 rfl) ?_
        refine lv_icmp_eq (tgt := 268) hx hb dL_tells_263 (by decide) (fun c51 => ?_) (fun c51 => ?_)
        · have hf := gIf_t c51 hf
          refine lv_iinc (v := (v9 + 1)) (lv' := [(9, .int (v9 + 1)), (8, .int x48), (0, .ref (o + 0)), (1, .ref (o + 302)), (2, .ref (o + 303)), (3, .ref (o + 304)), (4, .ref (o + 305)), (5, .ref (o + 306)), (6, .int w6), (7, .int w7), (10, .int q42.1)]) hx hb dL_tells_268 hl (k := 9) rfl rfl (by decide) rfl (fun ls hl => ?_)
          refine lv_goto (tgt := 205) hx hb dL_tells_271 (by decide) ?_
          exact ih x48 (v9 + 1) s50 hf _ _ _ hS (lv_sub hl [2, 3, 4, 5, 6, 7, 8, 9, 1, 0] rfl)
        · have hf := gIf_f c51 hf
          refine lv_iconst (v := 0) hx hb dL_tells_266 (by decide) ?_
          exact h_zret K hS rfl hf dL_tells_267
      clear hJ47
      refine lv_icmp_lt (tgt := 249) hx hb dL_tells_239 (by decide) (fun c52 => ?_) (fun c52 => ?_)
      · have hf := gIf_t c52 hf
        refine lv_iconst (v := 0) hx hb dL_tells_249 (by decide) ?_
        exact wJ47 v8 0 q42.2 hf _ _ _ hS (lv_sub hl [1, 2, 3, 4, 5, 6, 7, 8, 10, 0] rfl)
      · have hf := gIf_f c52 hf
        refine lv_iconst (v := 1) hx hb dL_tells_242 (by decide) ?_
        refine lv_iload hx hb dL_tells_243 (lv_at hl 10 rfl) ?_
        refine lv_ishl hx hb dL_tells_245 ?_
        refine lv_goto (tgt := 250) hx hb dL_tells_246 (by decide) ?_
        exact wJ47 v8 (1 <<< (v9 &&& 31)) q42.2 hf _ _ _ hS (lv_sub hl [1, 2, 3, 4, 5, 6, 7, 8, 10, 0] rfl)
set_option maxHeartbeats 4000000 in
set_option maxRecDepth 100000 in
theorem w_L_tells_L190 (K386 : Int32 → gS → Option (Int32 × gS)) {q : Int32 × gS} (K : gK p s m args meth c G cL_tells 11 RL (some .boolean)) (hK386 : ∀ (k6 : Int32) (σ : gS), K386 k6 σ = some q → ∀ (H : Heap) (locs : List Loc) (ls : Array Slot), hSt G o [] s σ H locs → lv_has ls 11 [(0, .ref (o + 0)), (1, .ref (o + 302)), (2, .ref (o + 303)), (3, .ref (o + 304)), (4, .ref (o + 305)), (5, .ref (o + 306)), (6, .int k6)] → W p l e rmL_tells s m args below meth c H locs 0 0 (MQ below (hQi G o q) args s 0 0 (gA o 307)) (F0 m 386 ls [])) : ∀ (n : Nat) (v6 : Int32) (v7 : Int32) (σ : gS), f_L_tells_L190 K386 n v6 v7 σ = some q → ∀ (H : Heap) (locs : List Loc) (ls : Array Slot), hSt G o [] s σ H locs → lv_has ls 11 [(0, .ref (o + 0)), (1, .ref (o + 302)), (2, .ref (o + 303)), (3, .ref (o + 304)), (4, .ref (o + 305)), (5, .ref (o + 306)), (6, .int v6), (7, .int v7)] → W p l e rmL_tells s m args below meth c H locs 0 0 (MQ below (hQi G o q) args s 0 0 (gA o 307)) (F0 m 190 ls []) := by
  obtain ⟨hx, hb, hml, hown, hts, -⟩ := id K
  intro n
  induction n with
  | zero =>
    intro v6 v7 σ hf
    exact absurd (show (none : Option _) = some q from hf) (by simp)
  | succ n ih =>
    intro v6 v7 σ hf H locs ls hS hl
    rw [f_L_tells_L190_s] at hf
    refine lv_iload hx hb dL_tells_190 (lv_at hl 7 rfl) ?_
    refine lv_aload hx hb dL_tells_192 (lv_at hl 5 rfl) ?_
    refine lv_iconst (v := 5) hx hb dL_tells_194 (by decide) ?_
    refine h_iald (cx := 306) (j := 5) K hS (eLL_306 G o) (by decide) (by decide) (by decide) dL_tells_195 ?_
    refine lv_icmp_ge (tgt := 386) hx hb dL_tells_196 (by decide) (fun c40 => ?_) (fun c40 => ?_)
    · have hf := gIf_t c40 hf
      exact hK386 v6 σ hf _ _ _ hS (lv_sub hl [0, 1, 2, 3, 4, 5, 6] rfl)
    · have hf := gIf_f c40 hf
      refine lv_iconst (v := 0) hx hb dL_tells_199 (by decide) ?_
      refine lv_istore (lv' := [(8, .int 0), (0, .ref (o + 0)), (1, .ref (o + 302)), (2, .ref (o + 303)), (3, .ref (o + 304)), (4, .ref (o + 305)), (5, .ref (o + 306)), (6, .int v6), (7, .int v7)]) hx hb dL_tells_200 hl (by decide) rfl (fun ls hl => ?_)
      refine lv_iconst (v := 0) hx hb dL_tells_202 (by decide) ?_
      refine lv_istore (lv' := [(9, .int 0), (8, .int 0), (0, .ref (o + 0)), (1, .ref (o + 302)), (2, .ref (o + 303)), (3, .ref (o + 304)), (4, .ref (o + 305)), (5, .ref (o + 306)), (6, .int v6), (7, .int v7)]) hx hb dL_tells_203 hl (by decide) rfl (fun ls hl => ?_)
      refine w_L_tells_L205 v6 v7 _ K ?_ gFu 0 0 σ hf _ _ _ hS (lv_sub hl [2, 3, 4, 5, 6, 7, 8, 9, 1, 0] rfl)
      · intro k53 s54 hf H locs ls hS hl
        refine lv_iload hx hb dL_tells_274 (lv_at hl 6 rfl) ?_
        refine lv_aload hx hb dL_tells_276 (lv_at hl 4 rfl) ?_
        refine lv_bipush (v := 10) hx hb dL_tells_278 (by decide) ?_
        refine lv_iload hx hb dL_tells_280 (lv_at hl 7 rfl) ?_
        refine lv_iadd hx hb dL_tells_282 ?_
        obtain ⟨h55, hf⟩ := gGd_some hf
        refine h_iald (cx := 305) K hS (eLL_305 G o) (by decide) h55 rfl dL_tells_283 ?_
        obtain ⟨J59, hJ59, hf⟩ := gLet_some hf
        have wJ59 : ∀ (j56 : Int32) (j57 : Int32) (s58 : gS), J59 j56 j57 s58 = some q → ∀ (H : Heap) (locs : List Loc) (ls : Array Slot), hSt G o [] s s58 H locs → lv_has ls 11 [(0, .ref (o + 0)), (1, .ref (o + 302)), (2, .ref (o + 303)), (3, .ref (o + 304)), (4, .ref (o + 305)), (5, .ref (o + 306)), (7, .int v7), (8, .int k53)] → W p l e rmL_tells s m args below meth c H locs 0 0 (MQ below (hQi G o q) args s 0 0 (gA o 307)) (F0 m 295 ls [.int j57, .int j56]) := by
          intro j56 j57 s58 hf H locs ls hS hl
          rw [hJ59] at hf
          refine lv_ior hx hb dL_tells_295 ?_
          obtain ⟨x60, hx60, hf⟩ := gLet_some hf
          refine g_top hx60 ?_
          refine lv_istore (lv' := [(6, .int x60), (0, .ref (o + 0)), (1, .ref (o + 302)), (2, .ref (o + 303)), (3, .ref (o + 304)), (4, .ref (o + 305)), (5, .ref (o + 306)), (7, .int v7), (8, .int k53)]) hx hb dL_tells_296 hl (by decide) rfl (fun ls hl => ?_)
          refine lv_aload_n hx hb dL_tells_298 rfl (lv_at hl 1 rfl) ?_
          refine lv_iload hx hb dL_tells_299 (lv_at hl 7 rfl) ?_
          refine lv_iconst (v := 0) hx hb dL_tells_301 (by decide) ?_
          obtain ⟨q61, hq61, hf⟩ := Option.bind_eq_some_iff.mp hf
          obtain ⟨s62, hs62, hf⟩ := gLet_some hf
          refine h_Vi (As := [.int v7, .int 0]) K hS lV_L_103 (c_X10_sleeperOf v7 0 s58 q61 hq61) rfl rfl (Nat.le_of_ble_eq_true rfl) ⟨⟨Nat.le_of_ble_eq_true rfl, Nat.le_of_ble_eq_true rfl⟩, rfl, rfl⟩ hl.1 ⟨Nat.le_of_ble_eq_true rfl, Nat.le_of_ble_eq_true rfl⟩ dL_tells_302 (fun H locs hS => ?_)
          rw [← hs62] at hS
          refine lv_aload hx hb dL_tells_305 (lv_at hl 5 rfl) ?_
          refine lv_iload hx hb dL_tells_307 (lv_at hl 7 rfl) ?_
          obtain ⟨h63, hf⟩ := gGd_some hf
          refine h_iald (cx := 305) K hS (eLL_305 G o) (by decide) h63 rfl dL_tells_309 ?_
          refine lv_icmp_ne (tgt := 378) hx hb dL_tells_310 (by decide) (fun c64 => ?_) (fun c64 => ?_)
          · have hf := gIf_f c64 hf
            refine lv_iconst (v := 0) hx hb dL_tells_378 (by decide) ?_
            exact h_zret K hS rfl hf dL_tells_379
          · have hf := gIf_t c64 hf
            refine lv_aload_n hx hb dL_tells_313 rfl (lv_at hl 1 rfl) ?_
            refine lv_iload hx hb dL_tells_314 (lv_at hl 7 rfl) ?_
            refine lv_iconst (v := 1) hx hb dL_tells_316 (by decide) ?_
            obtain ⟨q65, hq65, hf⟩ := Option.bind_eq_some_iff.mp hf
            obtain ⟨s66, hs66, hf⟩ := gLet_some hf
            refine h_Vi (As := [.int v7, .int 1]) K hS lV_L_103 (c_X10_sleeperOf v7 1 s62 q65 hq65) rfl rfl (Nat.le_of_ble_eq_true rfl) ⟨⟨Nat.le_of_ble_eq_true rfl, Nat.le_of_ble_eq_true rfl⟩, rfl, rfl⟩ hl.1 ⟨Nat.le_of_ble_eq_true rfl, Nat.le_of_ble_eq_true rfl⟩ dL_tells_317 (fun H locs hS => ?_)
            rw [← hs66] at hS
            refine lv_aload hx hb dL_tells_320 (lv_at hl 5 rfl) ?_
            refine lv_iconst (v := 5) hx hb dL_tells_322 (by decide) ?_
            refine lv_iload hx hb dL_tells_323 (lv_at hl 7 rfl) ?_
            refine lv_iadd hx hb dL_tells_325 ?_
            obtain ⟨h67, hf⟩ := gGd_some hf
            refine h_iald (cx := 305) K hS (eLL_305 G o) (by decide) h67 rfl dL_tells_326 ?_
            refine lv_icmp_ne (tgt := 378) hx hb dL_tells_327 (by decide) (fun c68 => ?_) (fun c68 => ?_)
            · have hf := gIf_f c68 hf
              refine lv_iconst (v := 0) hx hb dL_tells_378 (by decide) ?_
              exact h_zret K hS rfl hf dL_tells_379
            · have hf := gIf_t c68 hf
              refine lv_aload_n hx hb dL_tells_330 rfl (lv_at hl 1 rfl) ?_
              refine lv_iload hx hb dL_tells_331 (lv_at hl 7 rfl) ?_
              refine lv_iconst (v := 2) hx hb dL_tells_333 (by decide) ?_
              obtain ⟨q69, hq69, hf⟩ := Option.bind_eq_some_iff.mp hf
              obtain ⟨s70, hs70, hf⟩ := gLet_some hf
              refine h_Vi (As := [.int v7, .int 2]) K hS lV_L_103 (c_X10_sleeperOf v7 2 s66 q69 hq69) rfl rfl (Nat.le_of_ble_eq_true rfl) ⟨⟨Nat.le_of_ble_eq_true rfl, Nat.le_of_ble_eq_true rfl⟩, rfl, rfl⟩ hl.1 ⟨Nat.le_of_ble_eq_true rfl, Nat.le_of_ble_eq_true rfl⟩ dL_tells_334 (fun H locs hS => ?_)
              rw [← hs70] at hS
              refine lv_aload hx hb dL_tells_337 (lv_at hl 5 rfl) ?_
              refine lv_bipush (v := 10) hx hb dL_tells_339 (by decide) ?_
              refine lv_iload hx hb dL_tells_341 (lv_at hl 7 rfl) ?_
              refine lv_iadd hx hb dL_tells_343 ?_
              obtain ⟨h71, hf⟩ := gGd_some hf
              refine h_iald (cx := 305) K hS (eLL_305 G o) (by decide) h71 rfl dL_tells_344 ?_
              refine lv_icmp_ne (tgt := 378) hx hb dL_tells_345 (by decide) (fun c72 => ?_) (fun c72 => ?_)
              · have hf := gIf_f c72 hf
                refine lv_iconst (v := 0) hx hb dL_tells_378 (by decide) ?_
                exact h_zret K hS rfl hf dL_tells_379
              · have hf := gIf_t c72 hf
                refine lv_aload_n hx hb dL_tells_348 rfl (lv_at hl 1 rfl) ?_
                refine lv_iload hx hb dL_tells_349 (lv_at hl 7 rfl) ?_
                refine lv_iconst (v := 3) hx hb dL_tells_351 (by decide) ?_
                obtain ⟨q73, hq73, hf⟩ := Option.bind_eq_some_iff.mp hf
                obtain ⟨s74, hs74, hf⟩ := gLet_some hf
                refine h_Vi (As := [.int v7, .int 3]) K hS lV_L_103 (c_X10_sleeperOf v7 3 s70 q73 hq73) rfl rfl (Nat.le_of_ble_eq_true rfl) ⟨⟨Nat.le_of_ble_eq_true rfl, Nat.le_of_ble_eq_true rfl⟩, rfl, rfl⟩ hl.1 ⟨Nat.le_of_ble_eq_true rfl, Nat.le_of_ble_eq_true rfl⟩ dL_tells_352 (fun H locs hS => ?_)
                rw [← hs74] at hS
                refine lv_aload hx hb dL_tells_355 (lv_at hl 5 rfl) ?_
                refine lv_bipush (v := 15) hx hb dL_tells_357 (by decide) ?_
                refine lv_iload hx hb dL_tells_359 (lv_at hl 7 rfl) ?_
                refine lv_iadd hx hb dL_tells_361 ?_
                obtain ⟨h75, hf⟩ := gGd_some hf
                refine h_iald (cx := 305) K hS (eLL_305 G o) (by decide) h75 rfl dL_tells_362 ?_
                refine lv_icmp_ne (tgt := 378) hx hb dL_tells_363 (by decide) (fun c76 => ?_) (fun c76 => ?_)
                · have hf := gIf_f c76 hf
                  refine lv_iconst (v := 0) hx hb dL_tells_378 (by decide) ?_
                  exact h_zret K hS rfl hf dL_tells_379
                · have hf := gIf_t c76 hf
                  refine lv_aload_n hx hb dL_tells_366 rfl (lv_at hl 1 rfl) ?_
                  refine lv_iload hx hb dL_tells_367 (lv_at hl 7 rfl) ?_
                  refine lv_iconst (v := 4) hx hb dL_tells_369 (by decide) ?_
                  obtain ⟨q77, hq77, hf⟩ := Option.bind_eq_some_iff.mp hf
                  obtain ⟨s78, hs78, hf⟩ := gLet_some hf
                  refine h_Vi (As := [.int v7, .int 4]) K hS lV_L_103 (c_X10_sleeperOf v7 4 s74 q77 hq77) rfl rfl (Nat.le_of_ble_eq_true rfl) ⟨⟨Nat.le_of_ble_eq_true rfl, Nat.le_of_ble_eq_true rfl⟩, rfl, rfl⟩ hl.1 ⟨Nat.le_of_ble_eq_true rfl, Nat.le_of_ble_eq_true rfl⟩ dL_tells_370 (fun H locs hS => ?_)
                  rw [← hs78] at hS
                  refine lv_iload hx hb dL_tells_373 (lv_at hl 8 rfl) ?_
                  refine lv_icmp_eq (tgt := 380) hx hb dL_tells_375 (by decide) (fun c79 => ?_) (fun c79 => ?_)
                  · have hf := gIf_t c79 hf
                    refine lv_iinc (v := (v7 + 1)) (lv' := [(7, .int (v7 + 1)), (6, .int x60), (0, .ref (o + 0)), (1, .ref (o + 302)), (2, .ref (o + 303)), (3, .ref (o + 304)), (4, .ref (o + 305)), (5, .ref (o + 306)), (8, .int k53)]) hx hb dL_tells_380 hl (k := 7) rfl rfl (by decide) rfl (fun ls hl => ?_)
                    refine lv_goto (tgt := 190) hx hb dL_tells_383 (by decide) ?_
                    exact ih x60 (v7 + 1) s78 hf _ _ _ hS (lv_sub hl [2, 3, 4, 5, 6, 7, 1, 0] rfl)
                  · have hf := gIf_f c79 hf
                    refine lv_iconst (v := 0) hx hb dL_tells_378 (by decide) ?_
                    exact h_zret K hS rfl hf dL_tells_379
        clear hJ59
        refine lv_if_le (tgt := 294) hx hb dL_tells_284 (by decide) (fun c80 => ?_) (fun c80 => ?_)
        · have hf := gIf_t c80 hf
          refine lv_iconst (v := 0) hx hb dL_tells_294 (by decide) ?_
          exact wJ59 v6 0 s54 hf _ _ _ hS (lv_sub hl [0, 1, 2, 3, 4, 5, 7, 8] rfl)
        · have hf := gIf_f c80 hf
          refine lv_iconst (v := 1) hx hb dL_tells_287 (by decide) ?_
          refine lv_iload hx hb dL_tells_288 (lv_at hl 7 rfl) ?_
          refine lv_ishl hx hb dL_tells_290 ?_
          refine lv_goto (tgt := 295) hx hb dL_tells_291 (by decide) ?_
          exact wJ59 v6 (1 <<< (v7 &&& 31)) s54 hf _ _ _ hS (lv_sub hl [0, 1, 2, 3, 4, 5, 7, 8] rfl)
set_option maxHeartbeats 4000000 in
set_option maxRecDepth 100000 in
theorem c_L_tells (σ : gS) (q : Int32 × gS) (hf : f_L_tells σ = some q) : Met l yL_tells (gW yL_tells cL_tells 11 (some .boolean)) rmL_tells (hPc G o [] [.ref (o + 0), .ref (o + 302), .ref (o + 303), .ref (o + 304), .ref (o + 305), .ref (o + 306)] σ) (hQi G o q) 0 0 (gA o 307) := by
  refine h_met (by decide) ⟨rfl, rfl⟩ (fun p e s m args below meth c ls K hS hl => ?_) (Nat.le_of_ble_eq_true rfl)
  have K : gK p s m args meth c G cL_tells 11 RL (some .boolean) := K
  have hl : lv_has ls 11 [(0, .ref (o + 0)), (1, .ref (o + 302)), (2, .ref (o + 303)), (3, .ref (o + 304)), (4, .ref (o + 305)), (5, .ref (o + 306))] := hl
  obtain ⟨hx, hb, hml, hown, hts, -⟩ := id K
  unfold f_L_tells at hf
  refine lv_iconst (v := 0) hx hb dL_tells_0 (by decide) ?_
  refine lv_istore (lv' := [(6, .int 0), (0, .ref (o + 0)), (1, .ref (o + 302)), (2, .ref (o + 303)), (3, .ref (o + 304)), (4, .ref (o + 305)), (5, .ref (o + 306))]) hx hb dL_tells_1 hl (by decide) rfl (fun ls hl => ?_)
  refine lv_iconst (v := 0) hx hb dL_tells_3 (by decide) ?_
  refine lv_istore (lv' := [(7, .int 0), (6, .int 0), (0, .ref (o + 0)), (1, .ref (o + 302)), (2, .ref (o + 303)), (3, .ref (o + 304)), (4, .ref (o + 305)), (5, .ref (o + 306))]) hx hb dL_tells_4 hl (by decide) rfl (fun ls hl => ?_)
  refine w_L_tells_L6 0 _ K ?_ gFu 0 σ hf _ _ _ hS (lv_sub hl [2, 3, 4, 5, 6, 7, 1, 0] rfl)
  · intro  s39 hf H locs ls hS hl
    refine lv_iconst (v := 0) hx hb dL_tells_187 (by decide) ?_
    refine lv_istore (lv' := [(7, .int 0), (0, .ref (o + 0)), (1, .ref (o + 302)), (2, .ref (o + 303)), (3, .ref (o + 304)), (4, .ref (o + 305)), (5, .ref (o + 306)), (6, .int 0)]) hx hb dL_tells_188 hl (by decide) rfl (fun ls hl => ?_)
    refine w_L_tells_L190 _ K ?_ gFu 0 0 s39 hf _ _ _ hS (lv_sub hl [1, 2, 3, 4, 5, 6, 7, 0] rfl)
    · intro k81 s82 hf H locs ls hS hl
      refine lv_aload_n hx hb dL_tells_386 rfl (lv_at hl 0 rfl) ?_
      refine lv_iconst (v := 0) hx hb dL_tells_387 (by decide) ?_
      obtain ⟨q83, hq83, hf⟩ := Option.bind_eq_some_iff.mp hf
      obtain ⟨s84, hs84, hf⟩ := gLet_some hf
      refine h_Vi (As := [.int 0]) K hS lV_L_106 (c_X10_count 0 s82 q83 hq83) rfl rfl (Nat.le_of_ble_eq_true rfl) ⟨⟨Nat.le_of_ble_eq_true rfl, Nat.le_of_ble_eq_true rfl⟩, rfl, rfl⟩ hl.1 ⟨Nat.le_of_ble_eq_true rfl, Nat.le_of_ble_eq_true rfl⟩ dL_tells_388 (fun H locs hS => ?_)
      rw [← hs84] at hS
      refine lv_aload hx hb dL_tells_391 (lv_at hl 5 rfl) ?_
      refine lv_iconst (v := 0) hx hb dL_tells_393 (by decide) ?_
      refine h_iald (cx := 306) (j := 0) K hS (eLL_306 G o) (by decide) (by decide) (by decide) dL_tells_394 ?_
      obtain ⟨J87, hJ87, hf⟩ := gLet_some hf
      have wJ87 : ∀ (j85 : Int32) (s86 : gS), J87 j85 s86 = some q → ∀ (H : Heap) (locs : List Loc) (ls : Array Slot), hSt G o [] s s86 H locs → lv_has ls 11 [(0, .ref (o + 0)), (1, .ref (o + 302)), (2, .ref (o + 303)), (3, .ref (o + 304)), (4, .ref (o + 305)), (5, .ref (o + 306))] → W p l e rmL_tells s m args below meth c H locs 0 0 (MQ below (hQi G o q) args s 0 0 (gA o 307)) (F0 m 513 ls [.int j85]) := by
        intro j85 s86 hf H locs ls hS hl
        rw [hJ87] at hf
        refine lv_istore (lv' := [(7, .int j85), (0, .ref (o + 0)), (1, .ref (o + 302)), (2, .ref (o + 303)), (3, .ref (o + 304)), (4, .ref (o + 305)), (5, .ref (o + 306))]) hx hb dL_tells_513 hl (by decide) rfl (fun ls hl => ?_)
        refine lv_iload hx hb dL_tells_515 (lv_at hl 0 rfl) ?_
        refine lv_if_eq (tgt := 538) hx hb dL_tells_517 (by decide) (fun c88 => ?_) (fun c88 => ?_)
        · have hf := gIf_t c88 hf
          refine lv_iconst (v := 0) hx hb dL_tells_538 (by decide) ?_
          exact h_zret K hS rfl hf dL_tells_539
        · have hf := gIf_f c88 hf
          refine lv_aload_n hx hb dL_tells_520 rfl (lv_at hl 1 rfl) ?_
          refine lv_aload_n hx hb dL_tells_521 rfl (lv_at hl 2 rfl) ?_
          refine lv_aload_n hx hb dL_tells_522 rfl (lv_at hl 3 rfl) ?_
          refine lv_aload_n hx hb dL_tells_523 rfl (lv_at hl 4 rfl) ?_
          refine lv_aload hx hb dL_tells_524 (lv_at hl 5 rfl) ?_
          refine lv_aload hx hb dL_tells_526 (lv_at hl 6 rfl) ?_
          obtain ⟨q89, hq89, hf⟩ := Option.bind_eq_some_iff.mp hf
          refine h_Si0 (X' := []) (As := [.ref (o + 0), .ref (o + 302), .ref (o + 303), .ref (o + 304), .ref (o + 305), .ref (o + 306)]) K hS lS_L_109 (by simp) (c_L_boards s86 q89 hq89) rfl rfl (Nat.le_of_ble_eq_true rfl) ⟨rfl, rfl⟩ ⟨Nat.le_of_ble_eq_true rfl, Nat.le_of_ble_eq_true rfl⟩ hl.1 ⟨Nat.le_of_ble_eq_true rfl, Nat.le_of_ble_eq_true rfl⟩ dL_tells_528 (fun H locs hS => ?_)
          refine lv_if_eq (tgt := 538) hx hb dL_tells_531 (by decide) (fun c90 => ?_) (fun c90 => ?_)
          · have hf := gIf_t c90 hf
            refine lv_iconst (v := 0) hx hb dL_tells_538 (by decide) ?_
            exact h_zret K hS rfl hf dL_tells_539
          · have hf := gIf_f c90 hf
            refine lv_iconst (v := 1) hx hb dL_tells_534 (by decide) ?_
            refine lv_goto (tgt := 539) hx hb dL_tells_535 (by decide) ?_
            exact h_zret K hS rfl hf dL_tells_539
      clear hJ87
      obtain ⟨J92, hJ92, hf⟩ := gLet_some hf
      have wJ92 : ∀  (s91 : gS), J92  s91 = some q → ∀ (H : Heap) (locs : List Loc) (ls : Array Slot), hSt G o [] s s91 H locs → lv_has ls 11 [(0, .ref (o + 0)), (1, .ref (o + 302)), (2, .ref (o + 303)), (3, .ref (o + 304)), (4, .ref (o + 305)), (5, .ref (o + 306))] → W p l e rmL_tells s m args below meth c H locs 0 0 (MQ below (hQi G o q) args s 0 0 (gA o 307)) (F0 m 512 ls []) := by
        intro  s91 hf H locs ls hS hl
        rw [hJ92] at hf
        refine lv_iconst (v := 0) hx hb dL_tells_512 (by decide) ?_
        exact wJ87 0 s91 hf _ _ _ hS (lv_sub hl [0, 1, 2, 3, 4, 5] rfl)
      clear hJ92
      refine lv_icmp_ne (tgt := 512) hx hb dL_tells_395 (by decide) (fun c93 => ?_) (fun c93 => ?_)
      · have hf := gIf_f c93 hf
        exact wJ92  s84 hf _ _ _ hS (lv_sub hl [0, 1, 2, 3, 4, 5] rfl)
      · have hf := gIf_t c93 hf
        refine lv_aload_n hx hb dL_tells_398 rfl (lv_at hl 0 rfl) ?_
        refine lv_iconst (v := 1) hx hb dL_tells_399 (by decide) ?_
        obtain ⟨q94, hq94, hf⟩ := Option.bind_eq_some_iff.mp hf
        obtain ⟨s95, hs95, hf⟩ := gLet_some hf
        refine h_Vi (As := [.int 1]) K hS lV_L_106 (c_X10_count 1 s84 q94 hq94) rfl rfl (Nat.le_of_ble_eq_true rfl) ⟨⟨Nat.le_of_ble_eq_true rfl, Nat.le_of_ble_eq_true rfl⟩, rfl, rfl⟩ hl.1 ⟨Nat.le_of_ble_eq_true rfl, Nat.le_of_ble_eq_true rfl⟩ dL_tells_400 (fun H locs hS => ?_)
        rw [← hs95] at hS
        refine lv_aload hx hb dL_tells_403 (lv_at hl 5 rfl) ?_
        refine lv_iconst (v := 1) hx hb dL_tells_405 (by decide) ?_
        refine h_iald (cx := 306) (j := 1) K hS (eLL_306 G o) (by decide) (by decide) (by decide) dL_tells_406 ?_
        refine lv_icmp_ne (tgt := 512) hx hb dL_tells_407 (by decide) (fun c96 => ?_) (fun c96 => ?_)
        · have hf := gIf_f c96 hf
          exact wJ92  s95 hf _ _ _ hS (lv_sub hl [0, 1, 2, 3, 4, 5] rfl)
        · have hf := gIf_t c96 hf
          refine lv_aload_n hx hb dL_tells_410 rfl (lv_at hl 0 rfl) ?_
          refine lv_iconst (v := 2) hx hb dL_tells_411 (by decide) ?_
          obtain ⟨q97, hq97, hf⟩ := Option.bind_eq_some_iff.mp hf
          obtain ⟨s98, hs98, hf⟩ := gLet_some hf
          refine h_Vi (As := [.int 2]) K hS lV_L_106 (c_X10_count 2 s95 q97 hq97) rfl rfl (Nat.le_of_ble_eq_true rfl) ⟨⟨Nat.le_of_ble_eq_true rfl, Nat.le_of_ble_eq_true rfl⟩, rfl, rfl⟩ hl.1 ⟨Nat.le_of_ble_eq_true rfl, Nat.le_of_ble_eq_true rfl⟩ dL_tells_412 (fun H locs hS => ?_)
          rw [← hs98] at hS
          refine lv_aload hx hb dL_tells_415 (lv_at hl 5 rfl) ?_
          refine lv_iconst (v := 2) hx hb dL_tells_417 (by decide) ?_
          refine h_iald (cx := 306) (j := 2) K hS (eLL_306 G o) (by decide) (by decide) (by decide) dL_tells_418 ?_
          refine lv_icmp_ne (tgt := 512) hx hb dL_tells_419 (by decide) (fun c99 => ?_) (fun c99 => ?_)
          · have hf := gIf_f c99 hf
            exact wJ92  s98 hf _ _ _ hS (lv_sub hl [0, 1, 2, 3, 4, 5] rfl)
          · have hf := gIf_t c99 hf
            refine lv_aload_n hx hb dL_tells_422 rfl (lv_at hl 0 rfl) ?_
            refine lv_iconst (v := 3) hx hb dL_tells_423 (by decide) ?_
            obtain ⟨q100, hq100, hf⟩ := Option.bind_eq_some_iff.mp hf
            obtain ⟨s101, hs101, hf⟩ := gLet_some hf
            refine h_Vi (As := [.int 3]) K hS lV_L_106 (c_X10_count 3 s98 q100 hq100) rfl rfl (Nat.le_of_ble_eq_true rfl) ⟨⟨Nat.le_of_ble_eq_true rfl, Nat.le_of_ble_eq_true rfl⟩, rfl, rfl⟩ hl.1 ⟨Nat.le_of_ble_eq_true rfl, Nat.le_of_ble_eq_true rfl⟩ dL_tells_424 (fun H locs hS => ?_)
            rw [← hs101] at hS
            refine lv_aload hx hb dL_tells_427 (lv_at hl 5 rfl) ?_
            refine lv_iconst (v := 4) hx hb dL_tells_429 (by decide) ?_
            refine h_iald (cx := 306) (j := 4) K hS (eLL_306 G o) (by decide) (by decide) (by decide) dL_tells_430 ?_
            refine lv_icmp_ne (tgt := 512) hx hb dL_tells_431 (by decide) (fun c102 => ?_) (fun c102 => ?_)
            · have hf := gIf_f c102 hf
              exact wJ92  s101 hf _ _ _ hS (lv_sub hl [0, 1, 2, 3, 4, 5] rfl)
            · have hf := gIf_t c102 hf
              refine lv_aload_n hx hb dL_tells_434 rfl (lv_at hl 0 rfl) ?_
              refine lv_iconst (v := 4) hx hb dL_tells_435 (by decide) ?_
              obtain ⟨q103, hq103, hf⟩ := Option.bind_eq_some_iff.mp hf
              obtain ⟨s104, hs104, hf⟩ := gLet_some hf
              refine h_Vi (As := [.int 4]) K hS lV_L_106 (c_X10_count 4 s101 q103 hq103) rfl rfl (Nat.le_of_ble_eq_true rfl) ⟨⟨Nat.le_of_ble_eq_true rfl, Nat.le_of_ble_eq_true rfl⟩, rfl, rfl⟩ hl.1 ⟨Nat.le_of_ble_eq_true rfl, Nat.le_of_ble_eq_true rfl⟩ dL_tells_436 (fun H locs hS => ?_)
              rw [← hs104] at hS
              refine lv_aload hx hb dL_tells_439 (lv_at hl 5 rfl) ?_
              refine lv_iconst (v := 5) hx hb dL_tells_441 (by decide) ?_
              refine h_iald (cx := 306) (j := 5) K hS (eLL_306 G o) (by decide) (by decide) (by decide) dL_tells_442 ?_
              refine lv_icmp_ne (tgt := 512) hx hb dL_tells_443 (by decide) (fun c105 => ?_) (fun c105 => ?_)
              · have hf := gIf_f c105 hf
                exact wJ92  s104 hf _ _ _ hS (lv_sub hl [0, 1, 2, 3, 4, 5] rfl)
              · have hf := gIf_t c105 hf
                refine lv_aload_n hx hb dL_tells_446 rfl (lv_at hl 0 rfl) ?_
                refine lv_iconst (v := 5) hx hb dL_tells_447 (by decide) ?_
                obtain ⟨q106, hq106, hf⟩ := Option.bind_eq_some_iff.mp hf
                obtain ⟨s107, hs107, hf⟩ := gLet_some hf
                refine h_Vi (As := [.int 5]) K hS lV_L_106 (c_X10_count 5 s104 q106 hq106) rfl rfl (Nat.le_of_ble_eq_true rfl) ⟨⟨Nat.le_of_ble_eq_true rfl, Nat.le_of_ble_eq_true rfl⟩, rfl, rfl⟩ hl.1 ⟨Nat.le_of_ble_eq_true rfl, Nat.le_of_ble_eq_true rfl⟩ dL_tells_448 (fun H locs hS => ?_)
                rw [← hs107] at hS
                refine lv_iload hx hb dL_tells_451 (lv_at hl 6 rfl) ?_
                refine lv_icmp_ne (tgt := 512) hx hb dL_tells_453 (by decide) (fun c108 => ?_) (fun c108 => ?_)
                · have hf := gIf_f c108 hf
                  exact wJ92  s107 hf _ _ _ hS (lv_sub hl [0, 1, 2, 3, 4, 5] rfl)
                · have hf := gIf_t c108 hf
                  refine lv_aload_n hx hb dL_tells_456 rfl (lv_at hl 0 rfl) ?_
                  refine lv_bipush (v := 6) hx hb dL_tells_457 (by decide) ?_
                  obtain ⟨q109, hq109, hf⟩ := Option.bind_eq_some_iff.mp hf
                  obtain ⟨s110, hs110, hf⟩ := gLet_some hf
                  refine h_Vi (As := [.int 6]) K hS lV_L_106 (c_X10_count 6 s107 q109 hq109) rfl rfl (Nat.le_of_ble_eq_true rfl) ⟨⟨Nat.le_of_ble_eq_true rfl, Nat.le_of_ble_eq_true rfl⟩, rfl, rfl⟩ hl.1 ⟨Nat.le_of_ble_eq_true rfl, Nat.le_of_ble_eq_true rfl⟩ dL_tells_459 (fun H locs hS => ?_)
                  rw [← hs110] at hS
                  refine lv_aload hx hb dL_tells_462 (lv_at hl 4 rfl) ?_
                  refine lv_aload hx hb dL_tells_464 (lv_at hl 5 rfl) ?_
                  obtain ⟨q111, hq111, hf⟩ := Option.bind_eq_some_iff.mp hf
                  refine h_Si0 (X' := []) (As := [.ref (o + 305), .ref (o + 306)]) K hS lS_L_36 (by simp) (c_L_watched s110 q111 hq111) rfl rfl (Nat.le_of_ble_eq_true rfl) ⟨rfl, rfl⟩ ⟨Nat.le_of_ble_eq_true rfl, Nat.le_of_ble_eq_true rfl⟩ hl.1 ⟨Nat.le_of_ble_eq_true rfl, Nat.le_of_ble_eq_true rfl⟩ dL_tells_466 (fun H locs hS => ?_)
                  refine lv_icmp_ne (tgt := 512) hx hb dL_tells_469 (by decide) (fun c112 => ?_) (fun c112 => ?_)
                  · have hf := gIf_f c112 hf
                    exact wJ92  q111.2 hf _ _ _ hS (lv_sub hl [0, 1, 2, 3, 4, 5] rfl)
                  · have hf := gIf_t c112 hf
                    refine lv_aload_n hx hb dL_tells_472 rfl (lv_at hl 0 rfl) ?_
                    refine lv_bipush (v := 7) hx hb dL_tells_473 (by decide) ?_
                    obtain ⟨q113, hq113, hf⟩ := Option.bind_eq_some_iff.mp hf
                    obtain ⟨s114, hs114, hf⟩ := gLet_some hf
                    refine h_Vi (As := [.int 7]) K hS lV_L_106 (c_X10_count 7 q111.2 q113 hq113) rfl rfl (Nat.le_of_ble_eq_true rfl) ⟨⟨Nat.le_of_ble_eq_true rfl, Nat.le_of_ble_eq_true rfl⟩, rfl, rfl⟩ hl.1 ⟨Nat.le_of_ble_eq_true rfl, Nat.le_of_ble_eq_true rfl⟩ dL_tells_475 (fun H locs hS => ?_)
                    rw [← hs114] at hS
                    refine lv_aload hx hb dL_tells_478 (lv_at hl 5 rfl) ?_
                    refine lv_iconst (v := 3) hx hb dL_tells_480 (by decide) ?_
                    refine h_iald (cx := 306) (j := 3) K hS (eLL_306 G o) (by decide) (by decide) (by decide) dL_tells_481 ?_
                    refine lv_icmp_ne (tgt := 512) hx hb dL_tells_482 (by decide) (fun c115 => ?_) (fun c115 => ?_)
                    · have hf := gIf_f c115 hf
                      exact wJ92  s114 hf _ _ _ hS (lv_sub hl [0, 1, 2, 3, 4, 5] rfl)
                    · have hf := gIf_t c115 hf
                      refine lv_aload_n hx hb dL_tells_485 rfl (lv_at hl 0 rfl) ?_
                      refine lv_bipush (v := 8) hx hb dL_tells_486 (by decide) ?_
                      obtain ⟨q116, hq116, hf⟩ := Option.bind_eq_some_iff.mp hf
                      obtain ⟨s117, hs117, hf⟩ := gLet_some hf
                      refine h_Vi (As := [.int 8]) K hS lV_L_106 (c_X10_count 8 s114 q116 hq116) rfl rfl (Nat.le_of_ble_eq_true rfl) ⟨⟨Nat.le_of_ble_eq_true rfl, Nat.le_of_ble_eq_true rfl⟩, rfl, rfl⟩ hl.1 ⟨Nat.le_of_ble_eq_true rfl, Nat.le_of_ble_eq_true rfl⟩ dL_tells_488 (fun H locs hS => ?_)
                      rw [← hs117] at hS
                      refine lv_aload hx hb dL_tells_491 (lv_at hl 5 rfl) ?_
                      refine lv_iconst (v := 0) hx hb dL_tells_493 (by decide) ?_
                      refine h_iald (cx := 306) (j := 0) K hS (eLL_306 G o) (by decide) (by decide) (by decide) dL_tells_494 ?_
                      refine lv_aload hx hb dL_tells_495 (lv_at hl 5 rfl) ?_
                      refine lv_iconst (v := 2) hx hb dL_tells_497 (by decide) ?_
                      refine h_iald (cx := 306) (j := 2) K hS (eLL_306 G o) (by decide) (by decide) (by decide) dL_tells_498 ?_
                      refine lv_aload hx hb dL_tells_499 (lv_at hl 5 rfl) ?_
                      refine lv_iconst (v := 0) hx hb dL_tells_501 (by decide) ?_
                      refine h_iald (cx := 306) (j := 0) K hS (eLL_306 G o) (by decide) (by decide) (by decide) dL_tells_502 ?_
                      obtain ⟨h118, hf⟩ := gGd_some hf
                      refine lv_irem hx hb dL_tells_503 (gne_ne h118) ?_
                      refine lv_isub hx hb dL_tells_504 ?_
                      refine lv_icmp_ne (tgt := 512) hx hb dL_tells_505 (by decide) (fun c119 => ?_) (fun c119 => ?_)
                      · have hf := gIf_f c119 hf
                        exact wJ92  s117 hf _ _ _ hS (lv_sub hl [0, 1, 2, 3, 4, 5] rfl)
                      · have hf := gIf_t c119 hf
                        refine lv_iconst (v := 1) hx hb dL_tells_508 (by decide) ?_
                        refine lv_goto (tgt := 513) hx hb dL_tells_509 (by decide) ?_
                        exact wJ87 1 s117 hf _ _ _ hS (lv_sub hl [0, 1, 2, 3, 4, 5] rfl)
end
