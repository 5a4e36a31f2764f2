section
variable {p : Program} {l : Launch} {e : Env} {R : Room} {s : State} {m : MethodId} {args : Array Value} {below : List Frame} {meth : Method} {c : Code} {G : gG} {o : Nat} {cc ss : Nat} {Q : State → Prop}
abbrev rmL_costs : Room := { frames := 1, cells := 1, slots := 10, locals := 21 }
def f_L_costs_L9 (w2 : Int32) (w3 : Int32) (K39 : gS → Option (gS)) : Nat → Int32 → gS → Option (gS)
  | 0, _, _ => none
  | n + 1, v5, σ => if 10 ≤ v5 then (K39 σ) else (gLet (fun (j3 : Int32) (j4 : Int32) (s5 : gS) => gGd (gin j3 10) (gLet (up2 s5 307 (gil j3) j4) (fun s8 => f_L_costs_L9 w2 w3 K39 n (v5 + 1) s8))) (fun J6 => if v5 = w2 then (J6 v5 0 σ) else (J6 v5 99999 σ)))
theorem f_L_costs_L9_s (w2 : Int32) (w3 : Int32) (K39 : gS → Option (gS)) (n : Nat) (v5 : Int32) (σ : gS) : f_L_costs_L9 w2 w3 K39 (n + 1) v5 σ = (if 10 ≤ v5 then (K39 σ) else (gLet (fun (j3 : Int32) (j4 : Int32) (s5 : gS) => gGd (gin j3 10) (gLet (up2 s5 307 (gil j3) j4) (fun s8 => f_L_costs_L9 w2 w3 K39 n (v5 + 1) s8))) (fun J6 => if v5 = w2 then (J6 v5 0 σ) else (J6 v5 99999 σ)))) := rfl
def f_L_costs_L92 (w3 : Int32) (w6 : Int32) (w7 : Int32) (K180 : Int32 → gS → Option (gS)) : Nat → Int32 → Int32 → gS → Option (gS)
  | 0, _, _, _ => none
  | n + 1, v5, v8, σ => if 2 ≤ v8 then (K180 v5 σ) else (gLet (fun (j15 : Int32) (s16 : gS) => gLet (fun (j18 : Int32) (s19 : gS) => gGd (gin j18 10) (gGd (gin j15 10) (if (s19 307 (gil j15)) ≤ ((s19 307 (gil j18)) + w7) then (f_L_costs_L92 w3 w6 w7 K180 n v5 (v8 + 1) s19) else (gGd (gin j18 10) (gGd (gin j15 10) (gLet (up2 s19 307 (gil j15) ((s19 307 (gil j18)) + w7)) (fun s26 => f_L_costs_L92 w3 w6 w7 K180 n 1 (v8 + 1) s26))))))) (fun J20 => if v8 = 0 then (Option.bind (f_L_two w6 s16) (fun q30 => gLet (gU q30.2 307 (s16 307)) (fun s31 => J20 q30.1 s31))) else (Option.bind (f_L_one w6 s16) (fun q28 => gLet (gU q28.2 307 (s16 307)) (fun s29 => J20 q28.1 s29))))) (fun J17 => if v8 = 0 then (Option.bind (f_L_one w6 σ) (fun q35 => gLet (gU q35.2 307 (σ 307)) (fun s36 => J17 q35.1 s36))) else (Option.bind (f_L_two w6 σ) (fun q33 => gLet (gU q33.2 307 (σ 307)) (fun s34 => J17 q33.1 s34)))))
theorem f_L_costs_L92_s (w3 : Int32) (w6 : Int32) (w7 : Int32) (K180 : Int32 → gS → Option (gS)) (n : Nat) (v5 : Int32) (v8 : Int32) (σ : gS) : f_L_costs_L92 w3 w6 w7 K180 (n + 1) v5 v8 σ = (if 2 ≤ v8 then (K180 v5 σ) else (gLet (fun (j15 : Int32) (s16 : gS) => gLet (fun (j18 : Int32) (s19 : gS) => gGd (gin j18 10) (gGd (gin j15 10) (if (s19 307 (gil j15)) ≤ ((s19 307 (gil j18)) + w7) then (f_L_costs_L92 w3 w6 w7 K180 n v5 (v8 + 1) s19) else (gGd (gin j18 10) (gGd (gin j15 10) (gLet (up2 s19 307 (gil j15) ((s19 307 (gil j18)) + w7)) (fun s26 => f_L_costs_L92 w3 w6 w7 K180 n 1 (v8 + 1) s26))))))) (fun J20 => if v8 = 0 then (Option.bind (f_L_two w6 s16) (fun q30 => gLet (gU q30.2 307 (s16 307)) (fun s31 => J20 q30.1 s31))) else (Option.bind (f_L_one w6 s16) (fun q28 => gLet (gU q28.2 307 (s16 307)) (fun s29 => J20 q28.1 s29))))) (fun J17 => if v8 = 0 then (Option.bind (f_L_one w6 σ) (fun q35 => gLet (gU q35.2 307 (σ 307)) (fun s36 => J17 q35.1 s36))) else (Option.bind (f_L_two w6 σ) (fun q33 => gLet (gU q33.2 307 (σ 307)) (fun s34 => J17 q33.1 s34)))))) := rfl
def f_L_costs_L53 (w3 : Int32) (K186 : Int32 → gS → Option (gS)) : Nat → Int32 → Int32 → gS → Option (gS)
  | 0, _, _, _ => none
  | n + 1, v5, v6, σ => if (σ 306 4) ≤ v6 then (K186 v5 σ) else (if ((w3 >>> (v6 &&& 31)) &&& 1) = 1 then (Option.bind (f_L_minutes v6 σ) (fun q39 => gLet (gU q39.2 307 (σ 307)) (fun s40 => gLet ((100 * q39.1) + 1) (fun x41 => f_L_costs_L92 w3 v6 x41 (fun (k42 : Int32) (s43 : gS) => f_L_costs_L53 w3 K186 n k42 (v6 + 1) s43) gFu v5 0 s40)))) else (f_L_costs_L92 w3 v6 99999 (fun (k37 : Int32) (s38 : gS) => f_L_costs_L53 w3 K186 n k37 (v6 + 1) s38) gFu v5 0 σ))
theorem f_L_costs_L53_s (w3 : Int32) (K186 : Int32 → gS → Option (gS)) (n : Nat) (v5 : Int32) (v6 : Int32) (σ : gS) : f_L_costs_L53 w3 K186 (n + 1) v5 v6 σ = (if (σ 306 4) ≤ v6 then (K186 v5 σ) else (if ((w3 >>> (v6 &&& 31)) &&& 1) = 1 then (Option.bind (f_L_minutes v6 σ) (fun q39 => gLet (gU q39.2 307 (σ 307)) (fun s40 => gLet ((100 * q39.1) + 1) (fun x41 => f_L_costs_L92 w3 v6 x41 (fun (k42 : Int32) (s43 : gS) => f_L_costs_L53 w3 K186 n k42 (v6 + 1) s43) gFu v5 0 s40)))) else (f_L_costs_L92 w3 v6 99999 (fun (k37 : Int32) (s38 : gS) => f_L_costs_L53 w3 K186 n k37 (v6 + 1) s38) gFu v5 0 σ))) := rfl
def f_L_costs_L42 (w3 : Int32) (K189 : gS → Option (gS)) : Nat → Int32 → gS → Option (gS)
  | 0, _, _ => none
  | n + 1, v5, σ => if v5 = 0 then (K189 σ) else (f_L_costs_L53 w3 (fun (k44 : Int32) (s45 : gS) => f_L_costs_L42 w3 K189 n k44 s45) gFu 0 0 σ)
theorem f_L_costs_L42_s (w3 : Int32) (K189 : gS → Option (gS)) (n : Nat) (v5 : Int32) (σ : gS) : f_L_costs_L42 w3 K189 (n + 1) v5 σ = (if v5 = 0 then (K189 σ) else (f_L_costs_L53 w3 (fun (k44 : Int32) (s45 : gS) => f_L_costs_L42 w3 K189 n k44 s45) gFu 0 0 σ)) := rfl
def f_L_costs (p0 : Int32) (p1 : Int32) (σ : gS) : Option (gS) := gLet (gU σ 307 (fun _ => 0)) (fun s1 => f_L_costs_L9 p0 p1 (fun (s10 : gS) => f_L_costs_L42 p1 (fun (s46 : gS) => some s46) gFu 1 s10) gFu 0 s1)
set_option maxHeartbeats 4000000 in
set_option maxRecDepth 100000 in
theorem w_L_costs_L9 (q7 : Nat) (w2 : Int32) (w3 : Int32) (K39 : gS → Option (gS)) {q : gS} (K : gK p s m args meth c G cL_costs 11 RL (some (.array .int))) (hK39 : ∀ (σ : gS), K39 σ = some q → ∀ (H : Heap) (locs : List Loc) (ls : Array Slot), hS7 G o q7 s σ H locs → lv_has ls 11 [(0, .ref (o + 302)), (1, .ref (o + 306)), (3, .int w3), (4, .ref q7)] → W p l e rmL_costs s m args below meth c H locs 1 10 (MQ below (hQr G o q (q 307)) args s 1 10 (gA o 307)) (F0 m 39 ls [])) : ∀ (n : Nat) (v5 : Int32) (σ : gS), f_L_costs_L9 w2 w3 K39 n v5 σ = some q → ∀ (H : Heap) (locs : List Loc) (ls : Array Slot), hS7 G o q7 s σ H locs → lv_has ls 11 [(0, .ref (o + 302)), (1, .ref (o + 306)), (2, .int w2), (3, .int w3), (4, .ref q7), (5, .int v5)] → W p l e rmL_costs s m args below meth c H locs 1 10 (MQ below (hQr G o q (q 307)) args s 1 10 (gA o 307)) (F0 m 9 ls []) := by
  obtain ⟨hx, hb, hml, hown, hts, -⟩ := id K
  intro n
  induction n with
  | zero =>
    intro v5 σ hf
    exact absurd (show (none : Option _) = some q from hf) (by simp)
  | succ n ih =>
    intro v5 σ hf H locs ls hS hl
    rw [f_L_costs_L9_s] at hf
    refine lv_iload hx hb dL_costs_9 (lv_at hl 5 rfl) ?_
    refine lv_bipush (v := 10) hx hb dL_costs_11 (by decide) ?_
    refine lv_icmp_ge (tgt := 39) hx hb dL_costs_13 (by decide) (fun c2 => ?_) (fun c2 => ?_)
    · have hf := gIf_t c2 hf
      exact hK39 σ hf _ _ _ hS (lv_sub hl [0, 1, 3, 4] rfl)
    · have hf := gIf_f c2 hf
      refine lv_aload hx hb dL_costs_16 (lv_at hl 4 rfl) ?_
      refine lv_iload hx hb dL_costs_18 (lv_at hl 5 rfl) ?_
      refine lv_iload hx hb dL_costs_20 (lv_at hl 5 rfl) ?_
      refine lv_iload_n hx hb dL_costs_22 rfl (lv_at hl 2 rfl) ?_
      obtain ⟨J6, hJ6, hf⟩ := gLet_some hf
      have wJ6 : ∀ (j3 : Int32) (j4 : Int32) (s5 : gS), J6 j3 j4 s5 = some q → ∀ (H : Heap) (locs : List Loc) (ls : Array Slot), hS7 G o q7 s s5 H locs → lv_has ls 11 [(0, .ref (o + 302)), (1, .ref (o + 306)), (2, .int w2), (3, .int w3), (4, .ref q7), (5, .int v5)] → W p l e rmL_costs s m args below meth c H locs 1 10 (MQ below (hQr G o q (q 307)) args s 1 10 (gA o 307)) (F0 m 32 ls [.int j4, .int j3, .ref q7]) := by
        intro j3 j4 s5 hf H locs ls hS hl
        rw [hJ6] at hf
        obtain ⟨h7, hf⟩ := gGd_some hf
        obtain ⟨s8, hs8, hf⟩ := gLet_some hf
        refine h7_ist K hS h7 dL_costs_32 (fun H locs hS => ?_)
        rw [← hs8] at hS
        refine lv_iinc (v := (v5 + 1)) (lv' := [(5, .int (v5 + 1)), (0, .ref (o + 302)), (1, .ref (o + 306)), (2, .int w2), (3, .int w3), (4, .ref q7)]) hx hb dL_costs_33 hl (k := 5) rfl rfl (by decide) rfl (fun ls hl => ?_)
        refine lv_goto (tgt := 9) hx hb dL_costs_36 (by decide) ?_
        exact ih (v5 + 1) s8 hf _ _ _ hS (lv_sub hl [1, 2, 3, 4, 5, 0] rfl)
      clear hJ6
      refine lv_icmp_ne (tgt := 30) hx hb dL_costs_23 (by decide) (fun c9 => ?_) (fun c9 => ?_)
      · have hf := gIf_f c9 hf
        refine lv_ldc (v := 99999) hx hb hown (hts _ (gmem 575 (by decide +kernel) rfl)) dL_costs_30 ?_
        exact wJ6 v5 99999 σ hf _ _ _ hS (lv_sub hl [0, 1, 2, 3, 4, 5] rfl)
      · have hf := gIf_t c9 hf
        refine lv_iconst (v := 0) hx hb dL_costs_26 (by decide) ?_
        refine lv_goto (tgt := 32) hx hb dL_costs_27 (by decide) ?_
        exact wJ6 v5 0 σ hf _ _ _ hS (lv_sub hl [0, 1, 2, 3, 4, 5] rfl)
set_option maxHeartbeats 4000000 in
set_option maxRecDepth 100000 in
theorem w_L_costs_L92 (q7 : Nat) (w3 : Int32) (w6 : Int32) (w7 : Int32) (K180 : Int32 → gS → Option (gS)) {q : gS} (K : gK p s m args meth c G cL_costs 11 RL (some (.array .int))) (hK180 : ∀ (k5 : Int32) (σ : gS), K180 k5 σ = some q → ∀ (H : Heap) (locs : List Loc) (ls : Array Slot), hS7 G o q7 s σ H locs → lv_has ls 11 [(0, .ref (o + 302)), (1, .ref (o + 306)), (3, .int w3), (4, .ref q7), (5, .int k5), (6, .int w6)] → W p l e rmL_costs s m args below meth c H locs 1 10 (MQ below (hQr G o q (q 307)) args s 1 10 (gA o 307)) (F0 m 180 ls [])) : ∀ (n : Nat) (v5 : Int32) (v8 : Int32) (σ : gS), f_L_costs_L92 w3 w6 w7 K180 n v5 v8 σ = some q → ∀ (H : Heap) (locs : List Loc) (ls : Array Slot), hS7 G o q7 s σ H locs → lv_has ls 11 [(0, .ref (o + 302)), (1, .ref (o + 306)), (3, .int w3), (4, .ref q7), (5, .int v5), (6, .int w6), (7, .int w7), (8, .int v8)] → W p l e rmL_costs s m args below meth c H locs 1 10 (MQ below (hQr G o q (q 307)) args s 1 10 (gA o 307)) (F0 m 92 ls []) := by
  obtain ⟨hx, hb, hml, hown, hts, -⟩ := id K
  intro n
  induction n with
  | zero =>
    intro v5 v8 σ hf
    exact absurd (show (none : Option _) = some q from hf) (by simp)
  | succ n ih =>
    intro v5 v8 σ hf H locs ls hS hl
    rw [f_L_costs_L92_s] at hf
    refine lv_iload hx hb dL_costs_92 (lv_at hl 7 rfl) ?_
    refine lv_iconst (v := 2) hx hb dL_costs_94 (by decide) ?_
    refine lv_icmp_ge (tgt := 180) hx hb dL_costs_95 (by decide) (fun c14 => ?_) (fun c14 => ?_)
    · have hf := gIf_t c14 hf
      exact hK180 v5 σ hf _ _ _ hS (lv_sub hl [0, 1, 2, 3, 4, 5] rfl)
    · have hf := gIf_f c14 hf
      refine lv_iload hx hb dL_costs_98 (lv_at hl 7 rfl) ?_
      obtain ⟨J17, hJ17, hf⟩ := gLet_some hf
      have wJ17 : ∀ (j15 : Int32) (s16 : gS), J17 j15 s16 = some q → ∀ (H : Heap) (locs : List Loc) (ls : Array Slot), hS7 G o q7 s s16 H locs → lv_has ls 11 [(0, .ref (o + 302)), (1, .ref (o + 306)), (3, .int w3), (4, .ref q7), (5, .int v5), (6, .int w6), (7, .int w7), (8, .int v8)] → W p l e rmL_costs s m args below meth c H locs 1 10 (MQ below (hQr G o q (q 307)) args s 1 10 (gA o 307)) (F0 m 118 ls [.int j15]) := by
        intro j15 s16 hf H locs ls hS hl
        rw [hJ17] at hf
        refine lv_istore (lv' := [(9, .int j15), (0, .ref (o + 302)), (1, .ref (o + 306)), (3, .int w3), (4, .ref q7), (5, .int v5), (6, .int w6), (7, .int w7), (8, .int v8)]) hx hb dL_costs_118 hl (by decide) rfl (fun ls hl => ?_)
        refine lv_iload hx hb dL_costs_120 (lv_at hl 8 rfl) ?_
        obtain ⟨J20, hJ20, hf⟩ := gLet_some hf
        have wJ20 : ∀ (j18 : Int32) (s19 : gS), J20 j18 s19 = some q → ∀ (H : Heap) (locs : List Loc) (ls : Array Slot), hS7 G o q7 s s19 H locs → lv_has ls 11 [(0, .ref (o + 302)), (1, .ref (o + 306)), (3, .int w3), (4, .ref q7), (5, .int v5), (6, .int w6), (7, .int w7), (8, .int v8), (9, .int j15)] → W p l e rmL_costs s m args below meth c H locs 1 10 (MQ below (hQr G o q (q 307)) args s 1 10 (gA o 307)) (F0 m 140 ls [.int j18]) := by
          intro j18 s19 hf H locs ls hS hl
          rw [hJ20] at hf
          refine lv_istore (lv' := [(10, .int j18), (0, .ref (o + 302)), (1, .ref (o + 306)), (3, .int w3), (4, .ref q7), (5, .int v5), (6, .int w6), (7, .int w7), (8, .int v8), (9, .int j15)]) hx hb dL_costs_140 hl (by decide) rfl (fun ls hl => ?_)
          refine lv_aload hx hb dL_costs_142 (lv_at hl 4 rfl) ?_
          refine lv_iload hx hb dL_costs_144 (lv_at hl 0 rfl) ?_
          obtain ⟨h21, hf⟩ := gGd_some hf
          refine h7_ld K hS h21 dL_costs_146 ?_
          refine lv_iload hx hb dL_costs_147 (lv_at hl 7 rfl) ?_
          refine lv_iadd hx hb dL_costs_149 ?_
          refine lv_aload hx hb dL_costs_150 (lv_at hl 4 rfl) ?_
          refine lv_iload hx hb dL_costs_152 (lv_at hl 9 rfl) ?_
          obtain ⟨h22, hf⟩ := gGd_some hf
          refine h7_ld K hS h22 dL_costs_154 ?_
          refine lv_icmp_ge (tgt := 174) hx hb dL_costs_155 (by decide) (fun c23 => ?_) (fun c23 => ?_)
          · have hf := gIf_t c23 hf
            refine lv_iinc (v := (v8 + 1)) (lv' := [(8, .int (v8 + 1)), (10, .int j18), (0, .ref (o + 302)), (1, .ref (o + 306)), (3, .int w3), (4, .ref q7), (5, .int v5), (6, .int w6), (7, .int w7), (9, .int j15)]) hx hb dL_costs_174 hl (k := 8) rfl rfl (by decide) rfl (fun ls hl => ?_)
            refine lv_goto (tgt := 92) hx hb dL_costs_177 (by decide) ?_
            exact ih v5 (v8 + 1) s19 hf _ _ _ hS (lv_sub hl [2, 3, 4, 5, 6, 7, 8, 0] rfl)
          · have hf := gIf_f c23 hf
            refine lv_aload hx hb dL_costs_158 (lv_at hl 4 rfl) ?_
            refine lv_iload hx hb dL_costs_160 (lv_at hl 9 rfl) ?_
            refine lv_aload hx hb dL_costs_162 (lv_at hl 4 rfl) ?_
            refine lv_iload hx hb dL_costs_164 (lv_at hl 0 rfl) ?_
            obtain ⟨h24, hf⟩ := gGd_some hf
            refine h7_ld K hS h24 dL_costs_166 ?_
            refine lv_iload hx hb dL_costs_167 (lv_at hl 7 rfl) ?_
            refine lv_iadd hx hb dL_costs_169 ?_
            obtain ⟨h25, hf⟩ := gGd_some hf
            obtain ⟨s26, hs26, hf⟩ := gLet_some hf
            refine h7_ist K hS h25 dL_costs_170 (fun H locs hS => ?_)
            rw [← hs26] at hS
            refine lv_iconst (v := 1) hx hb dL_costs_171 (by decide) ?_
            refine lv_istore (lv' := [(5, .int 1), (10, .int j18), (0, .ref (o + 302)), (1, .ref (o + 306)), (3, .int w3), (4, .ref q7), (6, .int w6), (7, .int w7), (8, .int v8), (9, .int j15)]) hx hb dL_costs_172 hl (by decide) rfl (fun ls hl => ?_)
            refine lv_iinc (v := (v8 + 1)) (lv' := [(8, .int (v8 + 1)), (5, .int 1), (10, .int j18), (0, .ref (o + 302)), (1, .ref (o + 306)), (3, .int w3), (4, .ref q7), (6, .int w6), (7, .int w7), (9, .int j15)]) hx hb dL_costs_174 hl (k := 8) rfl rfl (by decide) rfl (fun ls hl => ?_)
            refine lv_goto (tgt := 92) hx hb dL_costs_177 (by decide) ?_
            exact ih 1 (v8 + 1) s26 hf _ _ _ hS (lv_sub hl [3, 4, 5, 6, 1, 7, 8, 0] rfl)
        clear hJ20
        refine lv_if_ne (tgt := 134) hx hb dL_costs_122 (by decide) (fun c27 => ?_) (fun c27 => ?_)
        · have hf := gIf_f c27 hf
          refine lv_aload_n hx hb dL_costs_134 rfl (lv_at hl 1 rfl) ?_
          refine lv_iload hx hb dL_costs_135 (lv_at hl 6 rfl) ?_
          obtain ⟨q28, hq28, hf⟩ := Option.bind_eq_some_iff.mp hf
          obtain ⟨s29, hs29, hf⟩ := gLet_some hf
          refine h7_Si0 (X' := []) (As := [.ref (o + 302), .int w6]) K hS lS_L_10 (by simp) (c_L_one w6 s16 q28 hq28) rfl rfl (Nat.le_of_ble_eq_true rfl) ⟨rfl, rfl⟩ ⟨Nat.le_of_ble_eq_true rfl, Nat.le_of_ble_eq_true rfl⟩ hl.1 ⟨Nat.le_of_ble_eq_true rfl, Nat.le_of_ble_eq_true rfl⟩ dL_costs_137 (fun H locs hS => ?_)
          rw [← hs29] at hS
          exact wJ20 q28.1 s29 hf _ _ _ hS (lv_sub hl [1, 2, 3, 4, 5, 6, 7, 8, 0] rfl)
        · have hf := gIf_t c27 hf
          refine lv_aload_n hx hb dL_costs_125 rfl (lv_at hl 1 rfl) ?_
          refine lv_iload hx hb dL_costs_126 (lv_at hl 6 rfl) ?_
          obtain ⟨q30, hq30, hf⟩ := Option.bind_eq_some_iff.mp hf
          obtain ⟨s31, hs31, hf⟩ := gLet_some hf
          refine h7_Si0 (X' := []) (As := [.ref (o + 302), .int w6]) K hS lS_L_16 (by simp) (c_L_two w6 s16 q30 hq30) rfl rfl (Nat.le_of_ble_eq_true rfl) ⟨rfl, rfl⟩ ⟨Nat.le_of_ble_eq_true rfl, Nat.le_of_ble_eq_true rfl⟩ hl.1 ⟨Nat.le_of_ble_eq_true rfl, Nat.le_of_ble_eq_true rfl⟩ dL_costs_128 (fun H locs hS => ?_)
          rw [← hs31] at hS
          refine lv_goto (tgt := 140) hx hb dL_costs_131 (by decide) ?_
          exact wJ20 q30.1 s31 hf _ _ _ hS (lv_sub hl [1, 2, 3, 4, 5, 6, 7, 8, 0] rfl)
      clear hJ17
      refine lv_if_ne (tgt := 112) hx hb dL_costs_100 (by decide) (fun c32 => ?_) (fun c32 => ?_)
      · have hf := gIf_f c32 hf
        refine lv_aload_n hx hb dL_costs_112 rfl (lv_at hl 0 rfl) ?_
        refine lv_iload hx hb dL_costs_113 (lv_at hl 5 rfl) ?_
        obtain ⟨q33, hq33, hf⟩ := Option.bind_eq_some_iff.mp hf
        obtain ⟨s34, hs34, hf⟩ := gLet_some hf
        refine h7_Si0 (X' := []) (As := [.ref (o + 302), .int w6]) K hS lS_L_16 (by simp) (c_L_two w6 σ q33 hq33) rfl rfl (Nat.le_of_ble_eq_true rfl) ⟨rfl, rfl⟩ ⟨Nat.le_of_ble_eq_true rfl, Nat.le_of_ble_eq_true rfl⟩ hl.1 ⟨Nat.le_of_ble_eq_true rfl, Nat.le_of_ble_eq_true rfl⟩ dL_costs_115 (fun H locs hS => ?_)
        rw [← hs34] at hS
        exact wJ17 q33.1 s34 hf _ _ _ hS (lv_sub hl [0, 1, 2, 3, 4, 5, 6, 7] rfl)
      · have hf := gIf_t c32 hf
        refine lv_aload_n hx hb dL_costs_103 rfl (lv_at hl 0 rfl) ?_
        refine lv_iload hx hb dL_costs_104 (lv_at hl 5 rfl) ?_
        obtain ⟨q35, hq35, hf⟩ := Option.bind_eq_some_iff.mp hf
        obtain ⟨s36, hs36, hf⟩ := gLet_some hf
        refine h7_Si0 (X' := []) (As := [.ref (o + 302), .int w6]) K hS lS_L_10 (by simp) (c_L_one w6 σ q35 hq35) rfl rfl (Nat.le_of_ble_eq_true rfl) ⟨rfl, rfl⟩ ⟨Nat.le_of_ble_eq_true rfl, Nat.le_of_ble_eq_true rfl⟩ hl.1 ⟨Nat.le_of_ble_eq_true rfl, Nat.le_of_ble_eq_true rfl⟩ dL_costs_106 (fun H locs hS => ?_)
        rw [← hs36] at hS
        refine lv_goto (tgt := 118) hx hb dL_costs_109 (by decide) ?_
        exact wJ17 q35.1 s36 hf _ _ _ hS (lv_sub hl [0, 1, 2, 3, 4, 5, 6, 7] rfl)
set_option maxHeartbeats 4000000 in
set_option maxRecDepth 100000 in
theorem w_L_costs_L53 (q7 : Nat) (w3 : Int32) (K186 : Int32 → gS → Option (gS)) {q : gS} (K : gK p s m args meth c G cL_costs 11 RL (some (.array .int))) (hK186 : ∀ (k5 : Int32) (σ : gS), K186 k5 σ = some q → ∀ (H : Heap) (locs : List Loc) (ls : Array Slot), hS7 G o q7 s σ H locs → lv_has ls 11 [(0, .ref (o + 302)), (1, .ref (o + 306)), (3, .int w3), (4, .ref q7), (5, .int k5)] → W p l e rmL_costs s m args below meth c H locs 1 10 (MQ below (hQr G o q (q 307)) args s 1 10 (gA o 307)) (F0 m 186 ls [])) : ∀ (n : Nat) (v5 : Int32) (v6 : Int32) (σ : gS), f_L_costs_L53 w3 K186 n v5 v6 σ = some q → ∀ (H : Heap) (locs : List Loc) (ls : Array Slot), hS7 G o q7 s σ H locs → lv_has ls 11 [(0, .ref (o + 302)), (1, .ref (o + 306)), (3, .int w3), (4, .ref q7), (5, .int v5), (6, .int v6)] → W p l e rmL_costs s m args below meth c H locs 1 10 (MQ below (hQr G o q (q 307)) args s 1 10 (gA o 307)) (F0 m 53 ls []) := by
  obtain ⟨hx, hb, hml, hown, hts, -⟩ := id K
  intro n
  induction n with
  | zero =>
    intro v5 v6 σ hf
    exact absurd (show (none : Option _) = some q from hf) (by simp)
  | succ n ih =>
    intro v5 v6 σ hf H locs ls hS hl
    rw [f_L_costs_L53_s] at hf
    refine lv_iload hx hb dL_costs_53 (lv_at hl 5 rfl) ?_
    refine lv_aload_n hx hb dL_costs_55 rfl (lv_at hl 1 rfl) ?_
    refine lv_iconst (v := 4) hx hb dL_costs_56 (by decide) ?_
    refine h7_iald (cx := 306) (j := 4) K hS (eLL_306 G o) (by decide) (by decide) (by decide) dL_costs_57 ?_
    refine lv_icmp_ge (tgt := 186) hx hb dL_costs_58 (by decide) (fun c12 => ?_) (fun c12 => ?_)
    · have hf := gIf_t c12 hf
      exact hK186 v5 σ hf _ _ _ hS (lv_sub hl [0, 1, 2, 3, 4] rfl)
    · have hf := gIf_f c12 hf
      refine lv_iload_n hx hb dL_costs_61 rfl (lv_at hl 2 rfl) ?_
      refine lv_iload hx hb dL_costs_62 (lv_at hl 5 rfl) ?_
      refine lv_ishr hx hb dL_costs_64 ?_
      refine lv_iconst (v := 1) hx hb dL_costs_65 (by decide) ?_
      refine lv_iand hx hb dL_costs_66 ?_
      refine lv_iconst (v := 1) hx hb dL_costs_67 (by decide) ?_
      refine lv_icmp_ne (tgt := 85) hx hb dL_costs_68 (by decide) (fun c13 => ?_) (fun c13 => ?_)
      · have hf := gIf_f c13 hf
        refine lv_ldc (v := 99999) hx hb hown (hts _ (gmem 575 (by decide +kernel) rfl)) dL_costs_85 ?_
        refine lv_istore (lv' := [(7, .int 99999), (0, .ref (o + 302)), (1, .ref (o + 306)), (3, .int w3), (4, .ref q7), (5, .int v5), (6, .int v6)]) hx hb dL_costs_87 hl (by decide) rfl (fun ls hl => ?_)
        refine lv_iconst (v := 0) hx hb dL_costs_89 (by decide) ?_
        refine lv_istore (lv' := [(8, .int 0), (7, .int 99999), (0, .ref (o + 302)), (1, .ref (o + 306)), (3, .int w3), (4, .ref q7), (5, .int v5), (6, .int v6)]) hx hb dL_costs_90 hl (by decide) rfl (fun ls hl => ?_)
        refine w_L_costs_L92 q7 w3 v6 99999 _ K ?_ gFu v5 0 σ hf _ _ _ hS (lv_sub hl [2, 3, 4, 5, 6, 7, 1, 0] rfl)
        · intro k37 s38 hf H locs ls hS hl
          refine lv_iinc (v := (v6 + 1)) (lv' := [(6, .int (v6 + 1)), (0, .ref (o + 302)), (1, .ref (o + 306)), (3, .int w3), (4, .ref q7), (5, .int k37)]) hx hb dL_costs_180 hl (k := 5) rfl rfl (by decide) rfl (fun ls hl => ?_)
          refine lv_goto (tgt := 53) hx hb dL_costs_183 (by decide) ?_
          exact ih k37 (v6 + 1) s38 hf _ _ _ hS (lv_sub hl [1, 2, 3, 4, 5, 0] rfl)
      · have hf := gIf_t c13 hf
        refine lv_bipush (v := 100) hx hb dL_costs_71 (by decide) ?_
        refine lv_aload_n hx hb dL_costs_73 rfl (lv_at hl 0 rfl) ?_
        refine lv_iload hx hb dL_costs_74 (lv_at hl 5 rfl) ?_
        obtain ⟨q39, hq39, hf⟩ := Option.bind_eq_some_iff.mp hf
        obtain ⟨s40, hs40, hf⟩ := gLet_some hf
        refine h7_Si0 (X' := []) (As := [.ref (o + 302), .int v6]) K hS lS_L_48 (by simp) (c_L_minutes v6 σ q39 hq39) rfl rfl (Nat.le_of_ble_eq_true rfl) ⟨rfl, rfl⟩ ⟨Nat.le_of_ble_eq_true rfl, Nat.le_of_ble_eq_true rfl⟩ hl.1 ⟨Nat.le_of_ble_eq_true rfl, Nat.le_of_ble_eq_true rfl⟩ dL_costs_76 (fun H locs hS => ?_)
        rw [← hs40] at hS
        refine lv_imul hx hb dL_costs_79 ?_
        refine lv_iconst (v := 1) hx hb dL_costs_80 (by decide) ?_
        refine lv_iadd hx hb dL_costs_81 ?_
        refine lv_goto (tgt := 87) hx hb dL_costs_82 (by decide) ?_
        obtain ⟨x41, hx41, hf⟩ := gLet_some hf
        refine g_top hx41 ?_
        refine lv_istore (lv' := [(7, .int x41), (0, .ref (o + 302)), (1, .ref (o + 306)), (3, .int w3), (4, .ref q7), (5, .int v5), (6, .int v6)]) hx hb dL_costs_87 hl (by decide) rfl (fun ls hl => ?_)
        refine lv_iconst (v := 0) hx hb dL_costs_89 (by decide) ?_
        refine lv_istore (lv' := [(8, .int 0), (7, .int x41), (0, .ref (o + 302)), (1, .ref (o + 306)), (3, .int w3), (4, .ref q7), (5, .int v5), (6, .int v6)]) hx hb dL_costs_90 hl (by decide) rfl (fun ls hl => ?_)
        refine w_L_costs_L92 q7 w3 v6 x41 _ K ?_ gFu v5 0 s40 hf _ _ _ hS (lv_sub hl [2, 3, 4, 5, 6, 7, 1, 0] rfl)
        · intro k42 s43 hf H locs ls hS hl
          refine lv_iinc (v := (v6 + 1)) (lv' := [(6, .int (v6 + 1)), (0, .ref (o + 302)), (1, .ref (o + 306)), (3, .int w3), (4, .ref q7), (5, .int k42)]) hx hb dL_costs_180 hl (k := 5) rfl rfl (by decide) rfl (fun ls hl => ?_)
          refine lv_goto (tgt := 53) hx hb dL_costs_183 (by decide) ?_
          exact ih k42 (v6 + 1) s43 hf _ _ _ hS (lv_sub hl [1, 2, 3, 4, 5, 0] rfl)
set_option maxHeartbeats 4000000 in
set_option maxRecDepth 100000 in
theorem w_L_costs_L42 (q7 : Nat) (w3 : Int32) (K189 : gS → Option (gS)) {q : gS} (K : gK p s m args meth c G cL_costs 11 RL (some (.array .int))) (hK189 : ∀ (σ : gS), K189 σ = some q → ∀ (H : Heap) (locs : List Loc) (ls : Array Slot), hS7 G o q7 s σ H locs → lv_has ls 11 [(4, .ref q7)] → W p l e rmL_costs s m args below meth c H locs 1 10 (MQ below (hQr G o q (q 307)) args s 1 10 (gA o 307)) (F0 m 189 ls [])) : ∀ (n : Nat) (v5 : Int32) (σ : gS), f_L_costs_L42 w3 K189 n v5 σ = some q → ∀ (H : Heap) (locs : List Loc) (ls : Array Slot), hS7 G o q7 s σ H locs → lv_has ls 11 [(0, .ref (o + 302)), (1, .ref (o + 306)), (3, .int w3), (4, .ref q7), (5, .int v5)] → W p l e rmL_costs s m args below meth c H locs 1 10 (MQ below (hQr G o q (q 307)) args s 1 10 (gA o 307)) (F0 m 42 ls []) := by
  obtain ⟨hx, hb, hml, hown, hts, -⟩ := id K
  intro n
  induction n with
  | zero =>
    intro v5 σ hf
    exact absurd (show (none : Option _) = some q from hf) (by simp)
  | succ n ih =>
    intro v5 σ hf H locs ls hS hl
    rw [f_L_costs_L42_s] at hf
    refine lv_iload hx hb dL_costs_42 (lv_at hl 4 rfl) ?_
    refine lv_if_eq (tgt := 189) hx hb dL_costs_44 (by decide) (fun c11 => ?_) (fun c11 => ?_)
    · have hf := gIf_t c11 hf
      exact hK189 σ hf _ _ _ hS (lv_sub hl [3] rfl)
    · have hf := gIf_f c11 hf
      refine lv_iconst (v := 0) hx hb dL_costs_47 (by decide) ?_
      refine lv_istore (lv' := [(5, .int 0), (0, .ref (o + 302)), (1, .ref (o + 306)), (3, .int w3), (4, .ref q7)]) hx hb dL_costs_48 hl (by decide) rfl (fun ls hl => ?_)
      refine lv_iconst (v := 0) hx hb dL_costs_50 (by decide) ?_
      refine lv_istore (lv' := [(6, .int 0), (5, .int 0), (0, .ref (o + 302)), (1, .ref (o + 306)), (3, .int w3), (4, .ref q7)]) hx hb dL_costs_51 hl (by decide) rfl (fun ls hl => ?_)
      refine w_L_costs_L53 q7 w3 _ K ?_ gFu 0 0 σ hf _ _ _ hS (lv_sub hl [2, 3, 4, 5, 1, 0] rfl)
      · intro k44 s45 hf H locs ls hS hl
        refine lv_goto (tgt := 42) hx hb dL_costs_186 (by decide) ?_
        exact ih k44 s45 hf _ _ _ hS (lv_sub hl [0, 1, 2, 3, 4] rfl)
set_option maxHeartbeats 4000000 in
set_option maxRecDepth 100000 in
theorem c_L_costs (p0 : Int32) (p1 : Int32) (σ : gS) (q : gS) (hf : f_L_costs p0 p1 σ = some q) : Met l yL_costs (gW yL_costs cL_costs 11 (some (.array .int))) rmL_costs (hPc G o [] [.ref (o + 302), .ref (o + 306), .int p0, .int p1] σ) (hQr G o q (q 307)) 1 10 (gA o 307) := by
  refine h_met (by decide) ⟨rfl, rfl⟩ (fun p e s m args below meth c ls K hS hl => ?_) (Nat.le_of_ble_eq_true rfl)
  have K : gK p s m args meth c G cL_costs 11 RL (some (.array .int)) := K
  have hl : lv_has ls 11 [(0, .ref (o + 302)), (1, .ref (o + 306)), (2, .int p0), (3, .int p1)] := hl
  obtain ⟨hx, hb, hml, hown, hts, -⟩ := id K
  unfold f_L_costs at hf
  refine lv_bipush (v := 10) hx hb dL_costs_0 (by decide) ?_
  obtain ⟨s1, hs1, hf⟩ := gLet_some hf
  refine h7_newi K hS (List.mem_filter.mpr ⟨by decide +kernel, rfl⟩) rfl (Nat.le_of_ble_eq_true rfl) (Nat.le_of_ble_eq_true rfl) dL_costs_2 (fun q7 H hS => ?_)
  rw [← hs1] at hS
  refine lv_astore (lv' := [(4, .ref q7), (0, .ref (o + 302)), (1, .ref (o + 306)), (2, .int p0), (3, .int p1)]) hx hb dL_costs_4 hl (by decide) rfl (fun ls hl => ?_)
  refine lv_iconst (v := 0) hx hb dL_costs_6 (by decide) ?_
  refine lv_istore (lv' := [(5, .int 0), (4, .ref q7), (0, .ref (o + 302)), (1, .ref (o + 306)), (2, .int p0), (3, .int p1)]) hx hb dL_costs_7 hl (by decide) rfl (fun ls hl => ?_)
  refine w_L_costs_L9 q7 p0 p1 _ K ?_ gFu 0 s1 hf _ _ _ hS (lv_sub hl [2, 3, 4, 5, 1, 0] rfl)
  · intro  s10 hf H locs ls hS hl
    refine lv_iconst (v := 1) hx hb dL_costs_39 (by decide) ?_
    refine lv_istore (lv' := [(5, .int 1), (0, .ref (o + 302)), (1, .ref (o + 306)), (3, .int p1), (4, .ref q7)]) hx hb dL_costs_40 hl (by decide) rfl (fun ls hl => ?_)
    refine w_L_costs_L42 q7 p1 _ K ?_ gFu 1 s10 hf _ _ _ hS (lv_sub hl [1, 2, 3, 4, 0] rfl)
    · intro  s46 hf H locs ls hS hl
      refine lv_aload hx hb dL_costs_189 (lv_at hl 0 rfl) ?_
      exact h_aret K hS rfl hf dL_costs_191
abbrev rmL_first : Room := { frames := 1, cells := 0, slots := 0, locals := 21 }
def f_L_first_L6 (Dc : Nat → Int32) (w3 : Int32) (w4 : Int32) : Nat → Int32 → Int32 → gS → Option (Int32 × gS)
  | 0, _, _, _ => none
  | n + 1, v5, v6, σ => if (σ 306 4) ≤ v6 then (some (v5, σ)) else (if 0 ≤ v5 then (some (v5, σ)) else (gLet (fun (j3 : Int32) (s4 : gS) => Option.bind (f_L_one v6 s4) (fun q6 => gLet (fun (j7 : Int32) (s8 : gS) => if j3 = 0 then (f_L_first_L6 Dc w3 w4 n v5 (v6 + 1) s8) else (gGd (gin j7 10) (Option.bind (f_L_minutes v6 s8) (fun q12 => gGd (gin w3 10) (if (((Dc (gil j7)) + (100 * q12.1)) + 1) = (Dc (gil w3)) then (f_L_first_L6 Dc w3 w4 n v6 (v6 + 1) q12.2) else (f_L_first_L6 Dc w3 w4 n v5 (v6 + 1) q12.2)))))) (fun J9 => if q6.1 = w3 then (Option.bind (f_L_two v6 q6.2) (fun q17 => J9 q17.1 q17.2)) else (Option.bind (f_L_one v6 q6.2) (fun q16 => J9 q16.1 q16.2))))) (fun J5 => gLet (fun  (s18 : gS) => J5 0 s18) (fun J19 => if ((w4 >>> (v6 &&& 31)) &&& 1) = 1 then (Option.bind (f_L_one v6 σ) (fun q21 => gLet (fun  (s22 : gS) => J5 1 s22) (fun J23 => if q21.1 = w3 then (J23 q21.2) else (Option.bind (f_L_two v6 q21.2) (fun q25 => if q25.1 = w3 then (J23 q25.2) else (J19 q25.2)))))) else (J19 σ)))))
theorem f_L_first_L6_s (Dc : Nat → Int32) (w3 : Int32) (w4 : Int32) (n : Nat) (v5 : Int32) (v6 : Int32) (σ : gS) : f_L_first_L6 Dc w3 w4 (n + 1) v5 v6 σ = (if (σ 306 4) ≤ v6 then (some (v5, σ)) else (if 0 ≤ v5 then (some (v5, σ)) else (gLet (fun (j3 : Int32) (s4 : gS) => Option.bind (f_L_one v6 s4) (fun q6 => gLet (fun (j7 : Int32) (s8 : gS) => if j3 = 0 then (f_L_first_L6 Dc w3 w4 n v5 (v6 + 1) s8) else (gGd (gin j7 10) (Option.bind (f_L_minutes v6 s8) (fun q12 => gGd (gin w3 10) (if (((Dc (gil j7)) + (100 * q12.1)) + 1) = (Dc (gil w3)) then (f_L_first_L6 Dc w3 w4 n v6 (v6 + 1) q12.2) else (f_L_first_L6 Dc w3 w4 n v5 (v6 + 1) q12.2)))))) (fun J9 => if q6.1 = w3 then (Option.bind (f_L_two v6 q6.2) (fun q17 => J9 q17.1 q17.2)) else (Option.bind (f_L_one v6 q6.2) (fun q16 => J9 q16.1 q16.2))))) (fun J5 => gLet (fun (s18 : gS) => J5 0 s18) (fun J19 => if ((w4 >>> (v6 &&& 31)) &&& 1) = 1 then (Option.bind (f_L_one v6 σ) (fun q21 => gLet (fun (s22 : gS) => J5 1 s22) (fun J23 => if q21.1 = w3 then (J23 q21.2) else (Option.bind (f_L_two v6 q21.2) (fun q25 => if q25.1 = w3 then (J23 q25.2) else (J19 q25.2)))))) else (J19 σ)))))) := rfl
def f_L_first (Dc : Nat → Int32) (p0 : Int32) (p1 : Int32) (σ : gS) : Option (Int32 × gS) := f_L_first_L6 Dc p0 p1 gFu (-1) 0 σ
set_option maxHeartbeats 4000000 in
set_option maxRecDepth 100000 in
theorem w_L_first_L6 (Dc : Nat → Int32) (qc : Nat) (w3 : Int32) (w4 : Int32) {q : Int32 × gS} (K : gK p s m args meth c G cL_first 9 RL (some .int)) : ∀ (n : Nat) (v5 : Int32) (v6 : Int32) (σ : gS), f_L_first_L6 Dc w3 w4 n v5 v6 σ = some q → ∀ (H : Heap) (locs : List Loc) (ls : Array Slot), hSt G o [(qc, 10, Dc)] s σ H locs → lv_has ls 9 [(0, .ref (o + 302)), (1, .ref (o + 306)), (2, .ref qc), (3, .int w3), (4, .int w4), (5, .int v5), (6, .int v6)] → W p l e rmL_first s m args below meth c H locs 0 0 (MQ below (hQi G o q) args s 0 0 (gA o 307)) (F0 m 6 ls []) := by
  obtain ⟨hx, hb, hml, hown, hts, -⟩ := id K
  intro n
  induction n with
  | zero =>
    intro v5 v6 σ hf
    exact absurd (show (none : Option _) = some q from hf) (by simp)
  | succ n ih =>
    intro v5 v6 σ hf H locs ls hS hl
    rw [f_L_first_L6_s] at hf
    refine lv_iload hx hb dL_first_6 (lv_at hl 6 rfl) ?_
    refine lv_aload_n hx hb dL_first_8 rfl (lv_at hl 1 rfl) ?_
    refine lv_iconst (v := 4) hx hb dL_first_9 (by decide) ?_
    refine h_iald (cx := 306) (j := 4) K hS (eLL_306 G o) (by decide) (by decide) (by decide) dL_first_10 ?_
    refine lv_icmp_ge (tgt := 126) hx hb dL_first_11 (by decide) (fun c1 => ?_) (fun c1 => ?_)
    · have hf := gIf_t c1 hf
      refine lv_iload hx hb dL_first_126 (lv_at hl 5 rfl) ?_
      exact h_iret K hS hf dL_first_128
    · have hf := gIf_f c1 hf
      refine lv_iload hx hb dL_first_14 (lv_at hl 5 rfl) ?_
      refine lv_if_ge (tgt := 126) hx hb dL_first_16 (by decide) (fun c2 => ?_) (fun c2 => ?_)
      · have hf := gIf_t c2 hf
        refine lv_iload hx hb dL_first_126 (lv_at hl 5 rfl) ?_
        exact h_iret K hS hf dL_first_128
      · have hf := gIf_f c2 hf
        refine lv_iload hx hb dL_first_19 (lv_at hl 4 rfl) ?_
        refine lv_iload hx hb dL_first_21 (lv_at hl 6 rfl) ?_
        refine lv_ishr hx hb dL_first_23 ?_
        refine lv_iconst (v := 1) hx hb dL_first_24 (by decide) ?_
        refine lv_iand hx hb dL_first_25 ?_
        refine lv_iconst (v := 1) hx hb dL_first_26 (by decide) ?_
        obtain ⟨J5, hJ5, hf⟩ := gLet_some hf
        have wJ5 : ∀ (j3 : Int32) (s4 : gS), J5 j3 s4 = some q → ∀ (H : Heap) (locs : List Loc) (ls : Array Slot), hSt G o [(qc, 10, Dc)] s s4 H locs → lv_has ls 9 [(0, .ref (o + 302)), (1, .ref (o + 306)), (2, .ref qc), (3, .int w3), (4, .int w4), (5, .int v5), (6, .int v6)] → W p l e rmL_first s m args below meth c H locs 0 0 (MQ below (hQi G o q) args s 0 0 (gA o 307)) (F0 m 55 ls [.int j3]) := by
          intro j3 s4 hf H locs ls hS hl
          rw [hJ5] at hf
          refine lv_istore (lv' := [(7, .int j3), (0, .ref (o + 302)), (1, .ref (o + 306)), (2, .ref qc), (3, .int w3), (4, .int w4), (5, .int v5), (6, .int v6)]) hx hb dL_first_55 hl (by decide) rfl (fun ls hl => ?_)
          refine lv_aload_n hx hb dL_first_57 rfl (lv_at hl 1 rfl) ?_
          refine lv_iload hx hb dL_first_58 (lv_at hl 7 rfl) ?_
          obtain ⟨q6, hq6, hf⟩ := Option.bind_eq_some_iff.mp hf
          refine h_Si0 (X' := []) (As := [.ref (o + 302), .int v6]) K hS lS_L_10 (by simp) (c_L_one v6 s4 q6 hq6) rfl rfl (Nat.le_of_ble_eq_true rfl) ⟨rfl, rfl⟩ ⟨Nat.le_of_ble_eq_true rfl, Nat.le_of_ble_eq_true rfl⟩ hl.1 ⟨Nat.le_of_ble_eq_true rfl, Nat.le_of_ble_eq_true rfl⟩ dL_first_60 (fun H locs hS => ?_)
          refine lv_iload_n hx hb dL_first_63 rfl (lv_at hl 4 rfl) ?_
          obtain ⟨J9, hJ9, hf⟩ := gLet_some hf
          have wJ9 : ∀ (j7 : Int32) (s8 : gS), J9 j7 s8 = some q → ∀ (H : Heap) (locs : List Loc) (ls : Array Slot), hSt G o [(qc, 10, Dc)] s s8 H locs → lv_has ls 9 [(0, .ref (o + 302)), (1, .ref (o + 306)), (2, .ref qc), (3, .int w3), (4, .int w4), (5, .int v5), (6, .int v6), (7, .int j3)] → W p l e rmL_first s m args below meth c H locs 0 0 (MQ below (hQi G o q) args s 0 0 (gA o 307)) (F0 m 82 ls [.int j7]) := by
            intro j7 s8 hf H locs ls hS hl
            rw [hJ9] at hf
            refine lv_istore (lv' := [(8, .int j7), (0, .ref (o + 302)), (1, .ref (o + 306)), (2, .ref qc), (3, .int w3), (4, .int w4), (5, .int v5), (6, .int v6), (7, .int j3)]) hx hb dL_first_82 hl (by decide) rfl (fun ls hl => ?_)
            refine lv_iload hx hb dL_first_84 (lv_at hl 8 rfl) ?_
            refine lv_if_eq (tgt := 116) hx hb dL_first_86 (by decide) (fun c10 => ?_) (fun c10 => ?_)
            · have hf := gIf_t c10 hf
              refine lv_iload hx hb dL_first_116 (lv_at hl 6 rfl) ?_
              refine lv_istore (lv' := [(5, .int v5), (8, .int j7), (0, .ref (o + 302)), (1, .ref (o + 306)), (2, .ref qc), (3, .int w3), (4, .int w4), (6, .int v6), (7, .int j3)]) hx hb dL_first_118 hl (by decide) rfl (fun ls hl => ?_)
              refine lv_iinc (v := (v6 + 1)) (lv' := [(6, .int (v6 + 1)), (5, .int v5), (8, .int j7), (0, .ref (o + 302)), (1, .ref (o + 306)), (2, .ref qc), (3, .int w3), (4, .int w4), (7, .int j3)]) hx hb dL_first_120 hl (k := 7) rfl rfl (by decide) rfl (fun ls hl => ?_)
              refine lv_goto (tgt := 6) hx hb dL_first_123 (by decide) ?_
              exact ih v5 (v6 + 1) s8 hf _ _ _ hS (lv_sub hl [3, 4, 5, 6, 7, 1, 0] rfl)
            · have hf := gIf_f c10 hf
              refine lv_aload_n hx hb dL_first_89 rfl (lv_at hl 3 rfl) ?_
              refine lv_iload hx hb dL_first_90 (lv_at hl 0 rfl) ?_
              obtain ⟨h11, hf⟩ := gGd_some hf
              refine h_ild K hS (n := 10) (f := Dc) (by simp) h11 dL_first_92 ?_
              refine lv_bipush (v := 100) hx hb dL_first_93 (by decide) ?_
              refine lv_aload_n hx hb dL_first_95 rfl (lv_at hl 1 rfl) ?_
              refine lv_iload hx hb dL_first_96 (lv_at hl 7 rfl) ?_
              obtain ⟨q12, hq12, hf⟩ := Option.bind_eq_some_iff.mp hf
              refine h_Si0 (X' := []) (As := [.ref (o + 302), .int v6]) K hS lS_L_48 (by simp) (c_L_minutes v6 s8 q12 hq12) rfl rfl (Nat.le_of_ble_eq_true rfl) ⟨rfl, rfl⟩ ⟨Nat.le_of_ble_eq_true rfl, Nat.le_of_ble_eq_true rfl⟩ hl.1 ⟨Nat.le_of_ble_eq_true rfl, Nat.le_of_ble_eq_true rfl⟩ dL_first_98 (fun H locs hS => ?_)
              refine lv_imul hx hb dL_first_101 ?_
              refine lv_iadd hx hb dL_first_102 ?_
              refine lv_iconst (v := 1) hx hb dL_first_103 (by decide) ?_
              refine lv_iadd hx hb dL_first_104 ?_
              refine lv_aload_n hx hb dL_first_105 rfl (lv_at hl 3 rfl) ?_
              refine lv_iload_n hx hb dL_first_106 rfl (lv_at hl 4 rfl) ?_
              obtain ⟨h13, hf⟩ := gGd_some hf
              refine h_ild K hS (n := 10) (f := Dc) (by simp) h13 dL_first_107 ?_
              refine lv_icmp_ne (tgt := 116) hx hb dL_first_108 (by decide) (fun c14 => ?_) (fun c14 => ?_)
              · have hf := gIf_f c14 hf
                refine lv_iload hx hb dL_first_116 (lv_at hl 6 rfl) ?_
                refine lv_istore (lv' := [(5, .int v5), (8, .int j7), (0, .ref (o + 302)), (1, .ref (o + 306)), (2, .ref qc), (3, .int w3), (4, .int w4), (6, .int v6), (7, .int j3)]) hx hb dL_first_118 hl (by decide) rfl (fun ls hl => ?_)
                refine lv_iinc (v := (v6 + 1)) (lv' := [(6, .int (v6 + 1)), (5, .int v5), (8, .int j7), (0, .ref (o + 302)), (1, .ref (o + 306)), (2, .ref qc), (3, .int w3), (4, .int w4), (7, .int j3)]) hx hb dL_first_120 hl (k := 7) rfl rfl (by decide) rfl (fun ls hl => ?_)
                refine lv_goto (tgt := 6) hx hb dL_first_123 (by decide) ?_
                exact ih v5 (v6 + 1) q12.2 hf _ _ _ hS (lv_sub hl [3, 4, 5, 6, 7, 1, 0] rfl)
              · have hf := gIf_t c14 hf
                refine lv_iload hx hb dL_first_111 (lv_at hl 7 rfl) ?_
                refine lv_goto (tgt := 118) hx hb dL_first_113 (by decide) ?_
                refine lv_istore (lv' := [(5, .int v6), (8, .int j7), (0, .ref (o + 302)), (1, .ref (o + 306)), (2, .ref qc), (3, .int w3), (4, .int w4), (6, .int v6), (7, .int j3)]) hx hb dL_first_118 hl (by decide) rfl (fun ls hl => ?_)
                refine lv_iinc (v := (v6 + 1)) (lv' := [(6, .int (v6 + 1)), (5, .int v6), (8, .int j7), (0, .ref (o + 302)), (1, .ref (o + 306)), (2, .ref qc), (3, .int w3), (4, .int w4), (7, .int j3)]) hx hb dL_first_120 hl (k := 7) rfl rfl (by decide) rfl (fun ls hl => ?_)
                refine lv_goto (tgt := 6) hx hb dL_first_123 (by decide) ?_
                exact ih v6 (v6 + 1) q12.2 hf _ _ _ hS (lv_sub hl [3, 4, 5, 6, 7, 1, 0] rfl)
          clear hJ9
          refine lv_icmp_ne (tgt := 76) hx hb dL_first_64 (by decide) (fun c15 => ?_) (fun c15 => ?_)
          · have hf := gIf_f c15 hf
            refine lv_aload_n hx hb dL_first_76 rfl (lv_at hl 1 rfl) ?_
            refine lv_iload hx hb dL_first_77 (lv_at hl 7 rfl) ?_
            obtain ⟨q16, hq16, hf⟩ := Option.bind_eq_some_iff.mp hf
            refine h_Si0 (X' := []) (As := [.ref (o + 302), .int v6]) K hS lS_L_10 (by simp) (c_L_one v6 q6.2 q16 hq16) rfl rfl (Nat.le_of_ble_eq_true rfl) ⟨rfl, rfl⟩ ⟨Nat.le_of_ble_eq_true rfl, Nat.le_of_ble_eq_true rfl⟩ hl.1 ⟨Nat.le_of_ble_eq_true rfl, Nat.le_of_ble_eq_true rfl⟩ dL_first_79 (fun H locs hS => ?_)
            exact wJ9 q16.1 q16.2 hf _ _ _ hS (lv_sub hl [1, 2, 3, 4, 5, 6, 7, 0] rfl)
          · have hf := gIf_t c15 hf
            refine lv_aload_n hx hb dL_first_67 rfl (lv_at hl 1 rfl) ?_
            refine lv_iload hx hb dL_first_68 (lv_at hl 7 rfl) ?_
            obtain ⟨q17, hq17, hf⟩ := Option.bind_eq_some_iff.mp hf
            refine h_Si0 (X' := []) (As := [.ref (o + 302), .int v6]) K hS lS_L_16 (by simp) (c_L_two v6 q6.2 q17 hq17) rfl rfl (Nat.le_of_ble_eq_true rfl) ⟨rfl, rfl⟩ ⟨Nat.le_of_ble_eq_true rfl, Nat.le_of_ble_eq_true rfl⟩ hl.1 ⟨Nat.le_of_ble_eq_true rfl, Nat.le_of_ble_eq_true rfl⟩ dL_first_70 (fun H locs hS => ?_)
            refine lv_goto (tgt := 82) hx hb dL_first_73 (by decide) ?_
            exact wJ9 q17.1 q17.2 hf _ _ _ hS (lv_sub hl [1, 2, 3, 4, 5, 6, 7, 0] rfl)
        clear hJ5
        obtain ⟨J19, hJ19, hf⟩ := gLet_some hf
        have wJ19 : ∀  (s18 : gS), J19  s18 = some q → ∀ (H : Heap) (locs : List Loc) (ls : Array Slot), hSt G o [(qc, 10, Dc)] s s18 H locs → lv_has ls 9 [(0, .ref (o + 302)), (1, .ref (o + 306)), (2, .ref qc), (3, .int w3), (4, .int w4), (5, .int v5), (6, .int v6)] → W p l e rmL_first s m args below meth c H locs 0 0 (MQ below (hQi G o q) args s 0 0 (gA o 307)) (F0 m 54 ls []) := by
          intro  s18 hf H locs ls hS hl
          rw [hJ19] at hf
          refine lv_iconst (v := 0) hx hb dL_first_54 (by decide) ?_
          exact wJ5 0 s18 hf _ _ _ hS (lv_sub hl [0, 1, 2, 3, 4, 5, 6] rfl)
        clear hJ19
        refine lv_icmp_ne (tgt := 54) hx hb dL_first_27 (by decide) (fun c20 => ?_) (fun c20 => ?_)
        · have hf := gIf_f c20 hf
          exact wJ19  σ hf _ _ _ hS (lv_sub hl [0, 1, 2, 3, 4, 5, 6] rfl)
        · have hf := gIf_t c20 hf
          refine lv_aload_n hx hb dL_first_30 rfl (lv_at hl 0 rfl) ?_
          refine lv_iload hx hb dL_first_31 (lv_at hl 6 rfl) ?_
          obtain ⟨q21, hq21, hf⟩ := Option.bind_eq_some_iff.mp hf
          refine h_Si0 (X' := []) (As := [.ref (o + 302), .int v6]) K hS lS_L_10 (by simp) (c_L_one v6 σ q21 hq21) rfl rfl (Nat.le_of_ble_eq_true rfl) ⟨rfl, rfl⟩ ⟨Nat.le_of_ble_eq_true rfl, Nat.le_of_ble_eq_true rfl⟩ hl.1 ⟨Nat.le_of_ble_eq_true rfl, Nat.le_of_ble_eq_true rfl⟩ dL_first_33 (fun H locs hS => ?_)
          refine lv_iload_n hx hb dL_first_36 rfl (lv_at hl 3 rfl) ?_
          obtain ⟨J23, hJ23, hf⟩ := gLet_some hf
          have wJ23 : ∀  (s22 : gS), J23  s22 = some q → ∀ (H : Heap) (locs : List Loc) (ls : Array Slot), hSt G o [(qc, 10, Dc)] s s22 H locs → lv_has ls 9 [(0, .ref (o + 302)), (1, .ref (o + 306)), (2, .ref qc), (3, .int w3), (4, .int w4), (5, .int v5), (6, .int v6)] → W p l e rmL_first s m args below meth c H locs 0 0 (MQ below (hQi G o q) args s 0 0 (gA o 307)) (F0 m 50 ls []) := by
            intro  s22 hf H locs ls hS hl
            rw [hJ23] at hf
            refine lv_iconst (v := 1) hx hb dL_first_50 (by decide) ?_
            refine lv_goto (tgt := 55) hx hb dL_first_51 (by decide) ?_
            exact wJ5 1 s22 hf _ _ _ hS (lv_sub hl [0, 1, 2, 3, 4, 5, 6] rfl)
          clear hJ23
          refine lv_icmp_eq (tgt := 50) hx hb dL_first_37 (by decide) (fun c24 => ?_) (fun c24 => ?_)
          · have hf := gIf_t c24 hf
            exact wJ23  q21.2 hf _ _ _ hS (lv_sub hl [0, 1, 2, 3, 4, 5, 6] rfl)
          · have hf := gIf_f c24 hf
            refine lv_aload_n hx hb dL_first_40 rfl (lv_at hl 0 rfl) ?_
            refine lv_iload hx hb dL_first_41 (lv_at hl 6 rfl) ?_
            obtain ⟨q25, hq25, hf⟩ := Option.bind_eq_some_iff.mp hf
            refine h_Si0 (X' := []) (As := [.ref (o + 302), .int v6]) K hS lS_L_16 (by simp) (c_L_two v6 q21.2 q25 hq25) rfl rfl (Nat.le_of_ble_eq_true rfl) ⟨rfl, rfl⟩ ⟨Nat.le_of_ble_eq_true rfl, Nat.le_of_ble_eq_true rfl⟩ hl.1 ⟨Nat.le_of_ble_eq_true rfl, Nat.le_of_ble_eq_true rfl⟩ dL_first_43 (fun H locs hS => ?_)
            refine lv_iload_n hx hb dL_first_46 rfl (lv_at hl 3 rfl) ?_
            refine lv_icmp_ne (tgt := 54) hx hb dL_first_47 (by decide) (fun c26 => ?_) (fun c26 => ?_)
            · have hf := gIf_f c26 hf
              exact wJ19  q25.2 hf _ _ _ hS (lv_sub hl [0, 1, 2, 3, 4, 5, 6] rfl)
            · have hf := gIf_t c26 hf
              exact wJ23  q25.2 hf _ _ _ hS (lv_sub hl [0, 1, 2, 3, 4, 5, 6] rfl)
set_option maxHeartbeats 4000000 in
set_option maxRecDepth 100000 in
theorem c_L_first (Dc : Nat → Int32) (qc : Nat) (p0 : Int32) (p1 : Int32) (σ : gS) (q : Int32 × gS) (hf : f_L_first Dc p0 p1 σ = some q) : Met l yL_first (gW yL_first cL_first 9 (some .int)) rmL_first (hPc G o [(qc, 10, Dc)] [.ref (o + 302), .ref (o + 306), .ref qc, .int p0, .int p1] σ) (hQi G o q) 0 0 (gA o 307) := by
  refine h_met (by decide) ⟨rfl, rfl⟩ (fun p e s m args below meth c ls K hS hl => ?_) (Nat.le_of_ble_eq_true rfl)
  have K : gK p s m args meth c G cL_first 9 RL (some .int) := K
  have hl : lv_has ls 9 [(0, .ref (o + 302)), (1, .ref (o + 306)), (2, .ref qc), (3, .int p0), (4, .int p1)] := hl
  obtain ⟨hx, hb, hml, hown, hts, -⟩ := id K
  unfold f_L_first at hf
  refine lv_iconst (v := (-1)) hx hb dL_first_0 (by decide) ?_
  refine lv_istore (lv' := [(5, .int (-1)), (0, .ref (o + 302)), (1, .ref (o + 306)), (2, .ref qc), (3, .int p0), (4, .int p1)]) hx hb dL_first_1 hl (by decide) rfl (fun ls hl => ?_)
  refine lv_iconst (v := 0) hx hb dL_first_3 (by decide) ?_
  refine lv_istore (lv' := [(6, .int 0), (5, .int (-1)), (0, .ref (o + 302)), (1, .ref (o + 306)), (2, .ref qc), (3, .int p0), (4, .int p1)]) hx hb dL_first_4 hl (by decide) rfl (fun ls hl => ?_)
  refine w_L_first_L6 Dc qc p0 p1 K gFu (-1) 0 σ hf _ _ _ hS (lv_sub hl [2, 3, 4, 5, 6, 1, 0] rfl)
abbrev rmL_ways : Room := { frames := 7, cells := 1, slots := 10, locals := 165 }
def f_L_ways_L141 (Dc : Nat → Int32) (w5 : Int32) (w6 : Int32) (w7 : Int32) (w10 : Int32) (K223 : Int32 → Int32 → gS → Option (Int32 × gS)) : Nat → Int32 → Int32 → Int32 → gS → Option (Int32 × gS)
  | 0, _, _, _, _ => none
  | n + 1, v9, v11, v12, σ => if v9 = w6 then (K223 v11 v12 σ) else (if v11 = 0 then (K223 v11 v12 σ) else (Option.bind (f_L_first Dc v9 w7 σ) (fun q13 => Option.bind (f_X10_soonest w5 w6 v12 q13.2) (fun q14 => gLet (gMix q13.2 q14.2) (fun s15 => gLet (fun (j16 : Int32) (s17 : gS) => Option.bind (f_L_one q13.1 s17) (fun q19 => if q19.1 = v9 then (Option.bind (f_L_two q13.1 q19.2) (fun q22 => f_L_ways_L141 Dc w5 w6 w7 w10 K223 n q22.1 j16 (v12 + 1) q22.2)) else (Option.bind (f_L_one q13.1 q19.2) (fun q21 => f_L_ways_L141 Dc w5 w6 w7 w10 K223 n q21.1 j16 (v12 + 1) q21.2)))) (fun J18 => if q14.1 = q13.1 then (J18 1 s15) else (J18 0 s15)))))))
theorem f_L_ways_L141_s (Dc : Nat → Int32) (w5 : Int32) (w6 : Int32) (w7 : Int32) (w10 : Int32) (K223 : Int32 → Int32 → gS → Option (Int32 × gS)) (n : Nat) (v9 : Int32) (v11 : Int32) (v12 : Int32) (σ : gS) : f_L_ways_L141 Dc w5 w6 w7 w10 K223 (n + 1) v9 v11 v12 σ = (if v9 = w6 then (K223 v11 v12 σ) else (if v11 = 0 then (K223 v11 v12 σ) else (Option.bind (f_L_first Dc v9 w7 σ) (fun q13 => Option.bind (f_X10_soonest w5 w6 v12 q13.2) (fun q14 => gLet (gMix q13.2 q14.2) (fun s15 => gLet (fun (j16 : Int32) (s17 : gS) => Option.bind (f_L_one q13.1 s17) (fun q19 => if q19.1 = v9 then (Option.bind (f_L_two q13.1 q19.2) (fun q22 => f_L_ways_L141 Dc w5 w6 w7 w10 K223 n q22.1 j16 (v12 + 1) q22.2)) else (Option.bind (f_L_one q13.1 q19.2) (fun q21 => f_L_ways_L141 Dc w5 w6 w7 w10 K223 n q21.1 j16 (v12 + 1) q21.2)))) (fun J18 => if q14.1 = q13.1 then (J18 1 s15) else (J18 0 s15)))))))) := rfl
def f_L_ways_L242 (Dc : Nat → Int32) (w5 : Int32) (w6 : Int32) (w7 : Int32) (w10 : Int32) (w11 : Int32) (w12 : Int32) (w13 : Int32) (w14 : Int32) (K292 : Int32 → gS → Option (Int32 × gS)) : Nat → Int32 → Int32 → gS → Option (Int32 × gS)
  | 0, _, _, _ => none
  | n + 1, v15, v16, σ => if (σ 306 4) ≤ v16 then (K292 v15 σ) else (if ((w7 >>> (v16 &&& 31)) &&& 1) = 1 then (Option.bind (f_L_creak v16 σ) (fun q31 => if w14 < q31.1 then (gLet (v15 ||| 0) (fun x33 => f_L_ways_L242 Dc w5 w6 w7 w10 w11 w12 w13 w14 K292 n x33 (v16 + 1) q31.2)) else (gLet (v15 ||| (1 <<< (v16 &&& 31))) (fun x34 => f_L_ways_L242 Dc w5 w6 w7 w10 w11 w12 w13 w14 K292 n x34 (v16 + 1) q31.2)))) else (gLet (v15 ||| 0) (fun x30 => f_L_ways_L242 Dc w5 w6 w7 w10 w11 w12 w13 w14 K292 n x30 (v16 + 1) σ)))
theorem f_L_ways_L242_s (Dc : Nat → Int32) (w5 : Int32) (w6 : Int32) (w7 : Int32) (w10 : Int32) (w11 : Int32) (w12 : Int32) (w13 : Int32) (w14 : Int32) (K292 : Int32 → gS → Option (Int32 × gS)) (n : Nat) (v15 : Int32) (v16 : Int32) (σ : gS) : f_L_ways_L242 Dc w5 w6 w7 w10 w11 w12 w13 w14 K292 (n + 1) v15 v16 σ = (if (σ 306 4) ≤ v16 then (K292 v15 σ) else (if ((w7 >>> (v16 &&& 31)) &&& 1) = 1 then (Option.bind (f_L_creak v16 σ) (fun q31 => if w14 < q31.1 then (gLet (v15 ||| 0) (fun x33 => f_L_ways_L242 Dc w5 w6 w7 w10 w11 w12 w13 w14 K292 n x33 (v16 + 1) q31.2)) else (gLet (v15 ||| (1 <<< (v16 &&& 31))) (fun x34 => f_L_ways_L242 Dc w5 w6 w7 w10 w11 w12 w13 w14 K292 n x34 (v16 + 1) q31.2)))) else (gLet (v15 ||| 0) (fun x30 => f_L_ways_L242 Dc w5 w6 w7 w10 w11 w12 w13 w14 K292 n x30 (v16 + 1) σ)))) := rfl
def f_L_ways_L231 (Dc : Nat → Int32) (w5 : Int32) (w6 : Int32) (w7 : Int32) (w10 : Int32) (w11 : Int32) (w12 : Int32) (K330 : Int32 → gS → Option (Int32 × gS)) : Nat → Int32 → Int32 → gS → Option (Int32 × gS)
  | 0, _, _, _ => none
  | n + 1, v13, v14, σ => if v14 < 0 then (K330 v13 σ) else (f_L_ways_L242 Dc w5 w6 w7 w10 w11 w12 v13 v14 (fun (k35 : Int32) (s36 : gS) => gGd (gin w5 12) (Option.bind (f_L_reach (s36 304 (gil w5)) k35 9 s36) (fun q38 => if ((q38.1 >>> (w6 &&& 31)) &&& 1) = 1 then (f_L_ways_L231 Dc w5 w6 w7 w10 w11 w12 K330 n v14 (v14 + (-1)) q38.2) else (f_L_ways_L231 Dc w5 w6 w7 w10 w11 w12 K330 n v13 (v14 + (-1)) q38.2)))) gFu 0 0 σ)
theorem f_L_ways_L231_s (Dc : Nat → Int32) (w5 : Int32) (w6 : Int32) (w7 : Int32) (w10 : Int32) (w11 : Int32) (w12 : Int32) (K330 : Int32 → gS → Option (Int32 × gS)) (n : Nat) (v13 : Int32) (v14 : Int32) (σ : gS) : f_L_ways_L231 Dc w5 w6 w7 w10 w11 w12 K330 (n + 1) v13 v14 σ = (if v14 < 0 then (K330 v13 σ) else (f_L_ways_L242 Dc w5 w6 w7 w10 w11 w12 v13 v14 (fun (k35 : Int32) (s36 : gS) => gGd (gin w5 12) (Option.bind (f_L_reach (s36 304 (gil w5)) k35 9 s36) (fun q38 => if ((q38.1 >>> (w6 &&& 31)) &&& 1) = 1 then (f_L_ways_L231 Dc w5 w6 w7 w10 w11 w12 K330 n v14 (v14 + (-1)) q38.2) else (f_L_ways_L231 Dc w5 w6 w7 w10 w11 w12 K330 n v13 (v14 + (-1)) q38.2)))) gFu 0 0 σ)) := rfl
def f_L_ways (p0 : Int32) (p1 : Int32) (σ : gS) : Option (Int32 × gS) := Option.bind (f_L_open p0 σ) (fun q1 => Option.bind (f_L_costs p1 q1.1 q1.2) (fun q2 => gLet (q2 307) (fun Dc => gGd (gin p0 12) (gLet (q2 304 (gil p0)) (fun x4 => gGd (gin x4 10) (if (Dc (gil x4)) < 99999 then (Option.bind (f_X10_soonest p0 p1 0 q2) (fun q7 => gLet (gMix q2 q7.2) (fun s8 => gGd (gin x4 10) (if q7.1 = ((Dc (gil x4)) / 100) then (Option.bind (f_X10_soonest p0 p1 1 s8) (fun q49 => gLet (gMix s8 q49.2) (fun s50 => gGd (gin x4 10) (if q49.1 = ((Dc (gil x4)) - (Dc (gil x4)) / 100 * 100) then (f_L_ways_L141 Dc p0 p1 q1.1 (-6) (fun (k65 : Int32) (k66 : Int32) (s67 : gS) => f_L_ways_L231 Dc p0 p1 q1.1 (-6) k65 k66 (fun (k68 : Int32) (s69 : gS) => if k65 = 0 then (some (0, s69)) else (Option.bind (f_X10_soonest p0 p1 k66 s69) (fun q71 => gLet (gMix s69 q71.2) (fun s72 => if q71.1 = (-6) then (Option.bind (f_X10_quietest p0 p1 s72) (fun q74 => gLet (gMix s72 q74.2) (fun s75 => if q74.1 = k68 then (some (1, s75)) else (some (0, s75))))) else (some (0, s72)))))) gFu (-6) 9 s67) gFu x4 1 2 s50) else (f_L_ways_L141 Dc p0 p1 q1.1 (-6) (fun (k53 : Int32) (k54 : Int32) (s55 : gS) => f_L_ways_L231 Dc p0 p1 q1.1 (-6) k53 k54 (fun (k56 : Int32) (s57 : gS) => if k53 = 0 then (some (0, s57)) else (Option.bind (f_X10_soonest p0 p1 k54 s57) (fun q59 => gLet (gMix s57 q59.2) (fun s60 => if q59.1 = (-6) then (Option.bind (f_X10_quietest p0 p1 s60) (fun q62 => gLet (gMix s60 q62.2) (fun s63 => if q62.1 = k56 then (some (1, s63)) else (some (0, s63))))) else (some (0, s60)))))) gFu (-6) 9 s55) gFu x4 0 2 s50))))) else (f_L_ways_L141 Dc p0 p1 q1.1 (-6) (fun (k24 : Int32) (k25 : Int32) (s26 : gS) => f_L_ways_L231 Dc p0 p1 q1.1 (-6) k24 k25 (fun (k40 : Int32) (s41 : gS) => if k24 = 0 then (some (0, s41)) else (Option.bind (f_X10_soonest p0 p1 k25 s41) (fun q43 => gLet (gMix s41 q43.2) (fun s44 => if q43.1 = (-6) then (Option.bind (f_X10_quietest p0 p1 s44) (fun q46 => gLet (gMix s44 q46.2) (fun s47 => if q46.1 = k40 then (some (1, s47)) else (some (0, s47))))) else (some (0, s44)))))) gFu (-6) 9 s26) gFu x4 0 2 s8))))) else (Option.bind (f_X10_soonest p0 p1 0 q2) (fun q77 => gLet (gMix q2 q77.2) (fun s78 => if q77.1 = (-6) then (Option.bind (f_X10_soonest p0 p1 2 s78) (fun q80 => gLet (gMix s78 q80.2) (fun s81 => if q80.1 = (-6) then (Option.bind (f_X10_quietest p0 p1 s81) (fun q83 => gLet (gMix s81 q83.2) (fun s84 => if q83.1 = (-6) then (some (1, s84)) else (some (0, s84))))) else (some (0, s81))))) else (some (0, s78)))))))))))
set_option maxHeartbeats 4000000 in
set_option maxRecDepth 100000 in
theorem w_L_ways_L141 (Dc : Nat → Int32) (qc : Nat) (w5 : Int32) (w6 : Int32) (w7 : Int32) (w10 : Int32) (K223 : Int32 → Int32 → gS → Option (Int32 × gS)) {q : Int32 × gS} (K : gK p s m args meth c G cL_ways 17 RL (some .boolean)) (hK223 : ∀ (k11 : Int32) (k12 : Int32) (σ : gS), K223 k11 k12 σ = some q → ∀ (H : Heap) (locs : List Loc) (ls : Array Slot), hSt G o [(qc, 10, Dc)] s σ H locs → lv_has ls 17 [(0, .ref (o + 0)), (1, .ref (o + 302)), (2, .ref (o + 304)), (4, .ref (o + 306)), (5, .int w5), (6, .int w6), (7, .int w7), (10, .int w10), (11, .int k11), (12, .int k12)] → W p l e rmL_ways s m args below meth c H locs 1 10 (MQ below (hQi G o q) args s 1 10 (gA o 307)) (F0 m 223 ls [])) : ∀ (n : Nat) (v9 : Int32) (v11 : Int32) (v12 : Int32) (σ : gS), f_L_ways_L141 Dc w5 w6 w7 w10 K223 n v9 v11 v12 σ = some q → ∀ (H : Heap) (locs : List Loc) (ls : Array Slot), hSt G o [(qc, 10, Dc)] s σ H locs → lv_has ls 17 [(0, .ref (o + 0)), (1, .ref (o + 302)), (2, .ref (o + 304)), (4, .ref (o + 306)), (5, .int w5), (6, .int w6), (7, .int w7), (8, .ref qc), (9, .int v9), (10, .int w10), (11, .int v11), (12, .int v12)] → W p l e rmL_ways s m args below meth c H locs 1 10 (MQ below (hQi G o q) args s 1 10 (gA o 307)) (F0 m 141 ls []) := by
  obtain ⟨hx, hb, hml, hown, hts, -⟩ := id K
  intro n
  induction n with
  | zero =>
    intro v9 v11 v12 σ hf
    exact absurd (show (none : Option _) = some q from hf) (by simp)
  | succ n ih =>
    intro v9 v11 v12 σ hf H locs ls hS hl
    rw [f_L_ways_L141_s] at hf
    refine lv_iload hx hb dL_ways_141 (lv_at hl 8 rfl) ?_
    refine lv_iload hx hb dL_ways_143 (lv_at hl 5 rfl) ?_
    refine lv_icmp_eq (tgt := 223) hx hb dL_ways_145 (by decide) (fun c11 => ?_) (fun c11 => ?_)
    · have hf := gIf_t c11 hf
      exact hK223 v11 v12 σ hf _ _ _ hS (lv_sub hl [0, 1, 2, 3, 4, 5, 6, 9, 10, 11] rfl)
    · have hf := gIf_f c11 hf
      refine lv_iload hx hb dL_ways_148 (lv_at hl 10 rfl) ?_
      refine lv_if_eq (tgt := 223) hx hb dL_ways_150 (by decide) (fun c12 => ?_) (fun c12 => ?_)
      · have hf := gIf_t c12 hf
        exact hK223 v11 v12 σ hf _ _ _ hS (lv_sub hl [0, 1, 2, 3, 4, 5, 6, 9, 10, 11] rfl)
      · have hf := gIf_f c12 hf
        refine lv_aload_n hx hb dL_ways_153 rfl (lv_at hl 1 rfl) ?_
        refine lv_aload hx hb dL_ways_154 (lv_at hl 3 rfl) ?_
        refine lv_aload hx hb dL_ways_156 (lv_at hl 7 rfl) ?_
        refine lv_iload hx hb dL_ways_158 (lv_at hl 8 rfl) ?_
        refine lv_iload hx hb dL_ways_160 (lv_at hl 6 rfl) ?_
        obtain ⟨q13, hq13, hf⟩ := Option.bind_eq_some_iff.mp hf
        refine h_Si0 (X' := [(qc, 10, Dc)]) (As := [.ref (o + 302), .ref (o + 306), .ref qc, .int v9, .int w7]) K hS lS_L_72 (by simp) (c_L_first Dc qc v9 w7 σ q13 hq13) rfl rfl (Nat.le_of_ble_eq_true rfl) ⟨rfl, rfl⟩ ⟨Nat.le_of_ble_eq_true rfl, Nat.le_of_ble_eq_true rfl⟩ hl.1 ⟨Nat.le_of_ble_eq_true rfl, Nat.le_of_ble_eq_true rfl⟩ dL_ways_162 (fun H locs hS => ?_)
        refine lv_istore (lv' := [(13, .int q13.1), (0, .ref (o + 0)), (1, .ref (o + 302)), (2, .ref (o + 304)), (4, .ref (o + 306)), (5, .int w5), (6, .int w6), (7, .int w7), (8, .ref qc), (9, .int v9), (10, .int w10), (11, .int v11), (12, .int v12)]) hx hb dL_ways_165 hl (by decide) rfl (fun ls hl => ?_)
        refine lv_aload_n hx hb dL_ways_167 rfl (lv_at hl 1 rfl) ?_
        refine lv_iload hx hb dL_ways_168 (lv_at hl 5 rfl) ?_
        refine lv_iload hx hb dL_ways_170 (lv_at hl 6 rfl) ?_
        refine lv_iload hx hb dL_ways_172 (lv_at hl 12 rfl) ?_
        obtain ⟨q14, hq14, hf⟩ := Option.bind_eq_some_iff.mp hf
        obtain ⟨s15, hs15, hf⟩ := gLet_some hf
        refine h_Vi (As := [.int w5, .int w6, .int v12]) K hS lV_L_64 (c_X10_soonest w5 w6 v12 q13.2 q14 hq14) rfl rfl (Nat.le_of_ble_eq_true rfl) ⟨⟨Nat.le_of_ble_eq_true rfl, Nat.le_of_ble_eq_true rfl⟩, rfl, rfl⟩ hl.1 ⟨Nat.le_of_ble_eq_true rfl, Nat.le_of_ble_eq_true rfl⟩ dL_ways_174 (fun H locs hS => ?_)
        rw [← hs15] at hS
        refine lv_iload hx hb dL_ways_177 (lv_at hl 0 rfl) ?_
        obtain ⟨J18, hJ18, hf⟩ := gLet_some hf
        have wJ18 : ∀ (j16 : Int32) (s17 : gS), J18 j16 s17 = some q → ∀ (H : Heap) (locs : List Loc) (ls : Array Slot), hSt G o [(qc, 10, Dc)] s s17 H locs → lv_has ls 17 [(0, .ref (o + 0)), (1, .ref (o + 302)), (2, .ref (o + 304)), (4, .ref (o + 306)), (5, .int w5), (6, .int w6), (7, .int w7), (8, .ref qc), (9, .int v9), (10, .int w10), (12, .int v12), (13, .int q13.1)] → W p l e rmL_ways s m args below meth c H locs 1 10 (MQ below (hQi G o q) args s 1 10 (gA o 307)) (F0 m 187 ls [.int j16]) := by
          intro j16 s17 hf H locs ls hS hl
          rw [hJ18] at hf
          refine lv_istore (lv' := [(11, .int j16), (0, .ref (o + 0)), (1, .ref (o + 302)), (2, .ref (o + 304)), (4, .ref (o + 306)), (5, .int w5), (6, .int w6), (7, .int w7), (8, .ref qc), (9, .int v9), (10, .int w10), (12, .int v12), (13, .int q13.1)]) hx hb dL_ways_187 hl (by decide) rfl (fun ls hl => ?_)
          refine lv_aload_n hx hb dL_ways_189 rfl (lv_at hl 2 rfl) ?_
          refine lv_iload hx hb dL_ways_190 (lv_at hl 12 rfl) ?_
          obtain ⟨q19, hq19, hf⟩ := Option.bind_eq_some_iff.mp hf
          refine h_Si0 (X' := []) (As := [.ref (o + 302), .int q13.1]) K hS lS_L_10 (by simp) (c_L_one q13.1 s17 q19 hq19) rfl rfl (Nat.le_of_ble_eq_true rfl) ⟨rfl, rfl⟩ ⟨Nat.le_of_ble_eq_true rfl, Nat.le_of_ble_eq_true rfl⟩ hl.1 ⟨Nat.le_of_ble_eq_true rfl, Nat.le_of_ble_eq_true rfl⟩ dL_ways_192 (fun H locs hS => ?_)
          refine lv_iload hx hb dL_ways_195 (lv_at hl 9 rfl) ?_
          refine lv_icmp_ne (tgt := 209) hx hb dL_ways_197 (by decide) (fun c20 => ?_) (fun c20 => ?_)
          · have hf := gIf_f c20 hf
            refine lv_aload_n hx hb dL_ways_209 rfl (lv_at hl 2 rfl) ?_
            refine lv_iload hx hb dL_ways_210 (lv_at hl 12 rfl) ?_
            obtain ⟨q21, hq21, hf⟩ := Option.bind_eq_some_iff.mp hf
            refine h_Si0 (X' := []) (As := [.ref (o + 302), .int q13.1]) K hS lS_L_10 (by simp) (c_L_one q13.1 q19.2 q21 hq21) rfl rfl (Nat.le_of_ble_eq_true rfl) ⟨rfl, rfl⟩ ⟨Nat.le_of_ble_eq_true rfl, Nat.le_of_ble_eq_true rfl⟩ hl.1 ⟨Nat.le_of_ble_eq_true rfl, Nat.le_of_ble_eq_true rfl⟩ dL_ways_212 (fun H locs hS => ?_)
            refine lv_istore (lv' := [(9, .int q21.1), (11, .int j16), (0, .ref (o + 0)), (1, .ref (o + 302)), (2, .ref (o + 304)), (4, .ref (o + 306)), (5, .int w5), (6, .int w6), (7, .int w7), (8, .ref qc), (10, .int w10), (12, .int v12), (13, .int q13.1)]) hx hb dL_ways_215 hl (by decide) rfl (fun ls hl => ?_)
            refine lv_iinc (v := (v12 + 1)) (lv' := [(12, .int (v12 + 1)), (9, .int q21.1), (11, .int j16), (0, .ref (o + 0)), (1, .ref (o + 302)), (2, .ref (o + 304)), (4, .ref (o + 306)), (5, .int w5), (6, .int w6), (7, .int w7), (8, .ref qc), (10, .int w10), (13, .int q13.1)]) hx hb dL_ways_217 hl (k := 11) rfl rfl (by decide) rfl (fun ls hl => ?_)
            refine lv_goto (tgt := 141) hx hb dL_ways_220 (by decide) ?_
            exact ih q21.1 j16 (v12 + 1) q21.2 hf _ _ _ hS (lv_sub hl [3, 4, 5, 6, 7, 8, 9, 10, 1, 11, 2, 0] rfl)
          · have hf := gIf_t c20 hf
            refine lv_aload_n hx hb dL_ways_200 rfl (lv_at hl 2 rfl) ?_
            refine lv_iload hx hb dL_ways_201 (lv_at hl 12 rfl) ?_
            obtain ⟨q22, hq22, hf⟩ := Option.bind_eq_some_iff.mp hf
            refine h_Si0 (X' := []) (As := [.ref (o + 302), .int q13.1]) K hS lS_L_16 (by simp) (c_L_two q13.1 q19.2 q22 hq22) rfl rfl (Nat.le_of_ble_eq_true rfl) ⟨rfl, rfl⟩ ⟨Nat.le_of_ble_eq_true rfl, Nat.le_of_ble_eq_true rfl⟩ hl.1 ⟨Nat.le_of_ble_eq_true rfl, Nat.le_of_ble_eq_true rfl⟩ dL_ways_203 (fun H locs hS => ?_)
            refine lv_goto (tgt := 215) hx hb dL_ways_206 (by decide) ?_
            refine lv_istore (lv' := [(9, .int q22.1), (11, .int j16), (0, .ref (o + 0)), (1, .ref (o + 302)), (2, .ref (o + 304)), (4, .ref (o + 306)), (5, .int w5), (6, .int w6), (7, .int w7), (8, .ref qc), (10, .int w10), (12, .int v12), (13, .int q13.1)]) hx hb dL_ways_215 hl (by decide) rfl (fun ls hl => ?_)
            refine lv_iinc (v := (v12 + 1)) (lv' := [(12, .int (v12 + 1)), (9, .int q22.1), (11, .int j16), (0, .ref (o + 0)), (1, .ref (o + 302)), (2, .ref (o + 304)), (4, .ref (o + 306)), (5, .int w5), (6, .int w6), (7, .int w7), (8, .ref qc), (10, .int w10), (13, .int q13.1)]) hx hb dL_ways_217 hl (k := 11) rfl rfl (by decide) rfl (fun ls hl => ?_)
            refine lv_goto (tgt := 141) hx hb dL_ways_220 (by decide) ?_
            exact ih q22.1 j16 (v12 + 1) q22.2 hf _ _ _ hS (lv_sub hl [3, 4, 5, 6, 7, 8, 9, 10, 1, 11, 2, 0] rfl)
        clear hJ18
        refine lv_icmp_ne (tgt := 186) hx hb dL_ways_179 (by decide) (fun c23 => ?_) (fun c23 => ?_)
        · have hf := gIf_f c23 hf
          refine lv_iconst (v := 0) hx hb dL_ways_186 (by decide) ?_
          exact wJ18 0 s15 hf _ _ _ hS (lv_sub hl [1, 2, 3, 4, 5, 6, 7, 8, 9, 10, 12, 0] rfl)
        · have hf := gIf_t c23 hf
          refine lv_iconst (v := 1) hx hb dL_ways_182 (by decide) ?_
          refine lv_goto (tgt := 187) hx hb dL_ways_183 (by decide) ?_
          exact wJ18 1 s15 hf _ _ _ hS (lv_sub hl [1, 2, 3, 4, 5, 6, 7, 8, 9, 10, 12, 0] rfl)
set_option maxHeartbeats 4000000 in
set_option maxRecDepth 100000 in
theorem w_L_ways_L242 (Dc : Nat → Int32) (qc : Nat) (w5 : Int32) (w6 : Int32) (w7 : Int32) (w10 : Int32) (w11 : Int32) (w12 : Int32) (w13 : Int32) (w14 : Int32) (K292 : Int32 → gS → Option (Int32 × gS)) {q : Int32 × gS} (K : gK p s m args meth c G cL_ways 17 RL (some .boolean)) (hK292 : ∀ (k15 : Int32) (σ : gS), K292 k15 σ = some q → ∀ (H : Heap) (locs : List Loc) (ls : Array Slot), hSt G o [(qc, 10, Dc)] s σ H locs → lv_has ls 17 [(0, .ref (o + 0)), (1, .ref (o + 302)), (2, .ref (o + 304)), (4, .ref (o + 306)), (5, .int w5), (6, .int w6), (7, .int w7), (10, .int w10), (11, .int w11), (12, .int w12), (13, .int w13), (14, .int w14), (15, .int k15)] → W p l e rmL_ways s m args below meth c H locs 1 10 (MQ below (hQi G o q) args s 1 10 (gA o 307)) (F0 m 292 ls [])) : ∀ (n : Nat) (v15 : Int32) (v16 : Int32) (σ : gS), f_L_ways_L242 Dc w5 w6 w7 w10 w11 w12 w13 w14 K292 n v15 v16 σ = some q → ∀ (H : Heap) (locs : List Loc) (ls : Array Slot), hSt G o [(qc, 10, Dc)] s σ H locs → lv_has ls 17 [(0, .ref (o + 0)), (1, .ref (o + 302)), (2, .ref (o + 304)), (4, .ref (o + 306)), (5, .int w5), (6, .int w6), (7, .int w7), (10, .int w10), (11, .int w11), (12, .int w12), (13, .int w13), (14, .int w14), (15, .int v15), (16, .int v16)] → W p l e rmL_ways s m args below meth c H locs 1 10 (MQ below (hQi G o q) args s 1 10 (gA o 307)) (F0 m 242 ls []) := by
  obtain ⟨hx, hb, hml, hown, hts, -⟩ := id K
  intro n
  induction n with
  | zero =>
    intro v15 v16 σ hf
    exact absurd (show (none : Option _) = some q from hf) (by simp)
  | succ n ih =>
    intro v15 v16 σ hf H locs ls hS hl
    rw [f_L_ways_L242_s] at hf
    refine lv_iload hx hb dL_ways_242 (lv_at hl 13 rfl) ?_
    refine lv_aload hx hb dL_ways_244 (lv_at hl 3 rfl) ?_
    refine lv_iconst (v := 4) hx hb dL_ways_246 (by decide) ?_
    refine h_iald (cx := 306) (j := 4) K hS (eLL_306 G o) (by decide) (by decide) (by decide) dL_ways_247 ?_
    refine lv_icmp_ge (tgt := 292) hx hb dL_ways_248 (by decide) (fun c28 => ?_) (fun c28 => ?_)
    · have hf := gIf_t c28 hf
      exact hK292 v15 σ hf _ _ _ hS (lv_sub hl [0, 1, 2, 3, 4, 5, 6, 7, 8, 9, 10, 11, 12] rfl)
    · have hf := gIf_f c28 hf
      refine lv_iload hx hb dL_ways_251 (lv_at hl 12 rfl) ?_
      refine lv_iload hx hb dL_ways_253 (lv_at hl 6 rfl) ?_
      refine lv_iload hx hb dL_ways_255 (lv_at hl 13 rfl) ?_
      refine lv_ishr hx hb dL_ways_257 ?_
      refine lv_iconst (v := 1) hx hb dL_ways_258 (by decide) ?_
      refine lv_iand hx hb dL_ways_259 ?_
      refine lv_iconst (v := 1) hx hb dL_ways_260 (by decide) ?_
      refine lv_icmp_ne (tgt := 282) hx hb dL_ways_261 (by decide) (fun c29 => ?_) (fun c29 => ?_)
      · have hf := gIf_f c29 hf
        refine lv_iconst (v := 0) hx hb dL_ways_282 (by decide) ?_
        refine lv_ior hx hb dL_ways_283 ?_
        obtain ⟨x30, hx30, hf⟩ := gLet_some hf
        refine g_top hx30 ?_
        refine lv_istore (lv' := [(15, .int x30), (0, .ref (o + 0)), (1, .ref (o + 302)), (2, .ref (o + 304)), (4, .ref (o + 306)), (5, .int w5), (6, .int w6), (7, .int w7), (10, .int w10), (11, .int w11), (12, .int w12), (13, .int w13), (14, .int w14), (16, .int v16)]) hx hb dL_ways_284 hl (by decide) rfl (fun ls hl => ?_)
        refine lv_iinc (v := (v16 + 1)) (lv' := [(16, .int (v16 + 1)), (15, .int x30), (0, .ref (o + 0)), (1, .ref (o + 302)), (2, .ref (o + 304)), (4, .ref (o + 306)), (5, .int w5), (6, .int w6), (7, .int w7), (10, .int w10), (11, .int w11), (12, .int w12), (13, .int w13), (14, .int w14)]) hx hb dL_ways_286 hl (k := 13) rfl rfl (by decide) rfl (fun ls hl => ?_)
        refine lv_goto (tgt := 242) hx hb dL_ways_289 (by decide) ?_
        exact ih x30 (v16 + 1) σ hf _ _ _ hS (lv_sub hl [2, 3, 4, 5, 6, 7, 8, 9, 10, 11, 12, 13, 1, 0] rfl)
      · have hf := gIf_t c29 hf
        refine lv_aload_n hx hb dL_ways_264 rfl (lv_at hl 1 rfl) ?_
        refine lv_iload hx hb dL_ways_265 (lv_at hl 13 rfl) ?_
        obtain ⟨q31, hq31, hf⟩ := Option.bind_eq_some_iff.mp hf
        refine h_Si0 (X' := []) (As := [.ref (o + 302), .int v16]) K hS lS_L_33 (by simp) (c_L_creak v16 σ q31 hq31) rfl rfl (Nat.le_of_ble_eq_true rfl) ⟨rfl, rfl⟩ ⟨Nat.le_of_ble_eq_true rfl, Nat.le_of_ble_eq_true rfl⟩ hl.1 ⟨Nat.le_of_ble_eq_true rfl, Nat.le_of_ble_eq_true rfl⟩ dL_ways_267 (fun H locs hS => ?_)
        refine lv_iload hx hb dL_ways_270 (lv_at hl 11 rfl) ?_
        refine lv_icmp_gt (tgt := 282) hx hb dL_ways_272 (by decide) (fun c32 => ?_) (fun c32 => ?_)
        · have hf := gIf_t c32 hf
          refine lv_iconst (v := 0) hx hb dL_ways_282 (by decide) ?_
          refine lv_ior hx hb dL_ways_283 ?_
          obtain ⟨x33, hx33, hf⟩ := gLet_some hf
          refine g_top hx33 ?_
          refine lv_istore (lv' := [(15, .int x33), (0, .ref (o + 0)), (1, .ref (o + 302)), (2, .ref (o + 304)), (4, .ref (o + 306)), (5, .int w5), (6, .int w6), (7, .int w7), (10, .int w10), (11, .int w11), (12, .int w12), (13, .int w13), (14, .int w14), (16, .int v16)]) hx hb dL_ways_284 hl (by decide) rfl (fun ls hl => ?_)
          refine lv_iinc (v := (v16 + 1)) (lv' := [(16, .int (v16 + 1)), (15, .int x33), (0, .ref (o + 0)), (1, .ref (o + 302)), (2, .ref (o + 304)), (4, .ref (o + 306)), (5, .int w5), (6, .int w6), (7, .int w7), (10, .int w10), (11, .int w11), (12, .int w12), (13, .int w13), (14, .int w14)]) hx hb dL_ways_286 hl (k := 13) rfl rfl (by decide) rfl (fun ls hl => ?_)
          refine lv_goto (tgt := 242) hx hb dL_ways_289 (by decide) ?_
          exact ih x33 (v16 + 1) q31.2 hf _ _ _ hS (lv_sub hl [2, 3, 4, 5, 6, 7, 8, 9, 10, 11, 12, 13, 1, 0] rfl)
        · have hf := gIf_f c32 hf
          refine lv_iconst (v := 1) hx hb dL_ways_275 (by decide) ?_
          refine lv_iload hx hb dL_ways_276 (lv_at hl 13 rfl) ?_
          refine lv_ishl hx hb dL_ways_278 ?_
          refine lv_goto (tgt := 283) hx hb dL_ways_279 (by decide) ?_
          refine lv_ior hx hb dL_ways_283 ?_
          obtain ⟨x34, hx34, hf⟩ := gLet_some hf
          refine g_top hx34 ?_
          refine lv_istore (lv' := [(15, .int x34), (0, .ref (o + 0)), (1, .ref (o + 302)), (2, .ref (o + 304)), (4, .ref (o + 306)), (5, .int w5), (6, .int w6), (7, .int w7), (10, .int w10), (11, .int w11), (12, .int w12), (13, .int w13), (14, .int w14), (16, .int v16)]) hx hb dL_ways_284 hl (by decide) rfl (fun ls hl => ?_)
          refine lv_iinc (v := (v16 + 1)) (lv' := [(16, .int (v16 + 1)), (15, .int x34), (0, .ref (o + 0)), (1, .ref (o + 302)), (2, .ref (o + 304)), (4, .ref (o + 306)), (5, .int w5), (6, .int w6), (7, .int w7), (10, .int w10), (11, .int w11), (12, .int w12), (13, .int w13), (14, .int w14)]) hx hb dL_ways_286 hl (k := 13) rfl rfl (by decide) rfl (fun ls hl => ?_)
          refine lv_goto (tgt := 242) hx hb dL_ways_289 (by decide) ?_
          exact ih x34 (v16 + 1) q31.2 hf _ _ _ hS (lv_sub hl [2, 3, 4, 5, 6, 7, 8, 9, 10, 11, 12, 13, 1, 0] rfl)
set_option maxHeartbeats 4000000 in
set_option maxRecDepth 100000 in
theorem w_L_ways_L231 (Dc : Nat → Int32) (qc : Nat) (w5 : Int32) (w6 : Int32) (w7 : Int32) (w10 : Int32) (w11 : Int32) (w12 : Int32) (K330 : Int32 → gS → Option (Int32 × gS)) {q : Int32 × gS} (K : gK p s m args meth c G cL_ways 17 RL (some .boolean)) (hK330 : ∀ (k13 : Int32) (σ : gS), K330 k13 σ = some q → ∀ (H : Heap) (locs : List Loc) (ls : Array Slot), hSt G o [(qc, 10, Dc)] s σ H locs → lv_has ls 17 [(0, .ref (o + 0)), (5, .int w5), (6, .int w6), (10, .int w10), (11, .int w11), (12, .int w12), (13, .int k13)] → W p l e rmL_ways s m args below meth c H locs 1 10 (MQ below (hQi G o q) args s 1 10 (gA o 307)) (F0 m 330 ls [])) : ∀ (n : Nat) (v13 : Int32) (v14 : Int32) (σ : gS), f_L_ways_L231 Dc w5 w6 w7 w10 w11 w12 K330 n v13 v14 σ = some q → ∀ (H : Heap) (locs : List Loc) (ls : Array Slot), hSt G o [(qc, 10, Dc)] s σ H locs → lv_has ls 17 [(0, .ref (o + 0)), (1, .ref (o + 302)), (2, .ref (o + 304)), (4, .ref (o + 306)), (5, .int w5), (6, .int w6), (7, .int w7), (10, .int w10), (11, .int w11), (12, .int w12), (13, .int v13), (14, .int v14)] → W p l e rmL_ways s m args below meth c H locs 1 10 (MQ below (hQi G o q) args s 1 10 (gA o 307)) (F0 m 231 ls []) := by
  obtain ⟨hx, hb, hml, hown, hts, -⟩ := id K
  intro n
  induction n with
  | zero =>
    intro v13 v14 σ hf
    exact absurd (show (none : Option _) = some q from hf) (by simp)
  | succ n ih =>
    intro v13 v14 σ hf H locs ls hS hl
    rw [f_L_ways_L231_s] at hf
    refine lv_iload hx hb dL_ways_231 (lv_at hl 11 rfl) ?_
    refine lv_if_lt (tgt := 330) hx hb dL_ways_233 (by decide) (fun c27 => ?_) (fun c27 => ?_)
    · have hf := gIf_t c27 hf
      exact hK330 v13 σ hf _ _ _ hS (lv_sub hl [0, 4, 5, 7, 8, 9, 10] rfl)
    · have hf := gIf_f c27 hf
      refine lv_iconst (v := 0) hx hb dL_ways_236 (by decide) ?_
      refine lv_istore (lv' := [(15, .int 0), (0, .ref (o + 0)), (1, .ref (o + 302)), (2, .ref (o + 304)), (4, .ref (o + 306)), (5, .int w5), (6, .int w6), (7, .int w7), (10, .int w10), (11, .int w11), (12, .int w12), (13, .int v13), (14, .int v14)]) hx hb dL_ways_237 hl (by decide) rfl (fun ls hl => ?_)
      refine lv_iconst (v := 0) hx hb dL_ways_239 (by decide) ?_
      refine lv_istore (lv' := [(16, .int 0), (15, .int 0), (0, .ref (o + 0)), (1, .ref (o + 302)), (2, .ref (o + 304)), (4, .ref (o + 306)), (5, .int w5), (6, .int w6), (7, .int w7), (10, .int w10), (11, .int w11), (12, .int w12), (13, .int v13), (14, .int v14)]) hx hb dL_ways_240 hl (by decide) rfl (fun ls hl => ?_)
      refine w_L_ways_L242 Dc qc w5 w6 w7 w10 w11 w12 v13 v14 _ K ?_ gFu 0 0 σ hf _ _ _ hS (lv_sub hl [2, 3, 4, 5, 6, 7, 8, 9, 10, 11, 12, 13, 1, 0] rfl)
      · intro k35 s36 hf H locs ls hS hl
        refine lv_aload_n hx hb dL_ways_292 rfl (lv_at hl 1 rfl) ?_
        refine lv_aload hx hb dL_ways_293 (lv_at hl 3 rfl) ?_
        refine lv_aload_n hx hb dL_ways_295 rfl (lv_at hl 2 rfl) ?_
        refine lv_iload hx hb dL_ways_296 (lv_at hl 4 rfl) ?_
        obtain ⟨h37, hf⟩ := gGd_some hf
        refine h_iald (cx := 304) K hS (eLL_304 G o) (by decide) h37 rfl dL_ways_298 ?_
        refine lv_iload hx hb dL_ways_299 (lv_at hl 12 rfl) ?_
        refine lv_bipush (v := 9) hx hb dL_ways_301 (by decide) ?_
        obtain ⟨q38, hq38, hf⟩ := Option.bind_eq_some_iff.mp hf
        refine h_Si0 (X' := []) (As := [.ref (o + 302), .ref (o + 306), .int (s36 304 (gil w5)), .int k35, .int 9]) K hS lS_L_25 (by simp) (c_L_reach (s36 304 (gil w5)) k35 9 s36 q38 hq38) rfl rfl (Nat.le_of_ble_eq_true rfl) ⟨rfl, rfl⟩ ⟨Nat.le_of_ble_eq_true rfl, Nat.le_of_ble_eq_true rfl⟩ hl.1 ⟨Nat.le_of_ble_eq_true rfl, Nat.le_of_ble_eq_true rfl⟩ dL_ways_303 (fun H locs hS => ?_)
        refine lv_iload hx hb dL_ways_306 (lv_at hl 5 rfl) ?_
        refine lv_ishr hx hb dL_ways_308 ?_
        refine lv_iconst (v := 1) hx hb dL_ways_309 (by decide) ?_
        refine lv_iand hx hb dL_ways_310 ?_
        refine lv_iconst (v := 1) hx hb dL_ways_311 (by decide) ?_
        refine lv_icmp_ne (tgt := 320) hx hb dL_ways_312 (by decide) (fun c39 => ?_) (fun c39 => ?_)
        · have hf := gIf_f c39 hf
          refine lv_iload hx hb dL_ways_320 (lv_at hl 10 rfl) ?_
          refine lv_istore (lv' := [(13, .int v13), (0, .ref (o + 0)), (1, .ref (o + 302)), (2, .ref (o + 304)), (4, .ref (o + 306)), (5, .int w5), (6, .int w6), (7, .int w7), (10, .int w10), (11, .int w11), (12, .int w12), (14, .int v14), (15, .int k35)]) hx hb dL_ways_322 hl (by decide) rfl (fun ls hl => ?_)
          refine lv_iinc (v := (v14 + (-1))) (lv' := [(14, .int (v14 + (-1))), (13, .int v13), (0, .ref (o + 0)), (1, .ref (o + 302)), (2, .ref (o + 304)), (4, .ref (o + 306)), (5, .int w5), (6, .int w6), (7, .int w7), (10, .int w10), (11, .int w11), (12, .int w12), (15, .int k35)]) hx hb dL_ways_324 hl (k := 11) rfl rfl (by decide) rfl (fun ls hl => ?_)
          refine lv_goto (tgt := 231) hx hb dL_ways_327 (by decide) ?_
          exact ih v13 (v14 + (-1)) q38.2 hf _ _ _ hS (lv_sub hl [2, 3, 4, 5, 6, 7, 8, 9, 10, 11, 1, 0] rfl)
        · have hf := gIf_t c39 hf
          refine lv_iload hx hb dL_ways_315 (lv_at hl 11 rfl) ?_
          refine lv_goto (tgt := 322) hx hb dL_ways_317 (by decide) ?_
          refine lv_istore (lv' := [(13, .int v14), (0, .ref (o + 0)), (1, .ref (o + 302)), (2, .ref (o + 304)), (4, .ref (o + 306)), (5, .int w5), (6, .int w6), (7, .int w7), (10, .int w10), (11, .int w11), (12, .int w12), (14, .int v14), (15, .int k35)]) hx hb dL_ways_322 hl (by decide) rfl (fun ls hl => ?_)
          refine lv_iinc (v := (v14 + (-1))) (lv' := [(14, .int (v14 + (-1))), (13, .int v14), (0, .ref (o + 0)), (1, .ref (o + 302)), (2, .ref (o + 304)), (4, .ref (o + 306)), (5, .int w5), (6, .int w6), (7, .int w7), (10, .int w10), (11, .int w11), (12, .int w12), (15, .int k35)]) hx hb dL_ways_324 hl (k := 11) rfl rfl (by decide) rfl (fun ls hl => ?_)
          refine lv_goto (tgt := 231) hx hb dL_ways_327 (by decide) ?_
          exact ih v14 (v14 + (-1)) q38.2 hf _ _ _ hS (lv_sub hl [2, 3, 4, 5, 6, 7, 8, 9, 10, 11, 1, 0] rfl)
set_option maxHeartbeats 4000000 in
set_option maxRecDepth 100000 in
theorem c_L_ways (p0 : Int32) (p1 : Int32) (σ : gS) (q : Int32 × gS) (hf : f_L_ways p0 p1 σ = some q) : Met l yL_ways (gW yL_ways cL_ways 17 (some .boolean)) rmL_ways (hPc G o [] [.ref (o + 0), .ref (o + 302), .ref (o + 304), .ref (o + 305), .ref (o + 306), .int p0, .int p1] σ) (hQi G o q) 1 10 (gA o 307) := by
  refine h_met (by decide) ⟨rfl, rfl⟩ (fun p e s m args below meth c ls K hS hl => ?_) (Nat.le_of_ble_eq_true rfl)
  have K : gK p s m args meth c G cL_ways 17 RL (some .boolean) := K
  have hl : lv_has ls 17 [(0, .ref (o + 0)), (1, .ref (o + 302)), (2, .ref (o + 304)), (3, .ref (o + 305)), (4, .ref (o + 306)), (5, .int p0), (6, .int p1)] := hl
  obtain ⟨hx, hb, hml, hown, hts, -⟩ := id K
  unfold f_L_ways at hf
  refine lv_aload_n hx hb dL_ways_0 rfl (lv_at hl 1 rfl) ?_
  refine lv_aload_n hx hb dL_ways_1 rfl (lv_at hl 2 rfl) ?_
  refine lv_aload_n hx hb dL_ways_2 rfl (lv_at hl 3 rfl) ?_
  refine lv_aload hx hb dL_ways_3 (lv_at hl 4 rfl) ?_
  refine lv_iload hx hb dL_ways_5 (lv_at hl 5 rfl) ?_
  obtain ⟨q1, hq1, hf⟩ := Option.bind_eq_some_iff.mp hf
  refine h_Si0 (X' := []) (As := [.ref (o + 302), .ref (o + 304), .ref (o + 305), .ref (o + 306), .int p0]) K hS lS_L_56 (by simp) (c_L_open p0 σ q1 hq1) rfl rfl (Nat.le_of_ble_eq_true rfl) ⟨rfl, rfl⟩ ⟨Nat.le_of_ble_eq_true rfl, Nat.le_of_ble_eq_true rfl⟩ hl.1 ⟨Nat.le_of_ble_eq_true rfl, Nat.le_of_ble_eq_true rfl⟩ dL_ways_7 (fun H locs hS => ?_)
  refine lv_istore (lv' := [(7, .int q1.1), (0, .ref (o + 0)), (1, .ref (o + 302)), (2, .ref (o + 304)), (3, .ref (o + 305)), (4, .ref (o + 306)), (5, .int p0), (6, .int p1)]) hx hb dL_ways_10 hl (by decide) rfl (fun ls hl => ?_)
  refine lv_aload_n hx hb dL_ways_12 rfl (lv_at hl 2 rfl) ?_
  refine lv_aload hx hb dL_ways_13 (lv_at hl 5 rfl) ?_
  refine lv_iload hx hb dL_ways_15 (lv_at hl 7 rfl) ?_
  refine lv_iload hx hb dL_ways_17 (lv_at hl 0 rfl) ?_
  obtain ⟨q2, hq2, hf⟩ := Option.bind_eq_some_iff.mp hf
  obtain ⟨Dc, hDc, hf⟩ := gLet_some hf
  refine h_Sr (X' := []) (D := q2 307) (σ' := q2) (mc := 1) (ms := 10) (As := [.ref (o + 302), .ref (o + 306), .int p1, .int q1.1]) K hS lS_L_60 (by simp) (c_L_costs p1 q1.1 q1.2 q2 hq2) rfl rfl (Nat.le_of_ble_eq_true rfl) ⟨rfl, rfl⟩ ⟨Nat.le_of_ble_eq_true rfl, Nat.le_of_ble_eq_true rfl⟩ hl.1 ⟨Nat.le_of_ble_eq_true rfl, Nat.le_of_ble_eq_true rfl⟩ dL_ways_19 (fun qc H locs hS => ?_)
  have hS : hSt G o [(qc, 10, Dc)] s q2 H locs := by rw [hDc]; exact hS
  refine lv_astore (lv' := [(8, .ref qc), (7, .int q1.1), (0, .ref (o + 0)), (1, .ref (o + 302)), (2, .ref (o + 304)), (3, .ref (o + 305)), (4, .ref (o + 306)), (5, .int p0), (6, .int p1)]) hx hb dL_ways_22 hl (by decide) rfl (fun ls hl => ?_)
  refine lv_aload_n hx hb dL_ways_24 rfl (lv_at hl 4 rfl) ?_
  refine lv_iload hx hb dL_ways_25 (lv_at hl 7 rfl) ?_
  obtain ⟨h3, hf⟩ := gGd_some hf
  refine h_iald (cx := 304) K hS (eLL_304 G o) (by decide) h3 rfl dL_ways_27 ?_
  obtain ⟨x4, hx4, hf⟩ := gLet_some hf
  refine g_top hx4 ?_
  refine lv_istore (lv' := [(9, .int x4), (8, .ref qc), (7, .int q1.1), (0, .ref (o + 0)), (1, .ref (o + 302)), (2, .ref (o + 304)), (3, .ref (o + 305)), (4, .ref (o + 306)), (5, .int p0), (6, .int p1)]) hx hb dL_ways_28 hl (by decide) rfl (fun ls hl => ?_)
  refine lv_bipush (v := (-6)) hx hb dL_ways_30 (by decide) ?_
  refine lv_istore (lv' := [(10, .int (-6)), (9, .int x4), (8, .ref qc), (7, .int q1.1), (0, .ref (o + 0)), (1, .ref (o + 302)), (2, .ref (o + 304)), (3, .ref (o + 305)), (4, .ref (o + 306)), (5, .int p0), (6, .int p1)]) hx hb dL_ways_32 hl (by decide) rfl (fun ls hl => ?_)
  refine lv_aload hx hb dL_ways_34 (lv_at hl 2 rfl) ?_
  refine lv_iload hx hb dL_ways_36 (lv_at hl 1 rfl) ?_
  obtain ⟨h5, hf⟩ := gGd_some hf
  refine h_ild K hS (n := 10) (f := Dc) (by simp) h5 dL_ways_38 ?_
  refine lv_ldc (v := 99999) hx hb hown (hts _ (gmem 575 (by decide +kernel) rfl)) dL_ways_39 ?_
  refine lv_icmp_lt (tgt := 91) hx hb dL_ways_41 (by decide) (fun c6 => ?_) (fun c6 => ?_)
  · have hf := gIf_t c6 hf
    refine lv_aload_n hx hb dL_ways_91 rfl (lv_at hl 4 rfl) ?_
    refine lv_iload hx hb dL_ways_92 (lv_at hl 9 rfl) ?_
    refine lv_iload hx hb dL_ways_94 (lv_at hl 10 rfl) ?_
    refine lv_iconst (v := 0) hx hb dL_ways_96 (by decide) ?_
    obtain ⟨q7, hq7, hf⟩ := Option.bind_eq_some_iff.mp hf
    obtain ⟨s8, hs8, hf⟩ := gLet_some hf
    refine h_Vi (As := [.int p0, .int p1, .int 0]) K hS lV_L_64 (c_X10_soonest p0 p1 0 q2 q7 hq7) rfl rfl (Nat.le_of_ble_eq_true rfl) ⟨⟨Nat.le_of_ble_eq_true rfl, Nat.le_of_ble_eq_true rfl⟩, rfl, rfl⟩ hl.1 ⟨Nat.le_of_ble_eq_true rfl, Nat.le_of_ble_eq_true rfl⟩ dL_ways_97 (fun H locs hS => ?_)
    rw [← hs8] at hS
    refine lv_aload hx hb dL_ways_100 (lv_at hl 2 rfl) ?_
    refine lv_iload hx hb dL_ways_102 (lv_at hl 1 rfl) ?_
    obtain ⟨h9, hf⟩ := gGd_some hf
    refine h_ild K hS (n := 10) (f := Dc) (by simp) h9 dL_ways_104 ?_
    refine lv_bipush (v := 100) hx hb dL_ways_105 (by decide) ?_
    refine lv_idiv hx hb dL_ways_107 (by decide) ?_
    refine lv_icmp_ne (tgt := 135) hx hb dL_ways_108 (by decide) (fun c10 => ?_) (fun c10 => ?_)
    · have hf := gIf_f c10 hf
      refine lv_iconst (v := 0) hx hb dL_ways_135 (by decide) ?_
      refine lv_istore (lv' := [(11, .int 0), (10, .int (-6)), (9, .int x4), (8, .ref qc), (7, .int q1.1), (0, .ref (o + 0)), (1, .ref (o + 302)), (2, .ref (o + 304)), (3, .ref (o + 305)), (4, .ref (o + 306)), (5, .int p0), (6, .int p1)]) hx hb dL_ways_136 hl (by decide) rfl (fun ls hl => ?_)
      refine lv_iconst (v := 2) hx hb dL_ways_138 (by decide) ?_
      refine lv_istore (lv' := [(12, .int 2), (11, .int 0), (10, .int (-6)), (9, .int x4), (8, .ref qc), (7, .int q1.1), (0, .ref (o + 0)), (1, .ref (o + 302)), (2, .ref (o + 304)), (3, .ref (o + 305)), (4, .ref (o + 306)), (5, .int p0), (6, .int p1)]) hx hb dL_ways_139 hl (by decide) rfl (fun ls hl => ?_)
      refine w_L_ways_L141 Dc qc p0 p1 q1.1 (-6) _ K ?_ gFu x4 0 2 s8 hf _ _ _ hS (lv_sub hl [6, 7, 8, 10, 11, 12, 5, 4, 3, 2, 1, 0] rfl)
      · intro k24 k25 s26 hf H locs ls hS hl
        refine lv_iload hx hb dL_ways_223 (lv_at hl 7 rfl) ?_
        refine lv_istore (lv' := [(13, .int (-6)), (0, .ref (o + 0)), (1, .ref (o + 302)), (2, .ref (o + 304)), (4, .ref (o + 306)), (5, .int p0), (6, .int p1), (7, .int q1.1), (10, .int (-6)), (11, .int k24), (12, .int k25)]) hx hb dL_ways_225 hl (by decide) rfl (fun ls hl => ?_)
        refine lv_bipush (v := 9) hx hb dL_ways_227 (by decide) ?_
        refine lv_istore (lv' := [(14, .int 9), (13, .int (-6)), (0, .ref (o + 0)), (1, .ref (o + 302)), (2, .ref (o + 304)), (4, .ref (o + 306)), (5, .int p0), (6, .int p1), (7, .int q1.1), (10, .int (-6)), (11, .int k24), (12, .int k25)]) hx hb dL_ways_229 hl (by decide) rfl (fun ls hl => ?_)
        refine w_L_ways_L231 Dc qc p0 p1 q1.1 (-6) k24 k25 _ K ?_ gFu (-6) 9 s26 hf _ _ _ hS (lv_sub hl [2, 3, 4, 5, 6, 7, 8, 9, 10, 11, 1, 0] rfl)
        · intro k40 s41 hf H locs ls hS hl
          refine lv_iload hx hb dL_ways_330 (lv_at hl 4 rfl) ?_
          refine lv_if_eq (tgt := 367) hx hb dL_ways_332 (by decide) (fun c42 => ?_) (fun c42 => ?_)
          · have hf := gIf_t c42 hf
            refine lv_iconst (v := 0) hx hb dL_ways_367 (by decide) ?_
            exact h_zret K hS rfl hf dL_ways_368
          · have hf := gIf_f c42 hf
            refine lv_aload_n hx hb dL_ways_335 rfl (lv_at hl 0 rfl) ?_
            refine lv_iload hx hb dL_ways_336 (lv_at hl 1 rfl) ?_
            refine lv_iload hx hb dL_ways_338 (lv_at hl 2 rfl) ?_
            refine lv_iload hx hb dL_ways_340 (lv_at hl 5 rfl) ?_
            obtain ⟨q43, hq43, hf⟩ := Option.bind_eq_some_iff.mp hf
            obtain ⟨s44, hs44, hf⟩ := gLet_some hf
            refine h_Vi (As := [.int p0, .int p1, .int k25]) K hS lV_L_64 (c_X10_soonest p0 p1 k25 s41 q43 hq43) rfl rfl (Nat.le_of_ble_eq_true rfl) ⟨⟨Nat.le_of_ble_eq_true rfl, Nat.le_of_ble_eq_true rfl⟩, rfl, rfl⟩ hl.1 ⟨Nat.le_of_ble_eq_true rfl, Nat.le_of_ble_eq_true rfl⟩ dL_ways_342 (fun H locs hS => ?_)
            rw [← hs44] at hS
            refine lv_iload hx hb dL_ways_345 (lv_at hl 3 rfl) ?_
            refine lv_icmp_ne (tgt := 367) hx hb dL_ways_347 (by decide) (fun c45 => ?_) (fun c45 => ?_)
            · have hf := gIf_f c45 hf
              refine lv_iconst (v := 0) hx hb dL_ways_367 (by decide) ?_
              exact h_zret K hS rfl hf dL_ways_368
            · have hf := gIf_t c45 hf
              refine lv_aload_n hx hb dL_ways_350 rfl (lv_at hl 0 rfl) ?_
              refine lv_iload hx hb dL_ways_351 (lv_at hl 1 rfl) ?_
              refine lv_iload hx hb dL_ways_353 (lv_at hl 2 rfl) ?_
              obtain ⟨q46, hq46, hf⟩ := Option.bind_eq_some_iff.mp hf
              obtain ⟨s47, hs47, hf⟩ := gLet_some hf
              refine h_Vi (As := [.int p0, .int p1]) K hS lV_L_68 (c_X10_quietest p0 p1 s44 q46 hq46) rfl rfl (Nat.le_of_ble_eq_true rfl) ⟨⟨Nat.le_of_ble_eq_true rfl, Nat.le_of_ble_eq_true rfl⟩, rfl, rfl⟩ hl.1 ⟨Nat.le_of_ble_eq_true rfl, Nat.le_of_ble_eq_true rfl⟩ dL_ways_355 (fun H locs hS => ?_)
              rw [← hs47] at hS
              refine lv_iload hx hb dL_ways_358 (lv_at hl 6 rfl) ?_
              refine lv_icmp_ne (tgt := 367) hx hb dL_ways_360 (by decide) (fun c48 => ?_) (fun c48 => ?_)
              · have hf := gIf_f c48 hf
                refine lv_iconst (v := 0) hx hb dL_ways_367 (by decide) ?_
                exact h_zret K hS rfl hf dL_ways_368
              · have hf := gIf_t c48 hf
                refine lv_iconst (v := 1) hx hb dL_ways_363 (by decide) ?_
                refine lv_goto (tgt := 368) hx hb dL_ways_364 (by decide) ?_
                exact h_zret K hS rfl hf dL_ways_368
    · have hf := gIf_t c10 hf
      refine lv_aload_n hx hb dL_ways_111 rfl (lv_at hl 4 rfl) ?_
      refine lv_iload hx hb dL_ways_112 (lv_at hl 9 rfl) ?_
      refine lv_iload hx hb dL_ways_114 (lv_at hl 10 rfl) ?_
      refine lv_iconst (v := 1) hx hb dL_ways_116 (by decide) ?_
      obtain ⟨q49, hq49, hf⟩ := Option.bind_eq_some_iff.mp hf
      obtain ⟨s50, hs50, hf⟩ := gLet_some hf
      refine h_Vi (As := [.int p0, .int p1, .int 1]) K hS lV_L_64 (c_X10_soonest p0 p1 1 s8 q49 hq49) rfl rfl (Nat.le_of_ble_eq_true rfl) ⟨⟨Nat.le_of_ble_eq_true rfl, Nat.le_of_ble_eq_true rfl⟩, rfl, rfl⟩ hl.1 ⟨Nat.le_of_ble_eq_true rfl, Nat.le_of_ble_eq_true rfl⟩ dL_ways_117 (fun H locs hS => ?_)
      rw [← hs50] at hS
      refine lv_aload hx hb dL_ways_120 (lv_at hl 2 rfl) ?_
      refine lv_iload hx hb dL_ways_122 (lv_at hl 1 rfl) ?_
      obtain ⟨h51, hf⟩ := gGd_some hf
      refine h_ild K hS (n := 10) (f := Dc) (by simp) h51 dL_ways_124 ?_
      refine lv_bipush (v := 100) hx hb dL_ways_125 (by decide) ?_
      refine lv_irem hx hb dL_ways_127 (by decide) ?_
      refine lv_icmp_ne (tgt := 135) hx hb dL_ways_128 (by decide) (fun c52 => ?_) (fun c52 => ?_)
      · have hf := gIf_f c52 hf
        refine lv_iconst (v := 0) hx hb dL_ways_135 (by decide) ?_
        refine lv_istore (lv' := [(11, .int 0), (10, .int (-6)), (9, .int x4), (8, .ref qc), (7, .int q1.1), (0, .ref (o + 0)), (1, .ref (o + 302)), (2, .ref (o + 304)), (3, .ref (o + 305)), (4, .ref (o + 306)), (5, .int p0), (6, .int p1)]) hx hb dL_ways_136 hl (by decide) rfl (fun ls hl => ?_)
        refine lv_iconst (v := 2) hx hb dL_ways_138 (by decide) ?_
        refine lv_istore (lv' := [(12, .int 2), (11, .int 0), (10, .int (-6)), (9, .int x4), (8, .ref qc), (7, .int q1.1), (0, .ref (o + 0)), (1, .ref (o + 302)), (2, .ref (o + 304)), (3, .ref (o + 305)), (4, .ref (o + 306)), (5, .int p0), (6, .int p1)]) hx hb dL_ways_139 hl (by decide) rfl (fun ls hl => ?_)
        refine w_L_ways_L141 Dc qc p0 p1 q1.1 (-6) _ K ?_ gFu x4 0 2 s50 hf _ _ _ hS (lv_sub hl [6, 7, 8, 10, 11, 12, 5, 4, 3, 2, 1, 0] rfl)
        · intro k53 k54 s55 hf H locs ls hS hl
          refine lv_iload hx hb dL_ways_223 (lv_at hl 7 rfl) ?_
          refine lv_istore (lv' := [(13, .int (-6)), (0, .ref (o + 0)), (1, .ref (o + 302)), (2, .ref (o + 304)), (4, .ref (o + 306)), (5, .int p0), (6, .int p1), (7, .int q1.1), (10, .int (-6)), (11, .int k53), (12, .int k54)]) hx hb dL_ways_225 hl (by decide) rfl (fun ls hl => ?_)
          refine lv_bipush (v := 9) hx hb dL_ways_227 (by decide) ?_
          refine lv_istore (lv' := [(14, .int 9), (13, .int (-6)), (0, .ref (o + 0)), (1, .ref (o + 302)), (2, .ref (o + 304)), (4, .ref (o + 306)), (5, .int p0), (6, .int p1), (7, .int q1.1), (10, .int (-6)), (11, .int k53), (12, .int k54)]) hx hb dL_ways_229 hl (by decide) rfl (fun ls hl => ?_)
          refine w_L_ways_L231 Dc qc p0 p1 q1.1 (-6) k53 k54 _ K ?_ gFu (-6) 9 s55 hf _ _ _ hS (lv_sub hl [2, 3, 4, 5, 6, 7, 8, 9, 10, 11, 1, 0] rfl)
          · intro k56 s57 hf H locs ls hS hl
            refine lv_iload hx hb dL_ways_330 (lv_at hl 4 rfl) ?_
            refine lv_if_eq (tgt := 367) hx hb dL_ways_332 (by decide) (fun c58 => ?_) (fun c58 => ?_)
            · have hf := gIf_t c58 hf
              refine lv_iconst (v := 0) hx hb dL_ways_367 (by decide) ?_
              exact h_zret K hS rfl hf dL_ways_368
            · have hf := gIf_f c58 hf
              refine lv_aload_n hx hb dL_ways_335 rfl (lv_at hl 0 rfl) ?_
              refine lv_iload hx hb dL_ways_336 (lv_at hl 1 rfl) ?_
              refine lv_iload hx hb dL_ways_338 (lv_at hl 2 rfl) ?_
              refine lv_iload hx hb dL_ways_340 (lv_at hl 5 rfl) ?_
              obtain ⟨q59, hq59, hf⟩ := Option.bind_eq_some_iff.mp hf
              obtain ⟨s60, hs60, hf⟩ := gLet_some hf
              refine h_Vi (As := [.int p0, .int p1, .int k54]) K hS lV_L_64 (c_X10_soonest p0 p1 k54 s57 q59 hq59) rfl rfl (Nat.le_of_ble_eq_true rfl) ⟨⟨Nat.le_of_ble_eq_true rfl, Nat.le_of_ble_eq_true rfl⟩, rfl, rfl⟩ hl.1 ⟨Nat.le_of_ble_eq_true rfl, Nat.le_of_ble_eq_true rfl⟩ dL_ways_342 (fun H locs hS => ?_)
              rw [← hs60] at hS
              refine lv_iload hx hb dL_ways_345 (lv_at hl 3 rfl) ?_
              refine lv_icmp_ne (tgt := 367) hx hb dL_ways_347 (by decide) (fun c61 => ?_) (fun c61 => ?_)
              · have hf := gIf_f c61 hf
                refine lv_iconst (v := 0) hx hb dL_ways_367 (by decide) ?_
                exact h_zret K hS rfl hf dL_ways_368
              · have hf := gIf_t c61 hf
                refine lv_aload_n hx hb dL_ways_350 rfl (lv_at hl 0 rfl) ?_
                refine lv_iload hx hb dL_ways_351 (lv_at hl 1 rfl) ?_
                refine lv_iload hx hb dL_ways_353 (lv_at hl 2 rfl) ?_
                obtain ⟨q62, hq62, hf⟩ := Option.bind_eq_some_iff.mp hf
                obtain ⟨s63, hs63, hf⟩ := gLet_some hf
                refine h_Vi (As := [.int p0, .int p1]) K hS lV_L_68 (c_X10_quietest p0 p1 s60 q62 hq62) rfl rfl (Nat.le_of_ble_eq_true rfl) ⟨⟨Nat.le_of_ble_eq_true rfl, Nat.le_of_ble_eq_true rfl⟩, rfl, rfl⟩ hl.1 ⟨Nat.le_of_ble_eq_true rfl, Nat.le_of_ble_eq_true rfl⟩ dL_ways_355 (fun H locs hS => ?_)
                rw [← hs63] at hS
                refine lv_iload hx hb dL_ways_358 (lv_at hl 6 rfl) ?_
                refine lv_icmp_ne (tgt := 367) hx hb dL_ways_360 (by decide) (fun c64 => ?_) (fun c64 => ?_)
                · have hf := gIf_f c64 hf
                  refine lv_iconst (v := 0) hx hb dL_ways_367 (by decide) ?_
                  exact h_zret K hS rfl hf dL_ways_368
                · have hf := gIf_t c64 hf
                  refine lv_iconst (v := 1) hx hb dL_ways_363 (by decide) ?_
                  refine lv_goto (tgt := 368) hx hb dL_ways_364 (by decide) ?_
                  exact h_zret K hS rfl hf dL_ways_368
      · have hf := gIf_t c52 hf
        refine lv_iconst (v := 1) hx hb dL_ways_131 (by decide) ?_
        refine lv_goto (tgt := 136) hx hb dL_ways_132 (by decide) ?_
        refine lv_istore (lv' := [(11, .int 1), (10, .int (-6)), (9, .int x4), (8, .ref qc), (7, .int q1.1), (0, .ref (o + 0)), (1, .ref (o + 302)), (2, .ref (o + 304)), (3, .ref (o + 305)), (4, .ref (o + 306)), (5, .int p0), (6, .int p1)]) hx hb dL_ways_136 hl (by decide) rfl (fun ls hl => ?_)
        refine lv_iconst (v := 2) hx hb dL_ways_138 (by decide) ?_
        refine lv_istore (lv' := [(12, .int 2), (11, .int 1), (10, .int (-6)), (9, .int x4), (8, .ref qc), (7, .int q1.1), (0, .ref (o + 0)), (1, .ref (o + 302)), (2, .ref (o + 304)), (3, .ref (o + 305)), (4, .ref (o + 306)), (5, .int p0), (6, .int p1)]) hx hb dL_ways_139 hl (by decide) rfl (fun ls hl => ?_)
        refine w_L_ways_L141 Dc qc p0 p1 q1.1 (-6) _ K ?_ gFu x4 1 2 s50 hf _ _ _ hS (lv_sub hl [6, 7, 8, 10, 11, 12, 5, 4, 3, 2, 1, 0] rfl)
        · intro k65 k66 s67 hf H locs ls hS hl
          refine lv_iload hx hb dL_ways_223 (lv_at hl 7 rfl) ?_
          refine lv_istore (lv' := [(13, .int (-6)), (0, .ref (o + 0)), (1, .ref (o + 302)), (2, .ref (o + 304)), (4, .ref (o + 306)), (5, .int p0), (6, .int p1), (7, .int q1.1), (10, .int (-6)), (11, .int k65), (12, .int k66)]) hx hb dL_ways_225 hl (by decide) rfl (fun ls hl => ?_)
          refine lv_bipush (v := 9) hx hb dL_ways_227 (by decide) ?_
          refine lv_istore (lv' := [(14, .int 9), (13, .int (-6)), (0, .ref (o + 0)), (1, .ref (o + 302)), (2, .ref (o + 304)), (4, .ref (o + 306)), (5, .int p0), (6, .int p1), (7, .int q1.1), (10, .int (-6)), (11, .int k65), (12, .int k66)]) hx hb dL_ways_229 hl (by decide) rfl (fun ls hl => ?_)
          refine w_L_ways_L231 Dc qc p0 p1 q1.1 (-6) k65 k66 _ K ?_ gFu (-6) 9 s67 hf _ _ _ hS (lv_sub hl [2, 3, 4, 5, 6, 7, 8, 9, 10, 11, 1, 0] rfl)
          · intro k68 s69 hf H locs ls hS hl
            refine lv_iload hx hb dL_ways_330 (lv_at hl 4 rfl) ?_
            refine lv_if_eq (tgt := 367) hx hb dL_ways_332 (by decide) (fun c70 => ?_) (fun c70 => ?_)
            · have hf := gIf_t c70 hf
              refine lv_iconst (v := 0) hx hb dL_ways_367 (by decide) ?_
              exact h_zret K hS rfl hf dL_ways_368
            · have hf := gIf_f c70 hf
              refine lv_aload_n hx hb dL_ways_335 rfl (lv_at hl 0 rfl) ?_
              refine lv_iload hx hb dL_ways_336 (lv_at hl 1 rfl) ?_
              refine lv_iload hx hb dL_ways_338 (lv_at hl 2 rfl) ?_
              refine lv_iload hx hb dL_ways_340 (lv_at hl 5 rfl) ?_
              obtain ⟨q71, hq71, hf⟩ := Option.bind_eq_some_iff.mp hf
              obtain ⟨s72, hs72, hf⟩ := gLet_some hf
              refine h_Vi (As := [.int p0, .int p1, .int k66]) K hS lV_L_64 (c_X10_soonest p0 p1 k66 s69 q71 hq71) rfl rfl (Nat.le_of_ble_eq_true rfl) ⟨⟨Nat.le_of_ble_eq_true rfl, Nat.le_of_ble_eq_true rfl⟩, rfl, rfl⟩ hl.1 ⟨Nat.le_of_ble_eq_true rfl, Nat.le_of_ble_eq_true rfl⟩ dL_ways_342 (fun H locs hS => ?_)
              rw [← hs72] at hS
              refine lv_iload hx hb dL_ways_345 (lv_at hl 3 rfl) ?_
              refine lv_icmp_ne (tgt := 367) hx hb dL_ways_347 (by decide) (fun c73 => ?_) (fun c73 => ?_)
              · have hf := gIf_f c73 hf
                refine lv_iconst (v := 0) hx hb dL_ways_367 (by decide) ?_
                exact h_zret K hS rfl hf dL_ways_368
              · have hf := gIf_t c73 hf
                refine lv_aload_n hx hb dL_ways_350 rfl (lv_at hl 0 rfl) ?_
                refine lv_iload hx hb dL_ways_351 (lv_at hl 1 rfl) ?_
                refine lv_iload hx hb dL_ways_353 (lv_at hl 2 rfl) ?_
                obtain ⟨q74, hq74, hf⟩ := Option.bind_eq_some_iff.mp hf
                obtain ⟨s75, hs75, hf⟩ := gLet_some hf
                refine h_Vi (As := [.int p0, .int p1]) K hS lV_L_68 (c_X10_quietest p0 p1 s72 q74 hq74) rfl rfl (Nat.le_of_ble_eq_true rfl) ⟨⟨Nat.le_of_ble_eq_true rfl, Nat.le_of_ble_eq_true rfl⟩, rfl, rfl⟩ hl.1 ⟨Nat.le_of_ble_eq_true rfl, Nat.le_of_ble_eq_true rfl⟩ dL_ways_355 (fun H locs hS => ?_)
                rw [← hs75] at hS
                refine lv_iload hx hb dL_ways_358 (lv_at hl 6 rfl) ?_
                refine lv_icmp_ne (tgt := 367) hx hb dL_ways_360 (by decide) (fun c76 => ?_) (fun c76 => ?_)
                · have hf := gIf_f c76 hf
                  refine lv_iconst (v := 0) hx hb dL_ways_367 (by decide) ?_
                  exact h_zret K hS rfl hf dL_ways_368
                · have hf := gIf_t c76 hf
                  refine lv_iconst (v := 1) hx hb dL_ways_363 (by decide) ?_
                  refine lv_goto (tgt := 368) hx hb dL_ways_364 (by decide) ?_
                  exact h_zret K hS rfl hf dL_ways_368
  · have hf := gIf_f c6 hf
    refine lv_aload_n hx hb dL_ways_44 rfl (lv_at hl 4 rfl) ?_
    refine lv_iload hx hb dL_ways_45 (lv_at hl 9 rfl) ?_
    refine lv_iload hx hb dL_ways_47 (lv_at hl 10 rfl) ?_
    refine lv_iconst (v := 0) hx hb dL_ways_49 (by decide) ?_
    obtain ⟨q77, hq77, hf⟩ := Option.bind_eq_some_iff.mp hf
    obtain ⟨s78, hs78, hf⟩ := gLet_some hf
    refine h_Vi (As := [.int p0, .int p1, .int 0]) K hS lV_L_64 (c_X10_soonest p0 p1 0 q2 q77 hq77) rfl rfl (Nat.le_of_ble_eq_true rfl) ⟨⟨Nat.le_of_ble_eq_true rfl, Nat.le_of_ble_eq_true rfl⟩, rfl, rfl⟩ hl.1 ⟨Nat.le_of_ble_eq_true rfl, Nat.le_of_ble_eq_true rfl⟩ dL_ways_50 (fun H locs hS => ?_)
    rw [← hs78] at hS
    refine lv_iload hx hb dL_ways_53 (lv_at hl 0 rfl) ?_
    refine lv_icmp_ne (tgt := 89) hx hb dL_ways_55 (by decide) (fun c79 => ?_) (fun c79 => ?_)
    · have hf := gIf_f c79 hf
      refine lv_iconst (v := 0) hx hb dL_ways_89 (by decide) ?_
      exact h_zret K hS rfl hf dL_ways_90
    · have hf := gIf_t c79 hf
      refine lv_aload_n hx hb dL_ways_58 rfl (lv_at hl 4 rfl) ?_
      refine lv_iload hx hb dL_ways_59 (lv_at hl 9 rfl) ?_
      refine lv_iload hx hb dL_ways_61 (lv_at hl 10 rfl) ?_
      refine lv_iconst (v := 2) hx hb dL_ways_63 (by decide) ?_
      obtain ⟨q80, hq80, hf⟩ := Option.bind_eq_some_iff.mp hf
      obtain ⟨s81, hs81, hf⟩ := gLet_some hf
      refine h_Vi (As := [.int p0, .int p1, .int 2]) K hS lV_L_64 (c_X10_soonest p0 p1 2 s78 q80 hq80) rfl rfl (Nat.le_of_ble_eq_true rfl) ⟨⟨Nat.le_of_ble_eq_true rfl, Nat.le_of_ble_eq_true rfl⟩, rfl, rfl⟩ hl.1 ⟨Nat.le_of_ble_eq_true rfl, Nat.le_of_ble_eq_true rfl⟩ dL_ways_64 (fun H locs hS => ?_)
      rw [← hs81] at hS
      refine lv_iload hx hb dL_ways_67 (lv_at hl 0 rfl) ?_
      refine lv_icmp_ne (tgt := 89) hx hb dL_ways_69 (by decide) (fun c82 => ?_) (fun c82 => ?_)
      · have hf := gIf_f c82 hf
        refine lv_iconst (v := 0) hx hb dL_ways_89 (by decide) ?_
        exact h_zret K hS rfl hf dL_ways_90
      · have hf := gIf_t c82 hf
        refine lv_aload_n hx hb dL_ways_72 rfl (lv_at hl 4 rfl) ?_
        refine lv_iload hx hb dL_ways_73 (lv_at hl 9 rfl) ?_
        refine lv_iload hx hb dL_ways_75 (lv_at hl 10 rfl) ?_
        obtain ⟨q83, hq83, hf⟩ := Option.bind_eq_some_iff.mp hf
        obtain ⟨s84, hs84, hf⟩ := gLet_some hf
        refine h_Vi (As := [.int p0, .int p1]) K hS lV_L_68 (c_X10_quietest p0 p1 s81 q83 hq83) rfl rfl (Nat.le_of_ble_eq_true rfl) ⟨⟨Nat.le_of_ble_eq_true rfl, Nat.le_of_ble_eq_true rfl⟩, rfl, rfl⟩ hl.1 ⟨Nat.le_of_ble_eq_true rfl, Nat.le_of_ble_eq_true rfl⟩ dL_ways_77 (fun H locs hS => ?_)
        rw [← hs84] at hS
        refine lv_iload hx hb dL_ways_80 (lv_at hl 0 rfl) ?_
        refine lv_icmp_ne (tgt := 89) hx hb dL_ways_82 (by decide) (fun c85 => ?_) (fun c85 => ?_)
        · have hf := gIf_f c85 hf
          refine lv_iconst (v := 0) hx hb dL_ways_89 (by decide) ?_
          exact h_zret K hS rfl hf dL_ways_90
        · have hf := gIf_t c85 hf
          refine lv_iconst (v := 1) hx hb dL_ways_85 (by decide) ?_
          refine lv_goto (tgt := 90) hx hb dL_ways_86 (by decide) ?_
          exact h_zret K hS rfl hf dL_ways_90
abbrev rmL_degree : Room := { frames := 1, cells := 0, slots := 0, locals := 21 }
def f_L_degree_L6 (w2 : Int32) (w3 : Int32) : Nat → Int32 → Int32 → gS → Option (Int32 × gS)
  | 0, _, _, _ => none
  | n + 1, v4, v5, σ => if (σ 306 4) ≤ v5 then (some (v4, σ)) else (if ((w3 >>> (v5 &&& 31)) &&& 1) = 1 then (Option.bind (f_L_one v5 σ) (fun q3 => if q3.1 = w2 then (f_L_degree_L6 w2 w3 n (v4 + 1) (v5 + 1) q3.2) else (Option.bind (f_L_two v5 q3.2) (fun q5 => if q5.1 = w2 then (f_L_degree_L6 w2 w3 n (v4 + 1) (v5 + 1) q5.2) else (f_L_degree_L6 w2 w3 n (v4 + 0) (v5 + 1) q5.2))))) else (f_L_degree_L6 w2 w3 n (v4 + 0) (v5 + 1) σ))
theorem f_L_degree_L6_s (w2 : Int32) (w3 : Int32) (n : Nat) (v4 : Int32) (v5 : Int32) (σ : gS) : f_L_degree_L6 w2 w3 (n + 1) v4 v5 σ = (if (σ 306 4) ≤ v5 then (some (v4, σ)) else (if ((w3 >>> (v5 &&& 31)) &&& 1) = 1 then (Option.bind (f_L_one v5 σ) (fun q3 => if q3.1 = w2 then (f_L_degree_L6 w2 w3 n (v4 + 1) (v5 + 1) q3.2) else (Option.bind (f_L_two v5 q3.2) (fun q5 => if q5.1 = w2 then (f_L_degree_L6 w2 w3 n (v4 + 1) (v5 + 1) q5.2) else (f_L_degree_L6 w2 w3 n (v4 + 0) (v5 + 1) q5.2))))) else (f_L_degree_L6 w2 w3 n (v4 + 0) (v5 + 1) σ))) := rfl
def f_L_degree (p0 : Int32) (p1 : Int32) (σ : gS) : Option (Int32 × gS) := f_L_degree_L6 p0 p1 gFu 0 0 σ
set_option maxHeartbeats 4000000 in
set_option maxRecDepth 100000 in
theorem w_L_degree_L6 (w2 : Int32) (w3 : Int32) {q : Int32 × gS} (K : gK p s m args meth c G cL_degree 6 RL (some .int)) : ∀ (n : Nat) (v4 : Int32) (v5 : Int32) (σ : gS), f_L_degree_L6 w2 w3 n v4 v5 σ = some q → ∀ (H : Heap) (locs : List Loc) (ls : Array Slot), hSt G o [] s σ H locs → lv_has ls 6 [(0, .ref (o + 302)), (1, .ref (o + 306)), (2, .int w2), (3, .int w3), (4, .int v4), (5, .int v5)] → W p l e rmL_degree s m args below meth c H locs 0 0 (MQ below (hQi G o q) args s 0 0 (gA o 307)) (F0 m 6 ls []) := by
  obtain ⟨hx, hb, hml, hown, hts, -⟩ := id K
  intro n
  induction n with
  | zero =>
    intro v4 v5 σ hf
    exact absurd (show (none : Option _) = some q from hf) (by simp)
  | succ n ih =>
    intro v4 v5 σ hf H locs ls hS hl
    rw [f_L_degree_L6_s] at hf
    refine lv_iload hx hb dL_degree_6 (lv_at hl 5 rfl) ?_
    refine lv_aload_n hx hb dL_degree_8 rfl (lv_at hl 1 rfl) ?_
    refine lv_iconst (v := 4) hx hb dL_degree_9 (by decide) ?_
    refine h_iald (cx := 306) (j := 4) K hS (eLL_306 G o) (by decide) (by decide) (by decide) dL_degree_10 ?_
    refine lv_icmp_ge (tgt := 60) hx hb dL_degree_11 (by decide) (fun c1 => ?_) (fun c1 => ?_)
    · have hf := gIf_t c1 hf
      refine lv_iload hx hb dL_degree_60 (lv_at hl 4 rfl) ?_
      exact h_iret K hS hf dL_degree_62
    · have hf := gIf_f c1 hf
      refine lv_iload hx hb dL_degree_14 (lv_at hl 4 rfl) ?_
      refine lv_iload_n hx hb dL_degree_16 rfl (lv_at hl 3 rfl) ?_
      refine lv_iload hx hb dL_degree_17 (lv_at hl 5 rfl) ?_
      refine lv_ishr hx hb dL_degree_19 ?_
      refine lv_iconst (v := 1) hx hb dL_degree_20 (by decide) ?_
      refine lv_iand hx hb dL_degree_21 ?_
      refine lv_iconst (v := 1) hx hb dL_degree_22 (by decide) ?_
      refine lv_icmp_ne (tgt := 50) hx hb dL_degree_23 (by decide) (fun c2 => ?_) (fun c2 => ?_)
      · have hf := gIf_f c2 hf
        refine lv_iconst (v := 0) hx hb dL_degree_50 (by decide) ?_
        refine lv_iadd hx hb dL_degree_51 ?_
        refine lv_istore (lv' := [(4, .int (v4 + 0)), (0, .ref (o + 302)), (1, .ref (o + 306)), (2, .int w2), (3, .int w3), (5, .int v5)]) hx hb dL_degree_52 hl (by decide) rfl (fun ls hl => ?_)
        refine lv_iinc (v := (v5 + 1)) (lv' := [(5, .int (v5 + 1)), (4, .int (v4 + 0)), (0, .ref (o + 302)), (1, .ref (o + 306)), (2, .int w2), (3, .int w3)]) hx hb dL_degree_54 hl (k := 5) rfl rfl (by decide) rfl (fun ls hl => ?_)
        refine lv_goto (tgt := 6) hx hb dL_degree_57 (by decide) ?_
        exact ih (v4 + 0) (v5 + 1) σ hf _ _ _ hS (lv_sub hl [2, 3, 4, 5, 1, 0] rfl)
      · have hf := gIf_t c2 hf
        refine lv_aload_n hx hb dL_degree_26 rfl (lv_at hl 0 rfl) ?_
        refine lv_iload hx hb dL_degree_27 (lv_at hl 5 rfl) ?_
        obtain ⟨q3, hq3, hf⟩ := Option.bind_eq_some_iff.mp hf
        refine h_Si0 (X' := []) (As := [.ref (o + 302), .int v5]) K hS lS_L_10 (by simp) (c_L_one v5 σ q3 hq3) rfl rfl (Nat.le_of_ble_eq_true rfl) ⟨rfl, rfl⟩ ⟨Nat.le_of_ble_eq_true rfl, Nat.le_of_ble_eq_true rfl⟩ hl.1 ⟨Nat.le_of_ble_eq_true rfl, Nat.le_of_ble_eq_true rfl⟩ dL_degree_29 (fun H locs hS => ?_)
        refine lv_iload_n hx hb dL_degree_32 rfl (lv_at hl 2 rfl) ?_
        refine lv_icmp_eq (tgt := 46) hx hb dL_degree_33 (by decide) (fun c4 => ?_) (fun c4 => ?_)
        · have hf := gIf_t c4 hf
          refine lv_iconst (v := 1) hx hb dL_degree_46 (by decide) ?_
          refine lv_goto (tgt := 51) hx hb dL_degree_47 (by decide) ?_
          refine lv_iadd hx hb dL_degree_51 ?_
          refine lv_istore (lv' := [(4, .int (v4 + 1)), (0, .ref (o + 302)), (1, .ref (o + 306)), (2, .int w2), (3, .int w3), (5, .int v5)]) hx hb dL_degree_52 hl (by decide) rfl (fun ls hl => ?_)
          refine lv_iinc (v := (v5 + 1)) (lv' := [(5, .int (v5 + 1)), (4, .int (v4 + 1)), (0, .ref (o + 302)), (1, .ref (o + 306)), (2, .int w2), (3, .int w3)]) hx hb dL_degree_54 hl (k := 5) rfl rfl (by decide) rfl (fun ls hl => ?_)
          refine lv_goto (tgt := 6) hx hb dL_degree_57 (by decide) ?_
          exact ih (v4 + 1) (v5 + 1) q3.2 hf _ _ _ hS (lv_sub hl [2, 3, 4, 5, 1, 0] rfl)
        · have hf := gIf_f c4 hf
          refine lv_aload_n hx hb dL_degree_36 rfl (lv_at hl 0 rfl) ?_
          refine lv_iload hx hb dL_degree_37 (lv_at hl 5 rfl) ?_
          obtain ⟨q5, hq5, hf⟩ := Option.bind_eq_some_iff.mp hf
          refine h_Si0 (X' := []) (As := [.ref (o + 302), .int v5]) K hS lS_L_16 (by simp) (c_L_two v5 q3.2 q5 hq5) rfl rfl (Nat.le_of_ble_eq_true rfl) ⟨rfl, rfl⟩ ⟨Nat.le_of_ble_eq_true rfl, Nat.le_of_ble_eq_true rfl⟩ hl.1 ⟨Nat.le_of_ble_eq_true rfl, Nat.le_of_ble_eq_true rfl⟩ dL_degree_39 (fun H locs hS => ?_)
          refine lv_iload_n hx hb dL_degree_42 rfl (lv_at hl 2 rfl) ?_
          refine lv_icmp_ne (tgt := 50) hx hb dL_degree_43 (by decide) (fun c6 => ?_) (fun c6 => ?_)
          · have hf := gIf_f c6 hf
            refine lv_iconst (v := 0) hx hb dL_degree_50 (by decide) ?_
            refine lv_iadd hx hb dL_degree_51 ?_
            refine lv_istore (lv' := [(4, .int (v4 + 0)), (0, .ref (o + 302)), (1, .ref (o + 306)), (2, .int w2), (3, .int w3), (5, .int v5)]) hx hb dL_degree_52 hl (by decide) rfl (fun ls hl => ?_)
            refine lv_iinc (v := (v5 + 1)) (lv' := [(5, .int (v5 + 1)), (4, .int (v4 + 0)), (0, .ref (o + 302)), (1, .ref (o + 306)), (2, .int w2), (3, .int w3)]) hx hb dL_degree_54 hl (k := 5) rfl rfl (by decide) rfl (fun ls hl => ?_)
            refine lv_goto (tgt := 6) hx hb dL_degree_57 (by decide) ?_
            exact ih (v4 + 0) (v5 + 1) q5.2 hf _ _ _ hS (lv_sub hl [2, 3, 4, 5, 1, 0] rfl)
          · have hf := gIf_t c6 hf
            refine lv_iconst (v := 1) hx hb dL_degree_46 (by decide) ?_
            refine lv_goto (tgt := 51) hx hb dL_degree_47 (by decide) ?_
            refine lv_iadd hx hb dL_degree_51 ?_
            refine lv_istore (lv' := [(4, .int (v4 + 1)), (0, .ref (o + 302)), (1, .ref (o + 306)), (2, .int w2), (3, .int w3), (5, .int v5)]) hx hb dL_degree_52 hl (by decide) rfl (fun ls hl => ?_)
            refine lv_iinc (v := (v5 + 1)) (lv' := [(5, .int (v5 + 1)), (4, .int (v4 + 1)), (0, .ref (o + 302)), (1, .ref (o + 306)), (2, .int w2), (3, .int w3)]) hx hb dL_degree_54 hl (k := 5) rfl rfl (by decide) rfl (fun ls hl => ?_)
            refine lv_goto (tgt := 6) hx hb dL_degree_57 (by decide) ?_
            exact ih (v4 + 1) (v5 + 1) q5.2 hf _ _ _ hS (lv_sub hl [2, 3, 4, 5, 1, 0] rfl)
set_option maxHeartbeats 4000000 in
set_option maxRecDepth 100000 in
theorem c_L_degree (p0 : Int32) (p1 : Int32) (σ : gS) (q : Int32 × gS) (hf : f_L_degree p0 p1 σ = some q) : Met l yL_degree (gW yL_degree cL_degree 6 (some .int)) rmL_degree (hPc G o [] [.ref (o + 302), .ref (o + 306), .int p0, .int p1] σ) (hQi G o q) 0 0 (gA o 307) := by
  refine h_met (by decide) ⟨rfl, rfl⟩ (fun p e s m args below meth c ls K hS hl => ?_) (Nat.le_of_ble_eq_true rfl)
  have K : gK p s m args meth c G cL_degree 6 RL (some .int) := K
  have hl : lv_has ls 6 [(0, .ref (o + 302)), (1, .ref (o + 306)), (2, .int p0), (3, .int p1)] := hl
  obtain ⟨hx, hb, hml, hown, hts, -⟩ := id K
  unfold f_L_degree at hf
  refine lv_iconst (v := 0) hx hb dL_degree_0 (by decide) ?_
  refine lv_istore (lv' := [(4, .int 0), (0, .ref (o + 302)), (1, .ref (o + 306)), (2, .int p0), (3, .int p1)]) hx hb dL_degree_1 hl (by decide) rfl (fun ls hl => ?_)
  refine lv_iconst (v := 0) hx hb dL_degree_3 (by decide) ?_
  refine lv_istore (lv' := [(5, .int 0), (4, .int 0), (0, .ref (o + 302)), (1, .ref (o + 306)), (2, .int p0), (3, .int p1)]) hx hb dL_degree_4 hl (by decide) rfl (fun ls hl => ?_)
  refine w_L_degree_L6 p0 p1 K gFu 0 0 σ hf _ _ _ hS (lv_sub hl [2, 3, 4, 5, 1, 0] rfl)
abbrev rmL_reason : Room := { frames := 2, cells := 0, slots := 0, locals := 50 }
def f_L_reason_L20 (w2 : Int32) (w3 : Int32) (w4 : Int32) (K79 : Int32 → Int32 → gS → Option (Int32 × gS)) : Nat → Int32 → Int32 → Int32 → gS → Option (Int32 × gS)
  | 0, _, _, _, _ => none
  | n + 1, v5, v6, v7, σ => if 10 ≤ v7 then (K79 v5 v6 σ) else (Option.bind (f_L_degree v7 w3 σ) (fun q3 => gLet (fun (j4 : Int32) (s5 : gS) => gLet (v6 + (q3.1 &&& 1)) (fun x7 => f_L_reason_L20 w2 w3 w4 K79 n j4 x7 (v7 + 1) s5)) (fun J6 => gLet (fun  (s8 : gS) => J6 1 s8) (fun J9 => if v5 = 0 then (gLet (fun  (s11 : gS) => J6 0 s11) (fun J12 => if q3.1 ≤ 0 then (J12 q3.2) else (if ((w4 >>> (v7 &&& 31)) &&& 1) = 0 then (J9 q3.2) else (J12 q3.2)))) else (J9 q3.2)))))
theorem f_L_reason_L20_s (w2 : Int32) (w3 : Int32) (w4 : Int32) (K79 : Int32 → Int32 → gS → Option (Int32 × gS)) (n : Nat) (v5 : Int32) (v6 : Int32) (v7 : Int32) (σ : gS) : f_L_reason_L20 w2 w3 w4 K79 (n + 1) v5 v6 v7 σ = (if 10 ≤ v7 then (K79 v5 v6 σ) else (Option.bind (f_L_degree v7 w3 σ) (fun q3 => gLet (fun (j4 : Int32) (s5 : gS) => gLet (v6 + (q3.1 &&& 1)) (fun x7 => f_L_reason_L20 w2 w3 w4 K79 n j4 x7 (v7 + 1) s5)) (fun J6 => gLet (fun (s8 : gS) => J6 1 s8) (fun J9 => if v5 = 0 then (gLet (fun (s11 : gS) => J6 0 s11) (fun J12 => if q3.1 ≤ 0 then (J12 q3.2) else (if ((w4 >>> (v7 &&& 31)) &&& 1) = 0 then (J9 q3.2) else (J12 q3.2)))) else (J9 q3.2)))))) := rfl
def f_L_reason (p0 : Int32) (p1 : Int32) (σ : gS) : Option (Int32 × gS) := Option.bind (f_L_reach p0 p1 9 σ) (fun q1 => f_L_reason_L20 p0 p1 q1.1 (fun (k15 : Int32) (k16 : Int32) (s17 : gS) => if p1 = 0 then (some (1, s17)) else (Option.bind (f_L_degree p0 p1 s17) (fun q19 => if q19.1 = 0 then (some (2, q19.2)) else (if k15 = 0 then (if k16 ≤ 2 then (if k16 = 2 then (Option.bind (f_L_degree p0 p1 q19.2) (fun q24 => if (q24.1 &&& 1) = 0 then (some (5, q24.2)) else (some (0, q24.2)))) else (some (0, q19.2))) else (some (4, q19.2))) else (some (3, q19.2)))))) gFu 0 0 0 q1.2)
set_option maxHeartbeats 4000000 in
set_option maxRecDepth 100000 in
theorem w_L_reason_L20 (w2 : Int32) (w3 : Int32) (w4 : Int32) (K79 : Int32 → Int32 → gS → Option (Int32 × gS)) {q : Int32 × gS} (K : gK p s m args meth c G cL_reason 9 RL (some .int)) (hK79 : ∀ (k5 : Int32) (k6 : Int32) (σ : gS), K79 k5 k6 σ = some q → ∀ (H : Heap) (locs : List Loc) (ls : Array Slot), hSt G o [] s σ H locs → lv_has ls 9 [(0, .ref (o + 302)), (1, .ref (o + 306)), (2, .int w2), (3, .int w3), (5, .int k5), (6, .int k6)] → W p l e rmL_reason s m args below meth c H locs 0 0 (MQ below (hQi G o q) args s 0 0 (gA o 307)) (F0 m 79 ls [])) : ∀ (n : Nat) (v5 : Int32) (v6 : Int32) (v7 : Int32) (σ : gS), f_L_reason_L20 w2 w3 w4 K79 n v5 v6 v7 σ = some q → ∀ (H : Heap) (locs : List Loc) (ls : Array Slot), hSt G o [] s σ H locs → lv_has ls 9 [(0, .ref (o + 302)), (1, .ref (o + 306)), (2, .int w2), (3, .int w3), (4, .int w4), (5, .int v5), (6, .int v6), (7, .int v7)] → W p l e rmL_reason s m args below meth c H locs 0 0 (MQ below (hQi G o q) args s 0 0 (gA o 307)) (F0 m 20 ls []) := by
  obtain ⟨hx, hb, hml, hown, hts, -⟩ := id K
  intro n
  induction n with
  | zero =>
    intro v5 v6 v7 σ hf
    exact absurd (show (none : Option _) = some q from hf) (by simp)
  | succ n ih =>
    intro v5 v6 v7 σ hf H locs ls hS hl
    rw [f_L_reason_L20_s] at hf
    refine lv_iload hx hb dL_reason_20 (lv_at hl 7 rfl) ?_
    refine lv_bipush (v := 10) hx hb dL_reason_22 (by decide) ?_
    refine lv_icmp_ge (tgt := 79) hx hb dL_reason_24 (by decide) (fun c2 => ?_) (fun c2 => ?_)
    · have hf := gIf_t c2 hf
      exact hK79 v5 v6 σ hf _ _ _ hS (lv_sub hl [0, 1, 2, 3, 5, 6] rfl)
    · have hf := gIf_f c2 hf
      refine lv_aload_n hx hb dL_reason_27 rfl (lv_at hl 0 rfl) ?_
      refine lv_aload_n hx hb dL_reason_28 rfl (lv_at hl 1 rfl) ?_
      refine lv_iload hx hb dL_reason_29 (lv_at hl 7 rfl) ?_
      refine lv_iload_n hx hb dL_reason_31 rfl (lv_at hl 3 rfl) ?_
      obtain ⟨q3, hq3, hf⟩ := Option.bind_eq_some_iff.mp hf
      refine h_Si0 (X' := []) (As := [.ref (o + 302), .ref (o + 306), .int v7, .int w3]) K hS lS_L_75 (by simp) (c_L_degree v7 w3 σ q3 hq3) rfl rfl (Nat.le_of_ble_eq_true rfl) ⟨rfl, rfl⟩ ⟨Nat.le_of_ble_eq_true rfl, Nat.le_of_ble_eq_true rfl⟩ hl.1 ⟨Nat.le_of_ble_eq_true rfl, Nat.le_of_ble_eq_true rfl⟩ dL_reason_32 (fun H locs hS => ?_)
      refine lv_istore (lv' := [(8, .int q3.1), (0, .ref (o + 302)), (1, .ref (o + 306)), (2, .int w2), (3, .int w3), (4, .int w4), (5, .int v5), (6, .int v6), (7, .int v7)]) hx hb dL_reason_35 hl (by decide) rfl (fun ls hl => ?_)
      refine lv_iload hx hb dL_reason_37 (lv_at hl 6 rfl) ?_
      obtain ⟨J6, hJ6, hf⟩ := gLet_some hf
      have wJ6 : ∀ (j4 : Int32) (s5 : gS), J6 j4 s5 = some q → ∀ (H : Heap) (locs : List Loc) (ls : Array Slot), hSt G o [] s s5 H locs → lv_has ls 9 [(0, .ref (o + 302)), (1, .ref (o + 306)), (2, .int w2), (3, .int w3), (4, .int w4), (6, .int v6), (7, .int v7), (8, .int q3.1)] → W p l e rmL_reason s m args below meth c H locs 0 0 (MQ below (hQi G o q) args s 0 0 (gA o 307)) (F0 m 62 ls [.int j4]) := by
        intro j4 s5 hf H locs ls hS hl
        rw [hJ6] at hf
        refine lv_istore (lv' := [(5, .int j4), (0, .ref (o + 302)), (1, .ref (o + 306)), (2, .int w2), (3, .int w3), (4, .int w4), (6, .int v6), (7, .int v7), (8, .int q3.1)]) hx hb dL_reason_62 hl (by decide) rfl (fun ls hl => ?_)
        refine lv_iload hx hb dL_reason_64 (lv_at hl 6 rfl) ?_
        refine lv_iload hx hb dL_reason_66 (lv_at hl 8 rfl) ?_
        refine lv_iconst (v := 1) hx hb dL_reason_68 (by decide) ?_
        refine lv_iand hx hb dL_reason_69 ?_
        refine lv_iadd hx hb dL_reason_70 ?_
        obtain ⟨x7, hx7, hf⟩ := gLet_some hf
        refine g_top hx7 ?_
        refine lv_istore (lv' := [(6, .int x7), (5, .int j4), (0, .ref (o + 302)), (1, .ref (o + 306)), (2, .int w2), (3, .int w3), (4, .int w4), (7, .int v7), (8, .int q3.1)]) hx hb dL_reason_71 hl (by decide) rfl (fun ls hl => ?_)
        refine lv_iinc (v := (v7 + 1)) (lv' := [(7, .int (v7 + 1)), (6, .int x7), (5, .int j4), (0, .ref (o + 302)), (1, .ref (o + 306)), (2, .int w2), (3, .int w3), (4, .int w4), (8, .int q3.1)]) hx hb dL_reason_73 hl (k := 7) rfl rfl (by decide) rfl (fun ls hl => ?_)
        refine lv_goto (tgt := 20) hx hb dL_reason_76 (by decide) ?_
        exact ih j4 x7 (v7 + 1) s5 hf _ _ _ hS (lv_sub hl [3, 4, 5, 6, 7, 2, 1, 0] rfl)
      clear hJ6
      obtain ⟨J9, hJ9, hf⟩ := gLet_some hf
      have wJ9 : ∀  (s8 : gS), J9  s8 = some q → ∀ (H : Heap) (locs : List Loc) (ls : Array Slot), hSt G o [] s s8 H locs → lv_has ls 9 [(0, .ref (o + 302)), (1, .ref (o + 306)), (2, .int w2), (3, .int w3), (4, .int w4), (6, .int v6), (7, .int v7), (8, .int q3.1)] → W p l e rmL_reason s m args below meth c H locs 0 0 (MQ below (hQi G o q) args s 0 0 (gA o 307)) (F0 m 57 ls []) := by
        intro  s8 hf H locs ls hS hl
        rw [hJ9] at hf
        refine lv_iconst (v := 1) hx hb dL_reason_57 (by decide) ?_
        refine lv_goto (tgt := 62) hx hb dL_reason_58 (by decide) ?_
        exact wJ6 1 s8 hf _ _ _ hS (lv_sub hl [0, 1, 2, 3, 4, 5, 6, 7] rfl)
      clear hJ9
      refine lv_if_ne (tgt := 57) hx hb dL_reason_39 (by decide) (fun c10 => ?_) (fun c10 => ?_)
      · have hf := gIf_f c10 hf
        exact wJ9  q3.2 hf _ _ _ hS (lv_sub hl [1, 2, 3, 4, 5, 7, 8, 0] rfl)
      · have hf := gIf_t c10 hf
        refine lv_iload hx hb dL_reason_42 (lv_at hl 0 rfl) ?_
        obtain ⟨J12, hJ12, hf⟩ := gLet_some hf
        have wJ12 : ∀  (s11 : gS), J12  s11 = some q → ∀ (H : Heap) (locs : List Loc) (ls : Array Slot), hSt G o [] s s11 H locs → lv_has ls 9 [(0, .ref (o + 302)), (1, .ref (o + 306)), (2, .int w2), (3, .int w3), (4, .int w4), (6, .int v6), (7, .int v7), (8, .int q3.1)] → W p l e rmL_reason s m args below meth c H locs 0 0 (MQ below (hQi G o q) args s 0 0 (gA o 307)) (F0 m 61 ls []) := by
          intro  s11 hf H locs ls hS hl
          rw [hJ12] at hf
          refine lv_iconst (v := 0) hx hb dL_reason_61 (by decide) ?_
          exact wJ6 0 s11 hf _ _ _ hS (lv_sub hl [0, 1, 2, 3, 4, 5, 6, 7] rfl)
        clear hJ12
        refine lv_if_le (tgt := 61) hx hb dL_reason_44 (by decide) (fun c13 => ?_) (fun c13 => ?_)
        · have hf := gIf_t c13 hf
          exact wJ12  q3.2 hf _ _ _ hS (lv_sub hl [1, 2, 3, 4, 5, 7, 8, 0] rfl)
        · have hf := gIf_f c13 hf
          refine lv_iload hx hb dL_reason_47 (lv_at hl 5 rfl) ?_
          refine lv_iload hx hb dL_reason_49 (lv_at hl 8 rfl) ?_
          refine lv_ishr hx hb dL_reason_51 ?_
          refine lv_iconst (v := 1) hx hb dL_reason_52 (by decide) ?_
          refine lv_iand hx hb dL_reason_53 ?_
          refine lv_if_ne (tgt := 61) hx hb dL_reason_54 (by decide) (fun c14 => ?_) (fun c14 => ?_)
          · have hf := gIf_f c14 hf
            exact wJ12  q3.2 hf _ _ _ hS (lv_sub hl [1, 2, 3, 4, 5, 7, 8, 0] rfl)
          · have hf := gIf_t c14 hf
            exact wJ9  q3.2 hf _ _ _ hS (lv_sub hl [1, 2, 3, 4, 5, 7, 8, 0] rfl)
set_option maxHeartbeats 4000000 in
set_option maxRecDepth 100000 in
theorem c_L_reason (p0 : Int32) (p1 : Int32) (σ : gS) (q : Int32 × gS) (hf : f_L_reason p0 p1 σ = some q) : Met l yL_reason (gW yL_reason cL_reason 9 (some .int)) rmL_reason (hPc G o [] [.ref (o + 302), .ref (o + 306), .int p0, .int p1] σ) (hQi G o q) 0 0 (gA o 307) := by
  refine h_met (by decide) ⟨rfl, rfl⟩ (fun p e s m args below meth c ls K hS hl => ?_) (Nat.le_of_ble_eq_true rfl)
  have K : gK p s m args meth c G cL_reason 9 RL (some .int) := K
  have hl : lv_has ls 9 [(0, .ref (o + 302)), (1, .ref (o + 306)), (2, .int p0), (3, .int p1)] := hl
  obtain ⟨hx, hb, hml, hown, hts, -⟩ := id K
  unfold f_L_reason at hf
  refine lv_aload_n hx hb dL_reason_0 rfl (lv_at hl 0 rfl) ?_
  refine lv_aload_n hx hb dL_reason_1 rfl (lv_at hl 1 rfl) ?_
  refine lv_iload_n hx hb dL_reason_2 rfl (lv_at hl 2 rfl) ?_
  refine lv_iload_n hx hb dL_reason_3 rfl (lv_at hl 3 rfl) ?_
  refine lv_bipush (v := 9) hx hb dL_reason_4 (by decide) ?_
  obtain ⟨q1, hq1, hf⟩ := Option.bind_eq_some_iff.mp hf
  refine h_Si0 (X' := []) (As := [.ref (o + 302), .ref (o + 306), .int p0, .int p1, .int 9]) K hS lS_L_25 (by simp) (c_L_reach p0 p1 9 σ q1 hq1) rfl rfl (Nat.le_of_ble_eq_true rfl) ⟨rfl, rfl⟩ ⟨Nat.le_of_ble_eq_true rfl, Nat.le_of_ble_eq_true rfl⟩ hl.1 ⟨Nat.le_of_ble_eq_true rfl, Nat.le_of_ble_eq_true rfl⟩ dL_reason_6 (fun H locs hS => ?_)
  refine lv_istore (lv' := [(4, .int q1.1), (0, .ref (o + 302)), (1, .ref (o + 306)), (2, .int p0), (3, .int p1)]) hx hb dL_reason_9 hl (by decide) rfl (fun ls hl => ?_)
  refine lv_iconst (v := 0) hx hb dL_reason_11 (by decide) ?_
  refine lv_istore (lv' := [(5, .int 0), (4, .int q1.1), (0, .ref (o + 302)), (1, .ref (o + 306)), (2, .int p0), (3, .int p1)]) hx hb dL_reason_12 hl (by decide) rfl (fun ls hl => ?_)
  refine lv_iconst (v := 0) hx hb dL_reason_14 (by decide) ?_
  refine lv_istore (lv' := [(6, .int 0), (5, .int 0), (4, .int q1.1), (0, .ref (o + 302)), (1, .ref (o + 306)), (2, .int p0), (3, .int p1)]) hx hb dL_reason_15 hl (by decide) rfl (fun ls hl => ?_)
  refine lv_iconst (v := 0) hx hb dL_reason_17 (by decide) ?_
  refine lv_istore (lv' := [(7, .int 0), (6, .int 0), (5, .int 0), (4, .int q1.1), (0, .ref (o + 302)), (1, .ref (o + 306)), (2, .int p0), (3, .int p1)]) hx hb dL_reason_18 hl (by decide) rfl (fun ls hl => ?_)
  refine w_L_reason_L20 p0 p1 q1.1 _ K ?_ gFu 0 0 0 q1.2 hf _ _ _ hS (lv_sub hl [4, 5, 6, 7, 3, 2, 1, 0] rfl)
  · intro k15 k16 s17 hf H locs ls hS hl
    refine lv_iload_n hx hb dL_reason_79 rfl (lv_at hl 3 rfl) ?_
    refine lv_if_ne (tgt := 87) hx hb dL_reason_80 (by decide) (fun c18 => ?_) (fun c18 => ?_)
    · have hf := gIf_f c18 hf
      refine lv_aload_n hx hb dL_reason_87 rfl (lv_at hl 0 rfl) ?_
      refine lv_aload_n hx hb dL_reason_88 rfl (lv_at hl 1 rfl) ?_
      refine lv_iload_n hx hb dL_reason_89 rfl (lv_at hl 2 rfl) ?_
      refine lv_iload_n hx hb dL_reason_90 rfl (lv_at hl 3 rfl) ?_
      obtain ⟨q19, hq19, hf⟩ := Option.bind_eq_some_iff.mp hf
      refine h_Si0 (X' := []) (As := [.ref (o + 302), .ref (o + 306), .int p0, .int p1]) K hS lS_L_75 (by simp) (c_L_degree p0 p1 s17 q19 hq19) rfl rfl (Nat.le_of_ble_eq_true rfl) ⟨rfl, rfl⟩ ⟨Nat.le_of_ble_eq_true rfl, Nat.le_of_ble_eq_true rfl⟩ hl.1 ⟨Nat.le_of_ble_eq_true rfl, Nat.le_of_ble_eq_true rfl⟩ dL_reason_91 (fun H locs hS => ?_)
      refine lv_if_ne (tgt := 101) hx hb dL_reason_94 (by decide) (fun c20 => ?_) (fun c20 => ?_)
      · have hf := gIf_f c20 hf
        refine lv_iload hx hb dL_reason_101 (lv_at hl 4 rfl) ?_
        refine lv_if_eq (tgt := 110) hx hb dL_reason_103 (by decide) (fun c21 => ?_) (fun c21 => ?_)
        · have hf := gIf_t c21 hf
          refine lv_iload hx hb dL_reason_110 (lv_at hl 5 rfl) ?_
          refine lv_iconst (v := 2) hx hb dL_reason_112 (by decide) ?_
          refine lv_icmp_le (tgt := 120) hx hb dL_reason_113 (by decide) (fun c22 => ?_) (fun c22 => ?_)
          · have hf := gIf_t c22 hf
            refine lv_iload hx hb dL_reason_120 (lv_at hl 5 rfl) ?_
            refine lv_iconst (v := 2) hx hb dL_reason_122 (by decide) ?_
            refine lv_icmp_ne (tgt := 142) hx hb dL_reason_123 (by decide) (fun c23 => ?_) (fun c23 => ?_)
            · have hf := gIf_f c23 hf
              refine lv_iconst (v := 0) hx hb dL_reason_142 (by decide) ?_
              exact h_iret K hS hf dL_reason_143
            · have hf := gIf_t c23 hf
              refine lv_aload_n hx hb dL_reason_126 rfl (lv_at hl 0 rfl) ?_
              refine lv_aload_n hx hb dL_reason_127 rfl (lv_at hl 1 rfl) ?_
              refine lv_iload_n hx hb dL_reason_128 rfl (lv_at hl 2 rfl) ?_
              refine lv_iload_n hx hb dL_reason_129 rfl (lv_at hl 3 rfl) ?_
              obtain ⟨q24, hq24, hf⟩ := Option.bind_eq_some_iff.mp hf
              refine h_Si0 (X' := []) (As := [.ref (o + 302), .ref (o + 306), .int p0, .int p1]) K hS lS_L_75 (by simp) (c_L_degree p0 p1 q19.2 q24 hq24) rfl rfl (Nat.le_of_ble_eq_true rfl) ⟨rfl, rfl⟩ ⟨Nat.le_of_ble_eq_true rfl, Nat.le_of_ble_eq_true rfl⟩ hl.1 ⟨Nat.le_of_ble_eq_true rfl, Nat.le_of_ble_eq_true rfl⟩ dL_reason_130 (fun H locs hS => ?_)
              refine lv_iconst (v := 1) hx hb dL_reason_133 (by decide) ?_
              refine lv_iand hx hb dL_reason_134 ?_
              refine lv_if_ne (tgt := 142) hx hb dL_reason_135 (by decide) (fun c25 => ?_) (fun c25 => ?_)
              · have hf := gIf_f c25 hf
                refine lv_iconst (v := 0) hx hb dL_reason_142 (by decide) ?_
                exact h_iret K hS hf dL_reason_143
              · have hf := gIf_t c25 hf
                refine lv_iconst (v := 5) hx hb dL_reason_138 (by decide) ?_
                refine lv_goto (tgt := 143) hx hb dL_reason_139 (by decide) ?_
                exact h_iret K hS hf dL_reason_143
          · have hf := gIf_f c22 hf
            refine lv_iconst (v := 4) hx hb dL_reason_116 (by decide) ?_
            refine lv_goto (tgt := 143) hx hb dL_reason_117 (by decide) ?_
            exact h_iret K hS hf dL_reason_143
        · have hf := gIf_f c21 hf
          refine lv_iconst (v := 3) hx hb dL_reason_106 (by decide) ?_
          refine lv_goto (tgt := 143) hx hb dL_reason_107 (by decide) ?_
          exact h_iret K hS hf dL_reason_143
      · have hf := gIf_t c20 hf
        refine lv_iconst (v := 2) hx hb dL_reason_97 (by decide) ?_
        refine lv_goto (tgt := 143) hx hb dL_reason_98 (by decide) ?_
        exact h_iret K hS hf dL_reason_143
    · have hf := gIf_t c18 hf
      refine lv_iconst (v := 1) hx hb dL_reason_83 (by decide) ?_
      refine lv_goto (tgt := 143) hx hb dL_reason_84 (by decide) ?_
      exact h_iret K hS hf dL_reason_143
end
