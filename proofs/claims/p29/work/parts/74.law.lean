theorem SS_0 : SS z0 (up2 (up2 sX 306 0 60) 306 1 10) := by
  have r : ∀ j, j ≠ 306 → up2 (up2 sX 306 0 60) 306 1 10 j = sX j := fun j hj => by rw [up2_row hj, up2_row hj]
  have q : ∀ j, 302 ≤ j → sX j = fun _ => 0 := fun j hj => by
    unfold sX
    rw [if_neg (by omega), if_neg (by omega), if_neg (by omega), if_neg (by omega), if_neg (by omega), if_neg (by omega)]
  refine ⟨zI_0, cX_rows zI_0 cX_0 fun j h1 h2 => r j (by omega), ⟨fun k hk => ?_, fun b hb => absurd hb (Nat.not_lt_zero b), fun g hg j hj => ?_, fun s hs => absurd hs (Nat.not_lt_zero s)⟩, hX.row hX_0 (r 36 (by decide))⟩
  · have e : up2 (up2 sX 306 0 60) 306 1 10 306 = upd (upd (fun _ => 0) 0 60) 1 10 := by
      unfold up2
      rw [gU_at, gU_at, q 306 (by decide)]
    rw [e]
    rcases (show k = 0 ∨ k = 1 ∨ k = 2 ∨ k = 3 ∨ k = 4 ∨ k = 5 by omega) with rfl | rfl | rfl | rfl | rfl | rfl <;> decide
  · rw [r 304 (by decide), q 304 (by decide), show gh z0 g j = 0 by unfold gh; exact z0_0 (by omega)]
    rfl
theorem Lclass_len (G : gG) (o : Nat) : (Lclass G o).length = 302 := by
  rw [← cm_Lclass]
  simp [cm]
abbrev rL (G : gG) (n : Nat) : va_E := .inl (G.2 0, n, .inl fun _ => 0)
theorem sX_ge {j : Nat} (hj : 302 ≤ j) : sX j = fun _ => 0 := by
  unfold sX
  rw [if_neg (by omega), if_neg (by omega), if_neg (by omega), if_neg (by omega), if_neg (by omega), if_neg (by omega)]
theorem hSt_0 {G : gG} {b L : Nat} {xs : Nat → Int32} {s : State} {H : Heap} (h : cS G s.heap.size (Lclass G s.heap.size ++ [rL G 20] ++ [rL G 20] ++ [rL G 12] ++ [rL G 20] ++ [rL G 6]) s H []) (hX : va_X b L xs s s.heap) (hbl : b < s.heap.size) : hSt G s.heap.size [(b, L, xs)] s sX H [] := by
  obtain ⟨hP, hz, hV, -⟩ := h
  have hk : ∀ q, q < s.heap.size → H[q]? = s.heap[q]? := fun q hq => hV.2.1 q hq (Nat.not_le.mpr hq)
  rw [List.append_assoc, List.append_assoc, List.append_assoc, List.append_assoc, cw_app, Lclass_len, Lclass_eq] at hP
  have hl : (gL (entX G s.heap.size) s.heap.size 302 sX).length = 302 := by simp [gL]
  refine ⟨⟨fun k q hk => ?_, ⟨hV.1, fun q hq _ => hk q hq, fun q hq => absurd hq List.not_mem_nil⟩⟩, fun x hx => ?_⟩
  · obtain ⟨h7, rfl⟩ := gL_at hk
    by_cases h2 : k < 302
    · rw [entL_lt G _ h2]
      refine hP k _ ?_
      rw [List.getElem?_append_left (by omega)]
      exact gL_get h2
    · have e : ∀ w, (cw (s.heap.size + 302) ([rL G 20] ++ ([rL G 20] ++ ([rL G 12] ++ ([rL G 20] ++ [rL G 6])))))[k - 302]? = some w → va_at G.1 gCls w H := fun w hw => hP k w (by rw [List.getElem?_append_right (by omega), hl]; exact hw)
      rw [sX_ge (by omega)]
      rcases (show k = 302 ∨ k = 303 ∨ k = 304 ∨ k = 305 ∨ k = 306 by omega) with rfl | rfl | rfl | rfl | rfl <;> exact e _ rfl
  · rw [List.mem_singleton] at hx
    subst hx
    exact ⟨fun z => absurd z.1 (Nat.not_le.mpr hbl), hX.kept (hk b hbl)⟩
section LP
variable {p : Program} {l : Launch} {e : Env} {s : State} {m : MethodId} {below : List Frame} {meth : Method} {c : Code} {G : gG} {b L : Nat} {xs : Nat → Int32}
abbrev lLv (b o : Nat) (v : Int32) : List (Nat × Value) := [(0, .ref b), (1, .ref (o + 0)), (2, .ref (o + 302)), (3, .ref (o + 303)), (4, .ref (o + 304)), (5, .ref (o + 305)), (6, .ref (o + 306)), (7, .int v)]
set_option maxHeartbeats 4000000 in
set_option maxRecDepth 100000 in
/-- the law's loop, at its head with i rounds behind it -/
theorem law_loop (hL : L ≤ 260) (hE : gEnv G s) (C0 : lw_At p s m meth c b L xs) : ∀ (d i : Nat), i + d = 60 → ∀ (ζ : Nat → Nat) (σ : gS) (H : Heap) (locs : List Loc) (ls : Array Slot), SS ζ σ → ζ 2 ≤ 200 * i → hSt G s.heap.size [(b, L, xs)] s σ H locs → lv_has ls 18 (lLv b s.heap.size (nI i)) → W p l e room_1 s m #[Value.ref b] below meth c H locs (400 + 2 * i) (2000 + 20 * i) (lw_Z below #[Value.ref b] s) (F0 m 51 ls []) := by
  obtain ⟨hx, hb, hr, hml, hown, hts, hX, hbl, hlocks, hgv⟩ := id C0
  have K : gK p s m #[Value.ref b] meth c G cL_law 18 RL (some .boolean) := ⟨hx, hb, hml, hown, fun w hw => hts w (List.mem_filter.mp hw).1, hE, hr, hlocks⟩
  intro d
  induction d with
  | zero =>
    intro i hi ζ σ H locs ls hS hB hh hl
    refine lv_iload hx hb dL_law_51 (lv_at hl 7 rfl) ?_
    refine lv_bipush (v := 60) hx hb dL_law_53 (by decide) ?_
    refine lv_icmp_ge (tgt := 1409) hx hb dL_law_55 (by decide) (fun _ => ?_) (fun c1 => absurd (by rw [show i = 60 by omega]; decide) c1)
    refine lv_iconst (v := 1) hx hb dL_law_1409 (by decide) ?_
    refine va_forget (fun q hq => (hh.1.2.2.2 q hq).1) ?_
    refine W.widen (k := 614894) (n := 7257565) (by omega) (by omega) ?_
    exact lw_ret hx hb hr hlocks dL_law_1410
  | succ d ih =>
    intro i hi ζ σ H locs ls hS hB hh hl
    refine lv_iload hx hb dL_law_51 (lv_at hl 7 rfl) ?_
    refine lv_bipush (v := 60) hx hb dL_law_53 (by decide) ?_
    refine lv_icmp_ge (tgt := 1409) hx hb dL_law_55 (by decide) (fun c1 => absurd (Int32.le_iff_toInt_le.mp (show nI 60 ≤ nI i from c1)) (by rw [nI_toInt (by omega), nI_toInt (by omega)]; omega)) (fun _ => ?_)
    obtain ⟨ζ', σ', hf, hS', hB'⟩ := ev_body hS (by omega) L (by omega) xs (e := i) (by omega)
    refine w_L_body b L xs (nI i) σ K (by decide) (by decide) (show 400 + 2 * i + 2 ≤ 614894 by omega) (show 2000 + 20 * i + 20 ≤ 7257565 by omega) hf (fun H locs ls hh hl => ?_) H locs ls hh hl
    refine lv_iinc (v := nI i + 1) (lv' := [(7, .int (nI i + 1)), (0, .ref b), (1, .ref (s.heap.size + 0)), (2, .ref (s.heap.size + 302)), (3, .ref (s.heap.size + 303)), (4, .ref (s.heap.size + 304)), (5, .ref (s.heap.size + 305)), (6, .ref (s.heap.size + 306))]) hx hb dL_law_1403 hl (k := 7) rfl rfl (by decide) rfl (fun ls hl => ?_)
    refine lv_goto (tgt := 51) hx hb dL_law_1406 (by decide) ?_
    rw [show nI i + 1 = nI (i + 1) from nI_add i 1] at hl
    refine W.widen (k := 400 + 2 * (i + 1)) (n := 2000 + 20 * (i + 1)) (by omega) (by omega) ?_
    exact ih (i + 1) (by omega) ζ' σ' H locs ls hS' (by omega) hh (lv_sub hl [1, 2, 3, 4, 5, 6, 7, 0] rfl)
set_option maxHeartbeats 4000000 in
set_option maxRecDepth 100000 in
theorem law_start (hL : L ≤ 260) (C0 : lw_At p s m meth c b L xs) : W p l e room_1 s m #[Value.ref b] below meth c s.heap [] 0 0 (lw_Z below #[Value.ref b] s) (entryFrame m ([Value.ref b] : List Value).toArray 18) := by
  obtain ⟨hx, hb, hr, hml, hown, hts, hX, hbl, hlocks, hgv⟩ := id C0
  obtain ⟨G, hE⟩ := gEnv_ex hts
  have hA : va_AO RX0 s := ao_ex hts
  have K : gK p s m #[Value.ref b] meth c G cL_law 18 RL (some .boolean) := ⟨hx, hb, hml, hown, fun w hw => hts w (List.mem_filter.mp hw).1, hE, hr, hlocks⟩
  have hl := lv_entry ([.ref b]) (n := 18) (Nat.le_of_ble_eq_true rfl)
  rw [lg_entry_eq]
  generalize (lg_sl ([.ref b]) ++ List.replicate (18 - (lg_sl ([.ref b])).length) Slot.unset).toArray = ls at hl ⊢
  have hl : lv_has ls 18 [(0, .ref b)] := hl
  have hS : cS G s.heap.size [] s s.heap [] := ⟨fun k q hk => by simp [cw] at hk, rfl, va_S.rf, Nat.le_refl _⟩
  refine c_new (fs := [.null, .null, .null, .null, .int 0, .null]) (ci := 9) K hS rfl wmX10 tyX10_ok (gmd (by decide +kernel) rfl) (gmd (by decide +kernel) rfl) (gmd (by decide +kernel) rfl) (fun j hj => by rcases (show j = 0 ∨ j = 1 ∨ j = 2 ∨ j = 3 ∨ j = 4 ∨ j = 5 by omega) with rfl | rfl | rfl | rfl | rfl | rfl <;> rfl) (Nat.le_of_ble_eq_true rfl) (Nat.le_of_ble_eq_true rfl) dL_law_0 (fun H hS => ?_)
  refine lv_dup hx hb dL_law_3 rfl ?_
  refine c_runIg (As := []) (rest := [.ref (s.heap.size + 0)]) (mL := 1) (n := 0) (y := yX10_init) (M := Lclass G (s.heap.size + 0)) (mc := 301) (ms := 1804) K hS (c_preA K hS hA) (gmd (by decide +kernel) rfl) (gmd (by decide +kernel) rfl) (gmd (by decide +kernel) rfl) (gmd (by decide +kernel) rfl) (by decide +kernel) rfl (c_X10_init _) ⟨rfl, rfl⟩ rfl rfl (Nat.le_of_ble_eq_true rfl) ⟨Nat.le_of_ble_eq_true rfl, Nat.le_of_ble_eq_true rfl⟩ hl.1 ⟨Nat.le_of_ble_eq_true rfl, Nat.le_of_ble_eq_true rfl⟩ dL_law_4 (fun H locs hS => ?_)
  have hS : cS G s.heap.size (Lclass G s.heap.size) s H locs := hS
  refine lv_astore_n (lv' := [(1, .ref (s.heap.size + 0)), (0, .ref b)]) hx hb dL_law_7 rfl hl (by decide) rfl (fun ls hl => ?_)
  have mk : ∀ (n : Nat) (t : Int32), n ≤ 20 → t = nI n → ∀ {pc : Nat} {Lc : List va_E} {H : Heap} {locs : List Loc} {ls : Array Slot} {cells slots : Nat} {Q : State → Prop}, cS G s.heap.size Lc s H locs → cells + 1 ≤ 614894 → slots + n ≤ 7257565 → decode cL_law pc = .ok (.newarray .int, 2) →
      (∀ (H1 : Heap), cS G s.heap.size (Lc ++ [rL G n]) s H1 locs → W p l e room_1 s m #[Value.ref b] below meth c H1 locs (cells + 1) (slots + n) Q (F0 m (pc + 2) ls [.ref (s.heap.size + Lc.length)])) → W p l e room_1 s m #[Value.ref b] below meth c H locs cells slots Q (F0 m pc ls [.int t]) := by
    intro n t hn ht pc Lc H locs ls cells slots Q hS h1 h2 hd kk
    subst ht
    exact c_newi (t := 0) (N := n) (fty := .int) K hS (gmd (by decide +kernel) rfl) rfl rfl rfl rfl (gt_int G) (nI_pos (by omega)) (nI_clamp (by omega)) (by show n * 4 ≤ 536870912; omega) h1 h2 hd kk
  refine lv_bipush (v := 20) hx hb dL_law_8 (by decide) ?_
  refine mk 20 20 (by decide) rfl hS (Nat.le_of_ble_eq_true rfl) (Nat.le_of_ble_eq_true rfl) dL_law_10 (fun H hS => ?_)
  rw [Lclass_len]
  refine lv_astore_n (lv' := [(2, .ref (s.heap.size + 302)), (1, .ref (s.heap.size + 0)), (0, .ref b)]) hx hb dL_law_12 rfl hl (by decide) rfl (fun ls hl => ?_)
  refine lv_bipush (v := 20) hx hb dL_law_13 (by decide) ?_
  refine mk 20 20 (by decide) rfl hS (Nat.le_of_ble_eq_true rfl) (Nat.le_of_ble_eq_true rfl) dL_law_15 (fun H hS => ?_)
  rw [List.length_append, Lclass_len]
  refine lv_astore_n (lv' := [(3, .ref (s.heap.size + 303)), (2, .ref (s.heap.size + 302)), (1, .ref (s.heap.size + 0)), (0, .ref b)]) hx hb dL_law_17 rfl hl (by decide) rfl (fun ls hl => ?_)
  refine lv_bipush (v := 12) hx hb dL_law_18 (by decide) ?_
  refine mk 12 12 (by decide) rfl hS (Nat.le_of_ble_eq_true rfl) (Nat.le_of_ble_eq_true rfl) dL_law_20 (fun H hS => ?_)
  rw [List.length_append, List.length_append, Lclass_len]
  refine lv_astore (lv' := [(4, .ref (s.heap.size + 304)), (3, .ref (s.heap.size + 303)), (2, .ref (s.heap.size + 302)), (1, .ref (s.heap.size + 0)), (0, .ref b)]) hx hb dL_law_22 hl (by decide) rfl (fun ls hl => ?_)
  refine lv_bipush (v := 20) hx hb dL_law_24 (by decide) ?_
  refine mk 20 20 (by decide) rfl hS (Nat.le_of_ble_eq_true rfl) (Nat.le_of_ble_eq_true rfl) dL_law_26 (fun H hS => ?_)
  rw [List.length_append, List.length_append, List.length_append, Lclass_len]
  refine lv_astore (lv' := [(5, .ref (s.heap.size + 305)), (4, .ref (s.heap.size + 304)), (3, .ref (s.heap.size + 303)), (2, .ref (s.heap.size + 302)), (1, .ref (s.heap.size + 0)), (0, .ref b)]) hx hb dL_law_28 hl (by decide) rfl (fun ls hl => ?_)
  refine lv_bipush (v := 6) hx hb dL_law_30 (by decide) ?_
  refine mk 6 6 (by decide) rfl hS (Nat.le_of_ble_eq_true rfl) (Nat.le_of_ble_eq_true rfl) dL_law_32 (fun H hS => ?_)
  rw [List.length_append, List.length_append, List.length_append, List.length_append, Lclass_len]
  refine lv_astore (lv' := [(6, .ref (s.heap.size + 306)), (5, .ref (s.heap.size + 305)), (4, .ref (s.heap.size + 304)), (3, .ref (s.heap.size + 303)), (2, .ref (s.heap.size + 302)), (1, .ref (s.heap.size + 0)), (0, .ref b)]) hx hb dL_law_34 hl (by decide) rfl (fun ls hl => ?_)
  refine va_forget (fun q hq => hS.2.2.1.2.2 q hq) ?_
  have hS : cS G s.heap.size (Lclass G s.heap.size ++ [rL G 20] ++ [rL G 20] ++ [rL G 12] ++ [rL G 20] ++ [rL G 6]) s H [] := ⟨hS.1, hS.2.1, ⟨hS.2.2.1.1, hS.2.2.1.2.1, fun q hq => absurd hq List.not_mem_nil⟩, hS.2.2.2⟩
  have hS := hSt_0 hS hX hbl
  refine W.widen (k := 400) (n := 2000) (Nat.le_of_ble_eq_true rfl) (Nat.le_of_ble_eq_true rfl) ?_
  refine lv_aload hx hb dL_law_36 (lv_at hl 0 rfl) ?_
  refine lv_iconst (v := 0) hx hb dL_law_38 (by decide) ?_
  refine lv_bipush (v := 60) hx hb dL_law_39 (by decide) ?_
  refine h_iast (cx := 306) (j := 0) K hS (eLL_306 G _) (by decide) (by decide) (by decide) dL_law_41 (fun H locs hS => ?_)
  refine lv_aload hx hb dL_law_42 (lv_at hl 0 rfl) ?_
  refine lv_iconst (v := 1) hx hb dL_law_44 (by decide) ?_
  refine lv_bipush (v := 10) hx hb dL_law_45 (by decide) ?_
  refine h_iast (cx := 306) (j := 1) K hS (eLL_306 G _) (by decide) (by decide) (by decide) dL_law_47 (fun H locs hS => ?_)
  refine lv_iconst (v := 0) hx hb dL_law_48 (by decide) ?_
  refine lv_istore (lv' := [(7, .int 0), (6, .ref (s.heap.size + 306)), (5, .ref (s.heap.size + 305)), (4, .ref (s.heap.size + 304)), (3, .ref (s.heap.size + 303)), (2, .ref (s.heap.size + 302)), (1, .ref (s.heap.size + 0)), (0, .ref b)]) hx hb dL_law_49 hl (by decide) rfl (fun ls hl => ?_)
  exact law_loop hL hE C0 60 0 rfl z0 _ H locs ls SS_0 (by decide) hS (lv_sub hl [7, 6, 5, 4, 3, 2, 1, 0] rfl)
theorem whole_start (l : Launch) (hflags : l.flags = flags0) (hL : L ≤ 260) (C0 : lw_At p s m meth c b L xs) : W p l e room_1 s m #[Value.ref b] below meth c s.heap [] 0 0 (lw_Z below #[Value.ref b] s) (entryFrame m ([Value.ref b] : List Value).toArray 18) := law_start hL C0
end LP
