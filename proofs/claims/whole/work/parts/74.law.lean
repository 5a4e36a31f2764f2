/-! THE CLAIM OUT OF ONE WALK OF THE LAW'S BODY. Your part is whole_start (and what it stands on); all else here is the same for every law, but numbers. -/
def R_law : String := "CreakingGhostsLaw"
def lw_P (b : Addr) (xs : List Int32) (args : Array Value) (s : State) : Prop := args = #[.ref b] ∧ s.IntsAt b xs ∧ xs.length ≤ 2560 ∧ (Jvm.Cond.and given_1 narrow_1).before args s = true
def lw_Q (_ : Array Value) (s : State) (o : Outcome) (t : State) : Prop := o = .returned (some (.int 1)) ∧ Framed s o t [] 600000 7302250
def lw_Z (below : List Frame) (a : Array Value) (s : State) : State → Prop := fun t => ∃ o, t.status = .running ∧ Ended t below o ∧ lw_Q a s o t
/-- the law's own end, with 1 on the stack, nothing written that was there before, its room as the claim has it -/
theorem lw_ret {p : Program} {l : Launch} {e : Env} {s : State} {m : MethodId} {below : List Frame} {meth : Method} {c : Code} {b : Nat} (hx : p.tables.exec = Jvm.exec) (hb : c.code = code) (hr : meth.sig.returnType = ret) (hlocks : meth.locks = false) {pc : Nat} {H : Heap} {ls : Array Slot} (hdg : decode code pc = .ok (.ireturn, 1)) : W p l e room_1 s m #[Value.ref b] below meth c H [] 600000 7302250 (lw_Z below #[Value.ref b] s) (F0 m pc ls [.int 1]) := by
  intro T hT X
  obtain ⟨fs, hret, hrun, hended, hW, hframe⟩ := X.leave (v := some (.int 1)) (hlocks := hlocks) (fun h => by rw [hr] at h; cases h)
  have hmeth' : T.vm.method? m = some meth := X.method'
  refine ⟨T.setFrames fs, ?_, .returned (some (.int 1)), hrun, hended, rfl, ⟨_, rfl⟩, hW, hframe⟩
  jvm_step X.here [X.here.top, hx, hb, hdg, hmeth', hr, ret, narrow_b1]
  (try refine ⟨rfl, ?_⟩); (try refine ⟨rfl, ?_⟩)
  first | (intro acts; rw [hret _ acts rfl rfl rfl]) | rw [hret _ _ rfl rfl rfl]
  exact Steps.refl _
/-- what holds at the law's entry: the machine, the code, the tables' words (any of lw_tbl by 'hts w (by decide +kernel)'), the script of L ints xs at the cell b, what the Statement gives of the start (any of its parts by flat_of_before) -/
def lw_At (p : Program) (s : State) (m : MethodId) (meth : Method) (c : Code) (b L : Nat) (xs : Nat → Int32) : Prop :=
  p.tables.exec = Jvm.exec ∧ c.code = code ∧ meth.sig.returnType = ret ∧ c.maxLocals = 4 ∧ s.vm.findClass R_law = some m.cls ∧ (∀ w ∈ lw_tbl, w.before #[Value.ref b] s = true) ∧ va_X b L xs s s.heap ∧ b < s.heap.size ∧ meth.locks = false ∧ (Jvm.Cond.and given_1 narrow_1).before #[Value.ref b] s = true
section LP
theorem lw_cmp {L i : Nat} (hL : L ≤ 2560) (hi : i ≤ 2560) : nI L - 5 < nI i ↔ L < i + 5 := by
  have e : (nI L - 5).toInt = (L : Int) - 5 := pk_sub_toInt (a := L) (b := 5) (by omega) (by decide)
  rw [Int32.lt_iff_toInt_lt, e, nI_toInt (by omega)]
  omega
variable {p : Program} {l : Launch} {e : Env} {s : State} {m : MethodId} {below : List Frame} {meth : Method} {c : Code} {G : gG} {b L : Nat} {xs : Nat → Int32}
set_option maxHeartbeats 4000000 in
set_option maxRecDepth 100000 in
/-- the law's loop: at its head, with k calls behind it, class and check agree -/
theorem law_loop (hL : L ≤ 2560) (hE : gEnv G s) (C0 : lw_At p s m meth c b L xs) : ∀ (d k : Nat), L < 5 * k + 5 + 5 * d → 5 * k ≤ 2560 → ∀ (x u : gS) (H : Heap) (locs : List Loc) (ls : Array Slot), RR (100000 + 81 * k) x u → lSt G s.heap.size s x u H locs → lv_has ls 4 [(0, .ref b), (1, .ref (s.heap.size + 0)), (2, .ref (s.heap.size + 302 + 0)), (3, .int (nI (5 * k)))] → W p l e room_1 s m #[Value.ref b] below meth c H locs 600000 7302250 (lw_Z below #[Value.ref b] s) (F0 m 18 ls []) := by
  obtain ⟨hx, hb, hr, hml, hown, hts, hX, hbl, hlocks, hgv⟩ := id C0
  have K : gK p s m #[Value.ref b] meth c G cL_law 4 RL (some .boolean) := ⟨hx, hb, hml, hown, fun w hw => hts w (List.mem_filter.mp hw).1, hE, hr, hlocks⟩
  have hbo : ¬ cFr s.heap.size b := Nat.not_le.mpr hbl
  have leave : ∀ (H : Heap) (locs : List Loc) (ls : Array Slot) (x u : gS), lSt G s.heap.size s x u H locs → W p l e room_1 s m #[Value.ref b] below meth c H locs 600000 7302250 (lw_Z below #[Value.ref b] s) (F0 m 916 ls []) := by
    intro H locs ls x u hS
    refine lv_iconst (v := 1) hx hb dL_law_916 (by decide) ?_
    refine va_forget (fun q hq => hS.2.2.2.2.2 q hq) ?_
    exact lw_ret hx hb hr hlocks dL_law_917
  intro d
  induction d with
  | zero =>
    intro k hd hk x u H locs ls hR hS hl
    refine lv_iload_n hx hb dL_law_18 rfl (lv_at hl 3 rfl) ?_
    refine lv_aload_n hx hb dL_law_19 rfl (lv_at hl 0 rfl) ?_
    refine va_slen hx hb hX hbl hbo hS.2.2.2 dL_law_20 ?_
    refine lv_iconst (v := 5) hx hb dL_law_21 (by decide) ?_
    refine lv_isub hx hb dL_law_22 ?_
    refine lv_icmp_gt (tgt := 916) hx hb dL_law_23 (by decide) (fun _ => leave _ _ _ _ _ hS) (fun c1 => absurd ((lw_cmp hL hk).mpr (by omega)) c1)
  | succ d ih =>
    intro k hd hk x u H locs ls hR hS hl
    refine lv_iload_n hx hb dL_law_18 rfl (lv_at hl 3 rfl) ?_
    refine lv_aload_n hx hb dL_law_19 rfl (lv_at hl 0 rfl) ?_
    refine va_slen hx hb hX hbl hbo hS.2.2.2 dL_law_20 ?_
    refine lv_iconst (v := 5) hx hb dL_law_21 (by decide) ?_
    refine lv_isub hx hb dL_law_22 ?_
    refine lv_icmp_gt (tgt := 916) hx hb dL_law_23 (by decide) (fun _ => leave _ _ _ _ _ hS) (fun c1 => ?_)
    have hi : 5 * k + 5 ≤ L := Nat.not_lt.mp fun q => c1 ((lw_cmp hL hk).mpr q)
    have kont : ∀ (x1 u1 : gS) (H : Heap) (locs : List Loc), RR (100000 + 81 * k + 81) x1 u1 → lSt G s.heap.size s x1 u1 H locs → W p l e room_1 s m #[Value.ref b] below meth c H locs 600000 7302250 (lw_Z below #[Value.ref b] s) (F0 m 910 ls []) := by
      intro x1 u1 H locs hR hS
      refine lv_iinc (v := nI (5 * k) + 5) (lv' := [(3, .int (nI (5 * k) + 5)), (0, .ref b), (1, .ref (s.heap.size + 0)), (2, .ref (s.heap.size + 302 + 0))]) hx hb dL_law_910 hl (k := 3) rfl rfl (by decide) rfl (fun ls hl => ?_)
      refine lv_goto (tgt := 18) hx hb dL_law_913 (by decide) ?_
      rw [show nI (5 * k) + 5 = nI (5 * (k + 1)) from nI_add (5 * k) 5] at hl
      exact ih (k + 1) (by omega) (by omega) x1 u1 H locs ls hR hS (lv_sub hl [1, 2, 3, 0] rfl)
    refine l_arg0 K hX hbl hbo hS (lv_at hl 0 rfl) (lv_at hl 3 rfl) (by omega) hL dL_law_26 dL_law_27 dL_law_28 ?_
    refine lv_bipush (v := 31) hx hb dL_law_29 (by decide) ?_
    refine lv_iand hx hb dL_law_31 ?_
    obtain ⟨j, hj, ej⟩ := pk_andE (xs (5 * k)) (m := 31) 5 (by decide)
    rw [ej]
    have hB1 : 99999 ≤ 100000 + 81 * k := by omega
    have hB2 : 100000 + 81 * k + 1000 < 2 ^ 31 := by omega
    rcases (show j = 0 ∨ j = 1 ∨ j = 2 ∨ j = 3 ∨ j = 4 ∨ j = 5 ∨ j = 6 ∨ j = 7 ∨ j = 8 ∨ j = 9 ∨ j = 10 ∨ j = 11 ∨ j = 12 ∨ j = 13 ∨ j = 14 ∨ j = 15 ∨ j = 16 ∨ j = 17 ∨ j = 18 ∨ j = 19 ∨ j = 20 ∨ j = 21 ∨ j = 22 ∨ j = 23 ∨ j = 24 ∨ j = 25 ∨ 26 ≤ j by omega) with rfl | rfl | rfl | rfl | rfl | rfl | rfl | rfl | rfl | rfl | rfl | rfl | rfl | rfl | rfl | rfl | rfl | rfl | rfl | rfl | rfl | rfl | rfl | rfl | rfl | rfl | h26
    · refine lv_tableIn (off := 120) (tgt := 152) hx hb dL_law_32 (by decide) (by decide) rfl (by decide) ?_
      exact lo_0 K hX hbl hbo hS hR hB1 hB2 hl hi hL kont
    · refine lv_tableIn (off := 153) (tgt := 185) hx hb dL_law_32 (by decide) (by decide) rfl (by decide) ?_
      exact lo_1 K hX hbl hbo hS hR hB1 hB2 hl hi hL kont
    · refine lv_tableIn (off := 206) (tgt := 238) hx hb dL_law_32 (by decide) (by decide) rfl (by decide) ?_
      exact lo_2 K hX hbl hbo hS hR hB1 hB2 hl hi hL kont
    · refine lv_tableIn (off := 219) (tgt := 251) hx hb dL_law_32 (by decide) (by decide) rfl (by decide) ?_
      exact lo_3 K hX hbl hbo hS hR hB1 hB2 hl hi hL kont
    · refine lv_tableIn (off := 242) (tgt := 274) hx hb dL_law_32 (by decide) (by decide) rfl (by decide) ?_
      exact lo_4 K hX hbl hbo hS hR hB1 hB2 hl hi hL kont
    · refine lv_tableIn (off := 275) (tgt := 307) hx hb dL_law_32 (by decide) (by decide) rfl (by decide) ?_
      exact lo_5 K hX hbl hbo hS hR hB1 hB2 hl hi hL kont
    · refine lv_tableIn (off := 308) (tgt := 340) hx hb dL_law_32 (by decide) (by decide) rfl (by decide) ?_
      exact lo_6 K hX hbl hbo hS hR hB1 hB2 hl hi hL kont
    · refine lv_tableIn (off := 341) (tgt := 373) hx hb dL_law_32 (by decide) (by decide) rfl (by decide) ?_
      exact lo_7 K hX hbl hbo hS hR hB1 hB2 hl hi hL kont
    · refine lv_tableIn (off := 374) (tgt := 406) hx hb dL_law_32 (by decide) (by decide) rfl (by decide) ?_
      exact lo_8 K hX hbl hbo hS hR hB1 hB2 hl hi hL kont
    · refine lv_tableIn (off := 397) (tgt := 429) hx hb dL_law_32 (by decide) (by decide) rfl (by decide) ?_
      exact lo_9 K hX hbl hbo hS hR hB1 hB2 hl hi hL kont
    · refine lv_tableIn (off := 430) (tgt := 462) hx hb dL_law_32 (by decide) (by decide) rfl (by decide) ?_
      exact lo_10 K hX hbl hbo hS hR hB1 hB2 hl hi hL kont
    · refine lv_tableIn (off := 463) (tgt := 495) hx hb dL_law_32 (by decide) (by decide) rfl (by decide) ?_
      exact lo_11 K hX hbl hbo hS hR hB1 hB2 hl hi hL kont
    · refine lv_tableIn (off := 496) (tgt := 528) hx hb dL_law_32 (by decide) (by decide) rfl (by decide) ?_
      exact lo_12 K hX hbl hbo hS hR hB1 hB2 hl hi hL kont
    · refine lv_tableIn (off := 529) (tgt := 561) hx hb dL_law_32 (by decide) (by decide) rfl (by decide) ?_
      exact lo_13 K hX hbl hbo hS hR hB1 hB2 hl hi hL kont
    · refine lv_tableIn (off := 562) (tgt := 594) hx hb dL_law_32 (by decide) (by decide) rfl (by decide) ?_
      exact lo_14 K hX hbl hbo hS hR hB1 hB2 hl hi hL kont
    · refine lv_tableIn (off := 585) (tgt := 617) hx hb dL_law_32 (by decide) (by decide) rfl (by decide) ?_
      exact lo_15 K hX hbl hbo hS hR hB1 hB2 hl hi hL kont
    · refine lv_tableIn (off := 628) (tgt := 660) hx hb dL_law_32 (by decide) (by decide) rfl (by decide) ?_
      exact lo_16 K hX hbl hbo hS hR hB1 hB2 hl hi hL kont
    · refine lv_tableIn (off := 661) (tgt := 693) hx hb dL_law_32 (by decide) (by decide) rfl (by decide) ?_
      exact lo_17 K hX hbl hbo hS hR hB1 hB2 hl hi hL kont
    · refine lv_tableIn (off := 684) (tgt := 716) hx hb dL_law_32 (by decide) (by decide) rfl (by decide) ?_
      exact lo_18 K hX hbl hbo hS hR hB1 hB2 hl hi hL kont
    · refine lv_tableIn (off := 717) (tgt := 749) hx hb dL_law_32 (by decide) (by decide) rfl (by decide) ?_
      exact lo_19 K hX hbl hbo hS hR hB1 hB2 hl hi hL kont
    · refine lv_tableIn (off := 740) (tgt := 772) hx hb dL_law_32 (by decide) (by decide) rfl (by decide) ?_
      exact lo_20 K hX hbl hbo hS hR hB1 hB2 hl hi hL kont
    · refine lv_tableIn (off := 793) (tgt := 825) hx hb dL_law_32 (by decide) (by decide) rfl (by decide) ?_
      exact lo_21 K hX hbl hbo hS hR hB1 hB2 hl hi hL kont
    · refine lv_tableIn (off := 806) (tgt := 838) hx hb dL_law_32 (by decide) (by decide) rfl (by decide) ?_
      exact lo_22 K hX hbl hbo hS hR hB1 hB2 hl hi hL kont
    · refine lv_tableIn (off := 819) (tgt := 851) hx hb dL_law_32 (by decide) (by decide) rfl (by decide) ?_
      exact lo_23 K hX hbl hbo hS hR hB1 hB2 hl hi hL kont
    · refine lv_tableIn (off := 832) (tgt := 864) hx hb dL_law_32 (by decide) (by decide) rfl (by decide) ?_
      exact lo_24 K hX hbl hbo hS hR hB1 hB2 hl hi hL kont
    · refine lv_tableIn (off := 855) (tgt := 887) hx hb dL_law_32 (by decide) (by decide) rfl (by decide) ?_
      exact lo_25 K hX hbl hbo hS hR hB1 hB2 hl hi hL kont
    · refine lv_tableOut (tgt := 910) hx hb dL_law_32 (Or.inr (by rw [nI_toInt (by omega)]; omega)) (by decide) ?_
      exact kont x u H locs (hR.mo (Nat.le_add_right _ _)) hS
theorem Lclass_len (G : gG) (o : Nat) : (Lclass G o).length = 302 := by
  rw [← cm_Lclass]
  simp [cm]
theorem lSt_0 {o : Nat} {H : Heap} {locs : List Loc} (h : cS G o (Lclass G o ++ Lmodel G (o + 302)) s H locs) : lSt G o s sX sM H locs := by
  obtain ⟨hP, hz, hV, -⟩ := h
  rw [cw_app, Lclass_len, Lclass_eq, Lmodel_eq] at hP
  rw [List.length_append, Lclass_len] at hz
  refine ⟨fun k q hk => hP k q ?_, fun k q hk => hP (302 + k) q ?_, by rw [hz]; show o + 311 ≤ o + (302 + 9); omega, hV⟩
  · rw [List.getElem?_append_left (List.getElem?_eq_some_iff.mp hk).1]
    exact hk
  · have hl : (gL (entX G o) o 302 sX).length = 302 := by simp [gL]
    rw [List.getElem?_append_right (by omega), hl, Nat.add_sub_cancel_left]
    exact hk
set_option maxHeartbeats 4000000 in
set_option maxRecDepth 100000 in
theorem law_start (hL : L ≤ 2560) (C0 : lw_At p s m meth c b L xs) : W p l e room_1 s m #[Value.ref b] below meth c s.heap [] 0 0 (lw_Z below #[Value.ref b] s) (entryFrame m ([Value.ref b] : List Value).toArray 4) := by
  obtain ⟨hx, hb, hr, hml, hown, hts, hX, hbl, hlocks, hgv⟩ := id C0
  obtain ⟨G, hE⟩ := gEnv_ex hts
  have hA : va_AO RX0 s := ao_ex hts
  have K : gK p s m #[Value.ref b] meth c G cL_law 4 RL (some .boolean) := ⟨hx, hb, hml, hown, fun w hw => hts w (List.mem_filter.mp hw).1, hE, hr, hlocks⟩
  have hl := lv_entry ([.ref b]) (n := 4) (Nat.le_of_ble_eq_true rfl)
  rw [lg_entry_eq]
  generalize (lg_sl ([.ref b]) ++ List.replicate (4 - (lg_sl ([.ref b])).length) Slot.unset).toArray = ls at hl ⊢
  have hl : lv_has ls 4 [(0, .ref b)] := hl
  have hS : cS G s.heap.size [] s s.heap [] := ⟨fun k q hk => by simp [cw] at hk, rfl, va_S.rf, Nat.le_refl _⟩
  refine c_new (fs := [.null, .null, .null, .null, .int 0, .null]) (ci := 9) K hS rfl wmX10 tyX10_ok (gmd (by decide +kernel) rfl) (gmd (by decide +kernel) rfl) (gmd (by decide +kernel) rfl) (fun j hj => by rcases (show j = 0 ∨ j = 1 ∨ j = 2 ∨ j = 3 ∨ j = 4 ∨ j = 5 by omega) with rfl | rfl | rfl | rfl | rfl | rfl <;> rfl) (Nat.le_of_ble_eq_true rfl) (Nat.le_of_ble_eq_true rfl) dL_law_0 (fun H hS => ?_)
  refine lv_dup hx hb dL_law_3 rfl ?_
  refine c_runIg (As := []) (rest := [.ref (s.heap.size + 0)]) (mL := 1) (n := 0) (y := yX10_init) (M := Lclass G (s.heap.size + 0)) (mc := 301) (ms := 1804) K hS (c_preA K hS hA) (gmd (by decide +kernel) rfl) (gmd (by decide +kernel) rfl) (gmd (by decide +kernel) rfl) (gmd (by decide +kernel) rfl) (by decide +kernel) rfl (c_X10_init _) ⟨rfl, rfl⟩ rfl rfl (Nat.le_of_ble_eq_true rfl) ⟨Nat.le_of_ble_eq_true rfl, Nat.le_of_ble_eq_true rfl⟩ hl.1 ⟨Nat.le_of_ble_eq_true rfl, Nat.le_of_ble_eq_true rfl⟩ dL_law_4 (fun H locs hS => ?_)
  have hS : cS G s.heap.size (Lclass G s.heap.size) s H locs := hS
  refine lv_astore_n (lv' := [(1, .ref (s.heap.size + 0)), (0, .ref b)]) hx hb dL_law_7 rfl hl (by decide) rfl (fun ls hl => ?_)
  refine c_new (fs := [.null, .null, .int 0, .null, .null, .null, .int 0, .null, .null, .int 0, .int 0, .null, .int 0, .int 0, .int 0]) (ci := 10) K hS rfl wmX11 tyX11_ok (gmd (by decide +kernel) rfl) (gmd (by decide +kernel) rfl) (gmd (by decide +kernel) rfl) (fun j hj => by rcases (show j = 0 ∨ j = 1 ∨ j = 2 ∨ j = 3 ∨ j = 4 ∨ j = 5 ∨ j = 6 ∨ j = 7 ∨ j = 8 ∨ j = 9 ∨ j = 10 ∨ j = 11 ∨ j = 12 ∨ j = 13 ∨ j = 14 by omega) with rfl | rfl | rfl | rfl | rfl | rfl | rfl | rfl | rfl | rfl | rfl | rfl | rfl | rfl | rfl <;> rfl) (Nat.le_of_ble_eq_true rfl) (Nat.le_of_ble_eq_true rfl) dL_law_8 (fun H hS => ?_)
  refine lv_dup hx hb dL_law_11 rfl ?_
  refine c_runI (As := []) (rest := [.ref (s.heap.size + (Lclass G s.heap.size).length)]) (mL := 1) (n := 0) (y := yX11_init) (M := Lmodel G (s.heap.size + (Lclass G s.heap.size).length)) (mc := 8) (ms := 1388) K hS (gmd (by decide +kernel) rfl) (gmd (by decide +kernel) rfl) (gmd (by decide +kernel) rfl) (gmd (by decide +kernel) rfl) (by decide +kernel) rfl (c_X11_init _) ⟨rfl, rfl⟩ rfl rfl (Nat.le_of_ble_eq_true rfl) ⟨Nat.le_of_ble_eq_true rfl, Nat.le_of_ble_eq_true rfl⟩ hl.1 ⟨Nat.le_of_ble_eq_true rfl, Nat.le_of_ble_eq_true rfl⟩ dL_law_12 (fun H locs hS => ?_)
  rw [Lclass_len] at hS ⊢
  have hS := lSt_0 hS
  refine W.widen (k := 600000) (n := 7302250) (Nat.le_of_ble_eq_true rfl) (Nat.le_of_ble_eq_true rfl) ?_
  refine lv_astore_n (lv' := [(2, .ref (s.heap.size + 302 + 0)), (1, .ref (s.heap.size + 0)), (0, .ref b)]) hx hb dL_law_15 rfl hl (by decide) rfl (fun ls hl => ?_)
  refine lv_iconst (v := 0) hx hb dL_law_16 (by decide) ?_
  refine lv_istore_n (lv' := [(3, .int 0), (2, .ref (s.heap.size + 302 + 0)), (1, .ref (s.heap.size + 0)), (0, .ref b)]) hx hb dL_law_17 rfl hl (by decide) rfl (fun ls hl => ?_)
  exact law_loop hL hE C0 512 0 (by omega) (by decide) sX sM H locs ls RR_0 hS (lv_sub hl [3, 2, 1, 0] rfl)
theorem whole_start (l : Launch) (hflags : l.flags = flags0) (hL : L ≤ 2560) (C0 : lw_At p s m meth c b L xs) : W p l e room_1 s m #[Value.ref b] below meth c s.heap [] 0 0 (lw_Z below #[Value.ref b] s) (entryFrame m ([Value.ref b] : List Value).toArray 4) := law_start hL C0
end LP
