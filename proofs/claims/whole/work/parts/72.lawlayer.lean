section LE
/-- the machine at the law's entry has what the layer asks -/
theorem arr_ex {s : State} {args : Array Value} {ty : FieldType} (h : (Cond.arrayClass ty).before args s = true) (hr : ∀ (U : State) (cA : ClassId), va_RA U cA ty ↔ U.vm.findClass ("[" ++ ty.toString) = some cA) : ∃ cA : ClassId, ArrOfT s cA ty ∧ va_RA s cA ty := by
  obtain ⟨cA, kA, comp, h1, h2, h3⟩ := Cond.arrayClass_spec h
  exact ⟨cA, fun n z => ⟨fun k h => (by cases h), kA, h2, comp, h3⟩, (hr s cA).mpr h1⟩
theorem arq_ex {s : State} {args : Array Value} {C : String} (h : (Cond.arrayOver (.object C)).before args s = true) : ∃ cA : ClassId, ArrOfT s cA (.object C) ∧ va_RA s cA (.object C) := by
  obtain ⟨comp, cA, kA, f1, -, f2, f3, f4⟩ := Cond.arrayOver_spec h
  exact ⟨cA, fun n z => ⟨fun k h => (by cases h), kA, f2, comp, f3⟩, kA, comp, f2, f3, f1, f4⟩
theorem cls_ex {s : State} {args : Array Value} (hts : ∀ w ∈ gT, w.before args s = true) {C : String} {T : u_T} {N : Nat} (hw : ∀ w ∈ u_ws C T N, w ∈ gT) (hi : Cond.instantiable C N ∈ gT) : ∃ (c : ClassId) (iS : Nat → Nat), ∀ q : vw_C, some (C, T, N) = some q → u_Kn s q.1 q.2.1 q.2.2 c iS := by
  obtain ⟨c, iS, h⟩ := u_known (n := N) hts hw (hts _ hi)
  exact ⟨c, iS, fun q hq => by cases hq; exact h⟩
set_option maxRecDepth 100000 in
theorem gEnv_ex {s : State} {args : Array Value} (hts : ∀ w ∈ lw_tbl, w.before args s = true) : ∃ G : gG, gEnv G s := by
  have hg : ∀ w ∈ gT, w.before args s = true := fun w hw => hts w (List.mem_filter.mp hw).1
  have hex : ∀ k : Nat, ∃ (c : ClassId) (iS : Nat → Nat), ∀ q : vw_C, gCls[k]? = some q → u_Kn s q.1 q.2.1 q.2.2 c iS := by
    intro k
    match k with
    | 0 => exact cls_ex hg wmX0 (gmd (by decide +kernel) rfl)
    | 1 => exact cls_ex hg wmX1 (gmd (by decide +kernel) rfl)
    | 2 => exact cls_ex hg wmX2 (gmd (by decide +kernel) rfl)
    | 3 => exact cls_ex hg wmX3 (gmd (by decide +kernel) rfl)
    | 4 => exact cls_ex hg wmX4 (gmd (by decide +kernel) rfl)
    | 5 => exact cls_ex hg wmX5 (gmd (by decide +kernel) rfl)
    | 6 => exact cls_ex hg wmX6 (gmd (by decide +kernel) rfl)
    | 7 => exact cls_ex hg wmX7 (gmd (by decide +kernel) rfl)
    | 8 => exact cls_ex hg wmX9 (gmd (by decide +kernel) rfl)
    | 9 => exact cls_ex hg wmX10 (gmd (by decide +kernel) rfl)
    | 10 => exact cls_ex hg wmX11 (gmd (by decide +kernel) rfl)
    | k + 11 => exact ⟨0, fun _ => 0, fun q hq => by
        have h1 : k + 11 < gCls.length := (List.getElem?_eq_some_iff.mp hq).1
        have h2 : gCls.length = 11 := rfl
        omega⟩
  obtain ⟨aI, i1, i2⟩ := arr_ex (ty := .int) (hts (.arrayClass .int) (by decide +kernel)) (fun _ _ => Iff.rfl)
  obtain ⟨aZ, z1, z2⟩ := arr_ex (ty := .boolean) (hts (.arrayClass .boolean) (by decide +kernel)) (fun _ _ => Iff.rfl)
  obtain ⟨aC, c1, c2⟩ := arr_ex (ty := .char) (hts (.arrayClass .char) (by decide +kernel)) (fun _ _ => Iff.rfl)
  obtain ⟨aQ, q1, q2⟩ := arq_ex (C := "CreakingGhosts$Attic") (hts (.arrayOver (.object "CreakingGhosts$Attic")) (by decide +kernel))
  refine ⟨((fun k => Classical.choose (hex k), fun k => Classical.choose (Classical.choose_spec (hex k))), fun t => if t = 0 then aI else if t = 1 then aQ else if t = 2 then aZ else aC), ⟨fun k q hq => Classical.choose_spec (Classical.choose_spec (hex k)) q hq, fun k q hq => ?_⟩, fun w hw => ?_⟩
  · match k, hq with
    | 0, hq => cases hq; exact ⟨i1, i2⟩
    | 1, hq => cases hq; exact ⟨q1, q2⟩
    | 2, hq => cases hq; exact ⟨z1, z2⟩
    | 3, hq => cases hq; exact ⟨c1, c2⟩
    | k + 4, hq => simp [gTys] at hq
  · simp only [gNestW, List.mem_cons, List.not_mem_nil, or_false] at hw
    rcases hw with rfl | rfl | rfl | rfl | rfl | rfl | rfl | rfl | rfl | rfl | rfl | rfl | rfl | rfl <;> exact va_Nw.of rfl (hts _ (by decide +kernel))
theorem ao_ex {s : State} {args : Array Value} (hts : ∀ w ∈ lw_tbl, w.before args s = true) : va_AO RX0 s := va_AO.of (hts (.arrayOver (.object RX0)) (by decide +kernel))
end LE
section LL
variable {p : Program} {l : Launch} {e : Env} {R : Room} {s : State} {m : MethodId} {args : Array Value} {below : List Frame} {meth : Method} {c : Code} {H : Heap} {locs : List Loc} {cells slots : Nat} {Q : State → Prop}
variable {cc : ByteArray} {pc nL : Nat} {ls : Array Slot} {rest st0 : List Value} {G : gG} {o : Nat} {own : String} {ret : Option FieldType}
variable {idx mL n : Nat} {y : MethodName} {C : String} {b : ByteArray} {rm : Room} {As : List Value} {x u : gS}
/-- the law's state: the class's world at o, the check's behind it -/
def lSt (G : gG) (o : Nat) (s : State) (x u : gS) (H : Heap) (locs : List Loc) : Prop := gP G (entX G o) o 302 x H ∧ gP G (entM G (o + 302)) (o + 302) 9 u H ∧ o + 311 ≤ H.size ∧ va_S (cFr o) s.heap H locs
theorem l_go {ent ent2 : gEnt} {a N a2 N2 : Nat} {σ2 : gS} {q : Int32 × gS} {ar : Array Value} (hP2 : gP G ent2 a2 N2 σ2 H) (hsz : a2 + N2 ≤ H.size) (hV : va_S (cFr o) s.heap H locs) (hao : o ≤ a) (hap : ∀ k, k < N2 → ¬ gA a N (a2 + k)) (hr : va_Run p l e R s m args below meth c H locs cells slots 0 0 (F0 m pc ls st0) rest (gQi G ent a N q ar) (gA a N))
    (kk : ∀ (H1 : Heap) (locs1 : List Loc), gP G ent a N q.2 H1 → gP G ent2 a2 N2 σ2 H1 → H.size ≤ H1.size → va_S (cFr o) s.heap H1 locs1 → W p l e R s m args below meth c H1 locs1 cells slots Q (F0 m (pc + 3) ls (.int q.1 :: rest))) : W p l e R s m args below meth c H locs cells slots Q (F0 m pc ls st0) := by
  intro T hT X
  obtain ⟨v, st₀, t, T', L, h0, X', hL, e1, e2, ⟨⟨hv, hP1⟩, hF⟩, st⟩ := hr T hT X
  have hv := Outcome.returned.inj hv
  subst hv
  have hz : H.size ≤ T'.heap.size := by rw [e1]; have := hF.1; rw [h0] at this; exact this
  have hk : ∀ q, q < H.size → ¬ gA a N q → T'.heap[q]? = H[q]? := fun q h1 h2 => by
    rw [e1, hF.2 q (by rw [h0]; exact h1) h2, h0]
  rw [← e1] at hP1
  have hP2' : gP G ent2 a2 N2 σ2 T'.heap := va_P.kept hP2 fun k w hw => by
    obtain ⟨hk2, rfl⟩ := gL_at hw
    exact hk _ (by show a2 + k < H.size; omega) (hap k hk2)
  obtain ⟨t2, a1, b1⟩ := kk T'.heap (locs ++ L) hP1 hP2' hz ⟨Nat.le_trans hV.1 hz, fun q h2 h3 => by
      rw [hk q (Nat.lt_of_lt_of_le h2 hV.1) fun z => h3 (Nat.le_trans hao z.1)]
      exact hV.2.1 q h2 h3, fun q hq => by
      rcases List.mem_append.mp hq with h | h
      · exact hV.2.2 q h
      · exact Nat.le_trans hao (hL q h).1⟩ T' rfl X'
  exact ⟨t2, st t2 a1, b1⟩
/-- the class is asked -/
theorem l_X {q : Int32 × gS} {ry : Option FieldType} (K : gK p s m args meth c G cc nL own ret) (hS : lSt G o s x u H locs) (L : gMV own idx y RX10 b mL ry n) (hM : Met l y (gW y b mL ry) rm (gPc G (entX G o) o 302 (.ref (o + 0) :: As) x) (gQi G (entX G o) o 302 q) 0 0 (gA o 302)) (hn : As.length = n) (hst : st0 = As.reverse ++ .ref (o + 0) :: rest) (hw : (rest.map fun v => v.category).sum ≤ 8) (hR : gR rm R mL) (hls : ls.size = nL) (hcs : cells ≤ R.cells ∧ slots ≤ R.slots) (hd : decode cc pc = .ok (.invokevirtual idx, 3))
    (kk : ∀ (H1 : Heap) (locs1 : List Loc), lSt G o s q.2 u H1 locs1 → W p l e R s m args below meth c H1 locs1 cells slots Q (F0 m (pc + 3) ls (.int q.1 :: rest))) : W p l e R s m args below meth c H locs cells slots Q (F0 m pc ls st0) := by
  obtain ⟨h1, h2, h3, h4, h5, h6⟩ := L
  obtain ⟨hP, hP2, hsz, hV⟩ := hS
  have K2 := K
  obtain ⟨hx, hb, hml, hown, hts, hE, hr, hlk⟩ := K
  refine l_go (a := o) (N := 302) (a2 := o + 302) (N2 := 9) hP2 hsz hV (Nat.le_refl _) (fun k _ z => absurd z.2 (by omega)) (va_runV (As := As) (rest := rest) ⟨hx, hb, hml, hown, hts⟩ hM ⟨g_callB K2 h5 h4 h1 h6 hR, hts _ h2, hts _ h3⟩ ⟨gPc_blind, va_recv (q := (RX10, TX10, 6)) (ci := 9) hE.1 hP rfl (gL_get (c := 0) (by decide)), fun U hU hW => ⟨rfl, by rw [hU]; exact hP, hE.warm hW⟩⟩ rfl hn hls hst (lv_room (pc := pc) (ls := ls) (m := m) (rest := rest) hw) hd hcs) (fun H1 locs1 a1 a2 a3 a4 => kk H1 locs1 ⟨a1, a2, Nat.le_trans hsz a3, a4⟩)
/-- the check is asked -/
theorem l_M {q : Int32 × gS} {ry : Option FieldType} (K : gK p s m args meth c G cc nL own ret) (hS : lSt G o s x u H locs) (L : gMV own idx y RX11 b mL ry n) (hM : Met l y (gW y b mL ry) rm (gPc G (entM G (o + 302)) (o + 302) 9 (.ref (o + 302 + 0) :: As) u) (gQi G (entM G (o + 302)) (o + 302) 9 q) 0 0 (gA (o + 302) 9)) (hn : As.length = n) (hst : st0 = As.reverse ++ .ref (o + 302 + 0) :: rest) (hw : (rest.map fun v => v.category).sum ≤ 8) (hR : gR rm R mL) (hls : ls.size = nL) (hcs : cells ≤ R.cells ∧ slots ≤ R.slots) (hd : decode cc pc = .ok (.invokevirtual idx, 3))
    (kk : ∀ (H1 : Heap) (locs1 : List Loc), lSt G o s x q.2 H1 locs1 → W p l e R s m args below meth c H1 locs1 cells slots Q (F0 m (pc + 3) ls (.int q.1 :: rest))) : W p l e R s m args below meth c H locs cells slots Q (F0 m pc ls st0) := by
  obtain ⟨h1, h2, h3, h4, h5, h6⟩ := L
  obtain ⟨hP, hP2, hsz, hV⟩ := hS
  have K2 := K
  obtain ⟨hx, hb, hml, hown, hts, hE, hr, hlk⟩ := K
  refine l_go (a := o + 302) (N := 9) (a2 := o) (N2 := 302) hP (by omega) hV (by omega) (fun k hk z => absurd z.1 (by omega)) (va_runV (As := As) (rest := rest) ⟨hx, hb, hml, hown, hts⟩ hM ⟨g_callB K2 h5 h4 h1 h6 hR, hts _ h2, hts _ h3⟩ ⟨gPc_blind, va_recv (q := (RX11, TX11, 15)) (ci := 10) hE.1 hP2 rfl (gL_get (c := 0) (by decide)), fun U hU hW => ⟨rfl, by rw [hU]; exact hP2, hE.warm hW⟩⟩ rfl hn hls hst (lv_room (pc := pc) (ls := ls) (m := m) (rest := rest) hw) hd hcs) (fun H1 locs1 a1 a2 a3 a4 => kk H1 locs1 ⟨a2, a1, Nat.le_trans hsz a3, a4⟩)
/-- an int of the script -/
theorem l_arg {ab L i j : Nat} {xs : Nat → Int32} {t : Int} (K : gK p s m args meth c G cc nL own ret) (hX : va_X ab L xs s s.heap) (hbl : ab < s.heap.size) (hbo : ¬ cFr o ab) (hS : lSt G o s x u H locs) (h0 : ls[0]? = some (.val (.ref ab))) (h3 : ls[3]? = some (.val (.int (nI i)))) (hij : i + j < L) (hL : L ≤ 2560) (d0 : decode cc pc = .ok (.aload_n 0, 1)) (d1 : decode cc (pc + 1) = .ok (.iload_n 3, 1)) (d2 : decode cc (pc + 2) = .ok (.iconst t, 1)) (ht : Int32.ofInt t = nI j) (d3 : decode cc (pc + 3) = .ok (.iadd, 1)) (d4 : decode cc (pc + 4) = .ok (.iaload, 1))
    (kk : W p l e R s m args below meth c H locs cells slots Q (F0 m (pc + 5) ls (.int (xs (i + j)) :: rest))) : W p l e R s m args below meth c H locs cells slots Q (F0 m pc ls rest) := by
  obtain ⟨hx, hb, hml, hown, hts, hE, hr, hlk⟩ := K
  refine lv_aload_n hx hb d0 rfl h0 ?_
  refine lv_iload_n hx hb d1 rfl h3 ?_
  refine lv_iconst hx hb d2 ht ?_
  refine lv_iadd hx hb d3 ?_
  rw [nI_add]
  refine va_sld hx hb hX hbl hbo hS.2.2.2 (vp_in_nI hij (by omega)) d4 ?_
  rw [nI_clamp (by omega)]
  exact kk
/-- an int of the script, at the round's own place -/
theorem l_arg0 {ab L i : Nat} {xs : Nat → Int32} (K : gK p s m args meth c G cc nL own ret) (hX : va_X ab L xs s s.heap) (hbl : ab < s.heap.size) (hbo : ¬ cFr o ab) (hS : lSt G o s x u H locs) (h0 : ls[0]? = some (.val (.ref ab))) (h3 : ls[3]? = some (.val (.int (nI i)))) (hij : i < L) (hL : L ≤ 2560) (d0 : decode cc pc = .ok (.aload_n 0, 1)) (d1 : decode cc (pc + 1) = .ok (.iload_n 3, 1)) (d4 : decode cc (pc + 2) = .ok (.iaload, 1))
    (kk : W p l e R s m args below meth c H locs cells slots Q (F0 m (pc + 3) ls (.int (xs i) :: rest))) : W p l e R s m args below meth c H locs cells slots Q (F0 m pc ls rest) := by
  obtain ⟨hx, hb, hml, hown, hts, hE, hr, hlk⟩ := K
  refine lv_aload_n hx hb d0 rfl h0 ?_
  refine lv_iload_n hx hb d1 rfl h3 ?_
  refine va_sld hx hb hX hbl hbo hS.2.2.2 (vp_in_nI hij (by omega)) d4 ?_
  rw [nI_clamp (by omega)]
  exact kk
end LL
