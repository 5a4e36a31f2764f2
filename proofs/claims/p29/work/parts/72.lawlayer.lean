section LE
/-- the machine at the law's entry has what the layer asks -/
theorem arr_ex {s : State} {args : Array Value} {ty : FieldType} (h : (Cond.arrayClass ty).before args s = true) (hr : ∀ (U : State) (cA : ClassId), va_RA U cA ty ↔ U.vm.findClass ("[" ++ ty.toString) = some cA) : ∃ cA : ClassId, ArrOfT s cA ty ∧ va_RA s cA ty := by
  obtain ⟨cA, kA, comp, h1, h2, h3⟩ := Cond.arrayClass_spec h
  exact ⟨cA, fun n z => ⟨fun k h => (by cases h), kA, h2, comp, h3⟩, (hr s cA).mpr h1⟩
theorem arq_ex {s : State} {args : Array Value} {C : String} (h : (Cond.arrayOver (.object C)).before args s = true) : ∃ cA : ClassId, ArrOfT s cA (.object C) ∧ va_RA s cA (.object C) := by
  obtain ⟨comp, cA, kA, f1, -, f2, f3, f4⟩ := Cond.arrayOver_spec h
  exact ⟨cA, fun n z => ⟨fun k h => (by cases h), kA, f2, comp, f3⟩, kA, comp, f2, f3, f1, f4⟩
theorem cls_ex {s : State} {args : Array Value} (hts : ∀ w ∈ gT, w.before args s = true) {C : String} {T : u_T} {N : Nat} (hw : ∀ w ∈ u_ws C T N, w ∈ gT) (hi : Cond.instantiable C N ∈ gT) : ∃ (c : ClassId) (iS : Nat → Nat), ∀ q : vw_C, some (C, T, N) = some q → u_Kn s q.1 q.2.1 q.2.2 c iS := by
  obtain ⟨c, iS, h⟩ := u_known (n := N) hts hw (hts _ hi)
  exact ⟨c, iS, fun q hq => by cases hq; exact h⟩
set_option maxRecDepth 100000 in
theorem gEnv_ex {s : State} {args : Array Value} (hts : ∀ w ∈ lw_tbl, w.before args s = true) : ∃ G : gG, gEnv G s := by
  have hg : ∀ w ∈ gT, w.before args s = true := fun w hw => hts w (List.mem_filter.mp hw).1
  have hex : ∀ k : Nat, ∃ (c : ClassId) (iS : Nat → Nat), ∀ q : vw_C, gCls[k]? = some q → u_Kn s q.1 q.2.1 q.2.2 c iS := by
    intro k
    match k with
    | 0 => exact cls_ex hg wmX0 (gmd (by decide +kernel) rfl)
    | 1 => exact cls_ex hg wmX1 (gmd (by decide +kernel) rfl)
    | 2 => exact cls_ex hg wmX2 (gmd (by decide +kernel) rfl)
    | 3 => exact cls_ex hg wmX3 (gmd (by decide +kernel) rfl)
    | 4 => exact cls_ex hg wmX4 (gmd (by decide +kernel) rfl)
    | 5 => exact cls_ex hg wmX5 (gmd (by decide +kernel) rfl)
    | 6 => exact cls_ex hg wmX6 (gmd (by decide +kernel) rfl)
    | 7 => exact cls_ex hg wmX7 (gmd (by decide +kernel) rfl)
    | 8 => exact cls_ex hg wmX9 (gmd (by decide +kernel) rfl)
    | 9 => exact cls_ex hg wmX10 (gmd (by decide +kernel) rfl)
    | k + 10 => exact ⟨0, fun _ => 0, fun q hq => by
        have h1 : k + 10 < gCls.length := (List.getElem?_eq_some_iff.mp hq).1
        have h2 : gCls.length = 10 := rfl
        omega⟩
  obtain ⟨aI, i1, i2⟩ := arr_ex (ty := .int) (hts (.arrayClass .int) (by decide +kernel)) (fun _ _ => Iff.rfl)
  obtain ⟨aQ, q1, q2⟩ := arq_ex (C := "CreakingGhosts$Attic") (hts (.arrayOver (.object "CreakingGhosts$Attic")) (by decide +kernel))
  refine ⟨((fun k => Classical.choose (hex k), fun k => Classical.choose (Classical.choose_spec (hex k))), fun t => if t = 0 then aI else aQ), ⟨fun k q hq => Classical.choose_spec (Classical.choose_spec (hex k)) q hq, fun k q hq => ?_⟩, fun w hw => ?_⟩
  · match k, hq with
    | 0, hq => cases hq; exact ⟨i1, i2⟩
    | 1, hq => cases hq; exact ⟨q1, q2⟩
    | k + 2, hq => simp [gTys] at hq
  · simp only [gNestW, List.mem_cons, List.not_mem_nil, or_false] at hw
    rcases hw with rfl | rfl | rfl | rfl | rfl | rfl | rfl | rfl | rfl | rfl | rfl | rfl | rfl <;> exact va_Nw.of rfl (hts _ (by decide +kernel))
theorem ao_ex {s : State} {args : Array Value} (hts : ∀ w ∈ lw_tbl, w.before args s = true) : va_AO RX0 s := va_AO.of (hts (.arrayOver (.object RX0)) (by decide +kernel))
end LE
