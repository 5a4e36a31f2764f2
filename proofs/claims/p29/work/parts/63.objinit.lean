section OI
variable {l : Launch} {G : gG}
/-- T x = new T(), T's constructor private to the nest, left in a final field: one step of the walk -/
theorem c_objN {p : Program} {e : Env} {R : Room} {s : State} {m : MethodId} {args : Array Value} {below : List Frame} {meth : Method} {c : Code} {H : Heap} {locs : List Loc} {cells slots : Nat} {Q : State → Prop} {cc b2 : ByteArray} {pc nL : Nat} {ls : Array Slot} {o : Nat} {own host C2 : String} {ret : Option FieldType} {L M : List va_E} {i0 i1 i2 ci ci2 k N N2 mc ms mL2 : Nat} {C : String} {fs fs2 : List Value} {T T2 : u_T} {t0 t2 : Nat → FieldType} {y : MethodName} {rm : Room} (K : gK p s m args meth c G cc nL own ret) (hin : meth.name = "<init>") (hls : ls.size = nL) (hS : cS G o L s H locs)
    (he : L[0]? = some (.inr (ci, fs))) (hc : gCls[ci]? = some (C, T, N)) (hws : ∀ w ∈ u_ws C T N, w ∈ gT) (hty : ∀ k, k < N → parseFieldDescriptor (T k).2.2.1 = some (t0 k)) (hnm : ∀ a, a < N → ∀ b, b < N → a ≠ b → (T a).2.1 ≠ (T b).2.1) (hk : k < N) (hlink : Cond.fieldLink own i2 (T k).1 (T k).2.1 (T k).2.2.1 ∈ gT) (hfin : (T k).2.2.2 = true) (hdecl : (T k).1 = own) (hdd : parseFieldDescriptor (T k).2.2.1 = some (.object C2)) (hfl : k < fs.length)
    (hc2 : gCls[ci2]? = some (C2, T2, N2)) (hws2 : ∀ w ∈ u_ws C2 T2 N2, w ∈ gT) (hty2 : ∀ k, k < N2 → parseFieldDescriptor (T2 k).2.2.1 = some (t2 k)) (hfs2 : ∀ j, j < N2 → defaultValue (t2 j) = vp_V fs2 j) (h0 : Cond.classLink own i0 C2 ∈ gT) (hi2 : Cond.instantiable C2 N2 ∈ gT) (hini2 : Cond.initialized C2 ∈ gT)
    (h1 : Cond.methodLinkNest own i1 y host ∈ gNestW) (hy : y.cls = C2) (hyn : y.name = "<init>") (hinst : Cond.instanceMethod y ∈ gT) (hcode : Cond.code y b2 mL2 none ∈ gT) (hdd2 : y.cls ≠ "java/lang/invoke/MethodHandle" ∧ y.cls ≠ "java/lang/invoke/VarHandle" ∧ (parseMethodDescriptor y.desc).map (fun d => d.parameters.length) = some 0)
    (hM : Met l y (gW y b2 mL2 none) rm (cPc G (o + L.length) (.inr (ci2, fs2)) [.ref (o + L.length)]) (cQc G (o + L.length) M) mc ms (cFr (o + L.length))) (hrm : rm.cells = mc ∧ rm.slots = ms) (hR : cR rm R mL2)
    (hce : cells + 1 + mc ≤ R.cells) (hsl : slots + N2 + ms ≤ R.slots)
    (ha : decode cc pc = .ok (.new i0, 3)) (hb : decode cc (pc + 3) = .ok (.dup, 1)) (hd : decode cc (pc + 4) = .ok (.invokespecial i1, 3)) (hf : decode cc (pc + 7) = .ok (.putfield i2, 3))
    (kk : ∀ (H1 : Heap) (locs1 : List Loc), cS G o ((L ++ M).set 0 (.inr (ci, fs.set k (.ref (o + L.length))))) s H1 locs1 → W p l e R s m args below meth c H1 locs1 (cells + 1 + mc) (slots + N2 + ms) Q (F0 m (pc + 10) ls [])) : W p l e R s m args below meth c H locs cells slots Q (F0 m pc ls [.ref o]) := by
  obtain ⟨hx, hbc, hml, hown, hts, -⟩ := id K
  refine c_new (fs := fs2) (ci := ci2) K hS hc2 hws2 hty2 h0 hi2 hini2 hfs2 (by omega) (by omega) ha (fun H hS => ?_)
  refine lv_dup hx hbc hb rfl ?_
  refine c_runIN (As := []) (rest := [.ref (o + L.length), .ref o]) (n := 0) K hS h1 hinst (by rw [hy]; exact hini2) hcode hdd2 hyn hM hrm rfl rfl (Nat.le_of_ble_eq_true rfl) hR hls ⟨by omega, by omega⟩ hd (fun H locs hS => ?_)
  refine c_put (i := 0) (ci := ci) (k := k) (fs := fs) (ty := .object C2) K hin hS (by rw [List.getElem?_append_left (List.getElem?_eq_some_iff.mp he).1]; exact he) hc hws hty hnm hk hlink hfin hdecl hdd rfl rfl hfl hf (fun H locs hS => ?_)
  exact kk H locs hS
end OI
