section GC
variable {p : Program} {l : Launch} {e : Env} {R : Room} {s : State} {m : MethodId} {args : Array Value} {below : List Frame} {meth : Method} {c : Code} {H : Heap} {locs : List Loc} {cells slots : Nat} {Q : State → Prop}
variable {cc : ByteArray} {pc nL : Nat} {ls : Array Slot} {rest st0 : List Value} {G : gG} {ent : gEnt} {o N : Nat} {σ : gS} {own : String} {ret : Option FieldType}
variable {idx mL n cx ci : Nat} {y : MethodName} {C : String} {b : ByteArray} {rm : Room} {As : List Value} {fs : List Value}
/-- what a call's room must be -/
def gR (rm R : Room) (mL : Nat) : Prop := (rm.frames + 1 ≤ R.frames ∧ 8 + (mL + 11) + rm.locals ≤ R.locals) ∧ rm.cells = 0 ∧ rm.slots = 0
theorem g_after {mc ms : Nat} {g : JFrame} {Qa : State → Outcome → State → Prop} {Pq : Option Value → Heap → Prop} (hS : gSt G ent o N s σ H locs) (hr : va_Run p l e R s m args below meth c H locs cells slots 0 0 (F0 m pc ls st0) rest Qa (gA o N))
    (hq : ∀ (v : Option Value) (st t : State), st.heap = H → Qa st (.returned v) t → Pq v t.heap ∧ va_F (gA o N) st t)
    (kk : ∀ (v : Option Value) (H1 : Heap) (locs1 : List Loc), Pq v H1 → va_S (gA o N) s.heap H1 locs1 → W p l e R s m args below meth c H1 locs1 cells slots Q (F0 m (pc + 3) ls (v.toList ++ rest))) : W p l e R s m args below meth c H locs cells slots Q (F0 m pc ls st0) := by
  intro T hT X
  obtain ⟨v, st₀, t, T', L, h0, X', hL, e1, e2, hQ, st⟩ := hr T hT X
  obtain ⟨h1, hz, hk⟩ := hq v st₀ t h0 hQ
  rw [h0] at hz hk
  obtain ⟨t2, a1, b1⟩ := kk v T'.heap (locs ++ L) (by rw [e1]; exact h1) ⟨Nat.le_trans hS.2.1 (by rw [e1]; exact hz), fun q h2 h3 => by rw [e1, hk q (Nat.lt_of_lt_of_le h2 hS.2.1) h3]; exact hS.2.2.1 q h2 h3, fun q hq => by
      rcases List.mem_append.mp hq with h | h
      · exact hS.2.2.2 q h
      · exact hL q h⟩ T' rfl X'
  exact ⟨t2, st t2 a1, b1⟩
theorem g_callB (K : gK p s m args meth c G cc nL own ret) {ry : Option FieldType} (hcode : Cond.code y b mL ry ∈ gT) (hini : Cond.initialized y.cls ∈ gT) (hl : Cond.methodLink own idx y ∈ gT) (hd : y.cls ≠ "java/lang/invoke/MethodHandle" ∧ y.cls ≠ "java/lang/invoke/VarHandle" ∧ (parseMethodDescriptor y.desc).map (fun d => d.parameters.length) = some n) (hR : gR rm R mL) : CallB R s args own idx y b mL ry (gW y b mL ry) rm 0 0 n :=
  callB_of n K.2.2.2.2.1 (gW_in hcode) rfl hR.2.1 hR.2.2 (K.2.2.2.2.1 _ hini) (K.2.2.2.2.1 _ hl) hd hR.1
theorem g_preS (K : gK p s m args meth c G cc nL own ret) (hS : gSt G ent o N s σ H locs) : PreS s H (gPc G ent o N As σ) As := ⟨gPc_blind, fun U hU hW => ⟨rfl, by rw [hU]; exact hS.1, K.2.2.2.2.2.1.warm hW⟩⟩
theorem g_preV (K : gK p s m args meth c G cc nL own ret) (hS : gSt G ent o N s σ H locs) (he : ent cx (σ cx) = .inr (ci, fs)) (hc : cx < N) {T : u_T} {k : Nat} (hcl : gCls[ci]? = some (C, T, k)) : PreV s H C (o + cx) (gPc G ent o N (.ref (o + cx) :: As) σ) As := by
  refine ⟨gPc_blind, ?_, fun U hU hW => ⟨rfl, by rw [hU]; exact hS.1, K.2.2.2.2.2.1.warm hW⟩⟩
  exact va_recv (q := (C, T, k)) K.2.2.2.2.2.1.1 hS.1 hcl ((gL_get hc).trans (by rw [he]))
theorem g_runV {ry : Option FieldType} {Qc : Array Value → State → Outcome → State → Prop} (K : gK p s m args meth c G cc nL own ret) (hS : gSt G ent o N s σ H locs) (L : gMV own idx y C b mL ry n) (hM : Met l y (gW y b mL ry) rm (gPc G ent o N (.ref (o + cx) :: As) σ) Qc 0 0 (gA o N)) (he : ent cx (σ cx) = .inr (ci, fs)) (hc : cx < N) {T : u_T} {k : Nat} (hcl : gCls[ci]? = some (C, T, k)) (hn : As.length = n) (hst : st0 = As.reverse ++ .ref (o + cx) :: rest) (hw : (rest.map fun v => v.category).sum ≤ 8) (hR : gR rm R mL) (hls : ls.size = nL) (hcs : cells ≤ R.cells ∧ slots ≤ R.slots) (hd : decode cc pc = .ok (.invokevirtual idx, 3)) :
    va_Run p l e R s m args below meth c H locs cells slots 0 0 (F0 m pc ls st0) rest (Qc (Value.ref (o + cx) :: As).toArray) (gA o N) := by
  obtain ⟨h1, h2, h3, h4, h5, h6⟩ := L
  have K2 := K
  obtain ⟨hx, hb, hml, hown, hts, hE, hr, hlk⟩ := K
  exact va_runV (As := As) (rest := rest) ⟨hx, hb, hml, hown, hts⟩ hM ⟨g_callB K2 h5 h4 h1 h6 hR, hts _ h2, hts _ h3⟩ (g_preV K2 hS he hc hcl) rfl hn hls hst (lv_room (pc := pc) (ls := ls) (m := m) (rest := rest) hw) hd hcs
theorem g_runS {ry : Option FieldType} {Qc : Array Value → State → Outcome → State → Prop} (K : gK p s m args meth c G cc nL own ret) (hS : gSt G ent o N s σ H locs) (L : gMS own idx y b mL ry n) (hM : Met l y (gW y b mL ry) rm (gPc G ent o N As σ) Qc 0 0 (gA o N)) (hn : As.length = n) (hst : st0 = As.reverse ++ rest) (hw : (rest.map fun v => v.category).sum ≤ 8) (hR : gR rm R mL) (hls : ls.size = nL) (hcs : cells ≤ R.cells ∧ slots ≤ R.slots) (hd : decode cc pc = .ok (.invokestatic idx, 3)) :
    va_Run p l e R s m args below meth c H locs cells slots 0 0 (F0 m pc ls st0) rest (Qc As.toArray) (gA o N) := by
  obtain ⟨h1, h2, h4, h5, h6⟩ := L
  have K2 := K
  obtain ⟨hx, hb, hml, hown, hts, hE, hr, hlk⟩ := K
  exact va_runS (As := As) (rest := rest) ⟨hx, hb, hml, hown, hts⟩ hM ⟨g_callB K2 h5 h4 h1 h6 hR, hts _ h2⟩ (g_preS K2 hS) rfl hn hls hst (lv_room (pc := pc) (ls := ls) (m := m) (rest := rest) hw) hd hcs
theorem g_runN {ry : Option FieldType} {host : String} {Qc : Array Value → State → Outcome → State → Prop} (K : gK p s m args meth c G cc nL own ret) (hS : gSt G ent o N s σ H locs) (L : gMN own idx y host b mL ry n) (hM : Met l y (gW y b mL ry) rm (gPc G ent o N As σ) Qc 0 0 (gA o N)) (hn : As.length = n) (hst : st0 = As.reverse ++ rest) (hw : (rest.map fun v => v.category).sum ≤ 8) (hR : gR rm R mL) (hls : ls.size = nL) (hcs : cells ≤ R.cells ∧ slots ≤ R.slots) (hd : decode cc pc = .ok (.invokestatic idx, 3)) :
    va_Run p l e R s m args below meth c H locs cells slots 0 0 (F0 m pc ls st0) rest (Qc As.toArray) (gA o N) := by
  obtain ⟨h1, h2, h4, h5, h6⟩ := L
  have K2 := K
  obtain ⟨hx, hb, hml, hown, hts, hE, hr, hlk⟩ := K
  exact va_runSN (As := As) (rest := rest) ⟨hx, hb, hml, hown, hts⟩ hM ⟨va_cnB n hts (gW_in h5) rfl hR.2.1 hR.2.2 (hE.2 _ h1) (hts _ h4) h6 hR.1, hts _ h2, trivial⟩ (g_preS K2 hS) rfl hn hls hst (lv_room (pc := pc) (ls := ls) (m := m) (rest := rest) hw) hd hcs
/-- behind a call whose answer is an int, and behind one without -/
theorem g_goi {a : Array Value} {q : Int32 × gS} (hS : gSt G ent o N s σ H locs) (hr : va_Run p l e R s m args below meth c H locs cells slots 0 0 (F0 m pc ls st0) rest (gQi G ent o N q a) (gA o N))
    (kk : ∀ (H1 : Heap) (locs1 : List Loc), gSt G ent o N s q.2 H1 locs1 → W p l e R s m args below meth c H1 locs1 cells slots Q (F0 m (pc + 3) ls (.int q.1 :: rest))) : W p l e R s m args below meth c H locs cells slots Q (F0 m pc ls st0) := by
  refine g_after (g := F0 m pc ls st0) (mc := 0) (ms := 0) (Pq := fun v H => v = some (.int q.1) ∧ gP G ent o N q.2 H) hS hr (fun v st t h0 h => ⟨⟨Outcome.returned.inj h.1.1, h.1.2⟩, h.2⟩) (fun v H1 locs1 h hs => ?_)
  obtain ⟨rfl, h2⟩ := h
  exact kk H1 locs1 ⟨h2, hs⟩
theorem g_gov {a : Array Value} {q : gS} (hS : gSt G ent o N s σ H locs) (hr : va_Run p l e R s m args below meth c H locs cells slots 0 0 (F0 m pc ls st0) rest (gQv G ent o N q a) (gA o N))
    (kk : ∀ (H1 : Heap) (locs1 : List Loc), gSt G ent o N s q H1 locs1 → W p l e R s m args below meth c H1 locs1 cells slots Q (F0 m (pc + 3) ls rest)) : W p l e R s m args below meth c H locs cells slots Q (F0 m pc ls st0) := by
  refine g_after (g := F0 m pc ls st0) (mc := 0) (ms := 0) (Pq := fun v H => v = none ∧ gP G ent o N q H) hS hr (fun v st t h0 h => ⟨⟨Outcome.returned.inj h.1.1, h.1.2⟩, h.2⟩) (fun v H1 locs1 h hs => ?_)
  obtain ⟨rfl, h2⟩ := h
  exact kk H1 locs1 ⟨h2, hs⟩
theorem g_Vi {q : Int32 × gS} {ry : Option FieldType} (K : gK p s m args meth c G cc nL own ret) (hS : gSt G ent o N s σ H locs) (L : gMV own idx y C b mL ry n) (hM : Met l y (gW y b mL ry) rm (gPc G ent o N (.ref (o + cx) :: As) σ) (gQi G ent o N q) 0 0 (gA o N)) (he : ent cx (σ cx) = .inr (ci, fs)) (hc : cx < N) {T : u_T} {k : Nat} (hcl : gCls[ci]? = some (C, T, k)) (hn : As.length = n) (hst : st0 = As.reverse ++ .ref (o + cx) :: rest) (hw : (rest.map fun v => v.category).sum ≤ 8) (hR : gR rm R mL) (hls : ls.size = nL) (hcs : cells ≤ R.cells ∧ slots ≤ R.slots) (hd : decode cc pc = .ok (.invokevirtual idx, 3))
    (kk : ∀ (H1 : Heap) (locs1 : List Loc), gSt G ent o N s q.2 H1 locs1 → W p l e R s m args below meth c H1 locs1 cells slots Q (F0 m (pc + 3) ls (.int q.1 :: rest))) : W p l e R s m args below meth c H locs cells slots Q (F0 m pc ls st0) :=
  g_goi hS (g_runV K hS L hM he hc hcl hn hst hw hR hls hcs hd) kk
theorem g_Vv {q : gS} {ry : Option FieldType} (K : gK p s m args meth c G cc nL own ret) (hS : gSt G ent o N s σ H locs) (L : gMV own idx y C b mL ry n) (hM : Met l y (gW y b mL ry) rm (gPc G ent o N (.ref (o + cx) :: As) σ) (gQv G ent o N q) 0 0 (gA o N)) (he : ent cx (σ cx) = .inr (ci, fs)) (hc : cx < N) {T : u_T} {k : Nat} (hcl : gCls[ci]? = some (C, T, k)) (hn : As.length = n) (hst : st0 = As.reverse ++ .ref (o + cx) :: rest) (hw : (rest.map fun v => v.category).sum ≤ 8) (hR : gR rm R mL) (hls : ls.size = nL) (hcs : cells ≤ R.cells ∧ slots ≤ R.slots) (hd : decode cc pc = .ok (.invokevirtual idx, 3))
    (kk : ∀ (H1 : Heap) (locs1 : List Loc), gSt G ent o N s q H1 locs1 → W p l e R s m args below meth c H1 locs1 cells slots Q (F0 m (pc + 3) ls rest)) : W p l e R s m args below meth c H locs cells slots Q (F0 m pc ls st0) :=
  g_gov hS (g_runV K hS L hM he hc hcl hn hst hw hR hls hcs hd) kk
theorem g_Si {q : Int32 × gS} {ry : Option FieldType} (K : gK p s m args meth c G cc nL own ret) (hS : gSt G ent o N s σ H locs) (L : gMS own idx y b mL ry n) (hM : Met l y (gW y b mL ry) rm (gPc G ent o N As σ) (gQi G ent o N q) 0 0 (gA o N)) (hn : As.length = n) (hst : st0 = As.reverse ++ rest) (hw : (rest.map fun v => v.category).sum ≤ 8) (hR : gR rm R mL) (hls : ls.size = nL) (hcs : cells ≤ R.cells ∧ slots ≤ R.slots) (hd : decode cc pc = .ok (.invokestatic idx, 3))
    (kk : ∀ (H1 : Heap) (locs1 : List Loc), gSt G ent o N s q.2 H1 locs1 → W p l e R s m args below meth c H1 locs1 cells slots Q (F0 m (pc + 3) ls (.int q.1 :: rest))) : W p l e R s m args below meth c H locs cells slots Q (F0 m pc ls st0) :=
  g_goi hS (g_runS K hS L hM hn hst hw hR hls hcs hd) kk
theorem g_Ni {q : Int32 × gS} {host : String} {ry : Option FieldType} (K : gK p s m args meth c G cc nL own ret) (hS : gSt G ent o N s σ H locs) (L : gMN own idx y host b mL ry n) (hM : Met l y (gW y b mL ry) rm (gPc G ent o N As σ) (gQi G ent o N q) 0 0 (gA o N)) (hn : As.length = n) (hst : st0 = As.reverse ++ rest) (hw : (rest.map fun v => v.category).sum ≤ 8) (hR : gR rm R mL) (hls : ls.size = nL) (hcs : cells ≤ R.cells ∧ slots ≤ R.slots) (hd : decode cc pc = .ok (.invokestatic idx, 3))
    (kk : ∀ (H1 : Heap) (locs1 : List Loc), gSt G ent o N s q.2 H1 locs1 → W p l e R s m args below meth c H1 locs1 cells slots Q (F0 m (pc + 3) ls (.int q.1 :: rest))) : W p l e R s m args below meth c H locs cells slots Q (F0 m pc ls st0) :=
  g_goi hS (g_runN K hS L hM hn hst hw hR hls hcs hd) kk
/-- a method's contract out of a walk of its body -/
theorem g_met {av : List Value} {Qc : Array Value → State → Outcome → State → Prop} {ry : Option FieldType} (hy : plainName y.cls = true) (hrm : rm.cells = 0 ∧ rm.slots = 0)
    (body : ∀ (p : Program) (e : Env) (s : State) (m : MethodId) (args : Array Value) (below : List Frame) (meth : Method) (c : Code) (ls : Array Slot), gK p s m args meth c G b mL y.cls ry → gSt G ent o N s σ s.heap [] → lv_has ls mL (lv_args 0 av) → W p l e rm s m args below meth c s.heap [] 0 0 (MQ below Qc args s 0 0 (gA o N)) (F0 m 0 ls []))
    (hav : (lg_sl av).length ≤ mL) : Met l y (gW y b mL ry) rm (gPc G ent o N av σ) Qc 0 0 (gA o N) := by
  refine Met.ofW (cc := b) (maxL := mL) (ret := ry) hy rfl ?_
  intro p e s m args below meth c s₁ B hml hv
  obtain ⟨rfl, hP, hE⟩ := hv
  have hts := atoms_spec (ws := gW y b mL ry) B.pre
  have hown : s.vm.findClass y.cls = some m.cls := findClass_of_methodNamed B.named
  have K : gK p s m av.toArray meth c G b mL y.cls ry := ⟨B.exec, B.bytes, hml, hown, fun w hw => hts w (List.mem_cons_of_mem _ hw), hE, B.returns, B.notSynchronized⟩
  have hl := lv_entry av hav
  rw [lg_entry_eq]
  exact body p e s m _ below meth c _ K ⟨hP, va_S.rf⟩ hl
end GC
