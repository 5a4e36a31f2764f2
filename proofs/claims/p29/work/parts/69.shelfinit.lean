section SX
/-- a constructor that also makes a row of attics -/
def cPa (G : gG) (a : Nat) (e0 : va_E) (av : List Value) : Array Value → State → Prop := va_Pc av (fun U => ((va_P G.1 gCls (cw a [e0]) U.heap ∧ U.heap.size = a + 1) ∧ gEnv G U) ∧ va_AO RX0 U)
theorem cPa_blind {G : gG} {a : Nat} {e0 : va_E} {av : List Value} : FrameBlind (cPa G a e0 av) := by
  intro b U g mk q
  obtain ⟨q0, q1, q2⟩ := q
  obtain ⟨w0, w1⟩ := cPc_blind (G := G) (a := a) (e0 := e0) (av := av) b U g mk ⟨q0, q1⟩
  exact ⟨w0, w1, va_AO.moved (u := U) (U := U.calling g mk b) (Vm.Alike.refl U.vm) q2⟩
section CN
variable {p : Program} {l : Launch} {e : Env} {R : Room} {s : State} {m : MethodId} {args : Array Value} {below : List Frame} {meth : Method} {c : Code} {H : Heap} {locs : List Loc} {cells slots : Nat} {Q : State → Prop}
variable {cc : ByteArray} {pc nL : Nat} {ls : Array Slot} {rest st0 : List Value} {G : gG} {o : Nat} {own : String} {ret : Option FieldType} {L : List va_E}
variable {idx mL n ci k : Nat} {y : MethodName} {C : String} {b : ByteArray} {rm : Room} {As : List Value} {fs : List Value}
theorem c_preA {e0 : va_E} (K : gK p s m args meth c G cc nL own ret) (hS : cS G o (L ++ [e0]) s H locs) (hA : va_AO RX0 s) : PreS s H (cPa G (o + L.length) e0 (.ref (o + L.length) :: As)) (.ref (o + L.length) :: As) := by
  obtain ⟨-, h2⟩ := c_preS (As := As) K hS
  refine ⟨cPa_blind, fun U hU hW => ?_⟩
  obtain ⟨w0, w1⟩ := h2 U hU hW
  exact ⟨w0, w1, hA.moved hW.alike⟩
/-- a public constructor, whatever it asks -/
theorem c_runIg {mc ms : Nat} {e0 : va_E} {M : List va_E} {P : Array Value → State → Prop} (K : gK p s m args meth c G cc nL own ret) (hS : cS G o (L ++ [e0]) s H locs) (hpre : PreS s H P (.ref (o + L.length) :: As)) (hl : Cond.methodLink own idx y ∈ gT) (hinst : Cond.instanceMethod y ∈ gT) (hini : Cond.initialized y.cls ∈ gT) (hcode : Cond.code y b mL none ∈ gT) (hdd : y.cls ≠ "java/lang/invoke/MethodHandle" ∧ y.cls ≠ "java/lang/invoke/VarHandle" ∧ (parseMethodDescriptor y.desc).map (fun d => d.parameters.length) = some n) (hyn : y.name = "<init>")
    (hM : Met l y (gW y b mL none) rm P (cQc G (o + L.length) M) mc ms (cFr (o + L.length))) (hrm : rm.cells = mc ∧ rm.slots = ms) (hn : As.length = n) (hst : st0 = As.reverse ++ .ref (o + L.length) :: rest) (hw : (rest.map fun v => v.category).sum ≤ 8) (hR : cR rm R mL) (hls : ls.size = nL) (hcs : cells + mc ≤ R.cells ∧ slots + ms ≤ R.slots) (hd : decode cc pc = .ok (.invokespecial idx, 3))
    (kk : ∀ (H1 : Heap) (locs1 : List Loc), cS G o (L ++ M) s H1 locs1 → W p l e R s m args below meth c H1 locs1 (cells + mc) (slots + ms) Q (F0 m (pc + 3) ls rest)) : W p l e R s m args below meth c H locs cells slots Q (F0 m pc ls st0) := by
  obtain ⟨hx, hb, hml, hown, hts, hE, hr, hlk⟩ := K
  refine c_after hS (va_runI (As := As) (rest := rest) ⟨hx, hb, hml, hown, hts⟩ hM ⟨callB_of n hts (gW_in hcode) rfl hrm.1 hrm.2 (hts _ hini) (hts _ hl) hdd hR, hyn, hts _ hinst⟩ hpre rfl hn hls hst (lv_room (pc := pc) (ls := ls) (m := m) (rest := rest) hw) hd hcs) kk
/-- a private constructor of the nest, whatever it asks -/
theorem c_runINg {mc ms : Nat} {host : String} {e0 : va_E} {M : List va_E} {P : Array Value → State → Prop} (K : gK p s m args meth c G cc nL own ret) (hS : cS G o (L ++ [e0]) s H locs) (hpre : PreS s H P (.ref (o + L.length) :: As)) (hl : Cond.methodLinkNest own idx y host ∈ gNestW) (hinst : Cond.instanceMethod y ∈ gT) (hini : Cond.initialized y.cls ∈ gT) (hcode : Cond.code y b mL none ∈ gT) (hdd : y.cls ≠ "java/lang/invoke/MethodHandle" ∧ y.cls ≠ "java/lang/invoke/VarHandle" ∧ (parseMethodDescriptor y.desc).map (fun d => d.parameters.length) = some n) (hyn : y.name = "<init>")
    (hM : Met l y (gW y b mL none) rm P (cQc G (o + L.length) M) mc ms (cFr (o + L.length))) (hrm : rm.cells = mc ∧ rm.slots = ms) (hn : As.length = n) (hst : st0 = As.reverse ++ .ref (o + L.length) :: rest) (hw : (rest.map fun v => v.category).sum ≤ 8) (hR : cR rm R mL) (hls : ls.size = nL) (hcs : cells + mc ≤ R.cells ∧ slots + ms ≤ R.slots) (hd : decode cc pc = .ok (.invokespecial idx, 3))
    (kk : ∀ (H1 : Heap) (locs1 : List Loc), cS G o (L ++ M) s H1 locs1 → W p l e R s m args below meth c H1 locs1 (cells + mc) (slots + ms) Q (F0 m (pc + 3) ls rest)) : W p l e R s m args below meth c H locs cells slots Q (F0 m pc ls st0) := by
  obtain ⟨hx, hb, hml, hown, hts, hE, hr, hlk⟩ := K
  refine c_after hS (va_runIN (As := As) (rest := rest) ⟨hx, hb, hml, hown, hts⟩ hM ⟨va_cnB n hts (gW_in hcode) rfl hrm.1 hrm.2 (hE.2 _ hl) (hts _ hini) hdd hR, hyn, hts _ hinst⟩ hpre rfl hn hls hst (lv_room (pc := pc) (ls := ls) (m := m) (rest := rest) hw) hd hcs) kk
/-- a contract out of a walk, with the row of attics' class known -/
theorem c_metA {mc ms : Nat} {e0 : va_E} {M : List va_E} {av : List Value} {a : Nat} (hy : plainName y.cls = true)
    (body : ∀ (p : Program) (e : Env) (s : State) (m : MethodId) (args : Array Value) (below : List Frame) (meth : Method) (c : Code) (ls : Array Slot), gK p s m args meth c G b mL y.cls none → va_AO RX0 s → meth.name = y.name → cS G a [e0] s s.heap [] → lv_has ls mL (lv_args 0 av) → W p l e rm s m args below meth c s.heap [] 0 0 (MQ below (cQc G a M) args s mc ms (cFr a)) (F0 m 0 ls []))
    (hav : (lg_sl av).length ≤ mL) : Met l y (gW y b mL none) rm (cPa G a e0 av) (cQc G a M) mc ms (cFr a) := by
  refine Met.ofW (cc := b) (maxL := mL) (ret := none) hy rfl ?_
  intro p e s m args below meth c s₁ B hml hv
  obtain ⟨rfl, ⟨⟨hP, hz⟩, hE⟩, hA⟩ := hv
  have hts := atoms_spec (ws := gW y b mL none) B.pre
  have hown : s.vm.findClass y.cls = some m.cls := findClass_of_methodNamed B.named
  have K : gK p s m av.toArray meth c G b mL y.cls none := ⟨B.exec, B.bytes, hml, hown, fun w hw => hts w (List.mem_cons_of_mem _ hw), hE, B.returns, B.notSynchronized⟩
  have hl := lv_entry av hav
  rw [lg_entry_eq]
  exact body p e s m _ below meth c _ K hA (name_of_methodNamed B.named B.method).1 ⟨hP, hz, va_S.rf, by omega⟩ hl
/-- how long a row of attics is -/
theorem c_qlen {i N : Nat} {v : Int32} {f : Nat → Option Nat} (K : gK p s m args meth c G cc nL own ret) (hS : cS G o L s H locs) (h1 : L[i]? = some (.inl (G.2 1, N, .inr (.inr (.inr (.inr f)))))) (hv : Int32.ofNat N = v) (hd : decode cc pc = .ok (.arraylength, 1))
    (kk : W p l e R s m args below meth c H locs cells slots Q (F0 m (pc + 1) ls (.int v :: rest))) : W p l e R s m args below meth c H locs cells slots Q (F0 m pc ls (.ref (o + i) :: rest)) := by
  obtain ⟨hx, hb, hml, hown, hts, hE, hr, hlk⟩ := K
  obtain ⟨hP, hz, hV, hoz⟩ := hS
  exact va_alen (x := (N, .inr (.inr (.inr (.inr f))))) hx hb hE.1 hP i 1 (by rw [cw_get, h1]; rfl) rfl hv hd kk
/-- an attic is put into a row of attics -/
theorem c_aast {i qk N j : Nat} {x : Int32} {f : Nat → Option Nat} {vs : List Value} (K : gK p s m args meth c G cc nL own ret) (hS : cS G o L s H locs) (hcnt : s.heap.size + cells = o + L.length) (h1 : L[i]? = some (.inl (G.2 1, N, .inr (.inr (.inr (.inr f)))))) (hv : L[qk]? = some (.inr (0, vs))) (hin : gin x N = true) (hj : gil x = j) (hd : decode cc pc = .ok (.aastore, 1))
    (kk : ∀ (H1 : Heap) (locs1 : List Loc), cS G o (L.set i (.inl (G.2 1, N, .inr (.inr (.inr (.inr (va_up f j (some (o + qk)))))))) ) s H1 locs1 → W p l e R s m args below meth c H1 locs1 cells slots Q (F0 m (pc + 1) ls rest)) : W p l e R s m args below meth c H locs cells slots Q (F0 m pc ls (.ref (o + qk) :: .int x :: .ref (o + i) :: rest)) := by
  subst hj
  obtain ⟨hx, hb, hml, hown, hts, hE, hr, hlk⟩ := K
  obtain ⟨hP, hz, hV, hoz⟩ := hS
  refine va_astq (A := cFr o) (H0 := H) (r := (RX0, TX0, 6)) hx hb hE.1 hP cw_D ⟨Nat.le_refl _, fun _ _ _ => rfl, hV.2.2⟩ i 1 qk 0 (by rw [cw_get, h1]; rfl) rfl (by rw [cw_get, hv]; rfl) rfl (gin_in hin) hd (fun H1 locs1 a1 a2 a3 => ?_)
  intro T hT X
  have hup : T.heap.size ≤ s.heap.size + cells := X.same.2.2.1
  rw [hT] at hup
  exact kk H1 locs1 ⟨by rw [cw_set]; exact a1, by rw [List.length_set]; have := a3.1; omega, ⟨Nat.le_trans hV.1 a3.1, fun q h1 h2 => (a3.2.1 q (Nat.lt_of_lt_of_le h1 hV.1) h2).trans (hV.2.1 q h1 h2), a3.2.2⟩, hoz⟩ T hT X
end CN
/-- i attics, from the cell a + 2 on -/
def Latts (G : gG) (a i : Nat) : List va_E := (List.range i).flatMap fun j => Lattic G (a + (2 + 32 * j))
theorem Latts_succ (G : gG) (a i : Nat) : Latts G a (i + 1) = Latts G a i ++ Lattic G (a + (2 + 32 * i)) := by
  unfold Latts
  rw [List.range_succ, List.flatMap_append]
  simp
theorem Latts_len (G : gG) (a i : Nat) : (Latts G a i).length = 32 * i := by
  induction i with
  | zero => rfl
  | succ i ih =>
    rw [Latts_succ, List.length_append, ih]
    show 32 * i + 32 = 32 * (i + 1)
    omega
def shF (a i : Nat) : Nat → Option Nat := fun j => if j < i then some (a + (2 + 32 * j)) else none
def Lsh (G : gG) (a n i : Nat) : List va_E := .inr (6, [.ref (a + 1)]) :: .inl (G.2 1, n, .inr (.inr (.inr (.inr (shF a i))))) :: Latts G a i
def Lshelf (G : gG) (a n : Nat) : List va_E := .inr (6, [.ref (a + 1)]) :: .inl (G.2 1, n, .inr (.inr (.inr (.inr (fun j => some (a + (2 + 32 * j))))))) :: Latts G a n
theorem Lsh_len (G : gG) (a n i : Nat) : (Lsh G a n i).length = 2 + 32 * i := by
  show (Latts G a i).length + 1 + 1 = _
  rw [Latts_len]
  omega
theorem shF_0 (a : Nat) : shF a 0 = fun _ => none := by
  funext j
  exact if_neg (Nat.not_lt_zero j)
theorem shF_up (a i : Nat) : va_up (shF a i) i (some (a + (2 + 32 * i))) = shF a (i + 1) := by
  funext j
  unfold va_up shF
  by_cases h : j = i
  · subst h
    rw [if_pos rfl, if_pos (Nat.lt_succ_self _)]
  · rw [if_neg h]
    by_cases h2 : j < i
    · rw [if_pos h2, if_pos (by omega)]
    · rw [if_neg h2, if_neg (by omega)]
theorem Lsh_next (G : gG) (a n i : Nat) : (Lsh G a n i ++ Lattic G (a + (2 + 32 * i))).set 1 (.inl (G.2 1, n, .inr (.inr (.inr (.inr (va_up (shF a i) i (some (a + (2 + 32 * i))))))))) = Lsh G a n (i + 1) := by
  rw [shF_up]
  unfold Lsh
  rw [Latts_succ]
  rfl
theorem Lsh_done (G : gG) (a n : Nat) {H : Heap} (h : va_P G.1 gCls (cw a (Lsh G a n n)) H) : va_P G.1 gCls (cw a (Lshelf G a n)) H := by
  intro k q hk
  obtain ⟨e, he, rfl⟩ := cw_at hk
  match k with
  | 0 => exact h 0 _ (by rw [cw_get]; exact congrArg (Option.map _) he)
  | 1 =>
    cases he
    have h1 : H[a + 1]? = some (vp_cell _ _) := h 1 (a + 1, .inl (G.2 1, n, .inr (.inr (.inr (.inr (shF a n)))))) (by rw [cw_get]; rfl)
    show H[a + 1]? = some (vp_cell _ _)
    rw [h1, vp_cell_q, vp_cell_q]
    unfold arrV
    congr 2
    refine congrArg (Array.ofFn (n := n)) ?_
    funext j
    show va_rf (shF a n j.val) = _
    unfold shF
    rw [if_pos j.isLt]
  | k + 2 => exact h (k + 2) _ (by rw [cw_get]; exact congrArg (Option.map _) he)
end SX
