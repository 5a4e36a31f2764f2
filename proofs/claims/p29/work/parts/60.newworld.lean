/-- a world under construction: the cells at o, o + 1, .. -/
def cw (o : Nat) (L : List va_E) : va_W := L.mapIdx fun i e => (o + i, e)
theorem cw_get {o k : Nat} {L : List va_E} : (cw o L)[k]? = (L[k]?).map fun e => (o + k, e) := by
  unfold cw
  rw [List.getElem?_mapIdx]
theorem cw_at {o k : Nat} {L : List va_E} {q : Nat × va_E} (h : (cw o L)[k]? = some q) : ∃ e, L[k]? = some e ∧ q = (o + k, e) := by
  rw [cw_get, Option.map_eq_some_iff] at h
  obtain ⟨e, h1, h2⟩ := h
  exact ⟨e, h1, h2.symm⟩
theorem cw_app {o : Nat} {L M : List va_E} : cw o (L ++ M) = cw o L ++ cw (o + L.length) M := by
  unfold cw
  rw [List.mapIdx_append]
  congr 1
  refine congrArg (fun f => List.mapIdx f M) ?_
  funext i e
  rw [Nat.add_comm i, Nat.add_assoc]
theorem cw_one {o : Nat} {e : va_E} : cw o [e] = [(o, e)] := rfl
theorem cw_set {o i : Nat} {L : List va_E} {e : va_E} : cw o (L.set i e) = (cw o L).set i (o + i, e) := by
  apply List.ext_getElem?
  intro k
  rw [cw_get, List.getElem?_set, List.getElem?_set, cw_get]
  by_cases h : i = k
  · subst h
    rw [if_pos rfl, if_pos rfl]
    unfold cw
    rw [List.length_mapIdx]
    by_cases hl : i < L.length
    · rw [if_pos hl, if_pos hl]; rfl
    · rw [if_neg hl, if_neg hl]; rfl
  · rw [if_neg h, if_neg h]
def cFr (o : Nat) : Nat → Prop := fun q => o ≤ q
theorem cw_D {o : Nat} {L : List va_E} : va_D (cFr o) (cw o L) := by
  refine ⟨fun i j p q hi hj h => ?_, fun k q hk => ?_⟩
  · obtain ⟨_, -, rfl⟩ := cw_at hi
    obtain ⟨_, -, rfl⟩ := cw_at hj
    exact Nat.add_left_cancel h
  · obtain ⟨_, -, rfl⟩ := cw_at hk
    exact Nat.le_add_right _ _
theorem cw_lt {o : Nat} {L : List va_E} {k : Nat} {q : Nat × va_E} (h : (cw o L)[k]? = some q) : q.1 < o + L.length := by
  obtain ⟨e, h1, rfl⟩ := cw_at h
  have := (List.getElem?_eq_some_iff.mp h1).1
  exact Nat.add_lt_add_left this _
def cS (G : gG) (o : Nat) (L : List va_E) (s : State) (H : Heap) (locs : List Loc) : Prop := va_P G.1 gCls (cw o L) H ∧ H.size = o + L.length ∧ va_S (cFr o) s.heap H locs ∧ o ≤ s.heap.size
def cPc (G : gG) (a : Nat) (e0 : va_E) (av : List Value) : Array Value → State → Prop := va_Pc av (fun U => (va_P G.1 gCls (cw a [e0]) U.heap ∧ U.heap.size = a + 1) ∧ gEnv G U)
def cQc (G : gG) (a : Nat) (L : List va_E) : Array Value → State → Outcome → State → Prop := fun _ st oc t => (oc = .returned none ∧ va_P G.1 gCls (cw a L) t.heap ∧ t.heap.size = a + L.length) ∧ va_F (cFr a) st t
theorem cPc_blind {G : gG} {a : Nat} {e0 : va_E} {av : List Value} : FrameBlind (cPc G a e0 av) := by
  intro b U g mk q
  obtain ⟨q0, q1, q2, q3⟩ := q
  refine ⟨q0, q1, va_K.moved (u := U) (U := U.calling g mk b) (Vm.Alike.refl U.vm) q2, fun w hw => ?_⟩
  have h1 := q3 w hw
  have hb := gPc_blind (G := G) (ent := fun _ _ => e0) (o := 0) (N := 0) (av := av) (σ := fun _ _ => 0) b U g mk ⟨q0, fun k q hk => absurd hk (by simp [gL]), q2, q3⟩
  exact hb.2.2.2 w hw
section CN
variable {p : Program} {l : Launch} {e : Env} {R : Room} {s : State} {m : MethodId} {args : Array Value} {below : List Frame} {meth : Method} {c : Code} {H : Heap} {locs : List Loc} {cells slots : Nat} {Q : State → Prop}
variable {cc : ByteArray} {pc nL : Nat} {ls : Array Slot} {rest st0 : List Value} {G : gG} {o : Nat} {own : String} {ret : Option FieldType} {L : List va_E}
variable {idx mL n ci k : Nat} {y : MethodName} {C : String} {b : ByteArray} {rm : Room} {As : List Value} {fs : List Value}
/-- an object is made -/
theorem c_new {T : u_T} {N : Nat} {ty : Nat → FieldType} (K : gK p s m args meth c G cc nL own ret) (hS : cS G o L s H locs) (hc : gCls[ci]? = some (C, T, N)) (hws : ∀ w ∈ u_ws C T N, w ∈ gT) (hty : ∀ k, k < N → parseFieldDescriptor (T k).2.2.1 = some (ty k)) (hl : Cond.classLink own idx C ∈ gT) (hi : Cond.instantiable C N ∈ gT) (hini : Cond.initialized C ∈ gT) (hfs : ∀ j, j < N → defaultValue (ty j) = vp_V fs j) (hcells : cells + 1 ≤ R.cells) (hslots : slots + N ≤ R.slots) (hd : decode cc pc = .ok (.new idx, 3))
    (kk : ∀ (H1 : Heap), cS G o (L ++ [.inr (ci, fs)]) s H1 locs → W p l e R s m args below meth c H1 locs (cells + 1) (slots + N) Q (F0 m (pc + 3) ls (.ref (o + L.length) :: rest))) : W p l e R s m args below meth c H locs cells slots Q (F0 m pc ls rest) := by
  obtain ⟨hx, hb, hml, hown, hts, hE, hr, hlk⟩ := K
  obtain ⟨hP, hz, hV, hoz⟩ := hS
  have hKn := hE.1.1 ci _ hc
  refine W.newcK hx hb hown (hts _ hl) (hts _ hi) (hts _ hini) rfl hd hcells hslots hKn.2.1 hz fun H1 kC hkC e1 z1 o1 => ?_
  refine kk H1 ⟨?_, by rw [z1, List.length_append]; rfl, ⟨Nat.le_trans hV.1 (by omega), fun x h1 h2 => (o1 x (by have := hV.1; omega)).trans (hV.2.1 x h1 h2), hV.2.2⟩, hoz⟩
  rw [cw_app]
  refine (hP.kept fun k x hx => o1 x.1 (cw_lt hx)).app (fun k x hx => ?_)
  rw [cw_one] at hx
  have hz0 : k < 1 := (List.getElem?_eq_some_iff.mp hx).1
  rw [show k = 0 by omega] at hx
  cases hx
  exact ⟨_, hc, (u_born ty hts hws hKn hkC e1 hty).to hfs⟩
/-- a row of ints is made -/
theorem c_newi {x : Int32} {N t : Nat} {fty : FieldType} {at_ : ArrayType} (K : gK p s m args meth c G cc nL own ret) (hS : cS G o L s H locs) (ha : Cond.arrayClass fty ∈ gT) (ht : newarray.typeOf at_ = fty) (hty : gTys G = gTys G) (htt : (gTys G)[t]? = some (G.2 t, fty)) (hdv : defaultValue fty = .int 0) (hnm : ∀ (U : State) cA, va_RA U cA fty ↔ U.vm.findClass ("[" ++ fty.toString) = some cA) (hn : ¬ x < 0) (hN : x.toNatClampNeg = N) (hby : N * componentBytes fty ≤ 536870912) (hcells : cells + 1 ≤ R.cells) (hslots : slots + N ≤ R.slots) (hd : decode cc pc = .ok (.newarray at_, 2))
    (kk : ∀ (H1 : Heap), cS G o (L ++ [.inl (G.2 t, N, .inl fun _ => 0)]) s H1 locs → W p l e R s m args below meth c H1 locs (cells + 1) (slots + N) Q (F0 m (pc + 2) ls (.ref (o + L.length) :: rest))) : W p l e R s m args below meth c H locs cells slots Q (F0 m pc ls (.int x :: rest)) := by
  subst ht
  obtain ⟨hx, hb, hml, hown, hts, hE, hr, hlk⟩ := K
  obtain ⟨hP, hz, hV, hoz⟩ := hS
  refine va_newaK hx hb (hts _ ha) rfl hd rfl hn hN hby hcells hslots hz fun H1 cA e1 z1 o1 hAr hNm => ?_
  have hcA : cA = G.2 t := Option.some.inj (hNm.symm.trans ((hnm s (G.2 t)).mp (hE.1.2 t _ htt).2))
  subst hcA
  refine kk H1 ⟨?_, by rw [z1, List.length_append]; rfl, ⟨Nat.le_trans hV.1 (by omega), fun x h1 h2 => (o1 x (by have := hV.1; omega)).trans (hV.2.1 x h1 h2), hV.2.2⟩, hoz⟩
  rw [cw_app]
  refine (hP.kept fun k x hx => o1 x.1 (cw_lt hx)).app (fun k x hx => ?_)
  rw [cw_one] at hx
  have hz0 : k < 1 := (List.getElem?_eq_some_iff.mp hx).1
  rw [show k = 0 by omega] at hx
  cases hx
  show H1[o + L.length]? = some (vp_cell _ _)
  rw [e1, hdv]
  rfl
/-- a constructor is left -/
theorem c_ret (K : gK p s m args meth c G cc nL own none) (hS : cS G o L s H locs) (hd : decode cc pc = .ok (.return_, 1)) : W p l e R s m args below meth c H locs cells slots (MQ below (cQc G o L) args s cells slots (cFr o)) (F0 m pc ls []) := by
  obtain ⟨hx, hb, hml, hown, hts, hE, hr, hlk⟩ := K
  exact W.vret hx hb hr (fun t ht hW => ⟨⟨rfl, by rw [ht]; exact hS.1, by rw [ht]; exact hS.2.1⟩, hS.2.2.1.F ht⟩) hS.2.2.1.2.2 hd hlk
/-- a final field is written -/
theorem c_put {i N : Nat} {v : Value} {ty : FieldType} {T : u_T} {t0 : Nat → FieldType} (K : gK p s m args meth c G cc nL own ret) (hin2 : meth.name = "<init>") (hS : cS G o L s H locs) (he : L[i]? = some (.inr (ci, fs))) (hc : gCls[ci]? = some (C, T, N)) (hws : ∀ w ∈ u_ws C T N, w ∈ gT) (hty : ∀ k, k < N → parseFieldDescriptor (T k).2.2.1 = some (t0 k)) (hnm : ∀ a, a < N → ∀ b, b < N → a ≠ b → (T a).2.1 ≠ (T b).2.1) (hk : k < N) (hlink : Cond.fieldLink own idx (T k).1 (T k).2.1 (T k).2.2.1 ∈ gT) (hfin : (T k).2.2.2 = true) (hdecl : (T k).1 = own) (hdd : parseFieldDescriptor (T k).2.2.1 = some ty) (hn : narrow ty v = v) (hfit : fits ty v = true) (hl : k < fs.length) (hd : decode cc pc = .ok (.putfield idx, 3))
    (kk : ∀ (H1 : Heap) (locs1 : List Loc), cS G o (L.set i (.inr (ci, fs.set k v))) s H1 locs1 → W p l e R s m args below meth c H1 locs1 cells slots Q (F0 m (pc + 3) ls rest)) : W p l e R s m args below meth c H locs cells slots Q (F0 m pc ls (v :: .ref (o + i) :: rest)) := by
  obtain ⟨hx, hb, hml, hown, hts, hE, hr, hlk⟩ := K
  obtain ⟨hP, hz, hV, hoz⟩ := hS
  have he' : (cw o L)[i]? = some (o + i, .inr (ci, fs)) := by rw [cw_get, he]; rfl
  have hts' : ∀ w ∈ gT, w.before args s = true := hts
  have hap := va_apart (own := own) hts' hws t0 hty hnm hE.1 hc
  obtain ⟨r, h1, cell, q1, q2, q3, q4⟩ := hP i _ he'
  have hr : r = (C, T, N) := Option.some.inj (h1.symm.trans hc)
  subst hr
  obtain ⟨hSl, hfc, kC, hkC, hkind⟩ := hE.1.1 ci _ hc
  obtain ⟨cf, kf, fi, f, hi, hsl⟩ := hSl k hk
  have hlay := hts _ (hws _ (u_in_lay hk))
  unfold u_lay at hlay
  rw [if_pos hfin] at hlay
  have hst := (u_facts hfc hkC (u_lays hts' hws hk) hi).1
  have hcf : m.cls = cf := by
    obtain ⟨_, _, c', _, _, _, -, -, hf', -, -, -, hown2, -⟩ := Cond.laysFinal_spec hlay
    have e1 : c' = cf := by have := hi.symm.trans hf'; simp at this; exact this.1.symm
    rw [hdecl] at hown2
    rw [← e1]
    exact Option.some.inj (hown.symm.trans hown2)
  have h6 := u_fits hfc hkC hkind (Or.inr hlay) hi hdd hn hfit
  refine W.putFinK hx hb hown (hts _ hlink) hi hst hcf hin2 (by rw [q2]; exact h6) q1 q3 (by rw [hsl]; exact k2_hasslot (q4 k hk)) rfl rfl hd fun H' e1 e2 e3 => ?_
  rw [hsl] at e1 ⊢
  refine kk H' _ ⟨?_, by rw [e2, hz, List.length_set], hV.put e2 e3 (Nat.le_add_right _ _), hoz⟩
  rw [cw_set]
  exact hP.set cw_D he' ⟨_, hc, t_OB.to (V := updV (vp_V fs) k v) ⟨_, e1, q2, q3, t_set q4 hap hk v⟩ (fun j _ => vp_updV_set hl v j)⟩ e3
/-- a constructor is called upon the newest object -/
theorem c_after {mc ms : Nat} {e0 : va_E} {M : List va_E} {a : Array Value} (hS : cS G o (L ++ [e0]) s H locs) (hr : va_Run p l e R s m args below meth c H locs cells slots mc ms (F0 m pc ls st0) rest (cQc G (o + L.length) M a) (cFr (o + L.length)))
    (kk : ∀ (H1 : Heap) (locs1 : List Loc), cS G o (L ++ M) s H1 locs1 → W p l e R s m args below meth c H1 locs1 (cells + mc) (slots + ms) Q (F0 m (pc + 3) ls rest)) : W p l e R s m args below meth c H locs cells slots Q (F0 m pc ls st0) := by
  obtain ⟨hP, hz, hV, hoz⟩ := hS
  intro T hT X
  obtain ⟨v, st₀, t, T', L1, h0, X', hL, e1, e2, ⟨⟨hv, hP1, hz1⟩, hF⟩, st⟩ := hr T hT X
  cases hv
  rw [cw_app] at hP
  have hlow : va_P G.1 gCls (cw o L) H := fun k q hk => hP k q (by rw [List.getElem?_append_left (List.getElem?_eq_some_iff.mp hk).1]; exact hk)
  have hkeep : ∀ q, q < o + L.length → T'.heap[q]? = H[q]? := fun q hq => by
    rw [e1, hF.2 q (by rw [h0, hz, List.length_append]; simp; omega) (fun z => absurd (show o + L.length ≤ q from z) (by omega)), h0]
  rw [← e1] at hP1 hz1
  obtain ⟨t2, a1, b1⟩ := kk T'.heap (locs ++ L1) ⟨by
      rw [cw_app]
      exact (hlow.kept fun k q hk => hkeep q.1 (cw_lt hk)).app hP1, by rw [hz1, List.length_append]; omega, ⟨Nat.le_trans hV.1 (by rw [e1]; have := hF.1; rw [h0] at this; exact this), fun q h1 h2 => by
      have hqo : q < o := Nat.lt_of_not_le h2
      rw [hkeep q (by omega)]
      exact hV.2.1 q h1 h2, fun q hq => by
      rcases List.mem_append.mp hq with h | h
      · exact hV.2.2 q h
      · exact Nat.le_trans (Nat.le_add_right _ _) (hL q h)⟩, hoz⟩ T' rfl X'
  exact ⟨t2, st t2 a1, b1⟩
def cR (rm R : Room) (mL : Nat) : Prop := rm.frames + 1 ≤ R.frames ∧ 8 + (mL + 11) + rm.locals ≤ R.locals
theorem c_preS {e0 : va_E} (K : gK p s m args meth c G cc nL own ret) (hS : cS G o (L ++ [e0]) s H locs) : PreS s H (cPc G (o + L.length) e0 (.ref (o + L.length) :: As)) (.ref (o + L.length) :: As) := by
  obtain ⟨hP, hz, hV, hoz⟩ := hS
  refine ⟨cPc_blind, fun U hU hW => ⟨rfl, ⟨by
    rw [hU]
    rw [cw_app] at hP
    intro k q hk
    refine hP (L.length + k) q ?_
    have hl : (cw o L).length = L.length := by unfold cw; rw [List.length_mapIdx]
    rw [List.getElem?_append_right (by omega), hl, Nat.add_sub_cancel_left]
    exact hk, by rw [hU, hz, List.length_append]; rfl⟩, K.2.2.2.2.2.1.warm hW⟩⟩
/-- a public constructor -/
theorem c_runI {mc ms : Nat} {e0 : va_E} {M : List va_E} (K : gK p s m args meth c G cc nL own ret) (hS : cS G o (L ++ [e0]) s H locs) (hl : Cond.methodLink own idx y ∈ gT) (hinst : Cond.instanceMethod y ∈ gT) (hini : Cond.initialized y.cls ∈ gT) (hcode : Cond.code y b mL none ∈ gT) (hdd : y.cls ≠ "java/lang/invoke/MethodHandle" ∧ y.cls ≠ "java/lang/invoke/VarHandle" ∧ (parseMethodDescriptor y.desc).map (fun d => d.parameters.length) = some n) (hyn : y.name = "<init>")
    (hM : Met l y (gW y b mL none) rm (cPc G (o + L.length) e0 (.ref (o + L.length) :: As)) (cQc G (o + L.length) M) mc ms (cFr (o + L.length))) (hrm : rm.cells = mc ∧ rm.slots = ms) (hn : As.length = n) (hst : st0 = As.reverse ++ .ref (o + L.length) :: rest) (hw : (rest.map fun v => v.category).sum ≤ 8) (hR : cR rm R mL) (hls : ls.size = nL) (hcs : cells + mc ≤ R.cells ∧ slots + ms ≤ R.slots) (hd : decode cc pc = .ok (.invokespecial idx, 3))
    (kk : ∀ (H1 : Heap) (locs1 : List Loc), cS G o (L ++ M) s H1 locs1 → W p l e R s m args below meth c H1 locs1 (cells + mc) (slots + ms) Q (F0 m (pc + 3) ls rest)) : W p l e R s m args below meth c H locs cells slots Q (F0 m pc ls st0) := by
  have K2 := K
  obtain ⟨hx, hb, hml, hown, hts, hE, hr, hlk⟩ := K
  refine c_after hS (va_runI (As := As) (rest := rest) ⟨hx, hb, hml, hown, hts⟩ hM ⟨callB_of n hts (gW_in hcode) rfl hrm.1 hrm.2 (hts _ hini) (hts _ hl) hdd hR, hyn, hts _ hinst⟩ (c_preS K2 hS) rfl hn hls hst (lv_room (pc := pc) (ls := ls) (m := m) (rest := rest) hw) hd hcs) kk
/-- a private constructor of the nest -/
theorem c_runIN {mc ms : Nat} {host : String} {e0 : va_E} {M : List va_E} (K : gK p s m args meth c G cc nL own ret) (hS : cS G o (L ++ [e0]) s H locs) (hl : Cond.methodLinkNest own idx y host ∈ gNestW) (hinst : Cond.instanceMethod y ∈ gT) (hini : Cond.initialized y.cls ∈ gT) (hcode : Cond.code y b mL none ∈ gT) (hdd : y.cls ≠ "java/lang/invoke/MethodHandle" ∧ y.cls ≠ "java/lang/invoke/VarHandle" ∧ (parseMethodDescriptor y.desc).map (fun d => d.parameters.length) = some n) (hyn : y.name = "<init>")
    (hM : Met l y (gW y b mL none) rm (cPc G (o + L.length) e0 (.ref (o + L.length) :: As)) (cQc G (o + L.length) M) mc ms (cFr (o + L.length))) (hrm : rm.cells = mc ∧ rm.slots = ms) (hn : As.length = n) (hst : st0 = As.reverse ++ .ref (o + L.length) :: rest) (hw : (rest.map fun v => v.category).sum ≤ 8) (hR : cR rm R mL) (hls : ls.size = nL) (hcs : cells + mc ≤ R.cells ∧ slots + ms ≤ R.slots) (hd : decode cc pc = .ok (.invokespecial idx, 3))
    (kk : ∀ (H1 : Heap) (locs1 : List Loc), cS G o (L ++ M) s H1 locs1 → W p l e R s m args below meth c H1 locs1 (cells + mc) (slots + ms) Q (F0 m (pc + 3) ls rest)) : W p l e R s m args below meth c H locs cells slots Q (F0 m pc ls st0) := by
  have K2 := K
  obtain ⟨hx, hb, hml, hown, hts, hE, hr, hlk⟩ := K
  refine c_after hS (va_runIN (As := As) (rest := rest) ⟨hx, hb, hml, hown, hts⟩ hM ⟨va_cnB n hts (gW_in hcode) rfl hrm.1 hrm.2 (hE.2 _ hl) (hts _ hini) hdd hR, hyn, hts _ hinst⟩ (c_preS K2 hS) rfl hn hls hst (lv_room (pc := pc) (ls := ls) (m := m) (rest := rest) hw) hd hcs) kk
/-- a constructor's contract out of a walk of its body -/
theorem c_met {mc ms : Nat} {e0 : va_E} {M : List va_E} {av : List Value} {a : Nat} (hy : plainName y.cls = true)
    (body : ∀ (p : Program) (e : Env) (s : State) (m : MethodId) (args : Array Value) (below : List Frame) (meth : Method) (c : Code) (ls : Array Slot), gK p s m args meth c G b mL y.cls none → meth.name = y.name → cS G a [e0] s s.heap [] → lv_has ls mL (lv_args 0 av) → W p l e rm s m args below meth c s.heap [] 0 0 (MQ below (cQc G a M) args s mc ms (cFr a)) (F0 m 0 ls []))
    (hav : (lg_sl av).length ≤ mL) : Met l y (gW y b mL none) rm (cPc G a e0 av) (cQc G a M) mc ms (cFr a) := by
  refine Met.ofW (cc := b) (maxL := mL) (ret := none) hy rfl ?_
  intro p e s m args below meth c s₁ B hml hv
  obtain ⟨rfl, ⟨hP, hz⟩, hE⟩ := hv
  have hts := atoms_spec (ws := gW y b mL none) B.pre
  have hown : s.vm.findClass y.cls = some m.cls := findClass_of_methodNamed B.named
  have K : gK p s m av.toArray meth c G b mL y.cls none := ⟨B.exec, B.bytes, hml, hown, fun w hw => hts w (List.mem_cons_of_mem _ hw), hE, B.returns, B.notSynchronized⟩
  have hl := lv_entry av hav
  rw [lg_entry_eq]
  exact body p e s m _ below meth c _ K (name_of_methodNamed B.named B.method).1 ⟨hP, hz, va_S.rf, by omega⟩ hl
end CN
