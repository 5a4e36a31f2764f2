-- the words that may be carried into any call, the classes of the worlds, the world as a function of cells, and the rows over it
def gT : List Cond := lw_tbl.filter goodWord
theorem gmem {w : Cond} (i : Nat) (h : lw_tbl[i]? = some w) (hg : goodWord w = true) : w ∈ gT := List.mem_filter.mpr ⟨List.mem_of_getElem? h, hg⟩
theorem gT_good : ∀ w ∈ gT, (w.onTables && w.keeps) = true ∨ ∃ ty, w = .arrayClass ty := fun w h => good_of_word (List.mem_filter.mp h).2
theorem gmems {ws : List Cond} (ps : List Nat) (h : ws = ps.filterMap (fun i => lw_tbl[i]?)) (hg : ws.all goodWord = true) : ∀ w ∈ ws, w ∈ gT := by
  intro w hw
  have h1 := List.all_eq_true.mp hg w hw
  rw [h] at hw
  obtain ⟨i, -, hi⟩ := List.mem_filterMap.mp hw
  exact gmem i hi h1
/-- a method's words: its own code, and the tables' -/
def gW (y : MethodName) (b : ByteArray) (n : Nat) (ret : Option FieldType) : List Cond := .code y b n ret :: gT
theorem gW_in {y : MethodName} {b : ByteArray} {n : Nat} {ret : Option FieldType} (h : Cond.code y b n ret ∈ gT) : GoodIn gT (gW y b n ret) := by
  intro w hw
  rcases List.mem_cons.mp hw with rfl | hw
  · exact ⟨h, gT_good _ h⟩
  · exact ⟨hw, gT_good _ hw⟩
def gCls : List vw_C := [(RX0, TX0, 6), (RX1, TX1, 7), (RX2, TX2, 3), (RX3, TX3, 3), (RX4, TX4, 2), (RX5, TX5, 1), (RX6, TX6, 1), (RX7, TX7, 5), (RX9, TX9, 5), (RX10, TX10, 6)]
abbrev gG : Type := va_G × (Nat → ClassId)
abbrev gTys (G : gG) : List (ClassId × FieldType) := [(G.2 0, .int), (G.2 1, .object "CreakingGhosts$Attic")]
def gNestW : List Cond := [.methodLinkNest RX1 43 yX10_isWithin RX10, .methodLinkNest RX7 37 yX10_isWithin RX10, .methodLinkNest RX1 71 yX10_holds RX10, .methodLinkNest RX9 65 yX10_holds RX10, .methodLinkNest RX2 34 yX10_holds RX10, .methodLinkNest RX0 100 yX10_holds RX10, .methodLinkNest RX8 15 yX10_holds RX10, .methodLinkNest RX0 22 yX1_init RX10, .methodLinkNest RX0 29 yX2_init RX10, .methodLinkNest RX0 36 yX7_init RX10, .methodLinkNest RX10 18 yX4_init RX10, .methodLinkNest RX10 25 yX3_init RX10, .methodLinkNest RX10 41 yX9_init RX10]
def gNest (U : State) : Prop := ∀ w ∈ gNestW, va_Nw w U
theorem gNest.warm {s U : State} (hW : s.WarmedH U.vm) (h : gNest s) : gNest U := by
  intro w hw
  have h1 := h w hw
  simp only [gNestW, List.mem_cons, List.not_mem_nil, or_false] at hw
  rcases hw with rfl | rfl | rfl | rfl | rfl | rfl | rfl | rfl | rfl | rfl | rfl | rfl | rfl <;> exact va_Nw.warmM hW h1
def gEnv (G : gG) (U : State) : Prop := va_K G.1 gCls (gTys G) U ∧ gNest U
theorem gEnv.warm {G : gG} {s U : State} (hW : s.WarmedH U.vm) (h : gEnv G s) : gEnv G U := ⟨va_K.moved hW.alike h.1, h.2.warm hW⟩
/-- the state of a world: what ints its cells hold -/
abbrev gS : Type := Nat → Nat → Int32
def gU (σ : gS) (c : Nat) (f : Nat → Int32) : gS := fun j => if j = c then f else σ j
def up2 (σ : gS) (c k : Nat) (x : Int32) : gS := gU σ c (upd (σ c) k x)
abbrev gEnt : Type := Nat → (Nat → Int32) → va_E
def gL (ent : gEnt) (o N : Nat) (σ : gS) : va_W := (List.range N).map fun c => (o + c, ent c (σ c))
theorem gL_get {ent : gEnt} {o N c : Nat} {σ : gS} (hc : c < N) : (gL ent o N σ)[c]? = some (o + c, ent c (σ c)) := by simp [gL, hc]
theorem gL_at {ent : gEnt} {o N c : Nat} {σ : gS} {q : Nat × va_E} (h : (gL ent o N σ)[c]? = some q) : c < N ∧ q = (o + c, ent c (σ c)) := by
  have hc : c < N := by
    have := (List.getElem?_eq_some_iff.mp h).1
    simpa [gL] using this
  rw [gL_get hc] at h
  exact ⟨hc, (Option.some.inj h).symm⟩
theorem gL_set {ent : gEnt} {o N c : Nat} {σ : gS} {f : Nat → Int32} (hc : c < N) : (gL ent o N σ).set c (o + c, ent c f) = gL ent o N (gU σ c f) := by
  apply List.ext_getElem?
  intro i
  by_cases hi : i < N
  · rw [gL_get hi]
    by_cases hic : i = c
    · subst hic
      rw [List.getElem?_set_self (by simpa [gL] using hc)]
      simp [gU]
    · rw [List.getElem?_set_ne (Ne.symm hic), gL_get hi]
      simp [gU, hic]
  · rw [List.getElem?_eq_none (by simp [gL]; omega), List.getElem?_eq_none (by simp [gL]; omega)]
def gA (o N : Nat) : Nat → Prop := fun q => o ≤ q ∧ q < o + N
theorem gL_D {ent : gEnt} {o N : Nat} {σ : gS} : va_D (gA o N) (gL ent o N σ) := by
  refine ⟨fun i j p q hi hj h => ?_, fun k q hk => ?_⟩
  · obtain ⟨-, rfl⟩ := gL_at hi
    obtain ⟨-, rfl⟩ := gL_at hj
    exact Nat.add_left_cancel h
  · obtain ⟨hk2, rfl⟩ := gL_at hk
    exact ⟨Nat.le_add_right _ _, Nat.add_lt_add_left hk2 _⟩
def gP (G : gG) (ent : gEnt) (o N : Nat) (σ : gS) (H : Heap) : Prop := va_P G.1 gCls (gL ent o N σ) H
def gSt (G : gG) (ent : gEnt) (o N : Nat) (s : State) (σ : gS) (H : Heap) (locs : List Loc) : Prop := gP G ent o N σ H ∧ va_S (gA o N) s.heap H locs
def gK (p : Program) (s : State) (m : MethodId) (args : Array Value) (meth : Method) (c : Code) (G : gG) (cc : ByteArray) (nL : Nat) (own : String) (ret : Option FieldType) : Prop :=
  p.tables.exec = Jvm.exec ∧ c.code = cc ∧ c.maxLocals = nL ∧ s.vm.findClass own = some m.cls ∧ (∀ w ∈ gT, w.before args s = true) ∧ gEnv G s ∧ meth.sig.returnType = ret ∧ meth.locks = false
def gPc (G : gG) (ent : gEnt) (o N : Nat) (av : List Value) (σ : gS) : Array Value → State → Prop := va_Pc av (fun U => gP G ent o N σ U.heap ∧ gEnv G U)
def gQi (G : gG) (ent : gEnt) (o N : Nat) (q : Int32 × gS) : Array Value → State → Outcome → State → Prop := fun _ st oc t => (oc = .returned (some (.int q.1)) ∧ gP G ent o N q.2 t.heap) ∧ va_F (gA o N) st t
def gQv (G : gG) (ent : gEnt) (o N : Nat) (q : gS) : Array Value → State → Outcome → State → Prop := fun _ st oc t => (oc = .returned none ∧ gP G ent o N q t.heap) ∧ va_F (gA o N) st t
theorem gPc_blind {G : gG} {ent : gEnt} {o N : Nat} {av : List Value} {σ : gS} : FrameBlind (gPc G ent o N av σ) := by
  intro a U g mk q
  obtain ⟨q0, q1, q2, q3⟩ := q
  refine ⟨q0, q1, va_K.moved (u := U) (U := U.calling g mk a) (Vm.Alike.refl U.vm) q2, fun w hw => ?_⟩
  have h1 := q3 w hw
  refine va_tabs ?_ (u := U) (A := #[]) rfl h1
  simp only [gNestW, List.mem_cons, List.not_mem_nil, or_false] at hw
  rcases hw with rfl | rfl | rfl | rfl | rfl | rfl | rfl | rfl | rfl | rfl | rfl | rfl | rfl <;> rfl
/-! guards, names and continuations of the functions that the methods compute -/
def gGd {α : Type} (b : Bool) (x : Option α) : Option α := match b with
  | true => x
  | false => none
theorem gGd_some {α : Type} {b : Bool} {x : Option α} {q : α} (h : gGd b x = some q) : b = true ∧ x = some q := by
  cases b with
  | true => exact ⟨rfl, h⟩
  | false => cases h
def gLet {α β : Type} (a : α) (f : α → β) : β := f a
theorem gLet_some {α β : Type} {a : α} {f : α → Option β} {q : β} (h : gLet a f = some q) : ∃ x, x = a ∧ f x = some q := ⟨a, rfl, h⟩
def gin (i : Int32) (n : Nat) : Bool := decide (0 ≤ i.toInt ∧ i.toInt < n)
theorem gin_in {i : Int32} {n : Nat} (h : gin i n = true) : vp_in i n := vp_in_iff.mpr (of_decide_eq_true h)
def gne (x : Int32) : Bool := !(x == 0)
theorem gne_ne {x : Int32} (h : gne x = true) : ¬ x = 0 := by
  intro h0
  subst h0
  exact absurd h (by decide)
def gbo (x : Int32) : Bool := (x == 0 || x == 1)
theorem gbo_nar {x : Int32} (h : gbo x = true) : narrow .boolean (.int x) = .int x := by
  simp only [gbo, Bool.or_eq_true, beq_iff_eq] at h
  rcases h with rfl | rfl <;> rfl
theorem gbo_fit {x : Int32} (h : gbo x = true) : fits .boolean (.int x) = true := by
  simp only [gbo, Bool.or_eq_true, beq_iff_eq] at h
  rcases h with rfl | rfl <;> rfl
def gil (i : Int32) : Nat := i.toNatClampNeg
/-! links -/
def gFl (own : String) (idx ci k : Nat) : Prop := ∃ (C : String) (T : u_T) (n : Nat), gCls[ci]? = some (C, T, n) ∧ (∀ w ∈ u_ws C T n, w ∈ gT) ∧ k < n ∧ Cond.fieldLink own idx (T k).1 (T k).2.1 (T k).2.2.1 ∈ gT
def gFp (own : String) (idx ci k : Nat) (ty : FieldType) : Prop := ∃ (C : String) (T : u_T) (n : Nat) (t0 : Nat → FieldType), gCls[ci]? = some (C, T, n) ∧ (∀ w ∈ u_ws C T n, w ∈ gT) ∧ k < n ∧ Cond.fieldLink own idx (T k).1 (T k).2.1 (T k).2.2.1 ∈ gT ∧ (∀ k, k < n → parseFieldDescriptor (T k).2.2.1 = some (t0 k)) ∧ (∀ a, a < n → ∀ b, b < n → a ≠ b → (T a).2.1 ≠ (T b).2.1) ∧ (T k).2.2.2 = false ∧ parseFieldDescriptor (T k).2.2.1 = some ty
def gMV (own : String) (idx : Nat) (y : MethodName) (C : String) (b : ByteArray) (mL : Nat) (ret : Option FieldType) (n : Nat) : Prop := Cond.methodLink own idx y ∈ gT ∧ Cond.instanceMethod y ∈ gT ∧ Cond.selects C y y ∈ gT ∧ Cond.initialized y.cls ∈ gT ∧ Cond.code y b mL ret ∈ gT ∧ (y.cls ≠ "java/lang/invoke/MethodHandle" ∧ y.cls ≠ "java/lang/invoke/VarHandle" ∧ (parseMethodDescriptor y.desc).map (fun d => d.parameters.length) = some n)
def gMS (own : String) (idx : Nat) (y : MethodName) (b : ByteArray) (mL : Nat) (ret : Option FieldType) (n : Nat) : Prop := Cond.methodLink own idx y ∈ gT ∧ Cond.static y ∈ gT ∧ Cond.initialized y.cls ∈ gT ∧ Cond.code y b mL ret ∈ gT ∧ (y.cls ≠ "java/lang/invoke/MethodHandle" ∧ y.cls ≠ "java/lang/invoke/VarHandle" ∧ (parseMethodDescriptor y.desc).map (fun d => d.parameters.length) = some n)
def gMN (own : String) (idx : Nat) (y : MethodName) (host : String) (b : ByteArray) (mL : Nat) (ret : Option FieldType) (n : Nat) : Prop := Cond.methodLinkNest own idx y host ∈ gNestW ∧ Cond.static y ∈ gT ∧ Cond.initialized y.cls ∈ gT ∧ Cond.code y b mL ret ∈ gT ∧ (y.cls ≠ "java/lang/invoke/MethodHandle" ∧ y.cls ≠ "java/lang/invoke/VarHandle" ∧ (parseMethodDescriptor y.desc).map (fun d => d.parameters.length) = some n)
section GR
variable {p : Program} {l : Launch} {e : Env} {R : Room} {s : State} {m : MethodId} {args : Array Value} {below : List Frame} {meth : Method} {c : Code} {H : Heap} {locs : List Loc} {cells slots : Nat} {Q : State → Prop}
variable {cc : ByteArray} {pc nL : Nat} {ls : Array Slot} {rest st0 : List Value} {G : gG} {ent : gEnt} {o N : Nat} {σ : gS} {own : String} {ret : Option FieldType}
theorem g_get {idx ci k cx : Nat} {fs : List Value} {v : Value} (K : gK p s m args meth c G cc nL own ret) (hS : gSt G ent o N s σ H locs) (L : gFl own idx ci k) (he : ent cx (σ cx) = .inr (ci, fs)) (hc : cx < N) (hv : fs[k]? = some v) (hd : decode cc pc = .ok (.getfield idx, 3))
    (kk : W p l e R s m args below meth c H locs cells slots Q (F0 m (pc + 3) ls (v :: rest))) : W p l e R s m args below meth c H locs cells slots Q (F0 m pc ls (.ref (o + cx) :: rest)) := by
  obtain ⟨hx, hb, hml, hown, hts, hE, hr, hlk⟩ := K
  obtain ⟨C, T, n, h1, h2, h3, h4⟩ := L
  exact va_get hx hb hts h2 hown hE.1 hS.1 cx ((gL_get hc).trans (by rw [he])) h1 k h3 (hts _ h4) (fun _ h => h) hv hd kk
theorem g_put {idx ci k cx : Nat} {fs : (Nat → Int32) → List Value} {ty : FieldType} {x : Int32} (K : gK p s m args meth c G cc nL own ret) (hS : gSt G ent o N s σ H locs) (L : gFp own idx ci k ty) (he : ∀ f, ent cx f = .inr (ci, fs f)) (hc : cx < N) (hv : (fs (σ cx)).set k (.int x) = fs (upd (σ cx) k x)) (hl : k < (fs (σ cx)).length) (hn : narrow ty (.int x) = .int x) (hfit : fits ty (.int x) = true) (hd : decode cc pc = .ok (.putfield idx, 3))
    (kk : ∀ (H1 : Heap) (locs1 : List Loc), gSt G ent o N s (up2 σ cx k x) H1 locs1 → W p l e R s m args below meth c H1 locs1 cells slots Q (F0 m (pc + 3) ls rest)) : W p l e R s m args below meth c H locs cells slots Q (F0 m pc ls (.int x :: .ref (o + cx) :: rest)) := by
  obtain ⟨hx, hb, hml, hown, hts, hE, hr, hlk⟩ := K
  obtain ⟨C, T, n, t0, h1, h2, h3, h4, h5, h6, h7, h8⟩ := L
  refine va_put hx hb hts h2 t0 h5 h6 hown hE.1 hS.1 gL_D hS.2 cx ((gL_get hc).trans (by rw [he])) h1 k h3 (hts _ h4) (fun _ h => h) h7 h8 hn hfit hl hd (fun H1 locs1 a1 a2 a3 => kk H1 locs1 ⟨?_, a3⟩)
  rw [hv, ← he, gL_set hc] at a1
  exact a1
theorem g_iald {cx n j : Nat} {i : Int32} (K : gK p s m args meth c G cc nL own ret) (hS : gSt G ent o N s σ H locs) (he : ∀ f, ent cx f = .inl (G.2 0, n, .inl f)) (hc : cx < N) (hin : gin i n = true) (hj : gil i = j) (hd : decode cc pc = .ok (.iaload, 1))
    (kk : W p l e R s m args below meth c H locs cells slots Q (F0 m (pc + 1) ls (.int (σ cx j) :: rest))) : W p l e R s m args below meth c H locs cells slots Q (F0 m pc ls (.int i :: .ref (o + cx) :: rest)) := by
  subst hj
  obtain ⟨hx, hb, hml, hown, hts, hE, hr, hlk⟩ := K
  exact va_iald hx hb hE.1 hS.1 cx 0 ((gL_get hc).trans (by rw [he])) rfl (gin_in hin) hd kk
theorem g_iast {cx n j : Nat} {i x : Int32} (K : gK p s m args meth c G cc nL own ret) (hS : gSt G ent o N s σ H locs) (he : ∀ f, ent cx f = .inl (G.2 0, n, .inl f)) (hc : cx < N) (hin : gin i n = true) (hj : gil i = j) (hd : decode cc pc = .ok (.iastore, 1))
    (kk : ∀ (H1 : Heap) (locs1 : List Loc), gSt G ent o N s (up2 σ cx j x) H1 locs1 → W p l e R s m args below meth c H1 locs1 cells slots Q (F0 m (pc + 1) ls rest)) : W p l e R s m args below meth c H locs cells slots Q (F0 m pc ls (.int x :: .int i :: .ref (o + cx) :: rest)) := by
  subst hj
  obtain ⟨hx, hb, hml, hown, hts, hE, hr, hlk⟩ := K
  refine va_iast hx hb hE.1 hS.1 gL_D hS.2 cx 0 ((gL_get hc).trans (by rw [he])) rfl (gin_in hin) hd (fun H1 locs1 a1 a2 a3 => kk H1 locs1 ⟨?_, a3⟩)
  rw [← he, gL_set hc] at a1
  exact a1
theorem g_alen {cx t0 : Nat} {a : vp_A} {ty : FieldType} {v : Int32} (K : gK p s m args meth c G cc nL own ret) (hS : gSt G ent o N s σ H locs) (he : ent cx (σ cx) = .inl (G.2 t0, a)) (hc : cx < N) (ht : (gTys G)[t0]? = some (G.2 t0, ty)) (hv : Int32.ofNat a.1 = v) (hd : decode cc pc = .ok (.arraylength, 1))
    (kk : W p l e R s m args below meth c H locs cells slots Q (F0 m (pc + 1) ls (.int v :: rest))) : W p l e R s m args below meth c H locs cells slots Q (F0 m pc ls (.ref (o + cx) :: rest)) := by
  obtain ⟨hx, hb, hml, hown, hts, hE, hr, hlk⟩ := K
  exact va_alen hx hb hE.1 hS.1 cx t0 ((gL_get hc).trans (by rw [he])) ht hv hd kk
theorem g_aald {cx n : Nat} {f : Nat → Option Nat} {i : Int32} (K : gK p s m args meth c G cc nL own ret) (hS : gSt G ent o N s σ H locs) (he : ent cx (σ cx) = .inl (G.2 1, n, .inr (.inr (.inr (.inr f))))) (hc : cx < N) (hin : gin i n = true) (hd : decode cc pc = .ok (.aaload, 1))
    (kk : W p l e R s m args below meth c H locs cells slots Q (F0 m (pc + 1) ls (va_rf (f (gil i)) :: rest))) : W p l e R s m args below meth c H locs cells slots Q (F0 m pc ls (.int i :: .ref (o + cx) :: rest)) := by
  obtain ⟨hx, hb, hml, hown, hts, hE, hr, hlk⟩ := K
  exact va_aldq hx hb hE.1 hS.1 cx 1 ((gL_get hc).trans (by rw [he])) rfl (gin_in hin) hd kk
theorem g_copy {idx c0 c1 n0 n1 : Nat} {sp dp n : Int32} (K : gK p s m args meth c G cc nL own ret) (hS : gSt G ent o N s σ H locs) (hls : ls.size = nL) (hlk : Cond.methodLink own idx arraycopyName ∈ gT) (he0 : ∀ f, ent c0 f = .inl (G.2 0, n0, .inl f)) (he1 : ∀ f, ent c1 f = .inl (G.2 0, n1, .inl f)) (hc0 : c0 < N) (hc1 : c1 < N) (hn : sp = 0 ∧ dp = 0 ∧ 0 ≤ n.toInt ∧ n.toInt ≤ n0 ∧ n.toInt ≤ n1) (hnat : Cond.native arraycopyName ∈ gT) (hstat : Cond.static arraycopyName ∈ gT) (hini : Cond.initialized "java/lang/System" ∈ gT)
    (hframes : 1 ≤ R.frames) (hlocals : (rest.map fun v => v.category).sum + (nativeFrameWords "java/lang/System" "arraycopy" 5 + 11) ≤ R.locals) (hd : decode cc pc = .ok (.invokestatic idx, 3))
    (kk : ∀ (H1 : Heap) (locs1 : List Loc), gSt G ent o N s (gU σ c1 (va_cpy (σ c0) (σ c1) 0 0 (gil n))) H1 locs1 → W p l e R s m args below meth c H1 locs1 cells slots Q (F0 m (pc + 3) ls rest)) : W p l e R s m args below meth c H locs cells slots Q (F0 m pc ls (.int n :: .int dp :: .ref (o + c1) :: .int sp :: .ref (o + c0) :: rest)) := by
  obtain ⟨hx, hb, hml, hown, hts, hE, hr, -⟩ := K
  obtain ⟨rfl, rfl, h1, h2, h3⟩ := hn
  have hnn : ¬ n < 0 := by
    intro h
    have := Int32.lt_iff_toInt_lt.mp h
    simp at this
    omega
  have hcl : ((gil n : Nat) : Int) = n.toInt := by
    show ((n.toInt.toNat : Nat) : Int) = n.toInt
    omega
  refine va_copyi hx hb (hml.trans hls.symm) hown (hts _ hlk) (hts _ hnat) (hts _ hstat) (hts _ hini) hE.1 hS.1 gL_D hS.2 c0 c1 0 0 ((gL_get hc0).trans (by rw [he0])) ((gL_get hc1).trans (by rw [he1])) rfl rfl rfl (by decide) (by decide) hnn (by show 0 + gil n ≤ n0; omega) (by show 0 + gil n ≤ n1; omega) (fun i _ => rfl) hframes hlocals hd (fun H1 locs1 a1 a2 a3 => kk H1 locs1 ⟨?_, a3⟩)
  rw [← he1, gL_set hc1] at a1
  exact a1
theorem g_mmax {idx : Nat} {x y : Int32} (K : gK p s m args meth c G cc nL own ret) (hls : ls.size = nL) (hlk : Cond.methodLink own idx Lib.Math.max.name ∈ gT) (hst : Cond.static Lib.Math.max.name ∈ gT) (hini : Cond.initialized "java/lang/Math" ∈ gT) (hcode : Cond.code Lib.Math.max.name Lib.Math.max.code 2 (some .int) ∈ gT) (hframes : 1 ≤ R.frames) (hlocals : (rest.map fun v => v.category).sum + 13 ≤ R.locals) (hc : cells ≤ R.cells) (hs : slots ≤ R.slots) (hd : decode cc pc = .ok (.invokestatic idx, 3))
    (kk : W p l e R s m args below meth c H locs cells slots Q (F0 m (pc + 3) ls (.int (if x < y then y else x) :: rest))) : W p l e R s m args below meth c H locs cells slots Q (F0 m pc ls (.int y :: .int x :: rest)) := by
  obtain ⟨hx, hb, hml, hown, hts, hE, hr, -⟩ := K
  exact va_mmax hx hb (hml.trans hls.symm) hown (hts _ hlk) (hts _ hst) (hts _ hini) (hts _ hcode) hframes hlocals hc hs hd kk
theorem g_mmin {idx : Nat} {x y : Int32} (K : gK p s m args meth c G cc nL own ret) (hls : ls.size = nL) (hlk : Cond.methodLink own idx Lib.Math.min.name ∈ gT) (hst : Cond.static Lib.Math.min.name ∈ gT) (hini : Cond.initialized "java/lang/Math" ∈ gT) (hcode : Cond.code Lib.Math.min.name Lib.Math.min.code 2 (some .int) ∈ gT) (hframes : 1 ≤ R.frames) (hlocals : (rest.map fun v => v.category).sum + 13 ≤ R.locals) (hc : cells ≤ R.cells) (hs : slots ≤ R.slots) (hd : decode cc pc = .ok (.invokestatic idx, 3))
    (kk : W p l e R s m args below meth c H locs cells slots Q (F0 m (pc + 3) ls (.int (if y < x then y else x) :: rest))) : W p l e R s m args below meth c H locs cells slots Q (F0 m pc ls (.int y :: .int x :: rest)) := by
  obtain ⟨hx, hb, hml, hown, hts, hE, hr, -⟩ := K
  exact va_mmin hx hb (hml.trans hls.symm) hown (hts _ hlk) (hts _ hst) (hts _ hini) (hts _ hcode) hframes hlocals hc hs hd kk
theorem g_top {x y : Int32} (h : y = x) (k : W p l e R s m args below meth c H locs cells slots Q (F0 m pc ls (.int y :: rest))) : W p l e R s m args below meth c H locs cells slots Q (F0 m pc ls (.int x :: rest)) := by
  rw [← h]
  exact k
theorem g_topl {x y : Int64} (h : y = x) (k : W p l e R s m args below meth c H locs cells slots Q (F0 m pc ls (.long y :: rest))) : W p l e R s m args below meth c H locs cells slots Q (F0 m pc ls (.long x :: rest)) := by
  rw [← h]
  exact k
/-! returns -/
theorem g_iret {q : Int32 × gS} {v : Int32} (K : gK p s m args meth c G cc nL own (some .int)) (hS : gSt G ent o N s σ H locs) (hf : some (v, σ) = some q) (hd : decode cc pc = .ok (.ireturn, 1)) : W p l e R s m args below meth c H locs cells slots (MQ below (gQi G ent o N q) args s cells slots (gA o N)) (F0 m pc ls [.int v]) := by
  obtain ⟨hx, hb, hml, hown, hts, hE, hr, hlk⟩ := K
  obtain rfl := Option.some.inj hf
  exact W.iret hx hb hr (fun t ht hW => ⟨⟨rfl, by rw [ht]; exact hS.1⟩, hS.2.F ht⟩) hS.2.2.2 hd hlk
theorem g_zret {q : Int32 × gS} {v : Int32} (K : gK p s m args meth c G cc nL own (some .boolean)) (hS : gSt G ent o N s σ H locs) (hv : narrow .boolean (.int v) = .int v) (hf : some (v, σ) = some q) (hd : decode cc pc = .ok (.ireturn, 1)) : W p l e R s m args below meth c H locs cells slots (MQ below (gQi G ent o N q) args s cells slots (gA o N)) (F0 m pc ls [.int v]) := by
  obtain ⟨hx, hb, hml, hown, hts, hE, hr, hlk⟩ := K
  obtain rfl := Option.some.inj hf
  exact W.zret hx hb hr hv (fun t ht hW => ⟨⟨rfl, by rw [ht]; exact hS.1⟩, hS.2.F ht⟩) hS.2.2.2 hd hlk
theorem g_vret {q : gS} (K : gK p s m args meth c G cc nL own none) (hS : gSt G ent o N s σ H locs) (hf : some σ = some q) (hd : decode cc pc = .ok (.return_, 1)) : W p l e R s m args below meth c H locs cells slots (MQ below (gQv G ent o N q) args s cells slots (gA o N)) (F0 m pc ls []) := by
  obtain ⟨hx, hb, hml, hown, hts, hE, hr, hlk⟩ := K
  obtain rfl := Option.some.inj hf
  exact W.vret hx hb hr (fun t ht hW => ⟨⟨rfl, by rw [ht]; exact hS.1⟩, hS.2.F ht⟩) hS.2.2.2 hd hlk
end GR
