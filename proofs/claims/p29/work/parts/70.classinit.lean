section SI
variable {l : Launch} {G : gG}
abbrev rmShelf (n : Nat) : Room := { frames := 6, cells := 1 + 32 * n, slots := n + 189 * n, locals := 200 }
set_option maxHeartbeats 4000000 in
set_option maxRecDepth 100000 in
theorem w_X6_init_L18 {p : Program} {e : Env} {s : State} {m : MethodId} {args : Array Value} {below : List Frame} {meth : Method} {c : Code} {a n : Nat} (K : gK p s m args meth c G cX6_init 3 RX6 none) (hsz : s.heap.size = a + 1) (hn : n ≤ 1000) : ∀ (d i : Nat), i + d = n → ∀ (H : Heap) (locs : List Loc) (ls : Array Slot), cS G a (Lsh G a n i) s H locs → lv_has ls 3 [(0, .ref a), (1, .int (nI n)), (2, .int (nI i))] → W p l e (rmShelf n) s m args below meth c H locs (1 + 32 * i) (n + 189 * i) (MQ below (cQc G a (Lshelf G a n)) args s (1 + 32 * n) (n + 189 * n) (cFr a)) (F0 m 18 ls []) := by
  obtain ⟨hx, hb, hml, hown, hts, -⟩ := id K
  intro d
  induction d with
  | zero =>
    intro i hi H locs ls hS hl
    have hi : i = n := hi
    subst hi
    refine lv_iload_n hx hb dX6_init_18 rfl (lv_at hl 2 rfl) ?_
    refine lv_aload_n hx hb dX6_init_19 rfl (lv_at hl 0 rfl) ?_
    refine c_get (i := 0) (ci := 6) (k := 0) (v := .ref (a + 1)) (fs := [.ref (a + 1)]) K hS lF_X6_15 rfl rfl dX6_init_20 ?_
    refine c_qlen (i := 1) (N := i) (v := nI i) K hS rfl rfl dX6_init_23 ?_
    refine lv_icmp_ge (tgt := 46) hx hb dX6_init_24 (by decide) (fun c1 => ?_) (fun c1 => absurd (nI_le (Nat.le_refl i) (by omega)) c1)
    have hS2 : cS G a (Lshelf G a i) s H locs := ⟨Lsh_done G a i hS.1, hS.2⟩
    exact c_ret K hS2 dX6_init_46
  | succ d ih =>
    intro i hi H locs ls hS hl
    have hin : i < n := by omega
    have hlen := Lsh_len G a n i
    refine lv_iload_n hx hb dX6_init_18 rfl (lv_at hl 2 rfl) ?_
    refine lv_aload_n hx hb dX6_init_19 rfl (lv_at hl 0 rfl) ?_
    refine c_get (i := 0) (ci := 6) (k := 0) (v := .ref (a + 1)) (fs := [.ref (a + 1)]) K hS lF_X6_15 rfl rfl dX6_init_20 ?_
    refine c_qlen (i := 1) (N := n) (v := nI n) K hS rfl rfl dX6_init_23 ?_
    refine lv_icmp_ge (tgt := 46) hx hb dX6_init_24 (by decide) (fun c1 => absurd c1 (nI_ge hin (by omega))) (fun c1 => ?_)
    refine lv_aload_n hx hb dX6_init_27 rfl (lv_at hl 0 rfl) ?_
    refine c_get (i := 0) (ci := 6) (k := 0) (v := .ref (a + 1)) (fs := [.ref (a + 1)]) K hS lF_X6_15 rfl rfl dX6_init_28 ?_
    refine lv_iload_n hx hb dX6_init_31 rfl (lv_at hl 2 rfl) ?_
    refine c_new (fs := [.int 0, .int 0, .null, .null, .null, .null]) (ci := 0) K hS rfl wmX0 tyX0_ok (gmd (by decide +kernel) rfl) (gmd (by decide +kernel) rfl) (gmd (by decide +kernel) rfl) (fun j hj => by rcases (show j = 0 ∨ j = 1 ∨ j = 2 ∨ j = 3 ∨ j = 4 ∨ j = 5 by omega) with rfl | rfl | rfl | rfl | rfl | rfl <;> rfl) (by show 1 + 32 * i + 1 ≤ 1 + 32 * n; omega) (by show n + 189 * i + 6 ≤ n + 189 * n; omega) dX6_init_32 (fun H hS => ?_)
    refine lv_dup hx hb dX6_init_35 rfl ?_
    refine c_runI (As := []) (rest := [.ref (a + (Lsh G a n i).length), .int (nI i), .ref (a + 1)]) (mL := 1) (n := 0) (y := yX0_init) (M := Lattic G (a + (Lsh G a n i).length)) K hS (gmd (by decide +kernel) rfl) (gmd (by decide +kernel) rfl) (gmd (by decide +kernel) rfl) (gmd (by decide +kernel) rfl) (by decide +kernel) rfl (c_X0_init _) ⟨rfl, rfl⟩ rfl rfl (Nat.le_of_ble_eq_true rfl) ⟨Nat.le_of_ble_eq_true rfl, Nat.le_of_ble_eq_true rfl⟩ hl.1 ⟨by show 1 + 32 * i + 1 + 31 ≤ 1 + 32 * n; omega, by show n + 189 * i + 6 + 183 ≤ n + 189 * n; omega⟩ dX6_init_36 (fun H locs hS => ?_)
    rw [hlen] at hS ⊢
    have hat : (Lsh G a n i ++ Lattic G (a + (2 + 32 * i)))[2 + 32 * i]? = some (.inr (0, [.int 0, .int 0, .ref (a + (2 + 32 * i) + 1), .ref (a + (2 + 32 * i) + 3), .ref (a + (2 + 32 * i) + 16), .ref (a + (2 + 32 * i) + 23)])) := by
      rw [List.getElem?_append_right (by omega), hlen, Nat.sub_self]
      rfl
    refine c_aast (i := 1) (qk := 2 + 32 * i) (N := n) (j := i) (f := shF a i) K hS (by rw [hsz, List.length_append, hlen]; show a + 1 + (1 + 32 * i + 1 + 31) = a + (2 + 32 * i + 32); omega) rfl hat (gin_nI hin (by omega)) (gil_nI (by omega)) dX6_init_39 (fun H locs hS => ?_)
    rw [Lsh_next] at hS
    refine lv_iinc (v := nI i + 1) (lv' := [(2, .int (nI i + 1)), (0, .ref a), (1, .int (nI n))]) hx hb dX6_init_40 hl (k := 2) rfl rfl (by decide) rfl (fun ls hl => ?_)
    refine lv_goto (tgt := 18) hx hb dX6_init_43 (by decide) ?_
    rw [nI_1] at hl
    have := ih (i + 1) (by omega) _ _ _ hS (lv_sub hl [1, 2, 0] rfl)
    rw [show 1 + 32 * (i + 1) = 1 + 32 * i + 1 + 31 by omega, show n + 189 * (i + 1) = n + 189 * i + 6 + 183 by omega] at this
    exact this
set_option maxHeartbeats 4000000 in
set_option maxRecDepth 100000 in
theorem c_X6_init (a n : Nat) (hn : n ≤ 1000) : Met l yX6_init (gW yX6_init cX6_init 3 none) (rmShelf n) (cPa G a (.inr (6, [.null])) [.ref a, .int (nI n)]) (cQc G a (Lshelf G a n)) (1 + 32 * n) (n + 189 * n) (cFr a) := by
  refine c_metA (by decide) (fun p e s m args below meth c ls K hA hin hS hl => ?_) (Nat.le_of_ble_eq_true rfl)
  have K : gK p s m args meth c G cX6_init 3 RX6 none := K
  have hl : lv_has ls 3 [(0, .ref a), (1, .int (nI n))] := hl
  have hsz : s.heap.size = a + 1 := hS.2.1
  obtain ⟨hx, hb, hml, hown, hts, -⟩ := id K
  refine lv_aload_n hx hb dX6_init_0 rfl (lv_at hl 0 rfl) ?_
  refine W.objInit hx hb hown (hts _ (gmd (w := .methodLink RX6 1 objectInit) (by decide +kernel) rfl)) (hts _ (gmd (w := .instanceMethod objectInit) (by decide +kernel) rfl)) (hts _ (gmd (w := .code objectInit ⟨#[0xb1]⟩ 1 none) (by decide +kernel) rfl)) rfl (by rw [hml]; exact hl.1) rfl dX6_init_1 (Nat.le_of_ble_eq_true rfl) (Nat.le_of_ble_eq_true rfl) ?_
  refine lv_aload_n hx hb dX6_init_4 rfl (lv_at hl 0 rfl) ?_
  refine lv_iload_n hx hb dX6_init_5 rfl (lv_at hl 1 rfl) ?_
  refine lv_iconst (v := 0) hx hb dX6_init_6 (by decide) ?_
  refine g_mmax K hl.1 (gmd (by decide +kernel) rfl) q_static_max q_init_Math q_code_max (Nat.le_of_ble_eq_true rfl) (Nat.le_of_ble_eq_true rfl) (Nat.zero_le _) (Nat.zero_le _) dX6_init_7 ?_
  rw [if_neg (show ¬ nI n < 0 from nI_pos (by omega))]
  refine c_newq (N := n) K hS (gmd (by decide +kernel) rfl) hA.use (nI_pos (by omega)) (nI_clamp (by omega)) (by omega) (by show 0 + 1 ≤ 1 + 32 * n; omega) (by show 0 + n ≤ n + 189 * n; omega) dX6_init_10 (fun H hS => ?_)
  refine c_put (i := 0) (ci := 6) (k := 0) (fs := [.null]) (ty := .array (.object RX0)) K hin hS rfl rfl wmX6 tyX6_ok nmX6 (by decide) (gmd (by decide +kernel) rfl) rfl rfl (by decide +kernel) rfl rfl (by decide) dX6_init_13 (fun H locs hS => ?_)
  refine lv_iconst (v := 0) hx hb dX6_init_16 (by decide) ?_
  refine lv_istore_n (lv' := [(2, .int 0), (0, .ref a), (1, .int (nI n))]) hx hb dX6_init_17 rfl hl (by decide) rfl (fun ls hl => ?_)
  have hS : cS G a (Lsh G a n 0) s H locs := by
    unfold Lsh
    rw [shF_0]
    exact hS
  have := w_X6_init_L18 (l := l) (e := e) (below := below) K hsz hn n 0 (Nat.zero_add n) H locs ls hS (lv_sub hl [1, 2, 0] rfl)
  rw [show 1 + 32 * 0 = 0 + 1 from rfl, show n + 189 * 0 = 0 + n by omega] at this
  exact this
/-- a shelf is made by new Shelf(n), left in a final field: one step of the walk -/
theorem c_shelf {p : Program} {e : Env} {R : Room} {s : State} {m : MethodId} {args : Array Value} {below : List Frame} {meth : Method} {c : Code} {H : Heap} {locs : List Loc} {cells slots : Nat} {Q : State → Prop} {cc : ByteArray} {pc nL : Nat} {ls : Array Slot} {o : Nat} {own : String} {ret : Option FieldType} {L : List va_E} {i0 i1 i2 n ci k N : Nat} {C : String} {fs : List Value} {T : u_T} {t0 : Nat → FieldType} {w : Nat} (K : gK p s m args meth c G cc nL own ret) (hA : va_AO RX0 s) (hin : meth.name = "<init>") (hn : n ≤ 1000) (hls : ls.size = nL) (hS : cS G o L s H locs)
    (he : L[0]? = some (.inr (ci, fs))) (hc : gCls[ci]? = some (C, T, N)) (hws : ∀ w ∈ u_ws C T N, w ∈ gT) (hty : ∀ k, k < N → parseFieldDescriptor (T k).2.2.1 = some (t0 k)) (hnm : ∀ a, a < N → ∀ b, b < N → a ≠ b → (T a).2.1 ≠ (T b).2.1) (hk : k < N) (hlink : Cond.fieldLink own i2 (T k).1 (T k).2.1 (T k).2.2.1 ∈ gT) (hfin : (T k).2.2.2 = true) (hdecl : (T k).1 = own) (hdd : parseFieldDescriptor (T k).2.2.1 = some (.object RX6)) (hfl : k < fs.length)
    (h0 : Cond.classLink own i0 RX6 ∈ gT) (h1 : Cond.methodLink own i1 yX6_init ∈ gT)
    (hfr : 7 ≤ R.frames) (hlo : 8 + 14 + 200 ≤ R.locals) (hce : cells + 1 + (1 + 32 * n) ≤ R.cells) (hsl : slots + 1 + (n + 189 * n) ≤ R.slots)
    (ha : decode cc pc = .ok (.new i0, 3)) (hb : decode cc (pc + 3) = .ok (.dup, 1)) (hpush : ∀ (H : Heap) (locs : List Loc) (cells slots : Nat) (rest : List Value), W p l e R s m args below meth c H locs cells slots Q (F0 m (pc + 4 + w) ls (.int (nI n) :: rest)) → W p l e R s m args below meth c H locs cells slots Q (F0 m (pc + 4) ls rest))
    (hd : decode cc (pc + 4 + w) = .ok (.invokespecial i1, 3)) (hf : decode cc (pc + 4 + w + 3) = .ok (.putfield i2, 3))
    (kk : ∀ (H1 : Heap) (locs1 : List Loc), cS G o ((L ++ Lshelf G (o + L.length) n).set 0 (.inr (ci, fs.set k (.ref (o + L.length))))) s H1 locs1 → W p l e R s m args below meth c H1 locs1 (cells + 1 + (1 + 32 * n)) (slots + 1 + (n + 189 * n)) Q (F0 m (pc + 4 + w + 3 + 3) ls [])) : W p l e R s m args below meth c H locs cells slots Q (F0 m pc ls [.ref o]) := by
  obtain ⟨hx, hbc, hml, hown, hts, -⟩ := id K
  refine c_new (fs := [.null]) (ci := 6) K hS rfl wmX6 tyX6_ok h0 (gmd (by decide +kernel) rfl) (gmd (by decide +kernel) rfl) (fun j hj => by rcases (show j = 0 by omega) with rfl; rfl) (by omega) (by omega) ha (fun H hS => ?_)
  refine lv_dup hx hbc hb rfl ?_
  refine hpush _ _ _ _ _ ?_
  refine c_runIg (As := [.int (nI n)]) (rest := [.ref (o + L.length), .ref o]) (mL := 3) (n := 1) K hS (c_preA K hS hA) h1 (gmd (by decide +kernel) rfl) (gmd (by decide +kernel) rfl) (gmd (by decide +kernel) rfl) (by decide +kernel) rfl (c_X6_init _ n hn) ⟨rfl, rfl⟩ rfl rfl (Nat.le_of_ble_eq_true rfl) ⟨hfr, hlo⟩ hls ⟨by omega, by omega⟩ hd (fun H locs hS => ?_)
  refine c_put (i := 0) (ci := ci) (k := k) (fs := fs) (ty := .object RX6) K hin hS (by rw [List.getElem?_append_left (List.getElem?_eq_some_iff.mp he).1]; exact he) hc hws hty hnm hk hlink hfin hdecl hdd rfl rfl hfl hf (fun H locs hS => ?_)
  exact kk H locs hS
/-- a history, made -/
def Lhist (G : gG) (a : Nat) : List va_E := .inr (3, [.ref (a + 1), .int 0, .int 0]) :: Lshelf G (a + 1) 6
abbrev rmHist : Room := { frames := 7, cells := 194, slots := 1141, locals := 222 }
set_option maxHeartbeats 4000000 in
set_option maxRecDepth 100000 in
theorem c_X3_init (a : Nat) : Met l yX3_init (gW yX3_init cX3_init 1 none) rmHist (cPa G a (.inr (3, [.null, .int 0, .int 0])) [.ref a]) (cQc G a (Lhist G a)) 194 1141 (cFr a) := by
  refine c_metA (by decide) (fun p e s m args below meth c ls K hA hin hS hl => ?_) (Nat.le_of_ble_eq_true rfl)
  have K : gK p s m args meth c G cX3_init 1 RX3 none := K
  have hl : lv_has ls 1 [(0, .ref a)] := hl
  obtain ⟨hx, hb, hml, hown, hts, -⟩ := id K
  refine lv_aload_n hx hb dX3_init_0 rfl (lv_at hl 0 rfl) ?_
  refine W.objInit hx hb hown (hts _ (gmd (w := .methodLink RX3 3 objectInit) (by decide +kernel) rfl)) (hts _ (gmd (w := .instanceMethod objectInit) (by decide +kernel) rfl)) (hts _ (gmd (w := .code objectInit ⟨#[0xb1]⟩ 1 none) (by decide +kernel) rfl)) rfl (by rw [hml]; exact hl.1) rfl dX3_init_1 (Nat.le_of_ble_eq_true rfl) (Nat.le_of_ble_eq_true rfl) ?_
  refine lv_aload_n hx hb dX3_init_4 rfl (lv_at hl 0 rfl) ?_
  refine c_shelf (n := 6) (w := 2) (k := 0) (ci := 3) (fs := [.null, .int 0, .int 0]) K hA hin (by decide) hl.1 hS rfl rfl wmX3 tyX3_ok nmX3 (by decide) (gmd (by decide +kernel) rfl) rfl rfl (by decide +kernel) (Nat.le_of_ble_eq_true rfl) (gmd (by decide +kernel) rfl) (gmd (by decide +kernel) rfl) (Nat.le_of_ble_eq_true rfl) (Nat.le_of_ble_eq_true rfl) (Nat.le_of_ble_eq_true rfl) (Nat.le_of_ble_eq_true rfl) dX3_init_5 dX3_init_8 (fun H locs cells slots rest k => lv_bipush (v := 6) hx hb dX3_init_9 (by decide) k) dX3_init_11 dX3_init_14 (fun H locs hS => ?_)
  exact c_ret K hS dX3_init_17
/-- T x = new T(), T's constructor public, left in a final field: one step of the walk -/
theorem c_objP {p : Program} {e : Env} {R : Room} {s : State} {m : MethodId} {args : Array Value} {below : List Frame} {meth : Method} {c : Code} {H : Heap} {locs : List Loc} {cells slots : Nat} {Q : State → Prop} {cc b2 : ByteArray} {pc nL : Nat} {ls : Array Slot} {o : Nat} {own C2 : String} {ret : Option FieldType} {L M : List va_E} {i0 i1 i2 ci ci2 k N N2 mc ms mL2 : Nat} {C : String} {fs fs2 : List Value} {T T2 : u_T} {t0 t2 : Nat → FieldType} {y : MethodName} {rm : Room} (K : gK p s m args meth c G cc nL own ret) (hin : meth.name = "<init>") (hls : ls.size = nL) (hS : cS G o L s H locs)
    (he : L[0]? = some (.inr (ci, fs))) (hc : gCls[ci]? = some (C, T, N)) (hws : ∀ w ∈ u_ws C T N, w ∈ gT) (hty : ∀ k, k < N → parseFieldDescriptor (T k).2.2.1 = some (t0 k)) (hnm : ∀ a, a < N → ∀ b, b < N → a ≠ b → (T a).2.1 ≠ (T b).2.1) (hk : k < N) (hlink : Cond.fieldLink own i2 (T k).1 (T k).2.1 (T k).2.2.1 ∈ gT) (hfin : (T k).2.2.2 = true) (hdecl : (T k).1 = own) (hdd : parseFieldDescriptor (T k).2.2.1 = some (.object C2)) (hfl : k < fs.length)
    (hc2 : gCls[ci2]? = some (C2, T2, N2)) (hws2 : ∀ w ∈ u_ws C2 T2 N2, w ∈ gT) (hty2 : ∀ k, k < N2 → parseFieldDescriptor (T2 k).2.2.1 = some (t2 k)) (hfs2 : ∀ j, j < N2 → defaultValue (t2 j) = vp_V fs2 j) (h0 : Cond.classLink own i0 C2 ∈ gT) (hi2 : Cond.instantiable C2 N2 ∈ gT) (hini2 : Cond.initialized C2 ∈ gT)
    (h1 : Cond.methodLink own i1 y ∈ gT) (hy : y.cls = C2) (hyn : y.name = "<init>") (hinst : Cond.instanceMethod y ∈ gT) (hcode : Cond.code y b2 mL2 none ∈ gT) (hdd2 : y.cls ≠ "java/lang/invoke/MethodHandle" ∧ y.cls ≠ "java/lang/invoke/VarHandle" ∧ (parseMethodDescriptor y.desc).map (fun d => d.parameters.length) = some 0)
    (hM : Met l y (gW y b2 mL2 none) rm (cPc G (o + L.length) (.inr (ci2, fs2)) [.ref (o + L.length)]) (cQc G (o + L.length) M) mc ms (cFr (o + L.length))) (hrm : rm.cells = mc ∧ rm.slots = ms) (hR : cR rm R mL2)
    (hce : cells + 1 + mc ≤ R.cells) (hsl : slots + N2 + ms ≤ R.slots)
    (ha : decode cc pc = .ok (.new i0, 3)) (hb : decode cc (pc + 3) = .ok (.dup, 1)) (hd : decode cc (pc + 4) = .ok (.invokespecial i1, 3)) (hf : decode cc (pc + 7) = .ok (.putfield i2, 3))
    (kk : ∀ (H1 : Heap) (locs1 : List Loc), cS G o ((L ++ M).set 0 (.inr (ci, fs.set k (.ref (o + L.length))))) s H1 locs1 → W p l e R s m args below meth c H1 locs1 (cells + 1 + mc) (slots + N2 + ms) Q (F0 m (pc + 10) ls [])) : W p l e R s m args below meth c H locs cells slots Q (F0 m pc ls [.ref o]) := by
  obtain ⟨hx, hbc, hml, hown, hts, -⟩ := id K
  refine c_new (fs := fs2) (ci := ci2) K hS hc2 hws2 hty2 h0 hi2 hini2 hfs2 (by omega) (by omega) ha (fun H hS => ?_)
  refine lv_dup hx hbc hb rfl ?_
  refine c_runI (As := []) (rest := [.ref (o + L.length), .ref o]) (n := 0) K hS h1 hinst (by rw [hy]; exact hini2) hcode hdd2 hyn hM hrm rfl rfl (Nat.le_of_ble_eq_true rfl) hR hls ⟨by omega, by omega⟩ hd (fun H locs hS => ?_)
  refine c_put (i := 0) (ci := ci) (k := k) (fs := fs) (ty := .object C2) K hin hS (by rw [List.getElem?_append_left (List.getElem?_eq_some_iff.mp he).1]; exact he) hc hws hty hnm hk hlink hfin hdecl hdd rfl rfl hfl hf (fun H locs hS => ?_)
  exact kk H locs hS
/-- T x = new T(), T's constructor private to the nest and a maker of a row of attics, left in a final field: one step of the walk -/
theorem c_objNA {p : Program} {e : Env} {R : Room} {s : State} {m : MethodId} {args : Array Value} {below : List Frame} {meth : Method} {c : Code} {H : Heap} {locs : List Loc} {cells slots : Nat} {Q : State → Prop} {cc b2 : ByteArray} {pc nL : Nat} {ls : Array Slot} {o : Nat} {own host C2 : String} {ret : Option FieldType} {L M : List va_E} {i0 i1 i2 ci ci2 k N N2 mc ms mL2 : Nat} {C : String} {fs fs2 : List Value} {T T2 : u_T} {t0 t2 : Nat → FieldType} {y : MethodName} {rm : Room} (K : gK p s m args meth c G cc nL own ret) (hA : va_AO RX0 s) (hin : meth.name = "<init>") (hls : ls.size = nL) (hS : cS G o L s H locs)
    (he : L[0]? = some (.inr (ci, fs))) (hc : gCls[ci]? = some (C, T, N)) (hws : ∀ w ∈ u_ws C T N, w ∈ gT) (hty : ∀ k, k < N → parseFieldDescriptor (T k).2.2.1 = some (t0 k)) (hnm : ∀ a, a < N → ∀ b, b < N → a ≠ b → (T a).2.1 ≠ (T b).2.1) (hk : k < N) (hlink : Cond.fieldLink own i2 (T k).1 (T k).2.1 (T k).2.2.1 ∈ gT) (hfin : (T k).2.2.2 = true) (hdecl : (T k).1 = own) (hdd : parseFieldDescriptor (T k).2.2.1 = some (.object C2)) (hfl : k < fs.length)
    (hc2 : gCls[ci2]? = some (C2, T2, N2)) (hws2 : ∀ w ∈ u_ws C2 T2 N2, w ∈ gT) (hty2 : ∀ k, k < N2 → parseFieldDescriptor (T2 k).2.2.1 = some (t2 k)) (hfs2 : ∀ j, j < N2 → defaultValue (t2 j) = vp_V fs2 j) (h0 : Cond.classLink own i0 C2 ∈ gT) (hi2 : Cond.instantiable C2 N2 ∈ gT) (hini2 : Cond.initialized C2 ∈ gT)
    (h1 : Cond.methodLinkNest own i1 y host ∈ gNestW) (hy : y.cls = C2) (hyn : y.name = "<init>") (hinst : Cond.instanceMethod y ∈ gT) (hcode : Cond.code y b2 mL2 none ∈ gT) (hdd2 : y.cls ≠ "java/lang/invoke/MethodHandle" ∧ y.cls ≠ "java/lang/invoke/VarHandle" ∧ (parseMethodDescriptor y.desc).map (fun d => d.parameters.length) = some 0)
    (hM : Met l y (gW y b2 mL2 none) rm (cPa G (o + L.length) (.inr (ci2, fs2)) [.ref (o + L.length)]) (cQc G (o + L.length) M) mc ms (cFr (o + L.length))) (hrm : rm.cells = mc ∧ rm.slots = ms) (hR : cR rm R mL2)
    (hce : cells + 1 + mc ≤ R.cells) (hsl : slots + N2 + ms ≤ R.slots)
    (ha : decode cc pc = .ok (.new i0, 3)) (hb : decode cc (pc + 3) = .ok (.dup, 1)) (hd : decode cc (pc + 4) = .ok (.invokespecial i1, 3)) (hf : decode cc (pc + 7) = .ok (.putfield i2, 3))
    (kk : ∀ (H1 : Heap) (locs1 : List Loc), cS G o ((L ++ M).set 0 (.inr (ci, fs.set k (.ref (o + L.length))))) s H1 locs1 → W p l e R s m args below meth c H1 locs1 (cells + 1 + mc) (slots + N2 + ms) Q (F0 m (pc + 10) ls [])) : W p l e R s m args below meth c H locs cells slots Q (F0 m pc ls [.ref o]) := by
  obtain ⟨hx, hbc, hml, hown, hts, -⟩ := id K
  refine c_new (fs := fs2) (ci := ci2) K hS hc2 hws2 hty2 h0 hi2 hini2 hfs2 (by omega) (by omega) ha (fun H hS => ?_)
  refine lv_dup hx hbc hb rfl ?_
  refine c_runINg (As := []) (rest := [.ref (o + L.length), .ref o]) (n := 0) K hS (c_preA K hS hA) h1 hinst (by rw [hy]; exact hini2) hcode hdd2 hyn hM hrm rfl rfl (Nat.le_of_ble_eq_true rfl) hR hls ⟨by omega, by omega⟩ hd (fun H locs hS => ?_)
  refine c_put (i := 0) (ci := ci) (k := k) (fs := fs) (ty := .object C2) K hin hS (by rw [List.getElem?_append_left (List.getElem?_eq_some_iff.mp he).1]; exact he) hc hws hty hnm hk hlink hfin hdecl hdd rfl rfl hfl hf (fun H locs hS => ?_)
  exact kk H locs hS
/-- an object of the class, made -/
def Lclass (G : gG) (a : Nat) : List va_E := .inr (9, [.ref (a + 1), .ref (a + 33), .ref (a + 36), .ref (a + 231), .int 0, .ref (a + 297)]) :: (Lattic G (a + 1) ++ Lpad G (a + 33) ++ Lhist G (a + 36) ++ Lshelf G (a + 231) 2 ++ Lway G (a + 297))
abbrev rmClass : Room := { frames := 8, cells := 301, slots := 1804, locals := 260 }
set_option maxHeartbeats 4000000 in
set_option maxRecDepth 100000 in
theorem c_X10_init (a : Nat) : Met l yX10_init (gW yX10_init cX10_init 1 none) rmClass (cPa G a (.inr (9, [.null, .null, .null, .null, .int 0, .null])) [.ref a]) (cQc G a (Lclass G a)) 301 1804 (cFr a) := by
  refine c_metA (by decide) (fun p e s m args below meth c ls K hA hin hS hl => ?_) (Nat.le_of_ble_eq_true rfl)
  have K : gK p s m args meth c G cX10_init 1 RX10 none := K
  have hl : lv_has ls 1 [(0, .ref a)] := hl
  obtain ⟨hx, hb, hml, hown, hts, -⟩ := id K
  refine lv_aload_n hx hb dX10_init_0 rfl (lv_at hl 0 rfl) ?_
  refine W.objInit hx hb hown (hts _ (gmd (w := .methodLink RX10 1 objectInit) (by decide +kernel) rfl)) (hts _ (gmd (w := .instanceMethod objectInit) (by decide +kernel) rfl)) (hts _ (gmd (w := .code objectInit ⟨#[0xb1]⟩ 1 none) (by decide +kernel) rfl)) rfl (by rw [hml]; exact hl.1) rfl dX10_init_1 (Nat.le_of_ble_eq_true rfl) (Nat.le_of_ble_eq_true rfl) ?_
  refine lv_aload_n hx hb dX10_init_4 rfl (lv_at hl 0 rfl) ?_
  refine c_objP (k := 0) (ci := 9) (ci2 := 0) (fs := [.null, .null, .null, .null, .int 0, .null]) (fs2 := [.int 0, .int 0, .null, .null, .null, .null]) (M := Lattic G (a + 1)) (mL2 := 1) K hin hl.1 hS rfl rfl wmX10 tyX10_ok nmX10 (by decide) (gmd (by decide +kernel) rfl) rfl rfl (by decide +kernel) (Nat.le_of_ble_eq_true rfl) rfl wmX0 tyX0_ok (fun j hj => by rcases (show j = 0 ∨ j = 1 ∨ j = 2 ∨ j = 3 ∨ j = 4 ∨ j = 5 by omega) with rfl | rfl | rfl | rfl | rfl | rfl <;> rfl) (gmd (by decide +kernel) rfl) (gmd (by decide +kernel) rfl) (gmd (by decide +kernel) rfl) (y := yX0_init) (gmd (by decide +kernel) rfl) rfl rfl (gmd (by decide +kernel) rfl) (gmd (by decide +kernel) rfl) (by decide +kernel) (c_X0_init (a + 1)) ⟨rfl, rfl⟩ ⟨Nat.le_of_ble_eq_true rfl, Nat.le_of_ble_eq_true rfl⟩ (Nat.le_of_ble_eq_true rfl) (Nat.le_of_ble_eq_true rfl) dX10_init_5 dX10_init_8 dX10_init_9 dX10_init_12 (fun H locs hS => ?_)
  have hS : cS G a (.inr (9, [.ref (a + 1), .null, .null, .null, .int 0, .null]) :: (Lattic G (a + 1))) s H locs := hS
  refine lv_aload_n hx hb dX10_init_15 rfl (lv_at hl 0 rfl) ?_
  refine c_objN (k := 1) (ci := 9) (ci2 := 4) (fs := [.ref (a + 1), .null, .null, .null, .int 0, .null]) (fs2 := [.int 0, .null]) (M := Lpad G (a + 33)) (mL2 := 1) K hin hl.1 hS rfl rfl wmX10 tyX10_ok nmX10 (by decide) (gmd (by decide +kernel) rfl) rfl rfl (by decide +kernel) (Nat.le_of_ble_eq_true rfl) rfl wmX4 tyX4_ok (fun j hj => by rcases (show j = 0 ∨ j = 1 by omega) with rfl | rfl <;> rfl) (gmd (by decide +kernel) rfl) (gmd (by decide +kernel) rfl) (gmd (by decide +kernel) rfl) (host := RX10) (y := yX4_init) (by decide +kernel) rfl rfl (gmd (by decide +kernel) rfl) (gmd (by decide +kernel) rfl) (by decide +kernel) (c_X4_init (a + 33)) ⟨rfl, rfl⟩ ⟨Nat.le_of_ble_eq_true rfl, Nat.le_of_ble_eq_true rfl⟩ (Nat.le_of_ble_eq_true rfl) (Nat.le_of_ble_eq_true rfl) dX10_init_16 dX10_init_19 dX10_init_20 dX10_init_23 (fun H locs hS => ?_)
  have hS : cS G a (.inr (9, [.ref (a + 1), .ref (a + 33), .null, .null, .int 0, .null]) :: (Lattic G (a + 1) ++ Lpad G (a + 33))) s H locs := hS
  refine lv_aload_n hx hb dX10_init_26 rfl (lv_at hl 0 rfl) ?_
  refine c_objNA (k := 2) (ci := 9) (ci2 := 3) (fs := [.ref (a + 1), .ref (a + 33), .null, .null, .int 0, .null]) (fs2 := [.null, .int 0, .int 0]) (M := Lhist G (a + 36)) (mL2 := 1) K hA hin hl.1 hS rfl rfl wmX10 tyX10_ok nmX10 (by decide) (gmd (by decide +kernel) rfl) rfl rfl (by decide +kernel) (Nat.le_of_ble_eq_true rfl) rfl wmX3 tyX3_ok (fun j hj => by rcases (show j = 0 ∨ j = 1 ∨ j = 2 by omega) with rfl | rfl | rfl <;> rfl) (gmd (by decide +kernel) rfl) (gmd (by decide +kernel) rfl) (gmd (by decide +kernel) rfl) (host := RX10) (y := yX3_init) (by decide +kernel) rfl rfl (gmd (by decide +kernel) rfl) (gmd (by decide +kernel) rfl) (by decide +kernel) (c_X3_init (a + 36)) ⟨rfl, rfl⟩ ⟨Nat.le_of_ble_eq_true rfl, Nat.le_of_ble_eq_true rfl⟩ (Nat.le_of_ble_eq_true rfl) (Nat.le_of_ble_eq_true rfl) dX10_init_27 dX10_init_30 dX10_init_31 dX10_init_34 (fun H locs hS => ?_)
  have hS : cS G a (.inr (9, [.ref (a + 1), .ref (a + 33), .ref (a + 36), .null, .int 0, .null]) :: (Lattic G (a + 1) ++ Lpad G (a + 33) ++ Lhist G (a + 36))) s H locs := hS
  refine lv_aload_n hx hb dX10_init_37 rfl (lv_at hl 0 rfl) ?_
  refine c_shelf (n := 2) (w := 1) (k := 3) (ci := 9) (fs := [.ref (a + 1), .ref (a + 33), .ref (a + 36), .null, .int 0, .null]) K hA hin (by decide) hl.1 hS rfl rfl wmX10 tyX10_ok nmX10 (by decide) (gmd (by decide +kernel) rfl) rfl rfl (by decide +kernel) (Nat.le_of_ble_eq_true rfl) (gmd (by decide +kernel) rfl) (gmd (by decide +kernel) rfl) (Nat.le_of_ble_eq_true rfl) (Nat.le_of_ble_eq_true rfl) (Nat.le_of_ble_eq_true rfl) (Nat.le_of_ble_eq_true rfl) dX10_init_38 dX10_init_41 (fun H locs cells slots rest k => lv_iconst (v := 2) hx hb dX10_init_42 (by decide) k) dX10_init_43 dX10_init_46 (fun H locs hS => ?_)
  have hS : cS G a (.inr (9, [.ref (a + 1), .ref (a + 33), .ref (a + 36), .ref (a + 231), .int 0, .null]) :: (Lattic G (a + 1) ++ Lpad G (a + 33) ++ Lhist G (a + 36) ++ Lshelf G (a + 231) 2)) s H locs := hS
  refine lv_aload_n hx hb dX10_init_49 rfl (lv_at hl 0 rfl) ?_
  refine c_objN (k := 5) (ci := 9) (ci2 := 8) (fs := [.ref (a + 1), .ref (a + 33), .ref (a + 36), .ref (a + 231), .int 0, .null]) (fs2 := [.null, .null, .int 0, .int 0, .int 0]) (M := Lway G (a + 297)) (mL2 := 1) K hin hl.1 hS rfl rfl wmX10 tyX10_ok nmX10 (by decide) (gmd (by decide +kernel) rfl) rfl rfl (by decide +kernel) (Nat.le_of_ble_eq_true rfl) rfl wmX9 tyX9_ok (fun j hj => by rcases (show j = 0 ∨ j = 1 ∨ j = 2 ∨ j = 3 ∨ j = 4 by omega) with rfl | rfl | rfl | rfl | rfl <;> rfl) (gmd (by decide +kernel) rfl) (gmd (by decide +kernel) rfl) (gmd (by decide +kernel) rfl) (host := RX10) (y := yX9_init) (by decide +kernel) rfl rfl (gmd (by decide +kernel) rfl) (gmd (by decide +kernel) rfl) (by decide +kernel) (c_X9_init (a + 297)) ⟨rfl, rfl⟩ ⟨Nat.le_of_ble_eq_true rfl, Nat.le_of_ble_eq_true rfl⟩ (Nat.le_of_ble_eq_true rfl) (Nat.le_of_ble_eq_true rfl) dX10_init_50 dX10_init_53 dX10_init_54 dX10_init_57 (fun H locs hS => ?_)
  have hS : cS G a (.inr (9, [.ref (a + 1), .ref (a + 33), .ref (a + 36), .ref (a + 231), .int 0, .ref (a + 297)]) :: (Lattic G (a + 1) ++ Lpad G (a + 33) ++ Lhist G (a + 36) ++ Lshelf G (a + 231) 2 ++ Lway G (a + 297))) s H locs := hS
  exact c_ret K hS dX10_init_60
end SI
