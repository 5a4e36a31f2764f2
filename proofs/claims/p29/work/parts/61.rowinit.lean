theorem gmd {w : Cond} (h : w ∈ lw_tbl) (hg : goodWord w = true) : w ∈ gT := List.mem_filter.mpr ⟨h, hg⟩
theorem gt_int (G : gG) : ∀ (U : State) (cA : ClassId), va_RA U cA .int ↔ U.vm.findClass ("[" ++ (FieldType.int).toString) = some cA := fun _ _ => Iff.rfl
section IN
variable {l : Launch} {G : gG}
/-- a row, made -/
def Lrow (G : gG) (a n : Nat) : List va_E := [.inr (5, [.ref (a + 1)]), .inl (G.2 0, n, .inl fun _ => 0)]
abbrev rmRow (n : Nat) : Room := { frames := 2, cells := 1, slots := n, locals := 62 }
set_option maxHeartbeats 4000000 in
set_option maxRecDepth 100000 in
theorem c_X5_init (a n : Nat) (hn : n ≤ 1000) : Met l yX5_init (gW yX5_init cX5_init 2 none) (rmRow n) (cPc G a (.inr (5, [.null])) [.ref a, .int (nI n)]) (cQc G a (Lrow G a n)) 1 n (cFr a) := by
  refine c_met (by decide) (fun p e s m args below meth c ls K hin hS hl => ?_) (Nat.le_of_ble_eq_true rfl)
  have K : gK p s m args meth c G cX5_init 2 RX5 none := K
  have hl : lv_has ls 2 [(0, .ref a), (1, .int (nI n))] := hl
  obtain ⟨hx, hb, hml, hown, hts, -⟩ := id K
  refine lv_aload_n hx hb dX5_init_0 rfl (lv_at hl 0 rfl) ?_
  refine W.objInit hx hb hown (hts _ (gmd (w := .methodLink RX5 1 objectInit) (by decide +kernel) rfl)) (hts _ (gmd (w := .instanceMethod objectInit) (by decide +kernel) rfl)) (hts _ (gmd (w := .code objectInit ⟨#[0xb1]⟩ 1 none) (by decide +kernel) rfl)) rfl (by rw [hml]; exact hl.1) rfl dX5_init_1 (Nat.le_of_ble_eq_true rfl) (Nat.le_of_ble_eq_true rfl) ?_
  refine lv_aload_n hx hb dX5_init_4 rfl (lv_at hl 0 rfl) ?_
  refine lv_iload_n hx hb dX5_init_5 rfl (lv_at hl 1 rfl) ?_
  refine lv_iconst (v := 0) hx hb dX5_init_6 (by decide) ?_
  refine g_mmax K hl.1 (gmd (by decide +kernel) rfl) q_static_max q_init_Math q_code_max (Nat.le_of_ble_eq_true rfl) (Nat.le_of_ble_eq_true rfl) (Nat.zero_le _) (Nat.zero_le _) dX5_init_7 ?_
  rw [if_neg (show ¬ nI n < 0 from nI_pos (by omega))]
  refine c_newi (t := 0) (N := n) (fty := .int) K hS (gmd (by decide +kernel) rfl) rfl rfl rfl rfl (gt_int G) (nI_pos (by omega)) (nI_clamp (by omega)) (by show n * 4 ≤ 536870912; omega) (Nat.le_refl _) (by show 0 + n ≤ n; omega) dX5_init_10 (fun H hS => ?_)
  refine c_put (i := 0) (ci := 5) (k := 0) (fs := [.null]) (ty := .array .int) K hin hS rfl rfl wmX5 tyX5_ok nmX5 (by decide) (gmd (by decide +kernel) rfl) rfl rfl rfl rfl rfl (by decide) dX5_init_12 (fun H locs hS => ?_)
  rw [Nat.zero_add, Nat.zero_add]
  exact c_ret K hS dX5_init_15
/-- any of the words of a constructor's call -/
abbrev blank5 : va_E := .inr (5, [.null])
/-- Row x = new Row(n), left in a final field: one step of the walk -/
theorem c_row {p : Program} {e : Env} {R : Room} {s : State} {m : MethodId} {args : Array Value} {below : List Frame} {meth : Method} {c : Code} {H : Heap} {locs : List Loc} {cells slots : Nat} {Q : State → Prop} {cc : ByteArray} {pc nL : Nat} {ls : Array Slot} {o : Nat} {own : String} {ret : Option FieldType} {L : List va_E} {i0 i1 i2 n ci k N : Nat} {C : String} {fs : List Value} {T : u_T} {t0 : Nat → FieldType} {w : Nat} (K : gK p s m args meth c G cc nL own ret) (hin : meth.name = "<init>") (hn : n ≤ 1000) (hls : ls.size = nL) (hS : cS G o L s H locs)
    (he : L[0]? = some (.inr (ci, fs))) (hc : gCls[ci]? = some (C, T, N)) (hws : ∀ w ∈ u_ws C T N, w ∈ gT) (hty : ∀ k, k < N → parseFieldDescriptor (T k).2.2.1 = some (t0 k)) (hnm : ∀ a, a < N → ∀ b, b < N → a ≠ b → (T a).2.1 ≠ (T b).2.1) (hk : k < N) (hlink : Cond.fieldLink own i2 (T k).1 (T k).2.1 (T k).2.2.1 ∈ gT) (hfin : (T k).2.2.2 = true) (hdecl : (T k).1 = own) (hdd : parseFieldDescriptor (T k).2.2.1 = some (.object RX5)) (hfl : k < fs.length)
    (h0 : Cond.classLink own i0 RX5 ∈ gT) (h1 : Cond.methodLink own i1 yX5_init ∈ gT)
    (hfr : 3 ≤ R.frames) (hlo : 8 + 13 + 62 ≤ R.locals) (hce : cells + 2 ≤ R.cells) (hsl : slots + 1 + n ≤ R.slots)
    (ha : decode cc pc = .ok (.new i0, 3)) (hb : decode cc (pc + 3) = .ok (.dup, 1)) (hpush : ∀ (H : Heap) (locs : List Loc) (cells slots : Nat) (rest : List Value), W p l e R s m args below meth c H locs cells slots Q (F0 m (pc + 4 + w) ls (.int (nI n) :: rest)) → W p l e R s m args below meth c H locs cells slots Q (F0 m (pc + 4) ls rest))
    (hd : decode cc (pc + 4 + w) = .ok (.invokespecial i1, 3)) (hf : decode cc (pc + 4 + w + 3) = .ok (.putfield i2, 3))
    (kk : ∀ (H1 : Heap) (locs1 : List Loc), cS G o ((L ++ Lrow G (o + L.length) n).set 0 (.inr (ci, fs.set k (.ref (o + L.length))))) s H1 locs1 → W p l e R s m args below meth c H1 locs1 (cells + 1 + 1) (slots + 1 + n) Q (F0 m (pc + 4 + w + 3 + 3) ls [])) : W p l e R s m args below meth c H locs cells slots Q (F0 m pc ls [.ref o]) := by
  obtain ⟨hx, hbc, hml, hown, hts, -⟩ := id K
  refine c_new (fs := [.null]) (ci := 5) K hS rfl wmX5 tyX5_ok h0 (gmd (by decide +kernel) rfl) (gmd (by decide +kernel) rfl) (fun j hj => by rcases (show j = 0 by omega) with rfl; rfl) (by omega) (by omega) ha (fun H hS => ?_)
  refine lv_dup hx hbc hb rfl ?_
  refine hpush _ _ _ _ _ ?_
  refine c_runI (As := [.int (nI n)]) (rest := [.ref (o + L.length), .ref o]) (mL := 2) (n := 1) K hS h1 (gmd (by decide +kernel) rfl) (gmd (by decide +kernel) rfl) (gmd (by decide +kernel) rfl) (by decide +kernel) rfl (c_X5_init _ n hn) ⟨rfl, rfl⟩ rfl rfl (Nat.le_of_ble_eq_true rfl) ⟨hfr, hlo⟩ hls ⟨by omega, by omega⟩ hd (fun H locs hS => ?_)
  refine c_put (i := 0) (ci := ci) (k := k) (fs := fs) (ty := .object RX5) K hin hS (by rw [List.getElem?_append_left (List.getElem?_eq_some_iff.mp he).1]; exact he) hc hws hty hnm hk hlink hfin hdecl hdd rfl rfl hfl hf (fun H locs hS => ?_)
  exact kk H locs hS
end IN
