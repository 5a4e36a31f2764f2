section AI
variable {l : Launch} {G : gG}
theorem c_get {p : Program} {e : Env} {R : Room} {s : State} {m : MethodId} {args : Array Value} {below : List Frame} {meth : Method} {c : Code} {H : Heap} {locs : List Loc} {cells slots : Nat} {Q : State → Prop} {cc : ByteArray} {pc nL : Nat} {ls : Array Slot} {o : Nat} {own : String} {ret : Option FieldType} {L : List va_E} {i ci k idx : Nat} {fs rest : List Value} {v : Value} (K : gK p s m args meth c G cc nL own ret) (hS : cS G o L s H locs) (hF : gFl own idx ci k) (he : L[i]? = some (.inr (ci, fs))) (hv : fs[k]? = some v) (hd : decode cc pc = .ok (.getfield idx, 3))
    (kk : W p l e R s m args below meth c H locs cells slots Q (F0 m (pc + 3) ls (v :: rest))) : W p l e R s m args below meth c H locs cells slots Q (F0 m pc ls (.ref (o + i) :: rest)) := by
  obtain ⟨hx, hb, hml, hown, hts, hE, hr, hlk⟩ := K
  obtain ⟨C, T, n, h1, h2, h3, h4⟩ := hF
  have he' : (cw o L)[i]? = some (o + i, .inr (ci, fs)) := by rw [cw_get, he]; rfl
  exact va_get hx hb hts h2 hown hE.1 hS.1 i he' h1 k h3 (hts _ h4) (fun _ h => h) hv hd kk
/-- an attic, made -/
def Lattic (G : gG) (a : Nat) : List va_E := [.inr (0, [.int 0, .int 0, .ref (a + 1), .ref (a + 3), .ref (a + 16), .ref (a + 23)]), .inr (5, [.ref (a + 2)]), .inl (G.2 0, 2, .inl (upd (upd (fun _ => 0) 0 60) 1 10))] ++ Lboards G (a + 3) ++ Lghosts G (a + 16) ++ Lsleepers G (a + 23)
abbrev rmAttic : Room := { frames := 5, cells := 31, slots := 183, locals := 160 }
set_option maxHeartbeats 4000000 in
set_option maxRecDepth 100000 in
theorem c_X0_init (a : Nat) : Met l yX0_init (gW yX0_init cX0_init 1 none) rmAttic (cPc G a (.inr (0, [.int 0, .int 0, .null, .null, .null, .null])) [.ref a]) (cQc G a (Lattic G a)) 31 183 (cFr a) := by
  refine c_met (by decide) (fun p e s m args below meth c ls K hin hS hl => ?_) (Nat.le_of_ble_eq_true rfl)
  have K : gK p s m args meth c G cX0_init 1 RX0 none := K
  have hl : lv_has ls 1 [(0, .ref a)] := hl
  have hsz : s.heap.size = a + 1 := hS.2.1
  obtain ⟨hx, hb, hml, hown, hts, -⟩ := id K
  refine lv_aload_n hx hb dX0_init_0 rfl (lv_at hl 0 rfl) ?_
  refine W.objInit hx hb hown (hts _ (gmd (w := .methodLink RX0 3 objectInit) (by decide +kernel) rfl)) (hts _ (gmd (w := .instanceMethod objectInit) (by decide +kernel) rfl)) (hts _ (gmd (w := .code objectInit ⟨#[0xb1]⟩ 1 none) (by decide +kernel) rfl)) rfl (by rw [hml]; exact hl.1) rfl dX0_init_1 (Nat.le_of_ble_eq_true rfl) (Nat.le_of_ble_eq_true rfl) ?_
  refine lv_aload_n hx hb dX0_init_4 rfl (lv_at hl 0 rfl) ?_
  refine c_row (n := 2) (w := 1) (k := 2) (ci := 0) (fs := [.int 0, .int 0, .null, .null, .null, .null]) K hin (by decide) hl.1 hS rfl rfl wmX0 tyX0_ok nmX0 (by decide) (gmd (by decide +kernel) rfl) rfl rfl (by decide +kernel) (Nat.le_of_ble_eq_true rfl) (gmd (by decide +kernel) rfl) (gmd (by decide +kernel) rfl) (Nat.le_of_ble_eq_true rfl) (Nat.le_of_ble_eq_true rfl) (Nat.le_of_ble_eq_true rfl) (Nat.le_of_ble_eq_true rfl) dX0_init_5 dX0_init_8 (fun H locs cells slots rest k => lv_iconst (v := 2) hx hb dX0_init_9 (by decide) k) dX0_init_10 dX0_init_13 (fun H locs hS => ?_)
  refine lv_aload_n hx hb dX0_init_16 rfl (lv_at hl 0 rfl) ?_
  refine c_objN (k := 3) (ci := 0) (ci2 := 1) (fs := [.int 0, .int 0, .ref (a + 1), .null, .null, .null]) (fs2 := [.int 0, .null, .null, .null, .null, .null, .null]) (M := Lboards G (a + 3)) (mL2 := 1) K hin hl.1 hS rfl rfl wmX0 tyX0_ok nmX0 (by decide) (gmd (by decide +kernel) rfl) rfl rfl (by decide +kernel) (Nat.le_of_ble_eq_true rfl) rfl wmX1 tyX1_ok (fun j hj => by rcases (show j = 0 ∨ j = 1 ∨ j = 2 ∨ j = 3 ∨ j = 4 ∨ j = 5 ∨ j = 6 by omega) with rfl | rfl | rfl | rfl | rfl | rfl | rfl <;> rfl) (gmd (by decide +kernel) rfl) (gmd (by decide +kernel) rfl) (gmd (by decide +kernel) rfl) (host := RX10) (y := yX1_init) (by decide +kernel) rfl rfl (gmd (by decide +kernel) rfl) (gmd (by decide +kernel) rfl) (by decide +kernel) (c_X1_init (a + 3)) ⟨rfl, rfl⟩ ⟨Nat.le_of_ble_eq_true rfl, Nat.le_of_ble_eq_true rfl⟩ (Nat.le_of_ble_eq_true rfl) (Nat.le_of_ble_eq_true rfl) dX0_init_17 dX0_init_20 dX0_init_21 dX0_init_24 (fun H locs hS => ?_)
  refine lv_aload_n hx hb dX0_init_27 rfl (lv_at hl 0 rfl) ?_
  refine c_objN (k := 4) (ci := 0) (ci2 := 2) (fs := [.int 0, .int 0, .ref (a + 1), .ref (a + 3), .null, .null]) (fs2 := [.null, .null, .null]) (M := Lghosts G (a + 16)) (mL2 := 1) K hin hl.1 hS rfl rfl wmX0 tyX0_ok nmX0 (by decide) (gmd (by decide +kernel) rfl) rfl rfl (by decide +kernel) (Nat.le_of_ble_eq_true rfl) rfl wmX2 tyX2_ok (fun j hj => by rcases (show j = 0 ∨ j = 1 ∨ j = 2 by omega) with rfl | rfl | rfl <;> rfl) (gmd (by decide +kernel) rfl) (gmd (by decide +kernel) rfl) (gmd (by decide +kernel) rfl) (host := RX10) (y := yX2_init) (by decide +kernel) rfl rfl (gmd (by decide +kernel) rfl) (gmd (by decide +kernel) rfl) (by decide +kernel) (c_X2_init (a + 16)) ⟨rfl, rfl⟩ ⟨Nat.le_of_ble_eq_true rfl, Nat.le_of_ble_eq_true rfl⟩ (Nat.le_of_ble_eq_true rfl) (Nat.le_of_ble_eq_true rfl) dX0_init_28 dX0_init_31 dX0_init_32 dX0_init_35 (fun H locs hS => ?_)
  refine lv_aload_n hx hb dX0_init_38 rfl (lv_at hl 0 rfl) ?_
  refine c_objN (k := 5) (ci := 0) (ci2 := 7) (fs := [.int 0, .int 0, .ref (a + 1), .ref (a + 3), .ref (a + 16), .null]) (fs2 := [.int 0, .null, .null, .null, .null]) (M := Lsleepers G (a + 23)) (mL2 := 1) K hin hl.1 hS rfl rfl wmX0 tyX0_ok nmX0 (by decide) (gmd (by decide +kernel) rfl) rfl rfl (by decide +kernel) (Nat.le_of_ble_eq_true rfl) rfl wmX7 tyX7_ok (fun j hj => by rcases (show j = 0 ∨ j = 1 ∨ j = 2 ∨ j = 3 ∨ j = 4 by omega) with rfl | rfl | rfl | rfl | rfl <;> rfl) (gmd (by decide +kernel) rfl) (gmd (by decide +kernel) rfl) (gmd (by decide +kernel) rfl) (host := RX10) (y := yX7_init) (by decide +kernel) rfl rfl (gmd (by decide +kernel) rfl) (gmd (by decide +kernel) rfl) (by decide +kernel) (c_X7_init (a + 23)) ⟨rfl, rfl⟩ ⟨Nat.le_of_ble_eq_true rfl, Nat.le_of_ble_eq_true rfl⟩ (Nat.le_of_ble_eq_true rfl) (Nat.le_of_ble_eq_true rfl) dX0_init_39 dX0_init_42 dX0_init_43 dX0_init_46 (fun H locs hS => ?_)
  refine lv_aload_n hx hb dX0_init_49 rfl (lv_at hl 0 rfl) ?_
  refine c_get (i := 0) (ci := 0) (k := 2) (v := .ref (a + 1)) (fs := [.int 0, .int 0, .ref (a + 1), .ref (a + 3), .ref (a + 16), .ref (a + 23)]) K hS lF_X0_14 rfl rfl dX0_init_50 ?_
  refine lv_iconst (v := 0) hx hb dX0_init_53 (by decide) ?_
  refine lv_bipush (v := 60) hx hb dX0_init_54 (by decide) ?_
  refine c_store (i := 1) (k := 0) (n := 2) (x := 60) (f := fun _ => 0) K hl.1 hS (by rw [hsz]; exact (show a + 1 + 31 = a + 32 by omega)) rfl rfl (by decide) (by decide) ⟨gmd (by decide +kernel) rfl, gmd (by decide +kernel) rfl, gmd (by decide +kernel) rfl, gmd (by decide +kernel) rfl, gmd (by decide +kernel) rfl, by decide +kernel⟩ ⟨⟨Nat.le_of_ble_eq_true rfl, Nat.le_of_ble_eq_true rfl⟩, rfl, rfl⟩ ⟨Nat.le_of_ble_eq_true rfl, Nat.le_of_ble_eq_true rfl⟩ dX0_init_56 (fun H locs hS => ?_)
  refine lv_aload_n hx hb dX0_init_59 rfl (lv_at hl 0 rfl) ?_
  refine c_get (i := 0) (ci := 0) (k := 2) (v := .ref (a + 1)) (fs := [.int 0, .int 0, .ref (a + 1), .ref (a + 3), .ref (a + 16), .ref (a + 23)]) K hS lF_X0_14 rfl rfl dX0_init_60 ?_
  refine lv_iconst (v := 1) hx hb dX0_init_63 (by decide) ?_
  refine lv_bipush (v := 10) hx hb dX0_init_64 (by decide) ?_
  refine c_store (i := 1) (k := 1) (n := 2) (x := 10) (f := upd (fun _ => 0) 0 60) K hl.1 hS (by rw [hsz]; exact (show a + 1 + 31 = a + 32 by omega)) rfl rfl (by decide) (by decide) ⟨gmd (by decide +kernel) rfl, gmd (by decide +kernel) rfl, gmd (by decide +kernel) rfl, gmd (by decide +kernel) rfl, gmd (by decide +kernel) rfl, by decide +kernel⟩ ⟨⟨Nat.le_of_ble_eq_true rfl, Nat.le_of_ble_eq_true rfl⟩, rfl, rfl⟩ ⟨Nat.le_of_ble_eq_true rfl, Nat.le_of_ble_eq_true rfl⟩ dX0_init_66 (fun H locs hS => ?_)
  exact c_ret K hS dX0_init_69
end AI
