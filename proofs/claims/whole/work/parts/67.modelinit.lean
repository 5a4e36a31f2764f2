section MN
variable {l : Launch} {G : gG}
theorem gt_bool : ∀ (U : State) (cA : ClassId), va_RA U cA .boolean ↔ U.vm.findClass ("[" ++ (FieldType.boolean).toString) = some cA := fun _ _ => Iff.rfl
theorem gt_char : ∀ (U : State) (cA : ClassId), va_RA U cA .char ↔ U.vm.findClass ("[" ++ (FieldType.char).toString) = some cA := fun _ _ => Iff.rfl
/-- an int is put into a row of a world under construction -/
theorem c_iast {p : Program} {e : Env} {R : Room} {s : State} {m : MethodId} {args : Array Value} {below : List Frame} {meth : Method} {c : Code} {H : Heap} {locs : List Loc} {cells slots : Nat} {Q : State → Prop} {cc : ByteArray} {pc nL : Nat} {ls : Array Slot} {o : Nat} {own : String} {ret : Option FieldType} {L : List va_E} {i k n : Nat} {x j : Int32} {f : Nat → Int32} {rest : List Value} (K : gK p s m args meth c G cc nL own ret) (hS : cS G o L s H locs) (hcnt : s.heap.size + cells = o + L.length) (h1 : L[i]? = some (.inl (G.2 0, n, .inl f))) (hin : gin j n = true) (hj : gil j = k) (hd : decode cc pc = .ok (.iastore, 1))
    (kk : ∀ (H1 : Heap) (locs1 : List Loc), cS G o (L.set i (.inl (G.2 0, n, .inl (upd f k x)))) s H1 locs1 → W p l e R s m args below meth c H1 locs1 cells slots Q (F0 m (pc + 1) ls rest)) : W p l e R s m args below meth c H locs cells slots Q (F0 m pc ls (.int x :: .int j :: .ref (o + i) :: rest)) := by
  subst hj
  obtain ⟨hx, hb, hml, hown, hts, hE, hr, hlk⟩ := K
  obtain ⟨hP, hz, hV, hoz⟩ := hS
  refine va_iast (A := cFr o) (H0 := H) hx hb hE.1 hP cw_D ⟨Nat.le_refl _, fun _ _ _ => rfl, hV.2.2⟩ i 0 (by rw [cw_get, h1]; rfl) rfl (gin_in hin) hd (fun H1 locs1 a1 a2 a3 => ?_)
  intro T hT X
  have hup : T.heap.size ≤ s.heap.size + cells := X.same.2.2.1
  rw [hT] at hup
  exact kk H1 locs1 ⟨by rw [cw_set]; exact a1, by rw [List.length_set]; have := a3.1; omega, ⟨Nat.le_trans hV.1 a3.1, fun q h1 h2 => (a3.2.1 q (Nat.lt_of_lt_of_le h1 hV.1) h2).trans (hV.2.1 q h1 h2), a3.2.2⟩, hoz⟩ T hT X

def Lmodel (G : gG) (a : Nat) : List va_E := [.inr (10, [.ref (a + 1), .ref (a + 2), .int 0, .ref (a + 3), .ref (a + 4), .ref (a + 5), .int 0, .ref (a + 6), .ref (a + 7), .int 0, .int 0, .ref (a + 8), .int 0, .int 0, .int 0]), .inl (G.2 0, 138, .inl (upd (upd (fun _ => 0) 0 60) 1 10)), .inl (G.2 0, 828, .inl (fun _ => 0)), .inl (G.2 0, 276, .inl (fun _ => 0)), .inl (G.2 2, 2, .inl (fun _ => 0)), .inl (G.2 3, 60, .inl (fun _ => 0)), .inl (G.2 0, 10, .inl (fun _ => 0)), .inl (G.2 0, 10, .inl (fun _ => 0)), .inl (G.2 0, 64, .inl (fun _ => 0))]
abbrev rmModel : Room := { frames := 2, cells := 8, slots := 1388, locals := 60 }
set_option maxHeartbeats 4000000 in
set_option maxRecDepth 100000 in
theorem c_X11_init (a : Nat) : Met l yX11_init (gW yX11_init cX11_init 1 none) rmModel (cPc G a (.inr (10, [.null, .null, .int 0, .null, .null, .null, .int 0, .null, .null, .int 0, .int 0, .null, .int 0, .int 0, .int 0])) [.ref a]) (cQc G a (Lmodel G a)) 8 1388 (cFr a) := by
  refine c_met (by decide) (fun p e s m args below meth c ls K hin hS hl => ?_) (Nat.le_of_ble_eq_true rfl)
  have K : gK p s m args meth c G cX11_init 1 RX11 none := K
  have hl : lv_has ls 1 [(0, .ref a)] := hl
  have hsz : s.heap.size = a + 1 := hS.2.1
  obtain ⟨hx, hb, hml, hown, hts, -⟩ := id K
  refine lv_aload_n hx hb dX11_init_0 rfl (lv_at hl 0 rfl) ?_
  refine W.objInit hx hb hown (hts _ (gmd (w := .methodLink RX11 1 objectInit) (by decide +kernel) rfl)) (hts _ (gmd (w := .instanceMethod objectInit) (by decide +kernel) rfl)) (hts _ (gmd (w := .code objectInit ⟨#[0xb1]⟩ 1 none) (by decide +kernel) rfl)) rfl (by rw [hml]; exact hl.1) rfl dX11_init_1 (Nat.le_of_ble_eq_true rfl) (Nat.le_of_ble_eq_true rfl) ?_
  refine lv_aload_n hx hb dX11_init_4 rfl (lv_at hl 0 rfl) ?_
  refine lv_sipush (v := 138) hx hb dX11_init_5 (by decide) ?_
  refine c_newi (t := 0) (N := 138) (fty := .int) K hS (gmd (by decide +kernel) rfl) rfl rfl rfl rfl (gt_int G) (by decide) (by decide) (by decide) (Nat.le_of_ble_eq_true rfl) (Nat.le_of_ble_eq_true rfl) dX11_init_8 (fun H hS => ?_)
  refine c_put (i := 0) (ci := 10) (k := 0) (fs := [.null, .null, .int 0, .null, .null, .null, .int 0, .null, .null, .int 0, .int 0, .null, .int 0, .int 0, .int 0]) (ty := .array .int) K hin hS rfl rfl wmX11 tyX11_ok nmX11 (by decide) (gmd (by decide +kernel) rfl) rfl rfl rfl rfl rfl (Nat.le_of_ble_eq_true rfl) dX11_init_10 (fun H locs hS => ?_)
  refine lv_aload_n hx hb dX11_init_13 rfl (lv_at hl 0 rfl) ?_
  refine lv_sipush (v := 828) hx hb dX11_init_14 (by decide) ?_
  refine c_newi (t := 0) (N := 828) (fty := .int) K hS (gmd (by decide +kernel) rfl) rfl rfl rfl rfl (gt_int G) (by decide) (by decide) (by decide) (Nat.le_of_ble_eq_true rfl) (Nat.le_of_ble_eq_true rfl) dX11_init_17 (fun H hS => ?_)
  refine c_put (i := 0) (ci := 10) (k := 1) (fs := [.ref (a + 1), .null, .int 0, .null, .null, .null, .int 0, .null, .null, .int 0, .int 0, .null, .int 0, .int 0, .int 0]) (ty := .array .int) K hin hS rfl rfl wmX11 tyX11_ok nmX11 (by decide) (gmd (by decide +kernel) rfl) rfl rfl rfl rfl rfl (Nat.le_of_ble_eq_true rfl) dX11_init_19 (fun H locs hS => ?_)
  refine lv_aload_n hx hb dX11_init_22 rfl (lv_at hl 0 rfl) ?_
  refine lv_sipush (v := 276) hx hb dX11_init_23 (by decide) ?_
  refine c_newi (t := 0) (N := 276) (fty := .int) K hS (gmd (by decide +kernel) rfl) rfl rfl rfl rfl (gt_int G) (by decide) (by decide) (by decide) (Nat.le_of_ble_eq_true rfl) (Nat.le_of_ble_eq_true rfl) dX11_init_26 (fun H hS => ?_)
  refine c_put (i := 0) (ci := 10) (k := 3) (fs := [.ref (a + 1), .ref (a + 2), .int 0, .null, .null, .null, .int 0, .null, .null, .int 0, .int 0, .null, .int 0, .int 0, .int 0]) (ty := .array .int) K hin hS rfl rfl wmX11 tyX11_ok nmX11 (by decide) (gmd (by decide +kernel) rfl) rfl rfl rfl rfl rfl (Nat.le_of_ble_eq_true rfl) dX11_init_28 (fun H locs hS => ?_)
  refine lv_aload_n hx hb dX11_init_31 rfl (lv_at hl 0 rfl) ?_
  refine lv_iconst (v := 2) hx hb dX11_init_32 (by decide) ?_
  refine c_newi (t := 2) (N := 2) (fty := .boolean) K hS (gmd (by decide +kernel) rfl) rfl rfl rfl rfl gt_bool (by decide) (by decide) (by decide) (Nat.le_of_ble_eq_true rfl) (Nat.le_of_ble_eq_true rfl) dX11_init_33 (fun H hS => ?_)
  refine c_put (i := 0) (ci := 10) (k := 4) (fs := [.ref (a + 1), .ref (a + 2), .int 0, .ref (a + 3), .null, .null, .int 0, .null, .null, .int 0, .int 0, .null, .int 0, .int 0, .int 0]) (ty := .array .boolean) K hin hS rfl rfl wmX11 tyX11_ok nmX11 (by decide) (gmd (by decide +kernel) rfl) rfl rfl rfl rfl rfl (Nat.le_of_ble_eq_true rfl) dX11_init_35 (fun H locs hS => ?_)
  refine lv_aload_n hx hb dX11_init_38 rfl (lv_at hl 0 rfl) ?_
  refine lv_bipush (v := 60) hx hb dX11_init_39 (by decide) ?_
  refine c_newi (t := 3) (N := 60) (fty := .char) K hS (gmd (by decide +kernel) rfl) rfl rfl rfl rfl gt_char (by decide) (by decide) (by decide) (Nat.le_of_ble_eq_true rfl) (Nat.le_of_ble_eq_true rfl) dX11_init_41 (fun H hS => ?_)
  refine c_put (i := 0) (ci := 10) (k := 5) (fs := [.ref (a + 1), .ref (a + 2), .int 0, .ref (a + 3), .ref (a + 4), .null, .int 0, .null, .null, .int 0, .int 0, .null, .int 0, .int 0, .int 0]) (ty := .array .char) K hin hS rfl rfl wmX11 tyX11_ok nmX11 (by decide) (gmd (by decide +kernel) rfl) rfl rfl rfl rfl rfl (Nat.le_of_ble_eq_true rfl) dX11_init_43 (fun H locs hS => ?_)
  refine lv_aload_n hx hb dX11_init_46 rfl (lv_at hl 0 rfl) ?_
  refine lv_bipush (v := 10) hx hb dX11_init_47 (by decide) ?_
  refine c_newi (t := 0) (N := 10) (fty := .int) K hS (gmd (by decide +kernel) rfl) rfl rfl rfl rfl (gt_int G) (by decide) (by decide) (by decide) (Nat.le_of_ble_eq_true rfl) (Nat.le_of_ble_eq_true rfl) dX11_init_49 (fun H hS => ?_)
  refine c_put (i := 0) (ci := 10) (k := 7) (fs := [.ref (a + 1), .ref (a + 2), .int 0, .ref (a + 3), .ref (a + 4), .ref (a + 5), .int 0, .null, .null, .int 0, .int 0, .null, .int 0, .int 0, .int 0]) (ty := .array .int) K hin hS rfl rfl wmX11 tyX11_ok nmX11 (by decide) (gmd (by decide +kernel) rfl) rfl rfl rfl rfl rfl (Nat.le_of_ble_eq_true rfl) dX11_init_51 (fun H locs hS => ?_)
  refine lv_aload_n hx hb dX11_init_54 rfl (lv_at hl 0 rfl) ?_
  refine lv_bipush (v := 10) hx hb dX11_init_55 (by decide) ?_
  refine c_newi (t := 0) (N := 10) (fty := .int) K hS (gmd (by decide +kernel) rfl) rfl rfl rfl rfl (gt_int G) (by decide) (by decide) (by decide) (Nat.le_of_ble_eq_true rfl) (Nat.le_of_ble_eq_true rfl) dX11_init_57 (fun H hS => ?_)
  refine c_put (i := 0) (ci := 10) (k := 8) (fs := [.ref (a + 1), .ref (a + 2), .int 0, .ref (a + 3), .ref (a + 4), .ref (a + 5), .int 0, .ref (a + 6), .null, .int 0, .int 0, .null, .int 0, .int 0, .int 0]) (ty := .array .int) K hin hS rfl rfl wmX11 tyX11_ok nmX11 (by decide) (gmd (by decide +kernel) rfl) rfl rfl rfl rfl rfl (Nat.le_of_ble_eq_true rfl) dX11_init_59 (fun H locs hS => ?_)
  refine lv_aload_n hx hb dX11_init_62 rfl (lv_at hl 0 rfl) ?_
  refine lv_bipush (v := 64) hx hb dX11_init_63 (by decide) ?_
  refine c_newi (t := 0) (N := 64) (fty := .int) K hS (gmd (by decide +kernel) rfl) rfl rfl rfl rfl (gt_int G) (by decide) (by decide) (by decide) (Nat.le_of_ble_eq_true rfl) (Nat.le_of_ble_eq_true rfl) dX11_init_65 (fun H hS => ?_)
  refine c_put (i := 0) (ci := 10) (k := 11) (fs := [.ref (a + 1), .ref (a + 2), .int 0, .ref (a + 3), .ref (a + 4), .ref (a + 5), .int 0, .ref (a + 6), .ref (a + 7), .int 0, .int 0, .null, .int 0, .int 0, .int 0]) (ty := .array .int) K hin hS rfl rfl wmX11 tyX11_ok nmX11 (by decide) (gmd (by decide +kernel) rfl) rfl rfl rfl rfl rfl (Nat.le_of_ble_eq_true rfl) dX11_init_67 (fun H locs hS => ?_)
  refine lv_aload_n hx hb dX11_init_70 rfl (lv_at hl 0 rfl) ?_
  refine c_get (i := 0) (ci := 10) (k := 0) (v := .ref (a + 1)) (fs := [.ref (a + 1), .ref (a + 2), .int 0, .ref (a + 3), .ref (a + 4), .ref (a + 5), .int 0, .ref (a + 6), .ref (a + 7), .int 0, .int 0, .ref (a + 8), .int 0, .int 0, .int 0]) K hS lF_X11_7 rfl rfl dX11_init_71 ?_
  refine lv_iconst (v := 0) hx hb dX11_init_74 (by decide) ?_
  refine lv_bipush (v := 60) hx hb dX11_init_75 (by decide) ?_
  refine c_iast (i := 1) (k := 0) (n := 138) (f := fun _ => 0) K hS (by rw [hsz]; exact (show a + 1 + 8 = a + 9 by omega)) rfl (by decide) (by decide) dX11_init_77 (fun H locs hS => ?_)
  refine lv_aload_n hx hb dX11_init_78 rfl (lv_at hl 0 rfl) ?_
  refine c_get (i := 0) (ci := 10) (k := 0) (v := .ref (a + 1)) (fs := [.ref (a + 1), .ref (a + 2), .int 0, .ref (a + 3), .ref (a + 4), .ref (a + 5), .int 0, .ref (a + 6), .ref (a + 7), .int 0, .int 0, .ref (a + 8), .int 0, .int 0, .int 0]) K hS lF_X11_7 rfl rfl dX11_init_79 ?_
  refine lv_iconst (v := 1) hx hb dX11_init_82 (by decide) ?_
  refine lv_bipush (v := 10) hx hb dX11_init_83 (by decide) ?_
  refine c_iast (i := 1) (k := 1) (n := 138) (f := upd (fun _ => 0) 0 60) K hS (by rw [hsz]; exact (show a + 1 + 8 = a + 9 by omega)) rfl (by decide) (by decide) dX11_init_85 (fun H locs hS => ?_)
  exact c_ret K hS dX11_init_86
end MN
