section IR
variable {l : Launch} {G : gG}
def Lboards (G : gG) (a : Nat) : List va_E := [.inr (1, [.int 0, .ref (a + 1), .ref (a + 3), .ref (a + 5), .ref (a + 7), .ref (a + 9), .ref (a + 11)])] ++ Lrow G (a + 1) 20 ++ Lrow G (a + 3) 20 ++ Lrow G (a + 5) 20 ++ Lrow G (a + 7) 20 ++ Lrow G (a + 9) 20 ++ Lrow G (a + 11) 20
abbrev rmLboards : Room := { frames := 3, cells := 12, slots := 126, locals := 100 }
set_option maxHeartbeats 4000000 in
set_option maxRecDepth 100000 in
theorem c_X1_init (a : Nat) : Met l yX1_init (gW yX1_init cX1_init 1 none) rmLboards (cPc G a (.inr (1, [.int 0, .null, .null, .null, .null, .null, .null])) [.ref a]) (cQc G a (Lboards G a)) 12 126 (cFr a) := by
  refine c_met (by decide) (fun p e s m args below meth c ls K hin hS hl => ?_) (Nat.le_of_ble_eq_true rfl)
  have K : gK p s m args meth c G cX1_init 1 RX1 none := K
  have hl : lv_has ls 1 [(0, .ref a)] := hl
  obtain ⟨hx, hb, hml, hown, hts, -⟩ := id K
  refine lv_aload_n hx hb dX1_init_0 rfl (lv_at hl 0 rfl) ?_
  refine W.objInit hx hb hown (hts _ (gmd (w := .methodLink RX1 3 objectInit) (by decide +kernel) rfl)) (hts _ (gmd (w := .instanceMethod objectInit) (by decide +kernel) rfl)) (hts _ (gmd (w := .code objectInit ⟨#[0xb1]⟩ 1 none) (by decide +kernel) rfl)) rfl (by rw [hml]; exact hl.1) rfl dX1_init_1 (Nat.le_of_ble_eq_true rfl) (Nat.le_of_ble_eq_true rfl) ?_
  refine lv_aload_n hx hb dX1_init_4 rfl (lv_at hl 0 rfl) ?_
  refine c_row (n := 20) (w := 2) (k := 1) (ci := 1) (fs := [.int 0, .null, .null, .null, .null, .null, .null]) K hin (by decide) hl.1 hS rfl rfl wmX1 tyX1_ok nmX1 (by decide) (gmd (by decide +kernel) rfl) rfl rfl (by decide +kernel) (Nat.le_of_ble_eq_true rfl) (gmd (by decide +kernel) rfl) (gmd (by decide +kernel) rfl) (Nat.le_of_ble_eq_true rfl) (Nat.le_of_ble_eq_true rfl) (Nat.le_of_ble_eq_true rfl) (Nat.le_of_ble_eq_true rfl) dX1_init_5 dX1_init_8 (fun H locs cells slots rest k => lv_bipush (v := 20) hx hb dX1_init_9 (by decide) k) dX1_init_11 dX1_init_14 (fun H locs hS => ?_)
  refine lv_aload_n hx hb dX1_init_17 rfl (lv_at hl 0 rfl) ?_
  refine c_row (n := 20) (w := 2) (k := 2) (ci := 1) (fs := [.int 0, .ref (a + 1), .null, .null, .null, .null, .null]) K hin (by decide) hl.1 hS rfl rfl wmX1 tyX1_ok nmX1 (by decide) (gmd (by decide +kernel) rfl) rfl rfl (by decide +kernel) (Nat.le_of_ble_eq_true rfl) (gmd (by decide +kernel) rfl) (gmd (by decide +kernel) rfl) (Nat.le_of_ble_eq_true rfl) (Nat.le_of_ble_eq_true rfl) (Nat.le_of_ble_eq_true rfl) (Nat.le_of_ble_eq_true rfl) dX1_init_18 dX1_init_21 (fun H locs cells slots rest k => lv_bipush (v := 20) hx hb dX1_init_22 (by decide) k) dX1_init_24 dX1_init_27 (fun H locs hS => ?_)
  refine lv_aload_n hx hb dX1_init_30 rfl (lv_at hl 0 rfl) ?_
  refine c_row (n := 20) (w := 2) (k := 3) (ci := 1) (fs := [.int 0, .ref (a + 1), .ref (a + 3), .null, .null, .null, .null]) K hin (by decide) hl.1 hS rfl rfl wmX1 tyX1_ok nmX1 (by decide) (gmd (by decide +kernel) rfl) rfl rfl (by decide +kernel) (Nat.le_of_ble_eq_true rfl) (gmd (by decide +kernel) rfl) (gmd (by decide +kernel) rfl) (Nat.le_of_ble_eq_true rfl) (Nat.le_of_ble_eq_true rfl) (Nat.le_of_ble_eq_true rfl) (Nat.le_of_ble_eq_true rfl) dX1_init_31 dX1_init_34 (fun H locs cells slots rest k => lv_bipush (v := 20) hx hb dX1_init_35 (by decide) k) dX1_init_37 dX1_init_40 (fun H locs hS => ?_)
  refine lv_aload_n hx hb dX1_init_43 rfl (lv_at hl 0 rfl) ?_
  refine c_row (n := 20) (w := 2) (k := 4) (ci := 1) (fs := [.int 0, .ref (a + 1), .ref (a + 3), .ref (a + 5), .null, .null, .null]) K hin (by decide) hl.1 hS rfl rfl wmX1 tyX1_ok nmX1 (by decide) (gmd (by decide +kernel) rfl) rfl rfl (by decide +kernel) (Nat.le_of_ble_eq_true rfl) (gmd (by decide +kernel) rfl) (gmd (by decide +kernel) rfl) (Nat.le_of_ble_eq_true rfl) (Nat.le_of_ble_eq_true rfl) (Nat.le_of_ble_eq_true rfl) (Nat.le_of_ble_eq_true rfl) dX1_init_44 dX1_init_47 (fun H locs cells slots rest k => lv_bipush (v := 20) hx hb dX1_init_48 (by decide) k) dX1_init_50 dX1_init_53 (fun H locs hS => ?_)
  refine lv_aload_n hx hb dX1_init_56 rfl (lv_at hl 0 rfl) ?_
  refine c_row (n := 20) (w := 2) (k := 5) (ci := 1) (fs := [.int 0, .ref (a + 1), .ref (a + 3), .ref (a + 5), .ref (a + 7), .null, .null]) K hin (by decide) hl.1 hS rfl rfl wmX1 tyX1_ok nmX1 (by decide) (gmd (by decide +kernel) rfl) rfl rfl (by decide +kernel) (Nat.le_of_ble_eq_true rfl) (gmd (by decide +kernel) rfl) (gmd (by decide +kernel) rfl) (Nat.le_of_ble_eq_true rfl) (Nat.le_of_ble_eq_true rfl) (Nat.le_of_ble_eq_true rfl) (Nat.le_of_ble_eq_true rfl) dX1_init_57 dX1_init_60 (fun H locs cells slots rest k => lv_bipush (v := 20) hx hb dX1_init_61 (by decide) k) dX1_init_63 dX1_init_66 (fun H locs hS => ?_)
  refine lv_aload_n hx hb dX1_init_69 rfl (lv_at hl 0 rfl) ?_
  refine c_row (n := 20) (w := 2) (k := 6) (ci := 1) (fs := [.int 0, .ref (a + 1), .ref (a + 3), .ref (a + 5), .ref (a + 7), .ref (a + 9), .null]) K hin (by decide) hl.1 hS rfl rfl wmX1 tyX1_ok nmX1 (by decide) (gmd (by decide +kernel) rfl) rfl rfl (by decide +kernel) (Nat.le_of_ble_eq_true rfl) (gmd (by decide +kernel) rfl) (gmd (by decide +kernel) rfl) (Nat.le_of_ble_eq_true rfl) (Nat.le_of_ble_eq_true rfl) (Nat.le_of_ble_eq_true rfl) (Nat.le_of_ble_eq_true rfl) dX1_init_70 dX1_init_73 (fun H locs cells slots rest k => lv_bipush (v := 20) hx hb dX1_init_74 (by decide) k) dX1_init_76 dX1_init_79 (fun H locs hS => ?_)
  exact c_ret K hS dX1_init_82
def Lghosts (G : gG) (a : Nat) : List va_E := [.inr (2, [.ref (a + 1), .ref (a + 3), .ref (a + 5)])] ++ Lrow G (a + 1) 4 ++ Lrow G (a + 3) 4 ++ Lrow G (a + 5) 4
abbrev rmLghosts : Room := { frames := 3, cells := 6, slots := 15, locals := 100 }
set_option maxHeartbeats 4000000 in
set_option maxRecDepth 100000 in
theorem c_X2_init (a : Nat) : Met l yX2_init (gW yX2_init cX2_init 1 none) rmLghosts (cPc G a (.inr (2, [.null, .null, .null])) [.ref a]) (cQc G a (Lghosts G a)) 6 15 (cFr a) := by
  refine c_met (by decide) (fun p e s m args below meth c ls K hin hS hl => ?_) (Nat.le_of_ble_eq_true rfl)
  have K : gK p s m args meth c G cX2_init 1 RX2 none := K
  have hl : lv_has ls 1 [(0, .ref a)] := hl
  obtain ⟨hx, hb, hml, hown, hts, -⟩ := id K
  refine lv_aload_n hx hb dX2_init_0 rfl (lv_at hl 0 rfl) ?_
  refine W.objInit hx hb hown (hts _ (gmd (w := .methodLink RX2 3 objectInit) (by decide +kernel) rfl)) (hts _ (gmd (w := .instanceMethod objectInit) (by decide +kernel) rfl)) (hts _ (gmd (w := .code objectInit ⟨#[0xb1]⟩ 1 none) (by decide +kernel) rfl)) rfl (by rw [hml]; exact hl.1) rfl dX2_init_1 (Nat.le_of_ble_eq_true rfl) (Nat.le_of_ble_eq_true rfl) ?_
  refine lv_aload_n hx hb dX2_init_4 rfl (lv_at hl 0 rfl) ?_
  refine c_row (n := 4) (w := 1) (k := 0) (ci := 2) (fs := [.null, .null, .null]) K hin (by decide) hl.1 hS rfl rfl wmX2 tyX2_ok nmX2 (by decide) (gmd (by decide +kernel) rfl) rfl rfl (by decide +kernel) (Nat.le_of_ble_eq_true rfl) (gmd (by decide +kernel) rfl) (gmd (by decide +kernel) rfl) (Nat.le_of_ble_eq_true rfl) (Nat.le_of_ble_eq_true rfl) (Nat.le_of_ble_eq_true rfl) (Nat.le_of_ble_eq_true rfl) dX2_init_5 dX2_init_8 (fun H locs cells slots rest k => lv_iconst (v := 4) hx hb dX2_init_9 (by decide) k) dX2_init_10 dX2_init_13 (fun H locs hS => ?_)
  refine lv_aload_n hx hb dX2_init_16 rfl (lv_at hl 0 rfl) ?_
  refine c_row (n := 4) (w := 1) (k := 1) (ci := 2) (fs := [.ref (a + 1), .null, .null]) K hin (by decide) hl.1 hS rfl rfl wmX2 tyX2_ok nmX2 (by decide) (gmd (by decide +kernel) rfl) rfl rfl (by decide +kernel) (Nat.le_of_ble_eq_true rfl) (gmd (by decide +kernel) rfl) (gmd (by decide +kernel) rfl) (Nat.le_of_ble_eq_true rfl) (Nat.le_of_ble_eq_true rfl) (Nat.le_of_ble_eq_true rfl) (Nat.le_of_ble_eq_true rfl) dX2_init_17 dX2_init_20 (fun H locs cells slots rest k => lv_iconst (v := 4) hx hb dX2_init_21 (by decide) k) dX2_init_22 dX2_init_25 (fun H locs hS => ?_)
  refine lv_aload_n hx hb dX2_init_28 rfl (lv_at hl 0 rfl) ?_
  refine c_row (n := 4) (w := 1) (k := 2) (ci := 2) (fs := [.ref (a + 1), .ref (a + 3), .null]) K hin (by decide) hl.1 hS rfl rfl wmX2 tyX2_ok nmX2 (by decide) (gmd (by decide +kernel) rfl) rfl rfl (by decide +kernel) (Nat.le_of_ble_eq_true rfl) (gmd (by decide +kernel) rfl) (gmd (by decide +kernel) rfl) (Nat.le_of_ble_eq_true rfl) (Nat.le_of_ble_eq_true rfl) (Nat.le_of_ble_eq_true rfl) (Nat.le_of_ble_eq_true rfl) dX2_init_29 dX2_init_32 (fun H locs cells slots rest k => lv_iconst (v := 4) hx hb dX2_init_33 (by decide) k) dX2_init_34 dX2_init_37 (fun H locs hS => ?_)
  exact c_ret K hS dX2_init_40
def Lsleepers (G : gG) (a : Nat) : List va_E := [.inr (7, [.int 0, .ref (a + 1), .ref (a + 3), .ref (a + 5), .ref (a + 7)])] ++ Lrow G (a + 1) 5 ++ Lrow G (a + 3) 5 ++ Lrow G (a + 5) 5 ++ Lrow G (a + 7) 5
abbrev rmLsleepers : Room := { frames := 3, cells := 8, slots := 24, locals := 100 }
set_option maxHeartbeats 4000000 in
set_option maxRecDepth 100000 in
theorem c_X7_init (a : Nat) : Met l yX7_init (gW yX7_init cX7_init 1 none) rmLsleepers (cPc G a (.inr (7, [.int 0, .null, .null, .null, .null])) [.ref a]) (cQc G a (Lsleepers G a)) 8 24 (cFr a) := by
  refine c_met (by decide) (fun p e s m args below meth c ls K hin hS hl => ?_) (Nat.le_of_ble_eq_true rfl)
  have K : gK p s m args meth c G cX7_init 1 RX7 none := K
  have hl : lv_has ls 1 [(0, .ref a)] := hl
  obtain ⟨hx, hb, hml, hown, hts, -⟩ := id K
  refine lv_aload_n hx hb dX7_init_0 rfl (lv_at hl 0 rfl) ?_
  refine W.objInit hx hb hown (hts _ (gmd (w := .methodLink RX7 3 objectInit) (by decide +kernel) rfl)) (hts _ (gmd (w := .instanceMethod objectInit) (by decide +kernel) rfl)) (hts _ (gmd (w := .code objectInit ⟨#[0xb1]⟩ 1 none) (by decide +kernel) rfl)) rfl (by rw [hml]; exact hl.1) rfl dX7_init_1 (Nat.le_of_ble_eq_true rfl) (Nat.le_of_ble_eq_true rfl) ?_
  refine lv_aload_n hx hb dX7_init_4 rfl (lv_at hl 0 rfl) ?_
  refine c_row (n := 5) (w := 1) (k := 1) (ci := 7) (fs := [.int 0, .null, .null, .null, .null]) K hin (by decide) hl.1 hS rfl rfl wmX7 tyX7_ok nmX7 (by decide) (gmd (by decide +kernel) rfl) rfl rfl (by decide +kernel) (Nat.le_of_ble_eq_true rfl) (gmd (by decide +kernel) rfl) (gmd (by decide +kernel) rfl) (Nat.le_of_ble_eq_true rfl) (Nat.le_of_ble_eq_true rfl) (Nat.le_of_ble_eq_true rfl) (Nat.le_of_ble_eq_true rfl) dX7_init_5 dX7_init_8 (fun H locs cells slots rest k => lv_iconst (v := 5) hx hb dX7_init_9 (by decide) k) dX7_init_10 dX7_init_13 (fun H locs hS => ?_)
  refine lv_aload_n hx hb dX7_init_16 rfl (lv_at hl 0 rfl) ?_
  refine c_row (n := 5) (w := 1) (k := 2) (ci := 7) (fs := [.int 0, .ref (a + 1), .null, .null, .null]) K hin (by decide) hl.1 hS rfl rfl wmX7 tyX7_ok nmX7 (by decide) (gmd (by decide +kernel) rfl) rfl rfl (by decide +kernel) (Nat.le_of_ble_eq_true rfl) (gmd (by decide +kernel) rfl) (gmd (by decide +kernel) rfl) (Nat.le_of_ble_eq_true rfl) (Nat.le_of_ble_eq_true rfl) (Nat.le_of_ble_eq_true rfl) (Nat.le_of_ble_eq_true rfl) dX7_init_17 dX7_init_20 (fun H locs cells slots rest k => lv_iconst (v := 5) hx hb dX7_init_21 (by decide) k) dX7_init_22 dX7_init_25 (fun H locs hS => ?_)
  refine lv_aload_n hx hb dX7_init_28 rfl (lv_at hl 0 rfl) ?_
  refine c_row (n := 5) (w := 1) (k := 3) (ci := 7) (fs := [.int 0, .ref (a + 1), .ref (a + 3), .null, .null]) K hin (by decide) hl.1 hS rfl rfl wmX7 tyX7_ok nmX7 (by decide) (gmd (by decide +kernel) rfl) rfl rfl (by decide +kernel) (Nat.le_of_ble_eq_true rfl) (gmd (by decide +kernel) rfl) (gmd (by decide +kernel) rfl) (Nat.le_of_ble_eq_true rfl) (Nat.le_of_ble_eq_true rfl) (Nat.le_of_ble_eq_true rfl) (Nat.le_of_ble_eq_true rfl) dX7_init_29 dX7_init_32 (fun H locs cells slots rest k => lv_iconst (v := 5) hx hb dX7_init_33 (by decide) k) dX7_init_34 dX7_init_37 (fun H locs hS => ?_)
  refine lv_aload_n hx hb dX7_init_40 rfl (lv_at hl 0 rfl) ?_
  refine c_row (n := 5) (w := 1) (k := 4) (ci := 7) (fs := [.int 0, .ref (a + 1), .ref (a + 3), .ref (a + 5), .null]) K hin (by decide) hl.1 hS rfl rfl wmX7 tyX7_ok nmX7 (by decide) (gmd (by decide +kernel) rfl) rfl rfl (by decide +kernel) (Nat.le_of_ble_eq_true rfl) (gmd (by decide +kernel) rfl) (gmd (by decide +kernel) rfl) (Nat.le_of_ble_eq_true rfl) (Nat.le_of_ble_eq_true rfl) (Nat.le_of_ble_eq_true rfl) (Nat.le_of_ble_eq_true rfl) dX7_init_41 dX7_init_44 (fun H locs cells slots rest k => lv_iconst (v := 5) hx hb dX7_init_45 (by decide) k) dX7_init_46 dX7_init_49 (fun H locs hS => ?_)
  exact c_ret K hS dX7_init_52
def Lpad (G : gG) (a : Nat) : List va_E := [.inr (4, [.int 0, .ref (a + 1)])] ++ Lrow G (a + 1) 60
abbrev rmLpad : Room := { frames := 3, cells := 2, slots := 61, locals := 100 }
set_option maxHeartbeats 4000000 in
set_option maxRecDepth 100000 in
theorem c_X4_init (a : Nat) : Met l yX4_init (gW yX4_init cX4_init 1 none) rmLpad (cPc G a (.inr (4, [.int 0, .null])) [.ref a]) (cQc G a (Lpad G a)) 2 61 (cFr a) := by
  refine c_met (by decide) (fun p e s m args below meth c ls K hin hS hl => ?_) (Nat.le_of_ble_eq_true rfl)
  have K : gK p s m args meth c G cX4_init 1 RX4 none := K
  have hl : lv_has ls 1 [(0, .ref a)] := hl
  obtain ⟨hx, hb, hml, hown, hts, -⟩ := id K
  refine lv_aload_n hx hb dX4_init_0 rfl (lv_at hl 0 rfl) ?_
  refine W.objInit hx hb hown (hts _ (gmd (w := .methodLink RX4 3 objectInit) (by decide +kernel) rfl)) (hts _ (gmd (w := .instanceMethod objectInit) (by decide +kernel) rfl)) (hts _ (gmd (w := .code objectInit ⟨#[0xb1]⟩ 1 none) (by decide +kernel) rfl)) rfl (by rw [hml]; exact hl.1) rfl dX4_init_1 (Nat.le_of_ble_eq_true rfl) (Nat.le_of_ble_eq_true rfl) ?_
  refine lv_aload_n hx hb dX4_init_4 rfl (lv_at hl 0 rfl) ?_
  refine c_row (n := 60) (w := 2) (k := 1) (ci := 4) (fs := [.int 0, .null]) K hin (by decide) hl.1 hS rfl rfl wmX4 tyX4_ok nmX4 (by decide) (gmd (by decide +kernel) rfl) rfl rfl (by decide +kernel) (Nat.le_of_ble_eq_true rfl) (gmd (by decide +kernel) rfl) (gmd (by decide +kernel) rfl) (Nat.le_of_ble_eq_true rfl) (Nat.le_of_ble_eq_true rfl) (Nat.le_of_ble_eq_true rfl) (Nat.le_of_ble_eq_true rfl) dX4_init_5 dX4_init_8 (fun H locs cells slots rest k => lv_bipush (v := 60) hx hb dX4_init_9 (by decide) k) dX4_init_11 dX4_init_14 (fun H locs hS => ?_)
  exact c_ret K hS dX4_init_17
def Lway (G : gG) (a : Nat) : List va_E := [.inr (8, [.ref (a + 1), .ref (a + 3), .int 0, .int 0, .int 0])] ++ Lrow G (a + 1) 10 ++ Lrow G (a + 3) 10
abbrev rmLway : Room := { frames := 3, cells := 4, slots := 22, locals := 100 }
set_option maxHeartbeats 4000000 in
set_option maxRecDepth 100000 in
theorem c_X9_init (a : Nat) : Met l yX9_init (gW yX9_init cX9_init 1 none) rmLway (cPc G a (.inr (8, [.null, .null, .int 0, .int 0, .int 0])) [.ref a]) (cQc G a (Lway G a)) 4 22 (cFr a) := by
  refine c_met (by decide) (fun p e s m args below meth c ls K hin hS hl => ?_) (Nat.le_of_ble_eq_true rfl)
  have K : gK p s m args meth c G cX9_init 1 RX9 none := K
  have hl : lv_has ls 1 [(0, .ref a)] := hl
  obtain ⟨hx, hb, hml, hown, hts, -⟩ := id K
  refine lv_aload_n hx hb dX9_init_0 rfl (lv_at hl 0 rfl) ?_
  refine W.objInit hx hb hown (hts _ (gmd (w := .methodLink RX9 3 objectInit) (by decide +kernel) rfl)) (hts _ (gmd (w := .instanceMethod objectInit) (by decide +kernel) rfl)) (hts _ (gmd (w := .code objectInit ⟨#[0xb1]⟩ 1 none) (by decide +kernel) rfl)) rfl (by rw [hml]; exact hl.1) rfl dX9_init_1 (Nat.le_of_ble_eq_true rfl) (Nat.le_of_ble_eq_true rfl) ?_
  refine lv_aload_n hx hb dX9_init_4 rfl (lv_at hl 0 rfl) ?_
  refine c_row (n := 10) (w := 2) (k := 0) (ci := 8) (fs := [.null, .null, .int 0, .int 0, .int 0]) K hin (by decide) hl.1 hS rfl rfl wmX9 tyX9_ok nmX9 (by decide) (gmd (by decide +kernel) rfl) rfl rfl (by decide +kernel) (Nat.le_of_ble_eq_true rfl) (gmd (by decide +kernel) rfl) (gmd (by decide +kernel) rfl) (Nat.le_of_ble_eq_true rfl) (Nat.le_of_ble_eq_true rfl) (Nat.le_of_ble_eq_true rfl) (Nat.le_of_ble_eq_true rfl) dX9_init_5 dX9_init_8 (fun H locs cells slots rest k => lv_bipush (v := 10) hx hb dX9_init_9 (by decide) k) dX9_init_11 dX9_init_14 (fun H locs hS => ?_)
  refine lv_aload_n hx hb dX9_init_17 rfl (lv_at hl 0 rfl) ?_
  refine c_row (n := 10) (w := 2) (k := 1) (ci := 8) (fs := [.ref (a + 1), .null, .int 0, .int 0, .int 0]) K hin (by decide) hl.1 hS rfl rfl wmX9 tyX9_ok nmX9 (by decide) (gmd (by decide +kernel) rfl) rfl rfl (by decide +kernel) (Nat.le_of_ble_eq_true rfl) (gmd (by decide +kernel) rfl) (gmd (by decide +kernel) rfl) (Nat.le_of_ble_eq_true rfl) (Nat.le_of_ble_eq_true rfl) (Nat.le_of_ble_eq_true rfl) (Nat.le_of_ble_eq_true rfl) dX9_init_18 dX9_init_21 (fun H locs cells slots rest k => lv_bipush (v := 10) hx hb dX9_init_22 (by decide) k) dX9_init_24 dX9_init_27 (fun H locs hS => ?_)
  exact c_ret K hS dX9_init_30
end IR
