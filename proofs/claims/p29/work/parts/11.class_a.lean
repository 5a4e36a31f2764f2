section
variable {p : Program} {l : Launch} {e : Env} {s : State} {m : MethodId} {args : Array Value} {below : List Frame} {meth : Method} {c : Code} {G : gG} {o : Nat}
abbrev rmX5_copyFrom : Room := { frames := 1, cells := 0, slots := 0, locals := 40 }
def f_X5_copyFrom (r L r2 L2 : Nat) (σ : gS) : Option (gS) := gGd (gcp (if (Int32.ofNat L) < (Int32.ofNat L2) then (Int32.ofNat L) else (Int32.ofNat L2)) L2 L) (gLet (gU σ (r + 1) (va_cpy (σ (r2 + 1)) (σ (r + 1)) 0 0 (gil (if (Int32.ofNat L) < (Int32.ofNat L2) then (Int32.ofNat L) else (Int32.ofNat L2))))) (fun s2 => some s2))
set_option maxHeartbeats 4000000 in
set_option maxRecDepth 100000 in
theorem c_X5_copyFrom (r L r2 L2 : Nat) (hr : gRow G o r L) (hr2 : gRow G o r2 L2) (σ : gS) (q : gS) (hf : f_X5_copyFrom r L r2 L2 σ = some q) : Met l yX5_copyFrom (gW yX5_copyFrom cX5_copyFrom 2 none) rmX5_copyFrom (gPc G (entX G o) o 302 [.ref (o + r), .ref (o + r2)] σ) (gQv G (entX G o) o 302 q) 0 0 (gA o 302) := by
  refine g_met (by decide) ⟨rfl, rfl⟩ (fun p e s m args below meth c ls K hS hl => ?_) (Nat.le_of_ble_eq_true rfl)
  have K : gK p s m args meth c G cX5_copyFrom 2 RX5 none := K
  have hl : lv_has ls 2 [(0, .ref (o + r)), (1, .ref (o + r2))] := hl
  obtain ⟨hx, hb, hml, hown, hts, -⟩ := id K
  unfold f_X5_copyFrom at hf
  refine lv_aload_n hx hb dX5_copyFrom_0 rfl (lv_at hl 1 rfl) ?_
  refine g_get (cx := r2) K hS lF_X5_13 (hr2.1 _) hr2.2.2.1 rfl dX5_copyFrom_1 ?_
  refine lv_iconst (v := 0) hx hb dX5_copyFrom_4 (by decide) ?_
  refine lv_aload_n hx hb dX5_copyFrom_5 rfl (lv_at hl 0 rfl) ?_
  refine g_get (cx := r) K hS lF_X5_13 (hr.1 _) hr.2.2.1 rfl dX5_copyFrom_6 ?_
  refine lv_iconst (v := 0) hx hb dX5_copyFrom_9 (by decide) ?_
  refine lv_aload_n hx hb dX5_copyFrom_10 rfl (lv_at hl 1 rfl) ?_
  refine g_get (cx := r2) K hS lF_X5_13 (hr2.1 _) hr2.2.2.1 rfl dX5_copyFrom_11 ?_
  refine g_alen (cx := (r2 + 1)) (t0 := 0) (v := (Int32.ofNat L2)) K hS (hr2.2.1 _) hr2.2.2.2 rfl rfl dX5_copyFrom_14 ?_
  refine lv_aload_n hx hb dX5_copyFrom_15 rfl (lv_at hl 0 rfl) ?_
  refine g_get (cx := r) K hS lF_X5_13 (hr.1 _) hr.2.2.1 rfl dX5_copyFrom_16 ?_
  refine g_alen (cx := (r + 1)) (t0 := 0) (v := (Int32.ofNat L)) K hS (hr.2.1 _) hr.2.2.2 rfl rfl dX5_copyFrom_19 ?_
  refine g_mmin K hl.1 (gmem 303 (by decide +kernel) rfl) q_static_min q_init_Math q_code_min (Nat.le_of_ble_eq_true rfl) (Nat.le_of_ble_eq_true rfl) (Nat.zero_le _) (Nat.zero_le _) dX5_copyFrom_20 ?_
  obtain ⟨h1, hf⟩ := gGd_some hf
  obtain ⟨s2, hs2, hf⟩ := gLet_some hf
  refine g_copy (c0 := (r2 + 1)) (c1 := (r + 1)) K hS hl.1 (gmem 306 (by decide +kernel) rfl) hr2.2.1 hr.2.1 hr2.2.2.2 hr.2.2.2 (gcp_ok h1) q_native_copy q_static_copy q_init_System (Nat.le_of_ble_eq_true rfl) (Nat.le_of_ble_eq_true rfl) dX5_copyFrom_23 (fun H locs hS => ?_)
  rw [← hs2] at hS
  exact g_vret K hS hf dX5_copyFrom_26
abbrev rmX1_copyFrom : Room := { frames := 2, cells := 0, slots := 0, locals := 61 }
def f_X1_copyFrom (b b2 : Nat) (σ : gS) : Option (gS) := gLet (up2 σ (b + 3) 0 (σ (b2 + 3) 0)) (fun s1 => Option.bind (f_X5_copyFrom (b + 4) 20 (b2 + 4) 20 s1) (fun q3 => Option.bind (f_X5_copyFrom (b + 6) 20 (b2 + 6) 20 q3) (fun q4 => Option.bind (f_X5_copyFrom (b + 8) 20 (b2 + 8) 20 q4) (fun q5 => Option.bind (f_X5_copyFrom (b + 10) 20 (b2 + 10) 20 q5) (fun q6 => Option.bind (f_X5_copyFrom (b + 12) 20 (b2 + 12) 20 q6) (fun q7 => Option.bind (f_X5_copyFrom (b + 14) 20 (b2 + 14) 20 q7) (fun q8 => some q8)))))))
set_option maxHeartbeats 4000000 in
set_option maxRecDepth 100000 in
theorem c_X1_copyFrom (b b2 : Nat) (hat : gIsAt b) (hat2 : gIsAt b2) (σ : gS) (q : gS) (hf : f_X1_copyFrom b b2 σ = some q) : Met l yX1_copyFrom (gW yX1_copyFrom cX1_copyFrom 2 none) rmX1_copyFrom (gPc G (entX G o) o 302 [.ref (o + (b + 3)), .ref (o + (b2 + 3))] σ) (gQv G (entX G o) o 302 q) 0 0 (gA o 302) := by
  refine g_met (by decide) ⟨rfl, rfl⟩ (fun p e s m args below meth c ls K hS hl => ?_) (Nat.le_of_ble_eq_true rfl)
  have K : gK p s m args meth c G cX1_copyFrom 2 RX1 none := K
  have hl : lv_has ls 2 [(0, .ref (o + (b + 3))), (1, .ref (o + (b2 + 3)))] := hl
  obtain ⟨hx, hb, hml, hown, hts, -⟩ := id K
  unfold f_X1_copyFrom at hf
  refine lv_aload_n hx hb dX1_copyFrom_0 rfl (lv_at hl 0 rfl) ?_
  refine lv_aload_n hx hb dX1_copyFrom_1 rfl (lv_at hl 1 rfl) ?_
  refine g_get (cx := (b2 + 3)) K hS lF_X1_35 ((eA_3 G o hat2) _) (eA_lt hat2 3 (by decide)) rfl dX1_copyFrom_2 ?_
  obtain ⟨s1, hs1, hf⟩ := gLet_some hf
  refine g_put (cx := (b + 3)) K hS lP_X1_35 (eA_3 G o hat) (eA_lt hat 3 (by decide)) rfl (Nat.le_of_ble_eq_true rfl) rfl rfl dX1_copyFrom_5 (fun H locs hS => ?_)
  rw [← hs1] at hS
  refine lv_aload_n hx hb dX1_copyFrom_8 rfl (lv_at hl 0 rfl) ?_
  refine g_get (cx := (b + 3)) K hS lF_X1_14 ((eA_3 G o hat) _) (eA_lt hat 3 (by decide)) rfl dX1_copyFrom_9 ?_
  refine lv_aload_n hx hb dX1_copyFrom_12 rfl (lv_at hl 1 rfl) ?_
  refine g_get (cx := (b2 + 3)) K hS lF_X1_14 ((eA_3 G o hat2) _) (eA_lt hat2 3 (by decide)) rfl dX1_copyFrom_13 ?_
  obtain ⟨q3, hq3, hf⟩ := Option.bind_eq_some_iff.mp hf
  refine g_Vv (cx := (b + 4)) (As := [.ref (o + (b2 + 4))]) K hS lV_X1_39 (c_X5_copyFrom (b + 4) 20 (b2 + 4) 20 (gRowA_4 G o hat) (gRowA_4 G o hat2) s1 q3 hq3) ((eA_4 G o hat) _) (eA_lt hat 4 (by decide)) rfl rfl rfl (Nat.le_of_ble_eq_true rfl) ⟨⟨Nat.le_of_ble_eq_true rfl, Nat.le_of_ble_eq_true rfl⟩, rfl, rfl⟩ hl.1 ⟨Nat.zero_le _, Nat.zero_le _⟩ dX1_copyFrom_16 (fun H locs hS => ?_)
  refine lv_aload_n hx hb dX1_copyFrom_19 rfl (lv_at hl 0 rfl) ?_
  refine g_get (cx := (b + 3)) K hS lF_X1_20 ((eA_3 G o hat) _) (eA_lt hat 3 (by decide)) rfl dX1_copyFrom_20 ?_
  refine lv_aload_n hx hb dX1_copyFrom_23 rfl (lv_at hl 1 rfl) ?_
  refine g_get (cx := (b2 + 3)) K hS lF_X1_20 ((eA_3 G o hat2) _) (eA_lt hat2 3 (by decide)) rfl dX1_copyFrom_24 ?_
  obtain ⟨q4, hq4, hf⟩ := Option.bind_eq_some_iff.mp hf
  refine g_Vv (cx := (b + 6)) (As := [.ref (o + (b2 + 6))]) K hS lV_X1_39 (c_X5_copyFrom (b + 6) 20 (b2 + 6) 20 (gRowA_6 G o hat) (gRowA_6 G o hat2) q3 q4 hq4) ((eA_6 G o hat) _) (eA_lt hat 6 (by decide)) rfl rfl rfl (Nat.le_of_ble_eq_true rfl) ⟨⟨Nat.le_of_ble_eq_true rfl, Nat.le_of_ble_eq_true rfl⟩, rfl, rfl⟩ hl.1 ⟨Nat.zero_le _, Nat.zero_le _⟩ dX1_copyFrom_27 (fun H locs hS => ?_)
  refine lv_aload_n hx hb dX1_copyFrom_30 rfl (lv_at hl 0 rfl) ?_
  refine g_get (cx := (b + 3)) K hS lF_X1_23 ((eA_3 G o hat) _) (eA_lt hat 3 (by decide)) rfl dX1_copyFrom_31 ?_
  refine lv_aload_n hx hb dX1_copyFrom_34 rfl (lv_at hl 1 rfl) ?_
  refine g_get (cx := (b2 + 3)) K hS lF_X1_23 ((eA_3 G o hat2) _) (eA_lt hat2 3 (by decide)) rfl dX1_copyFrom_35 ?_
  obtain ⟨q5, hq5, hf⟩ := Option.bind_eq_some_iff.mp hf
  refine g_Vv (cx := (b + 8)) (As := [.ref (o + (b2 + 8))]) K hS lV_X1_39 (c_X5_copyFrom (b + 8) 20 (b2 + 8) 20 (gRowA_8 G o hat) (gRowA_8 G o hat2) q4 q5 hq5) ((eA_8 G o hat) _) (eA_lt hat 8 (by decide)) rfl rfl rfl (Nat.le_of_ble_eq_true rfl) ⟨⟨Nat.le_of_ble_eq_true rfl, Nat.le_of_ble_eq_true rfl⟩, rfl, rfl⟩ hl.1 ⟨Nat.zero_le _, Nat.zero_le _⟩ dX1_copyFrom_38 (fun H locs hS => ?_)
  refine lv_aload_n hx hb dX1_copyFrom_41 rfl (lv_at hl 0 rfl) ?_
  refine g_get (cx := (b + 3)) K hS lF_X1_26 ((eA_3 G o hat) _) (eA_lt hat 3 (by decide)) rfl dX1_copyFrom_42 ?_
  refine lv_aload_n hx hb dX1_copyFrom_45 rfl (lv_at hl 1 rfl) ?_
  refine g_get (cx := (b2 + 3)) K hS lF_X1_26 ((eA_3 G o hat2) _) (eA_lt hat2 3 (by decide)) rfl dX1_copyFrom_46 ?_
  obtain ⟨q6, hq6, hf⟩ := Option.bind_eq_some_iff.mp hf
  refine g_Vv (cx := (b + 10)) (As := [.ref (o + (b2 + 10))]) K hS lV_X1_39 (c_X5_copyFrom (b + 10) 20 (b2 + 10) 20 (gRowA_10 G o hat) (gRowA_10 G o hat2) q5 q6 hq6) ((eA_10 G o hat) _) (eA_lt hat 10 (by decide)) rfl rfl rfl (Nat.le_of_ble_eq_true rfl) ⟨⟨Nat.le_of_ble_eq_true rfl, Nat.le_of_ble_eq_true rfl⟩, rfl, rfl⟩ hl.1 ⟨Nat.zero_le _, Nat.zero_le _⟩ dX1_copyFrom_49 (fun H locs hS => ?_)
  refine lv_aload_n hx hb dX1_copyFrom_52 rfl (lv_at hl 0 rfl) ?_
  refine g_get (cx := (b + 3)) K hS lF_X1_29 ((eA_3 G o hat) _) (eA_lt hat 3 (by decide)) rfl dX1_copyFrom_53 ?_
  refine lv_aload_n hx hb dX1_copyFrom_56 rfl (lv_at hl 1 rfl) ?_
  refine g_get (cx := (b2 + 3)) K hS lF_X1_29 ((eA_3 G o hat2) _) (eA_lt hat2 3 (by decide)) rfl dX1_copyFrom_57 ?_
  obtain ⟨q7, hq7, hf⟩ := Option.bind_eq_some_iff.mp hf
  refine g_Vv (cx := (b + 12)) (As := [.ref (o + (b2 + 12))]) K hS lV_X1_39 (c_X5_copyFrom (b + 12) 20 (b2 + 12) 20 (gRowA_12 G o hat) (gRowA_12 G o hat2) q6 q7 hq7) ((eA_12 G o hat) _) (eA_lt hat 12 (by decide)) rfl rfl rfl (Nat.le_of_ble_eq_true rfl) ⟨⟨Nat.le_of_ble_eq_true rfl, Nat.le_of_ble_eq_true rfl⟩, rfl, rfl⟩ hl.1 ⟨Nat.zero_le _, Nat.zero_le _⟩ dX1_copyFrom_60 (fun H locs hS => ?_)
  refine lv_aload_n hx hb dX1_copyFrom_63 rfl (lv_at hl 0 rfl) ?_
  refine g_get (cx := (b + 3)) K hS lF_X1_32 ((eA_3 G o hat) _) (eA_lt hat 3 (by decide)) rfl dX1_copyFrom_64 ?_
  refine lv_aload_n hx hb dX1_copyFrom_67 rfl (lv_at hl 1 rfl) ?_
  refine g_get (cx := (b2 + 3)) K hS lF_X1_32 ((eA_3 G o hat2) _) (eA_lt hat2 3 (by decide)) rfl dX1_copyFrom_68 ?_
  obtain ⟨q8, hq8, hf⟩ := Option.bind_eq_some_iff.mp hf
  refine g_Vv (cx := (b + 14)) (As := [.ref (o + (b2 + 14))]) K hS lV_X1_39 (c_X5_copyFrom (b + 14) 20 (b2 + 14) 20 (gRowA_14 G o hat) (gRowA_14 G o hat2) q7 q8 hq8) ((eA_14 G o hat) _) (eA_lt hat 14 (by decide)) rfl rfl rfl (Nat.le_of_ble_eq_true rfl) ⟨⟨Nat.le_of_ble_eq_true rfl, Nat.le_of_ble_eq_true rfl⟩, rfl, rfl⟩ hl.1 ⟨Nat.zero_le _, Nat.zero_le _⟩ dX1_copyFrom_71 (fun H locs hS => ?_)
  exact g_vret K hS hf dX1_copyFrom_74
abbrev rmX2_copyFrom : Room := { frames := 2, cells := 0, slots := 0, locals := 61 }
def f_X2_copyFrom (b b2 : Nat) (σ : gS) : Option (gS) := Option.bind (f_X5_copyFrom (b + 17) 4 (b2 + 17) 4 σ) (fun q1 => Option.bind (f_X5_copyFrom (b + 19) 4 (b2 + 19) 4 q1) (fun q2 => Option.bind (f_X5_copyFrom (b + 21) 4 (b2 + 21) 4 q2) (fun q3 => some q3)))
set_option maxHeartbeats 4000000 in
set_option maxRecDepth 100000 in
theorem c_X2_copyFrom (b b2 : Nat) (hat : gIsAt b) (hat2 : gIsAt b2) (σ : gS) (q : gS) (hf : f_X2_copyFrom b b2 σ = some q) : Met l yX2_copyFrom (gW yX2_copyFrom cX2_copyFrom 2 none) rmX2_copyFrom (gPc G (entX G o) o 302 [.ref (o + (b + 16)), .ref (o + (b2 + 16))] σ) (gQv G (entX G o) o 302 q) 0 0 (gA o 302) := by
  refine g_met (by decide) ⟨rfl, rfl⟩ (fun p e s m args below meth c ls K hS hl => ?_) (Nat.le_of_ble_eq_true rfl)
  have K : gK p s m args meth c G cX2_copyFrom 2 RX2 none := K
  have hl : lv_has ls 2 [(0, .ref (o + (b + 16))), (1, .ref (o + (b2 + 16)))] := hl
  obtain ⟨hx, hb, hml, hown, hts, -⟩ := id K
  unfold f_X2_copyFrom at hf
  refine lv_aload_n hx hb dX2_copyFrom_0 rfl (lv_at hl 0 rfl) ?_
  refine g_get (cx := (b + 16)) K hS lF_X2_14 ((eA_16 G o hat) _) (eA_lt hat 16 (by decide)) rfl dX2_copyFrom_1 ?_
  refine lv_aload_n hx hb dX2_copyFrom_4 rfl (lv_at hl 1 rfl) ?_
  refine g_get (cx := (b2 + 16)) K hS lF_X2_14 ((eA_16 G o hat2) _) (eA_lt hat2 16 (by decide)) rfl dX2_copyFrom_5 ?_
  obtain ⟨q1, hq1, hf⟩ := Option.bind_eq_some_iff.mp hf
  refine g_Vv (cx := (b + 17)) (As := [.ref (o + (b2 + 17))]) K hS lV_X2_26 (c_X5_copyFrom (b + 17) 4 (b2 + 17) 4 (gRowA_17 G o hat) (gRowA_17 G o hat2) σ q1 hq1) ((eA_17 G o hat) _) (eA_lt hat 17 (by decide)) rfl rfl rfl (Nat.le_of_ble_eq_true rfl) ⟨⟨Nat.le_of_ble_eq_true rfl, Nat.le_of_ble_eq_true rfl⟩, rfl, rfl⟩ hl.1 ⟨Nat.zero_le _, Nat.zero_le _⟩ dX2_copyFrom_8 (fun H locs hS => ?_)
  refine lv_aload_n hx hb dX2_copyFrom_11 rfl (lv_at hl 0 rfl) ?_
  refine g_get (cx := (b + 16)) K hS lF_X2_20 ((eA_16 G o hat) _) (eA_lt hat 16 (by decide)) rfl dX2_copyFrom_12 ?_
  refine lv_aload_n hx hb dX2_copyFrom_15 rfl (lv_at hl 1 rfl) ?_
  refine g_get (cx := (b2 + 16)) K hS lF_X2_20 ((eA_16 G o hat2) _) (eA_lt hat2 16 (by decide)) rfl dX2_copyFrom_16 ?_
  obtain ⟨q2, hq2, hf⟩ := Option.bind_eq_some_iff.mp hf
  refine g_Vv (cx := (b + 19)) (As := [.ref (o + (b2 + 19))]) K hS lV_X2_26 (c_X5_copyFrom (b + 19) 4 (b2 + 19) 4 (gRowA_19 G o hat) (gRowA_19 G o hat2) q1 q2 hq2) ((eA_19 G o hat) _) (eA_lt hat 19 (by decide)) rfl rfl rfl (Nat.le_of_ble_eq_true rfl) ⟨⟨Nat.le_of_ble_eq_true rfl, Nat.le_of_ble_eq_true rfl⟩, rfl, rfl⟩ hl.1 ⟨Nat.zero_le _, Nat.zero_le _⟩ dX2_copyFrom_19 (fun H locs hS => ?_)
  refine lv_aload_n hx hb dX2_copyFrom_22 rfl (lv_at hl 0 rfl) ?_
  refine g_get (cx := (b + 16)) K hS lF_X2_23 ((eA_16 G o hat) _) (eA_lt hat 16 (by decide)) rfl dX2_copyFrom_23 ?_
  refine lv_aload_n hx hb dX2_copyFrom_26 rfl (lv_at hl 1 rfl) ?_
  refine g_get (cx := (b2 + 16)) K hS lF_X2_23 ((eA_16 G o hat2) _) (eA_lt hat2 16 (by decide)) rfl dX2_copyFrom_27 ?_
  obtain ⟨q3, hq3, hf⟩ := Option.bind_eq_some_iff.mp hf
  refine g_Vv (cx := (b + 21)) (As := [.ref (o + (b2 + 21))]) K hS lV_X2_26 (c_X5_copyFrom (b + 21) 4 (b2 + 21) 4 (gRowA_21 G o hat) (gRowA_21 G o hat2) q2 q3 hq3) ((eA_21 G o hat) _) (eA_lt hat 21 (by decide)) rfl rfl rfl (Nat.le_of_ble_eq_true rfl) ⟨⟨Nat.le_of_ble_eq_true rfl, Nat.le_of_ble_eq_true rfl⟩, rfl, rfl⟩ hl.1 ⟨Nat.zero_le _, Nat.zero_le _⟩ dX2_copyFrom_30 (fun H locs hS => ?_)
  exact g_vret K hS hf dX2_copyFrom_33
abbrev rmX7_copyFrom : Room := { frames := 2, cells := 0, slots := 0, locals := 61 }
def f_X7_copyFrom (b b2 : Nat) (σ : gS) : Option (gS) := gLet (up2 σ (b + 23) 0 (σ (b2 + 23) 0)) (fun s1 => Option.bind (f_X5_copyFrom (b + 24) 5 (b2 + 24) 5 s1) (fun q3 => Option.bind (f_X5_copyFrom (b + 26) 5 (b2 + 26) 5 q3) (fun q4 => Option.bind (f_X5_copyFrom (b + 28) 5 (b2 + 28) 5 q4) (fun q5 => Option.bind (f_X5_copyFrom (b + 30) 5 (b2 + 30) 5 q5) (fun q6 => some q6)))))
set_option maxHeartbeats 4000000 in
set_option maxRecDepth 100000 in
theorem c_X7_copyFrom (b b2 : Nat) (hat : gIsAt b) (hat2 : gIsAt b2) (σ : gS) (q : gS) (hf : f_X7_copyFrom b b2 σ = some q) : Met l yX7_copyFrom (gW yX7_copyFrom cX7_copyFrom 2 none) rmX7_copyFrom (gPc G (entX G o) o 302 [.ref (o + (b + 23)), .ref (o + (b2 + 23))] σ) (gQv G (entX G o) o 302 q) 0 0 (gA o 302) := by
  refine g_met (by decide) ⟨rfl, rfl⟩ (fun p e s m args below meth c ls K hS hl => ?_) (Nat.le_of_ble_eq_true rfl)
  have K : gK p s m args meth c G cX7_copyFrom 2 RX7 none := K
  have hl : lv_has ls 2 [(0, .ref (o + (b + 23))), (1, .ref (o + (b2 + 23)))] := hl
  obtain ⟨hx, hb, hml, hown, hts, -⟩ := id K
  unfold f_X7_copyFrom at hf
  refine lv_aload_n hx hb dX7_copyFrom_0 rfl (lv_at hl 0 rfl) ?_
  refine lv_aload_n hx hb dX7_copyFrom_1 rfl (lv_at hl 1 rfl) ?_
  refine g_get (cx := (b2 + 23)) K hS lF_X7_29 ((eA_23 G o hat2) _) (eA_lt hat2 23 (by decide)) rfl dX7_copyFrom_2 ?_
  obtain ⟨s1, hs1, hf⟩ := gLet_some hf
  refine g_put (cx := (b + 23)) K hS lP_X7_29 (eA_23 G o hat) (eA_lt hat 23 (by decide)) rfl (Nat.le_of_ble_eq_true rfl) rfl rfl dX7_copyFrom_5 (fun H locs hS => ?_)
  rw [← hs1] at hS
  refine lv_aload_n hx hb dX7_copyFrom_8 rfl (lv_at hl 0 rfl) ?_
  refine g_get (cx := (b + 23)) K hS lF_X7_14 ((eA_23 G o hat) _) (eA_lt hat 23 (by decide)) rfl dX7_copyFrom_9 ?_
  refine lv_aload_n hx hb dX7_copyFrom_12 rfl (lv_at hl 1 rfl) ?_
  refine g_get (cx := (b2 + 23)) K hS lF_X7_14 ((eA_23 G o hat2) _) (eA_lt hat2 23 (by decide)) rfl dX7_copyFrom_13 ?_
  obtain ⟨q3, hq3, hf⟩ := Option.bind_eq_some_iff.mp hf
  refine g_Vv (cx := (b + 24)) (As := [.ref (o + (b2 + 24))]) K hS lV_X7_33 (c_X5_copyFrom (b + 24) 5 (b2 + 24) 5 (gRowA_24 G o hat) (gRowA_24 G o hat2) s1 q3 hq3) ((eA_24 G o hat) _) (eA_lt hat 24 (by decide)) rfl rfl rfl (Nat.le_of_ble_eq_true rfl) ⟨⟨Nat.le_of_ble_eq_true rfl, Nat.le_of_ble_eq_true rfl⟩, rfl, rfl⟩ hl.1 ⟨Nat.zero_le _, Nat.zero_le _⟩ dX7_copyFrom_16 (fun H locs hS => ?_)
  refine lv_aload_n hx hb dX7_copyFrom_19 rfl (lv_at hl 0 rfl) ?_
  refine g_get (cx := (b + 23)) K hS lF_X7_20 ((eA_23 G o hat) _) (eA_lt hat 23 (by decide)) rfl dX7_copyFrom_20 ?_
  refine lv_aload_n hx hb dX7_copyFrom_23 rfl (lv_at hl 1 rfl) ?_
  refine g_get (cx := (b2 + 23)) K hS lF_X7_20 ((eA_23 G o hat2) _) (eA_lt hat2 23 (by decide)) rfl dX7_copyFrom_24 ?_
  obtain ⟨q4, hq4, hf⟩ := Option.bind_eq_some_iff.mp hf
  refine g_Vv (cx := (b + 26)) (As := [.ref (o + (b2 + 26))]) K hS lV_X7_33 (c_X5_copyFrom (b + 26) 5 (b2 + 26) 5 (gRowA_26 G o hat) (gRowA_26 G o hat2) q3 q4 hq4) ((eA_26 G o hat) _) (eA_lt hat 26 (by decide)) rfl rfl rfl (Nat.le_of_ble_eq_true rfl) ⟨⟨Nat.le_of_ble_eq_true rfl, Nat.le_of_ble_eq_true rfl⟩, rfl, rfl⟩ hl.1 ⟨Nat.zero_le _, Nat.zero_le _⟩ dX7_copyFrom_27 (fun H locs hS => ?_)
  refine lv_aload_n hx hb dX7_copyFrom_30 rfl (lv_at hl 0 rfl) ?_
  refine g_get (cx := (b + 23)) K hS lF_X7_23 ((eA_23 G o hat) _) (eA_lt hat 23 (by decide)) rfl dX7_copyFrom_31 ?_
  refine lv_aload_n hx hb dX7_copyFrom_34 rfl (lv_at hl 1 rfl) ?_
  refine g_get (cx := (b2 + 23)) K hS lF_X7_23 ((eA_23 G o hat2) _) (eA_lt hat2 23 (by decide)) rfl dX7_copyFrom_35 ?_
  obtain ⟨q5, hq5, hf⟩ := Option.bind_eq_some_iff.mp hf
  refine g_Vv (cx := (b + 28)) (As := [.ref (o + (b2 + 28))]) K hS lV_X7_33 (c_X5_copyFrom (b + 28) 5 (b2 + 28) 5 (gRowA_28 G o hat) (gRowA_28 G o hat2) q4 q5 hq5) ((eA_28 G o hat) _) (eA_lt hat 28 (by decide)) rfl rfl rfl (Nat.le_of_ble_eq_true rfl) ⟨⟨Nat.le_of_ble_eq_true rfl, Nat.le_of_ble_eq_true rfl⟩, rfl, rfl⟩ hl.1 ⟨Nat.zero_le _, Nat.zero_le _⟩ dX7_copyFrom_38 (fun H locs hS => ?_)
  refine lv_aload_n hx hb dX7_copyFrom_41 rfl (lv_at hl 0 rfl) ?_
  refine g_get (cx := (b + 23)) K hS lF_X7_26 ((eA_23 G o hat) _) (eA_lt hat 23 (by decide)) rfl dX7_copyFrom_42 ?_
  refine lv_aload_n hx hb dX7_copyFrom_45 rfl (lv_at hl 1 rfl) ?_
  refine g_get (cx := (b2 + 23)) K hS lF_X7_26 ((eA_23 G o hat2) _) (eA_lt hat2 23 (by decide)) rfl dX7_copyFrom_46 ?_
  obtain ⟨q6, hq6, hf⟩ := Option.bind_eq_some_iff.mp hf
  refine g_Vv (cx := (b + 30)) (As := [.ref (o + (b2 + 30))]) K hS lV_X7_33 (c_X5_copyFrom (b + 30) 5 (b2 + 30) 5 (gRowA_30 G o hat) (gRowA_30 G o hat2) q5 q6 hq6) ((eA_30 G o hat) _) (eA_lt hat 30 (by decide)) rfl rfl rfl (Nat.le_of_ble_eq_true rfl) ⟨⟨Nat.le_of_ble_eq_true rfl, Nat.le_of_ble_eq_true rfl⟩, rfl, rfl⟩ hl.1 ⟨Nat.zero_le _, Nat.zero_le _⟩ dX7_copyFrom_49 (fun H locs hS => ?_)
  exact g_vret K hS hf dX7_copyFrom_52
abbrev rmX0_copyFrom : Room := { frames := 3, cells := 0, slots := 0, locals := 82 }
def f_X0_copyFrom (b b2 : Nat) (σ : gS) : Option (gS) := gLet (up2 σ b 0 (σ b2 0)) (fun s1 => gLet (up2 s1 b 1 (s1 b2 1)) (fun s3 => Option.bind (f_X5_copyFrom (b + 1) 2 (b2 + 1) 2 s3) (fun q5 => Option.bind (f_X1_copyFrom b b2 q5) (fun q6 => Option.bind (f_X2_copyFrom b b2 q6) (fun q7 => Option.bind (f_X7_copyFrom b b2 q7) (fun q8 => some q8))))))
set_option maxHeartbeats 4000000 in
set_option maxRecDepth 100000 in
theorem c_X0_copyFrom (b b2 : Nat) (hat : gIsAt b) (hat2 : gIsAt b2) (σ : gS) (q : gS) (hf : f_X0_copyFrom b b2 σ = some q) : Met l yX0_copyFrom (gW yX0_copyFrom cX0_copyFrom 2 none) rmX0_copyFrom (gPc G (entX G o) o 302 [.ref (o + b), .ref (o + b2)] σ) (gQv G (entX G o) o 302 q) 0 0 (gA o 302) := by
  refine g_met (by decide) ⟨rfl, rfl⟩ (fun p e s m args below meth c ls K hS hl => ?_) (Nat.le_of_ble_eq_true rfl)
  have K : gK p s m args meth c G cX0_copyFrom 2 RX0 none := K
  have hl : lv_has ls 2 [(0, .ref (o + b)), (1, .ref (o + b2))] := hl
  obtain ⟨hx, hb, hml, hown, hts, -⟩ := id K
  unfold f_X0_copyFrom at hf
  refine lv_aload_n hx hb dX0_copyFrom_0 rfl (lv_at hl 0 rfl) ?_
  refine lv_aload_n hx hb dX0_copyFrom_1 rfl (lv_at hl 1 rfl) ?_
  refine g_get (cx := b2) K hS lF_X0_45 ((eA_0 G o hat2) _) (eA_lt hat2 0 (by decide)) rfl dX0_copyFrom_2 ?_
  obtain ⟨s1, hs1, hf⟩ := gLet_some hf
  refine g_put (cx := b) K hS lP_X0_45 (eA_0 G o hat) (eA_lt hat 0 (by decide)) rfl (Nat.le_of_ble_eq_true rfl) rfl rfl dX0_copyFrom_5 (fun H locs hS => ?_)
  rw [← hs1] at hS
  refine lv_aload_n hx hb dX0_copyFrom_8 rfl (lv_at hl 0 rfl) ?_
  refine lv_aload_n hx hb dX0_copyFrom_9 rfl (lv_at hl 1 rfl) ?_
  refine g_get (cx := b2) K hS lF_X0_49 ((eA_0 G o hat2) _) (eA_lt hat2 0 (by decide)) rfl dX0_copyFrom_10 ?_
  obtain ⟨s3, hs3, hf⟩ := gLet_some hf
  refine g_put (cx := b) K hS lP_X0_49 (eA_0 G o hat) (eA_lt hat 0 (by decide)) rfl (Nat.le_of_ble_eq_true rfl) rfl rfl dX0_copyFrom_13 (fun H locs hS => ?_)
  rw [← hs3] at hS
  refine lv_aload_n hx hb dX0_copyFrom_16 rfl (lv_at hl 0 rfl) ?_
  refine g_get (cx := b) K hS lF_X0_14 ((eA_0 G o hat) _) (eA_lt hat 0 (by decide)) rfl dX0_copyFrom_17 ?_
  refine lv_aload_n hx hb dX0_copyFrom_20 rfl (lv_at hl 1 rfl) ?_
  refine g_get (cx := b2) K hS lF_X0_14 ((eA_0 G o hat2) _) (eA_lt hat2 0 (by decide)) rfl dX0_copyFrom_21 ?_
  obtain ⟨q5, hq5, hf⟩ := Option.bind_eq_some_iff.mp hf
  refine g_Vv (cx := (b + 1)) (As := [.ref (o + (b2 + 1))]) K hS lV_X0_52 (c_X5_copyFrom (b + 1) 2 (b2 + 1) 2 (gRowA_1 G o hat) (gRowA_1 G o hat2) s3 q5 hq5) ((eA_1 G o hat) _) (eA_lt hat 1 (by decide)) rfl rfl rfl (Nat.le_of_ble_eq_true rfl) ⟨⟨Nat.le_of_ble_eq_true rfl, Nat.le_of_ble_eq_true rfl⟩, rfl, rfl⟩ hl.1 ⟨Nat.zero_le _, Nat.zero_le _⟩ dX0_copyFrom_24 (fun H locs hS => ?_)
  refine lv_aload_n hx hb dX0_copyFrom_27 rfl (lv_at hl 0 rfl) ?_
  refine g_get (cx := b) K hS lF_X0_23 ((eA_0 G o hat) _) (eA_lt hat 0 (by decide)) rfl dX0_copyFrom_28 ?_
  refine lv_aload_n hx hb dX0_copyFrom_31 rfl (lv_at hl 1 rfl) ?_
  refine g_get (cx := b2) K hS lF_X0_23 ((eA_0 G o hat2) _) (eA_lt hat2 0 (by decide)) rfl dX0_copyFrom_32 ?_
  obtain ⟨q6, hq6, hf⟩ := Option.bind_eq_some_iff.mp hf
  refine g_Vv (cx := (b + 3)) (As := [.ref (o + (b2 + 3))]) K hS lV_X0_56 (c_X1_copyFrom b b2 hat hat2 q5 q6 hq6) ((eA_3 G o hat) _) (eA_lt hat 3 (by decide)) rfl rfl rfl (Nat.le_of_ble_eq_true rfl) ⟨⟨Nat.le_of_ble_eq_true rfl, Nat.le_of_ble_eq_true rfl⟩, rfl, rfl⟩ hl.1 ⟨Nat.zero_le _, Nat.zero_le _⟩ dX0_copyFrom_35 (fun H locs hS => ?_)
  refine lv_aload_n hx hb dX0_copyFrom_38 rfl (lv_at hl 0 rfl) ?_
  refine g_get (cx := b) K hS lF_X0_30 ((eA_0 G o hat) _) (eA_lt hat 0 (by decide)) rfl dX0_copyFrom_39 ?_
  refine lv_aload_n hx hb dX0_copyFrom_42 rfl (lv_at hl 1 rfl) ?_
  refine g_get (cx := b2) K hS lF_X0_30 ((eA_0 G o hat2) _) (eA_lt hat2 0 (by decide)) rfl dX0_copyFrom_43 ?_
  obtain ⟨q7, hq7, hf⟩ := Option.bind_eq_some_iff.mp hf
  refine g_Vv (cx := (b + 16)) (As := [.ref (o + (b2 + 16))]) K hS lV_X0_59 (c_X2_copyFrom b b2 hat hat2 q6 q7 hq7) ((eA_16 G o hat) _) (eA_lt hat 16 (by decide)) rfl rfl rfl (Nat.le_of_ble_eq_true rfl) ⟨⟨Nat.le_of_ble_eq_true rfl, Nat.le_of_ble_eq_true rfl⟩, rfl, rfl⟩ hl.1 ⟨Nat.zero_le _, Nat.zero_le _⟩ dX0_copyFrom_46 (fun H locs hS => ?_)
  refine lv_aload_n hx hb dX0_copyFrom_49 rfl (lv_at hl 0 rfl) ?_
  refine g_get (cx := b) K hS lF_X0_37 ((eA_0 G o hat) _) (eA_lt hat 0 (by decide)) rfl dX0_copyFrom_50 ?_
  refine lv_aload_n hx hb dX0_copyFrom_53 rfl (lv_at hl 1 rfl) ?_
  refine g_get (cx := b2) K hS lF_X0_37 ((eA_0 G o hat2) _) (eA_lt hat2 0 (by decide)) rfl dX0_copyFrom_54 ?_
  obtain ⟨q8, hq8, hf⟩ := Option.bind_eq_some_iff.mp hf
  refine g_Vv (cx := (b + 23)) (As := [.ref (o + (b2 + 23))]) K hS lV_X0_62 (c_X7_copyFrom b b2 hat hat2 q7 q8 hq8) ((eA_23 G o hat) _) (eA_lt hat 23 (by decide)) rfl rfl rfl (Nat.le_of_ble_eq_true rfl) ⟨⟨Nat.le_of_ble_eq_true rfl, Nat.le_of_ble_eq_true rfl⟩, rfl, rfl⟩ hl.1 ⟨Nat.zero_le _, Nat.zero_le _⟩ dX0_copyFrom_57 (fun H locs hS => ?_)
  exact g_vret K hS hf dX0_copyFrom_60
abbrev rmX5_at : Room := { frames := 0, cells := 0, slots := 0, locals := 0 }
def f_X5_at (r L : Nat) (p0 : Int32) (σ : gS) : Option (Int32 × gS) := if p0 < 0 then (some (0, σ)) else (if (Int32.ofNat L) ≤ p0 then (some (0, σ)) else (gGd (gin p0 L) (some ((σ (r + 1) (gil p0)), σ))))
set_option maxHeartbeats 4000000 in
set_option maxRecDepth 100000 in
theorem c_X5_at (r L : Nat) (hr : gRow G o r L) (p0 : Int32) (σ : gS) (q : Int32 × gS) (hf : f_X5_at r L p0 σ = some q) : Met l yX5_at (gW yX5_at cX5_at 2 (some .int)) rmX5_at (gPc G (entX G o) o 302 [.ref (o + r), .int p0] σ) (gQi G (entX G o) o 302 q) 0 0 (gA o 302) := by
  refine g_met (by decide) ⟨rfl, rfl⟩ (fun p e s m args below meth c ls K hS hl => ?_) (Nat.le_of_ble_eq_true rfl)
  have K : gK p s m args meth c G cX5_at 2 RX5 (some .int) := K
  have hl : lv_has ls 2 [(0, .ref (o + r)), (1, .int p0)] := hl
  obtain ⟨hx, hb, hml, hown, hts, -⟩ := id K
  unfold f_X5_at at hf
  refine lv_iload_n hx hb dX5_at_0 rfl (lv_at hl 1 rfl) ?_
  refine lv_if_lt (tgt := 22) hx hb dX5_at_1 (by decide) (fun c1 => ?_) (fun c1 => ?_)
  · have hf := gIf_t c1 hf
    refine lv_iconst (v := 0) hx hb dX5_at_22 (by decide) ?_
    exact g_iret K hS hf dX5_at_23
  · have hf := gIf_f c1 hf
    refine lv_iload_n hx hb dX5_at_4 rfl (lv_at hl 1 rfl) ?_
    refine lv_aload_n hx hb dX5_at_5 rfl (lv_at hl 0 rfl) ?_
    refine g_get (cx := r) K hS lF_X5_13 (hr.1 _) hr.2.2.1 rfl dX5_at_6 ?_
    refine g_alen (cx := (r + 1)) (t0 := 0) (v := (Int32.ofNat L)) K hS (hr.2.1 _) hr.2.2.2 rfl rfl dX5_at_9 ?_
    refine lv_icmp_ge (tgt := 22) hx hb dX5_at_10 (by decide) (fun c2 => ?_) (fun c2 => ?_)
    · have hf := gIf_t c2 hf
      refine lv_iconst (v := 0) hx hb dX5_at_22 (by decide) ?_
      exact g_iret K hS hf dX5_at_23
    · have hf := gIf_f c2 hf
      refine lv_aload_n hx hb dX5_at_13 rfl (lv_at hl 0 rfl) ?_
      refine g_get (cx := r) K hS lF_X5_13 (hr.1 _) hr.2.2.1 rfl dX5_at_14 ?_
      refine lv_iload_n hx hb dX5_at_17 rfl (lv_at hl 1 rfl) ?_
      obtain ⟨h3, hf⟩ := gGd_some hf
      refine g_iald (cx := (r + 1)) K hS hr.2.1 hr.2.2.2 h3 rfl dX5_at_18 ?_
      refine lv_goto (tgt := 23) hx hb dX5_at_19 (by decide) ?_
      exact g_iret K hS hf dX5_at_23
abbrev rmX0_minutesBetweenBells : Room := { frames := 1, cells := 0, slots := 0, locals := 21 }
def f_X0_minutesBetweenBells (σ : gS) : Option (Int32 × gS) := Option.bind (f_X5_at 2 2 0 σ) (fun q1 => some ((if q1.1 < 1 then 1 else q1.1), q1.2))
set_option maxHeartbeats 4000000 in
set_option maxRecDepth 100000 in
theorem c_X0_minutesBetweenBells (σ : gS) (q : Int32 × gS) (hf : f_X0_minutesBetweenBells σ = some q) : Met l yX0_minutesBetweenBells (gW yX0_minutesBetweenBells cX0_minutesBetweenBells 1 (some .int)) rmX0_minutesBetweenBells (gPc G (entX G o) o 302 [.ref (o + 1)] σ) (gQi G (entX G o) o 302 q) 0 0 (gA o 302) := by
  refine g_met (by decide) ⟨rfl, rfl⟩ (fun p e s m args below meth c ls K hS hl => ?_) (Nat.le_of_ble_eq_true rfl)
  have K : gK p s m args meth c G cX0_minutesBetweenBells 1 RX0 (some .int) := K
  have hl : lv_has ls 1 [(0, .ref (o + 1))] := hl
  obtain ⟨hx, hb, hml, hown, hts, -⟩ := id K
  unfold f_X0_minutesBetweenBells at hf
  refine lv_aload_n hx hb dX0_minutesBetweenBells_0 rfl (lv_at hl 0 rfl) ?_
  refine g_get (cx := 1) K hS lF_X0_14 ((eX_1 G o) _) (by decide) rfl dX0_minutesBetweenBells_1 ?_
  refine lv_iconst (v := 0) hx hb dX0_minutesBetweenBells_4 (by decide) ?_
  obtain ⟨q1, hq1, hf⟩ := Option.bind_eq_some_iff.mp hf
  refine g_Vi (cx := 2) (As := [.int 0]) K hS lV_X0_65 (c_X5_at 2 2 (gRow_2 G o) 0 σ q1 hq1) ((eX_2 G o) _) (by decide) rfl rfl rfl (Nat.le_of_ble_eq_true rfl) ⟨⟨Nat.le_of_ble_eq_true rfl, Nat.le_of_ble_eq_true rfl⟩, rfl, rfl⟩ hl.1 ⟨Nat.zero_le _, Nat.zero_le _⟩ dX0_minutesBetweenBells_5 (fun H locs hS => ?_)
  refine lv_iconst (v := 1) hx hb dX0_minutesBetweenBells_8 (by decide) ?_
  refine g_mmax K hl.1 (gmem 459 (by decide +kernel) rfl) q_static_max q_init_Math q_code_max (Nat.le_of_ble_eq_true rfl) (Nat.le_of_ble_eq_true rfl) (Nat.zero_le _) (Nat.zero_le _) dX0_minutesBetweenBells_9 ?_
  exact g_iret K hS hf dX0_minutesBetweenBells_12
abbrev rmX0_minutesToBell : Room := { frames := 2, cells := 0, slots := 0, locals := 41 }
def f_X0_minutesToBell (σ : gS) : Option (Int32 × gS) := Option.bind (f_X0_minutesBetweenBells σ) (fun q1 => Option.bind (f_X0_minutesBetweenBells q1.2) (fun q2 => gGd (gne q2.1) (some ((q1.1 - ((q1.2 1 0) - (q1.2 1 0) / q2.1 * q2.1)), q2.2))))
set_option maxHeartbeats 4000000 in
set_option maxRecDepth 100000 in
theorem c_X0_minutesToBell (σ : gS) (q : Int32 × gS) (hf : f_X0_minutesToBell σ = some q) : Met l yX0_minutesToBell (gW yX0_minutesToBell cX0_minutesToBell 1 (some .int)) rmX0_minutesToBell (gPc G (entX G o) o 302 [.ref (o + 1)] σ) (gQi G (entX G o) o 302 q) 0 0 (gA o 302) := by
  refine g_met (by decide) ⟨rfl, rfl⟩ (fun p e s m args below meth c ls K hS hl => ?_) (Nat.le_of_ble_eq_true rfl)
  have K : gK p s m args meth c G cX0_minutesToBell 1 RX0 (some .int) := K
  have hl : lv_has ls 1 [(0, .ref (o + 1))] := hl
  obtain ⟨hx, hb, hml, hown, hts, -⟩ := id K
  unfold f_X0_minutesToBell at hf
  refine lv_aload_n hx hb dX0_minutesToBell_0 rfl (lv_at hl 0 rfl) ?_
  obtain ⟨q1, hq1, hf⟩ := Option.bind_eq_some_iff.mp hf
  refine g_Vi (cx := 1) (As := []) K hS lV_X0_75 (c_X0_minutesBetweenBells σ q1 hq1) ((eX_1 G o) _) (by decide) rfl rfl rfl (Nat.le_of_ble_eq_true rfl) ⟨⟨Nat.le_of_ble_eq_true rfl, Nat.le_of_ble_eq_true rfl⟩, rfl, rfl⟩ hl.1 ⟨Nat.zero_le _, Nat.zero_le _⟩ dX0_minutesToBell_1 (fun H locs hS => ?_)
  refine lv_aload_n hx hb dX0_minutesToBell_4 rfl (lv_at hl 0 rfl) ?_
  refine g_get (cx := 1) K hS lF_X0_45 ((eX_1 G o) _) (by decide) rfl dX0_minutesToBell_5 ?_
  refine lv_aload_n hx hb dX0_minutesToBell_8 rfl (lv_at hl 0 rfl) ?_
  obtain ⟨q2, hq2, hf⟩ := Option.bind_eq_some_iff.mp hf
  refine g_Vi (cx := 1) (As := []) K hS lV_X0_75 (c_X0_minutesBetweenBells q1.2 q2 hq2) ((eX_1 G o) _) (by decide) rfl rfl rfl (Nat.le_of_ble_eq_true rfl) ⟨⟨Nat.le_of_ble_eq_true rfl, Nat.le_of_ble_eq_true rfl⟩, rfl, rfl⟩ hl.1 ⟨Nat.zero_le _, Nat.zero_le _⟩ dX0_minutesToBell_9 (fun H locs hS => ?_)
  obtain ⟨h3, hf⟩ := gGd_some hf
  refine lv_irem hx hb dX0_minutesToBell_12 (gne_ne h3) ?_
  refine lv_isub hx hb dX0_minutesToBell_13 ?_
  exact g_iret K hS hf dX0_minutesToBell_14
abbrev rmX1_all : Room := { frames := 0, cells := 0, slots := 0, locals := 0 }
def f_X1_all (σ : gS) : Option (Int32 × gS) := some (((1 <<< ((σ 4 0) &&& 31)) - 1), σ)
set_option maxHeartbeats 4000000 in
set_option maxRecDepth 100000 in
theorem c_X1_all (σ : gS) (q : Int32 × gS) (hf : f_X1_all σ = some q) : Met l yX1_all (gW yX1_all cX1_all 1 (some .int)) rmX1_all (gPc G (entX G o) o 302 [.ref (o + 4)] σ) (gQi G (entX G o) o 302 q) 0 0 (gA o 302) := by
  refine g_met (by decide) ⟨rfl, rfl⟩ (fun p e s m args below meth c ls K hS hl => ?_) (Nat.le_of_ble_eq_true rfl)
  have K : gK p s m args meth c G cX1_all 1 RX1 (some .int) := K
  have hl : lv_has ls 1 [(0, .ref (o + 4))] := hl
  obtain ⟨hx, hb, hml, hown, hts, -⟩ := id K
  unfold f_X1_all at hf
  refine lv_iconst (v := 1) hx hb dX1_all_0 (by decide) ?_
  refine lv_aload_n hx hb dX1_all_1 rfl (lv_at hl 0 rfl) ?_
  refine g_get (cx := 4) K hS lF_X1_35 ((eX_4 G o) _) (by decide) rfl dX1_all_2 ?_
  refine lv_ishl hx hb dX1_all_5 ?_
  refine lv_iconst (v := 1) hx hb dX1_all_6 (by decide) ?_
  refine lv_isub hx hb dX1_all_7 ?_
  exact g_iret K hS hf dX1_all_8
abbrev rmX0_leftTo : Room := { frames := 1, cells := 0, slots := 0, locals := 21 }
def f_X0_leftTo (p0 : Int32) (σ : gS) : Option (Int32 × gS) := Option.bind (f_X1_all σ) (fun q1 => Option.bind (f_X5_at 20 4 p0 q1.2) (fun q2 => some ((q1.1 &&& (q2.1 ^^^ (-1))), q2.2)))
set_option maxHeartbeats 4000000 in
set_option maxRecDepth 100000 in
theorem c_X0_leftTo (p0 : Int32) (σ : gS) (q : Int32 × gS) (hf : f_X0_leftTo p0 σ = some q) : Met l yX0_leftTo (gW yX0_leftTo cX0_leftTo 2 (some .int)) rmX0_leftTo (gPc G (entX G o) o 302 [.ref (o + 1), .int p0] σ) (gQi G (entX G o) o 302 q) 0 0 (gA o 302) := by
  refine g_met (by decide) ⟨rfl, rfl⟩ (fun p e s m args below meth c ls K hS hl => ?_) (Nat.le_of_ble_eq_true rfl)
  have K : gK p s m args meth c G cX0_leftTo 2 RX0 (some .int) := K
  have hl : lv_has ls 2 [(0, .ref (o + 1)), (1, .int p0)] := hl
  obtain ⟨hx, hb, hml, hown, hts, -⟩ := id K
  unfold f_X0_leftTo at hf
  refine lv_aload_n hx hb dX0_leftTo_0 rfl (lv_at hl 0 rfl) ?_
  refine g_get (cx := 1) K hS lF_X0_23 ((eX_1 G o) _) (by decide) rfl dX0_leftTo_1 ?_
  obtain ⟨q1, hq1, hf⟩ := Option.bind_eq_some_iff.mp hf
  refine g_Vi (cx := 4) (As := []) K hS lV_X0_79 (c_X1_all σ q1 hq1) ((eX_4 G o) _) (by decide) rfl rfl rfl (Nat.le_of_ble_eq_true rfl) ⟨⟨Nat.le_of_ble_eq_true rfl, Nat.le_of_ble_eq_true rfl⟩, rfl, rfl⟩ hl.1 ⟨Nat.zero_le _, Nat.zero_le _⟩ dX0_leftTo_4 (fun H locs hS => ?_)
  refine lv_aload_n hx hb dX0_leftTo_7 rfl (lv_at hl 0 rfl) ?_
  refine g_get (cx := 1) K hS lF_X0_30 ((eX_1 G o) _) (by decide) rfl dX0_leftTo_8 ?_
  refine g_get (cx := 17) K hS lF_X0_82 ((eX_17 G o) _) (by decide) rfl dX0_leftTo_11 ?_
  refine lv_iload_n hx hb dX0_leftTo_14 rfl (lv_at hl 1 rfl) ?_
  obtain ⟨q2, hq2, hf⟩ := Option.bind_eq_some_iff.mp hf
  refine g_Vi (cx := 20) (As := [.int p0]) K hS lV_X0_65 (c_X5_at 20 4 (gRow_20 G o) p0 q1.2 q2 hq2) ((eX_20 G o) _) (by decide) rfl rfl rfl (Nat.le_of_ble_eq_true rfl) ⟨⟨Nat.le_of_ble_eq_true rfl, Nat.le_of_ble_eq_true rfl⟩, rfl, rfl⟩ hl.1 ⟨Nat.zero_le _, Nat.zero_le _⟩ dX0_leftTo_15 (fun H locs hS => ?_)
  refine lv_iconst (v := (-1)) hx hb dX0_leftTo_18 (by decide) ?_
  refine lv_ixor hx hb dX0_leftTo_19 ?_
  refine lv_iand hx hb dX0_leftTo_20 ?_
  exact g_iret K hS hf dX0_leftTo_21
abbrev rmX7_watchedRooms : Room := { frames := 1, cells := 0, slots := 0, locals := 21 }
def f_X7_watchedRooms_L4 : Nat → Int32 → Int32 → gS → Option (Int32 × gS)
  | 0, _, _, _ => none
  | n + 1, v1, v2, σ => if (σ 24 0) ≤ v2 then (some (v1, σ)) else (Option.bind (f_X5_at 29 5 v2 σ) (fun q2 => if q2.1 ≤ 0 then (f_X7_watchedRooms_L4 n v1 (v2 + 1) q2.2) else (Option.bind (f_X5_at 25 5 v2 q2.2) (fun q4 => gLet (v1 ||| (1 <<< (q4.1 &&& 31))) (fun x5 => f_X7_watchedRooms_L4 n x5 (v2 + 1) q4.2)))))
theorem f_X7_watchedRooms_L4_s (n : Nat) (v1 : Int32) (v2 : Int32) (σ : gS) : f_X7_watchedRooms_L4 (n + 1) v1 v2 σ = (if (σ 24 0) ≤ v2 then (some (v1, σ)) else (Option.bind (f_X5_at 29 5 v2 σ) (fun q2 => if q2.1 ≤ 0 then (f_X7_watchedRooms_L4 n v1 (v2 + 1) q2.2) else (Option.bind (f_X5_at 25 5 v2 q2.2) (fun q4 => gLet (v1 ||| (1 <<< (q4.1 &&& 31))) (fun x5 => f_X7_watchedRooms_L4 n x5 (v2 + 1) q4.2)))))) := rfl
def f_X7_watchedRooms (σ : gS) : Option (Int32 × gS) := f_X7_watchedRooms_L4 gFu 0 0 σ
set_option maxHeartbeats 4000000 in
set_option maxRecDepth 100000 in
theorem w_X7_watchedRooms_L4 {q : Int32 × gS} (K : gK p s m args meth c G cX7_watchedRooms 3 RX7 (some .int)) : ∀ (n : Nat) (v1 : Int32) (v2 : Int32) (σ : gS), f_X7_watchedRooms_L4 n v1 v2 σ = some q → ∀ (H : Heap) (locs : List Loc) (ls : Array Slot), gSt G (entX G o) o 302 s σ H locs → lv_has ls 3 [(0, .ref (o + 24)), (1, .int v1), (2, .int v2)] → W p l e rmX7_watchedRooms s m args below meth c H locs 0 0 (MQ below (gQi G (entX G o) o 302 q) args s 0 0 (gA o 302)) (F0 m 4 ls []) := by
  obtain ⟨hx, hb, hml, hown, hts, -⟩ := id K
  intro n
  induction n with
  | zero =>
    intro v1 v2 σ hf
    exact absurd (show (none : Option _) = some q from hf) (by simp)
  | succ n ih =>
    intro v1 v2 σ hf H locs ls hS hl
    rw [f_X7_watchedRooms_L4_s] at hf
    refine lv_iload_n hx hb dX7_watchedRooms_4 rfl (lv_at hl 2 rfl) ?_
    refine lv_aload_n hx hb dX7_watchedRooms_5 rfl (lv_at hl 0 rfl) ?_
    refine g_get (cx := 24) K hS lF_X7_29 ((eX_24 G o) _) (by decide) rfl dX7_watchedRooms_6 ?_
    refine lv_icmp_ge (tgt := 42) hx hb dX7_watchedRooms_9 (by decide) (fun c1 => ?_) (fun c1 => ?_)
    · have hf := gIf_t c1 hf
      refine lv_iload_n hx hb dX7_watchedRooms_42 rfl (lv_at hl 1 rfl) ?_
      exact g_iret K hS hf dX7_watchedRooms_43
    · have hf := gIf_f c1 hf
      refine lv_aload_n hx hb dX7_watchedRooms_12 rfl (lv_at hl 0 rfl) ?_
      refine g_get (cx := 24) K hS lF_X7_23 ((eX_24 G o) _) (by decide) rfl dX7_watchedRooms_13 ?_
      refine lv_iload_n hx hb dX7_watchedRooms_16 rfl (lv_at hl 2 rfl) ?_
      obtain ⟨q2, hq2, hf⟩ := Option.bind_eq_some_iff.mp hf
      refine g_Vi (cx := 29) (As := [.int v2]) K hS lV_X7_45 (c_X5_at 29 5 (gRow_29 G o) v2 σ q2 hq2) ((eX_29 G o) _) (by decide) rfl rfl rfl (Nat.le_of_ble_eq_true rfl) ⟨⟨Nat.le_of_ble_eq_true rfl, Nat.le_of_ble_eq_true rfl⟩, rfl, rfl⟩ hl.1 ⟨Nat.zero_le _, Nat.zero_le _⟩ dX7_watchedRooms_17 (fun H locs hS => ?_)
      refine lv_if_le (tgt := 36) hx hb dX7_watchedRooms_20 (by decide) (fun c3 => ?_) (fun c3 => ?_)
      · have hf := gIf_t c3 hf
        refine lv_iinc (v := (v2 + 1)) (lv' := [(2, .int (v2 + 1)), (0, .ref (o + 24)), (1, .int v1)]) hx hb dX7_watchedRooms_36 hl (k := 2) rfl rfl (by decide) rfl (fun ls hl => ?_)
        refine lv_goto (tgt := 4) hx hb dX7_watchedRooms_39 (by decide) ?_
        exact ih v1 (v2 + 1) q2.2 hf _ _ _ hS (lv_sub hl [1, 2, 0] rfl)
      · have hf := gIf_f c3 hf
        refine lv_iload_n hx hb dX7_watchedRooms_23 rfl (lv_at hl 1 rfl) ?_
        refine lv_iconst (v := 1) hx hb dX7_watchedRooms_24 (by decide) ?_
        refine lv_aload_n hx hb dX7_watchedRooms_25 rfl (lv_at hl 0 rfl) ?_
        refine g_get (cx := 24) K hS lF_X7_14 ((eX_24 G o) _) (by decide) rfl dX7_watchedRooms_26 ?_
        refine lv_iload_n hx hb dX7_watchedRooms_29 rfl (lv_at hl 2 rfl) ?_
        obtain ⟨q4, hq4, hf⟩ := Option.bind_eq_some_iff.mp hf
        refine g_Vi (cx := 25) (As := [.int v2]) K hS lV_X7_45 (c_X5_at 25 5 (gRow_25 G o) v2 q2.2 q4 hq4) ((eX_25 G o) _) (by decide) rfl rfl rfl (Nat.le_of_ble_eq_true rfl) ⟨⟨Nat.le_of_ble_eq_true rfl, Nat.le_of_ble_eq_true rfl⟩, rfl, rfl⟩ hl.1 ⟨Nat.zero_le _, Nat.zero_le _⟩ dX7_watchedRooms_30 (fun H locs hS => ?_)
        refine lv_ishl hx hb dX7_watchedRooms_33 ?_
        refine lv_ior hx hb dX7_watchedRooms_34 ?_
        obtain ⟨x5, hx5, hf⟩ := gLet_some hf
        refine g_top hx5 ?_
        refine lv_istore_n (lv' := [(1, .int x5), (0, .ref (o + 24)), (2, .int v2)]) hx hb dX7_watchedRooms_35 rfl hl (by decide) rfl (fun ls hl => ?_)
        refine lv_iinc (v := (v2 + 1)) (lv' := [(2, .int (v2 + 1)), (1, .int x5), (0, .ref (o + 24))]) hx hb dX7_watchedRooms_36 hl (k := 2) rfl rfl (by decide) rfl (fun ls hl => ?_)
        refine lv_goto (tgt := 4) hx hb dX7_watchedRooms_39 (by decide) ?_
        exact ih x5 (v2 + 1) q4.2 hf _ _ _ hS (lv_sub hl [2, 1, 0] rfl)
set_option maxHeartbeats 4000000 in
set_option maxRecDepth 100000 in
theorem c_X7_watchedRooms (σ : gS) (q : Int32 × gS) (hf : f_X7_watchedRooms σ = some q) : Met l yX7_watchedRooms (gW yX7_watchedRooms cX7_watchedRooms 3 (some .int)) rmX7_watchedRooms (gPc G (entX G o) o 302 [.ref (o + 24)] σ) (gQi G (entX G o) o 302 q) 0 0 (gA o 302) := by
  refine g_met (by decide) ⟨rfl, rfl⟩ (fun p e s m args below meth c ls K hS hl => ?_) (Nat.le_of_ble_eq_true rfl)
  have K : gK p s m args meth c G cX7_watchedRooms 3 RX7 (some .int) := K
  have hl : lv_has ls 3 [(0, .ref (o + 24))] := hl
  obtain ⟨hx, hb, hml, hown, hts, -⟩ := id K
  unfold f_X7_watchedRooms at hf
  refine lv_iconst (v := 0) hx hb dX7_watchedRooms_0 (by decide) ?_
  refine lv_istore_n (lv' := [(1, .int 0), (0, .ref (o + 24))]) hx hb dX7_watchedRooms_1 rfl hl (by decide) rfl (fun ls hl => ?_)
  refine lv_iconst (v := 0) hx hb dX7_watchedRooms_2 (by decide) ?_
  refine lv_istore_n (lv' := [(2, .int 0), (1, .int 0), (0, .ref (o + 24))]) hx hb dX7_watchedRooms_3 rfl hl (by decide) rfl (fun ls hl => ?_)
  refine w_X7_watchedRooms_L4 K gFu 0 0 σ hf _ _ _ hS (lv_sub hl [2, 1, 0] rfl)
abbrev rmX1_touching : Room := { frames := 1, cells := 0, slots := 0, locals := 21 }
def f_X1_touching_L4 (w1 : Int32) : Nat → Int32 → Int32 → gS → Option (Int32 × gS)
  | 0, _, _, _ => none
  | n + 1, v2, v3, σ => if (σ 4 0) ≤ v3 then (some (v2, σ)) else (Option.bind (f_X5_at 9 20 v3 σ) (fun q2 => if (q2.1 &&& w1) = 0 then (f_X1_touching_L4 w1 n v2 (v3 + 1) q2.2) else (gLet (v2 ||| (1 <<< (v3 &&& 31))) (fun x4 => f_X1_touching_L4 w1 n x4 (v3 + 1) q2.2))))
theorem f_X1_touching_L4_s (w1 : Int32) (n : Nat) (v2 : Int32) (v3 : Int32) (σ : gS) : f_X1_touching_L4 w1 (n + 1) v2 v3 σ = (if (σ 4 0) ≤ v3 then (some (v2, σ)) else (Option.bind (f_X5_at 9 20 v3 σ) (fun q2 => if (q2.1 &&& w1) = 0 then (f_X1_touching_L4 w1 n v2 (v3 + 1) q2.2) else (gLet (v2 ||| (1 <<< (v3 &&& 31))) (fun x4 => f_X1_touching_L4 w1 n x4 (v3 + 1) q2.2))))) := rfl
def f_X1_touching (p0 : Int32) (σ : gS) : Option (Int32 × gS) := f_X1_touching_L4 p0 gFu 0 0 σ
set_option maxHeartbeats 4000000 in
set_option maxRecDepth 100000 in
theorem w_X1_touching_L4 (w1 : Int32) {q : Int32 × gS} (K : gK p s m args meth c G cX1_touching 4 RX1 (some .int)) : ∀ (n : Nat) (v2 : Int32) (v3 : Int32) (σ : gS), f_X1_touching_L4 w1 n v2 v3 σ = some q → ∀ (H : Heap) (locs : List Loc) (ls : Array Slot), gSt G (entX G o) o 302 s σ H locs → lv_has ls 4 [(0, .ref (o + 4)), (1, .int w1), (2, .int v2), (3, .int v3)] → W p l e rmX1_touching s m args below meth c H locs 0 0 (MQ below (gQi G (entX G o) o 302 q) args s 0 0 (gA o 302)) (F0 m 4 ls []) := by
  obtain ⟨hx, hb, hml, hown, hts, -⟩ := id K
  intro n
  induction n with
  | zero =>
    intro v2 v3 σ hf
    exact absurd (show (none : Option _) = some q from hf) (by simp)
  | succ n ih =>
    intro v2 v3 σ hf H locs ls hS hl
    rw [f_X1_touching_L4_s] at hf
    refine lv_iload_n hx hb dX1_touching_4 rfl (lv_at hl 3 rfl) ?_
    refine lv_aload_n hx hb dX1_touching_5 rfl (lv_at hl 0 rfl) ?_
    refine g_get (cx := 4) K hS lF_X1_35 ((eX_4 G o) _) (by decide) rfl dX1_touching_6 ?_
    refine lv_icmp_ge (tgt := 37) hx hb dX1_touching_9 (by decide) (fun c1 => ?_) (fun c1 => ?_)
    · have hf := gIf_t c1 hf
      refine lv_iload_n hx hb dX1_touching_37 rfl (lv_at hl 2 rfl) ?_
      exact g_iret K hS hf dX1_touching_38
    · have hf := gIf_f c1 hf
      refine lv_aload_n hx hb dX1_touching_12 rfl (lv_at hl 0 rfl) ?_
      refine g_get (cx := 4) K hS lF_X1_23 ((eX_4 G o) _) (by decide) rfl dX1_touching_13 ?_
      refine lv_iload_n hx hb dX1_touching_16 rfl (lv_at hl 3 rfl) ?_
      obtain ⟨q2, hq2, hf⟩ := Option.bind_eq_some_iff.mp hf
      refine g_Vi (cx := 9) (As := [.int v3]) K hS lV_X1_67 (c_X5_at 9 20 (gRow_9 G o) v3 σ q2 hq2) ((eX_9 G o) _) (by decide) rfl rfl rfl (Nat.le_of_ble_eq_true rfl) ⟨⟨Nat.le_of_ble_eq_true rfl, Nat.le_of_ble_eq_true rfl⟩, rfl, rfl⟩ hl.1 ⟨Nat.zero_le _, Nat.zero_le _⟩ dX1_touching_17 (fun H locs hS => ?_)
      refine lv_iload_n hx hb dX1_touching_20 rfl (lv_at hl 1 rfl) ?_
      refine lv_iand hx hb dX1_touching_21 ?_
      refine lv_if_eq (tgt := 31) hx hb dX1_touching_22 (by decide) (fun c3 => ?_) (fun c3 => ?_)
      · have hf := gIf_t c3 hf
        refine lv_iinc (v := (v3 + 1)) (lv' := [(3, .int (v3 + 1)), (0, .ref (o + 4)), (1, .int w1), (2, .int v2)]) hx hb dX1_touching_31 hl (k := 3) rfl rfl (by decide) rfl (fun ls hl => ?_)
        refine lv_goto (tgt := 4) hx hb dX1_touching_34 (by decide) ?_
        exact ih v2 (v3 + 1) q2.2 hf _ _ _ hS (lv_sub hl [1, 2, 3, 0] rfl)
      · have hf := gIf_f c3 hf
        refine lv_iload_n hx hb dX1_touching_25 rfl (lv_at hl 2 rfl) ?_
        refine lv_iconst (v := 1) hx hb dX1_touching_26 (by decide) ?_
        refine lv_iload_n hx hb dX1_touching_27 rfl (lv_at hl 3 rfl) ?_
        refine lv_ishl hx hb dX1_touching_28 ?_
        refine lv_ior hx hb dX1_touching_29 ?_
        obtain ⟨x4, hx4, hf⟩ := gLet_some hf
        refine g_top hx4 ?_
        refine lv_istore_n (lv' := [(2, .int x4), (0, .ref (o + 4)), (1, .int w1), (3, .int v3)]) hx hb dX1_touching_30 rfl hl (by decide) rfl (fun ls hl => ?_)
        refine lv_iinc (v := (v3 + 1)) (lv' := [(3, .int (v3 + 1)), (2, .int x4), (0, .ref (o + 4)), (1, .int w1)]) hx hb dX1_touching_31 hl (k := 3) rfl rfl (by decide) rfl (fun ls hl => ?_)
        refine lv_goto (tgt := 4) hx hb dX1_touching_34 (by decide) ?_
        exact ih x4 (v3 + 1) q2.2 hf _ _ _ hS (lv_sub hl [2, 3, 1, 0] rfl)
set_option maxHeartbeats 4000000 in
set_option maxRecDepth 100000 in
theorem c_X1_touching (p0 : Int32) (σ : gS) (q : Int32 × gS) (hf : f_X1_touching p0 σ = some q) : Met l yX1_touching (gW yX1_touching cX1_touching 4 (some .int)) rmX1_touching (gPc G (entX G o) o 302 [.ref (o + 4), .int p0] σ) (gQi G (entX G o) o 302 q) 0 0 (gA o 302) := by
  refine g_met (by decide) ⟨rfl, rfl⟩ (fun p e s m args below meth c ls K hS hl => ?_) (Nat.le_of_ble_eq_true rfl)
  have K : gK p s m args meth c G cX1_touching 4 RX1 (some .int) := K
  have hl : lv_has ls 4 [(0, .ref (o + 4)), (1, .int p0)] := hl
  obtain ⟨hx, hb, hml, hown, hts, -⟩ := id K
  unfold f_X1_touching at hf
  refine lv_iconst (v := 0) hx hb dX1_touching_0 (by decide) ?_
  refine lv_istore_n (lv' := [(2, .int 0), (0, .ref (o + 4)), (1, .int p0)]) hx hb dX1_touching_1 rfl hl (by decide) rfl (fun ls hl => ?_)
  refine lv_iconst (v := 0) hx hb dX1_touching_2 (by decide) ?_
  refine lv_istore_n (lv' := [(3, .int 0), (2, .int 0), (0, .ref (o + 4)), (1, .int p0)]) hx hb dX1_touching_3 rfl hl (by decide) rfl (fun ls hl => ?_)
  refine w_X1_touching_L4 p0 K gFu 0 0 σ hf _ _ _ hS (lv_sub hl [2, 3, 1, 0] rfl)
abbrev rmX0_freeTo : Room := { frames := 2, cells := 0, slots := 0, locals := 44 }
def f_X0_freeTo (p0 : Int32) (σ : gS) : Option (Int32 × gS) := Option.bind (f_X0_leftTo p0 σ) (fun q1 => Option.bind (f_X7_watchedRooms q1.2) (fun q2 => Option.bind (f_X1_touching q2.1 q2.2) (fun q3 => some ((q1.1 &&& (q3.1 ^^^ (-1))), q3.2))))
set_option maxHeartbeats 4000000 in
set_option maxRecDepth 100000 in
theorem c_X0_freeTo (p0 : Int32) (σ : gS) (q : Int32 × gS) (hf : f_X0_freeTo p0 σ = some q) : Met l yX0_freeTo (gW yX0_freeTo cX0_freeTo 2 (some .int)) rmX0_freeTo (gPc G (entX G o) o 302 [.ref (o + 1), .int p0] σ) (gQi G (entX G o) o 302 q) 0 0 (gA o 302) := by
  refine g_met (by decide) ⟨rfl, rfl⟩ (fun p e s m args below meth c ls K hS hl => ?_) (Nat.le_of_ble_eq_true rfl)
  have K : gK p s m args meth c G cX0_freeTo 2 RX0 (some .int) := K
  have hl : lv_has ls 2 [(0, .ref (o + 1)), (1, .int p0)] := hl
  obtain ⟨hx, hb, hml, hown, hts, -⟩ := id K
  unfold f_X0_freeTo at hf
  refine lv_aload_n hx hb dX0_freeTo_0 rfl (lv_at hl 0 rfl) ?_
  refine lv_iload_n hx hb dX0_freeTo_1 rfl (lv_at hl 1 rfl) ?_
  obtain ⟨q1, hq1, hf⟩ := Option.bind_eq_some_iff.mp hf
  refine g_Vi (cx := 1) (As := [.int p0]) K hS lV_X0_85 (c_X0_leftTo p0 σ q1 hq1) ((eX_1 G o) _) (by decide) rfl rfl rfl (Nat.le_of_ble_eq_true rfl) ⟨⟨Nat.le_of_ble_eq_true rfl, Nat.le_of_ble_eq_true rfl⟩, rfl, rfl⟩ hl.1 ⟨Nat.zero_le _, Nat.zero_le _⟩ dX0_freeTo_2 (fun H locs hS => ?_)
  refine lv_aload_n hx hb dX0_freeTo_5 rfl (lv_at hl 0 rfl) ?_
  refine g_get (cx := 1) K hS lF_X0_23 ((eX_1 G o) _) (by decide) rfl dX0_freeTo_6 ?_
  refine lv_aload_n hx hb dX0_freeTo_9 rfl (lv_at hl 0 rfl) ?_
  refine g_get (cx := 1) K hS lF_X0_37 ((eX_1 G o) _) (by decide) rfl dX0_freeTo_10 ?_
  obtain ⟨q2, hq2, hf⟩ := Option.bind_eq_some_iff.mp hf
  refine g_Vi (cx := 24) (As := []) K hS lV_X0_88 (c_X7_watchedRooms q1.2 q2 hq2) ((eX_24 G o) _) (by decide) rfl rfl rfl (Nat.le_of_ble_eq_true rfl) ⟨⟨Nat.le_of_ble_eq_true rfl, Nat.le_of_ble_eq_true rfl⟩, rfl, rfl⟩ hl.1 ⟨Nat.zero_le _, Nat.zero_le _⟩ dX0_freeTo_13 (fun H locs hS => ?_)
  obtain ⟨q3, hq3, hf⟩ := Option.bind_eq_some_iff.mp hf
  refine g_Vi (cx := 4) (As := [.int q2.1]) K hS lV_X0_91 (c_X1_touching q2.1 q2.2 q3 hq3) ((eX_4 G o) _) (by decide) rfl rfl rfl (Nat.le_of_ble_eq_true rfl) ⟨⟨Nat.le_of_ble_eq_true rfl, Nat.le_of_ble_eq_true rfl⟩, rfl, rfl⟩ hl.1 ⟨Nat.zero_le _, Nat.zero_le _⟩ dX0_freeTo_16 (fun H locs hS => ?_)
  refine lv_iconst (v := (-1)) hx hb dX0_freeTo_19 (by decide) ?_
  refine lv_ixor hx hb dX0_freeTo_20 ?_
  refine lv_iand hx hb dX0_freeTo_21 ?_
  exact g_iret K hS hf dX0_freeTo_22
abbrev rmX0_freeAtRoomOf : Room := { frames := 3, cells := 0, slots := 0, locals := 65 }
def f_X0_freeAtRoomOf (p0 : Int32) (σ : gS) : Option (Int32 × gS) := Option.bind (f_X0_freeTo p0 σ) (fun q1 => Option.bind (f_X5_at 18 4 p0 q1.2) (fun q2 => Option.bind (f_X1_touching (1 <<< (q2.1 &&& 31)) q2.2) (fun q3 => some ((q1.1 &&& q3.1), q3.2))))
set_option maxHeartbeats 4000000 in
set_option maxRecDepth 100000 in
theorem c_X0_freeAtRoomOf (p0 : Int32) (σ : gS) (q : Int32 × gS) (hf : f_X0_freeAtRoomOf p0 σ = some q) : Met l yX0_freeAtRoomOf (gW yX0_freeAtRoomOf cX0_freeAtRoomOf 2 (some .int)) rmX0_freeAtRoomOf (gPc G (entX G o) o 302 [.ref (o + 1), .int p0] σ) (gQi G (entX G o) o 302 q) 0 0 (gA o 302) := by
  refine g_met (by decide) ⟨rfl, rfl⟩ (fun p e s m args below meth c ls K hS hl => ?_) (Nat.le_of_ble_eq_true rfl)
  have K : gK p s m args meth c G cX0_freeAtRoomOf 2 RX0 (some .int) := K
  have hl : lv_has ls 2 [(0, .ref (o + 1)), (1, .int p0)] := hl
  obtain ⟨hx, hb, hml, hown, hts, -⟩ := id K
  unfold f_X0_freeAtRoomOf at hf
  refine lv_aload_n hx hb dX0_freeAtRoomOf_0 rfl (lv_at hl 0 rfl) ?_
  refine lv_iload_n hx hb dX0_freeAtRoomOf_1 rfl (lv_at hl 1 rfl) ?_
  obtain ⟨q1, hq1, hf⟩ := Option.bind_eq_some_iff.mp hf
  refine g_Vi (cx := 1) (As := [.int p0]) K hS lV_X0_94 (c_X0_freeTo p0 σ q1 hq1) ((eX_1 G o) _) (by decide) rfl rfl rfl (Nat.le_of_ble_eq_true rfl) ⟨⟨Nat.le_of_ble_eq_true rfl, Nat.le_of_ble_eq_true rfl⟩, rfl, rfl⟩ hl.1 ⟨Nat.zero_le _, Nat.zero_le _⟩ dX0_freeAtRoomOf_2 (fun H locs hS => ?_)
  refine lv_aload_n hx hb dX0_freeAtRoomOf_5 rfl (lv_at hl 0 rfl) ?_
  refine g_get (cx := 1) K hS lF_X0_23 ((eX_1 G o) _) (by decide) rfl dX0_freeAtRoomOf_6 ?_
  refine lv_iconst (v := 1) hx hb dX0_freeAtRoomOf_9 (by decide) ?_
  refine lv_aload_n hx hb dX0_freeAtRoomOf_10 rfl (lv_at hl 0 rfl) ?_
  refine g_get (cx := 1) K hS lF_X0_30 ((eX_1 G o) _) (by decide) rfl dX0_freeAtRoomOf_11 ?_
  refine g_get (cx := 17) K hS lF_X0_97 ((eX_17 G o) _) (by decide) rfl dX0_freeAtRoomOf_14 ?_
  refine lv_iload_n hx hb dX0_freeAtRoomOf_17 rfl (lv_at hl 1 rfl) ?_
  obtain ⟨q2, hq2, hf⟩ := Option.bind_eq_some_iff.mp hf
  refine g_Vi (cx := 18) (As := [.int p0]) K hS lV_X0_65 (c_X5_at 18 4 (gRow_18 G o) p0 q1.2 q2 hq2) ((eX_18 G o) _) (by decide) rfl rfl rfl (Nat.le_of_ble_eq_true rfl) ⟨⟨Nat.le_of_ble_eq_true rfl, Nat.le_of_ble_eq_true rfl⟩, rfl, rfl⟩ hl.1 ⟨Nat.zero_le _, Nat.zero_le _⟩ dX0_freeAtRoomOf_18 (fun H locs hS => ?_)
  refine lv_ishl hx hb dX0_freeAtRoomOf_21 ?_
  obtain ⟨q3, hq3, hf⟩ := Option.bind_eq_some_iff.mp hf
  refine g_Vi (cx := 4) (As := [.int (1 <<< (q2.1 &&& 31))]) K hS lV_X0_91 (c_X1_touching (1 <<< (q2.1 &&& 31)) q2.2 q3 hq3) ((eX_4 G o) _) (by decide) rfl rfl rfl (Nat.le_of_ble_eq_true rfl) ⟨⟨Nat.le_of_ble_eq_true rfl, Nat.le_of_ble_eq_true rfl⟩, rfl, rfl⟩ hl.1 ⟨Nat.zero_le _, Nat.zero_le _⟩ dX0_freeAtRoomOf_22 (fun H locs hS => ?_)
  refine lv_iand hx hb dX0_freeAtRoomOf_25 ?_
  exact g_iret K hS hf dX0_freeAtRoomOf_26
abbrev rmX10_holds : Room := { frames := 0, cells := 0, slots := 0, locals := 0 }
def f_X10_holds (p0 : Int32) (p1 : Int32) (σ : gS) : Option (Int32 × gS) := if ((p0 >>> (p1 &&& 31)) &&& 1) = 0 then (some (0, σ)) else (some (1, σ))
set_option maxHeartbeats 4000000 in
set_option maxRecDepth 100000 in
theorem c_X10_holds (p0 : Int32) (p1 : Int32) (σ : gS) (q : Int32 × gS) (hf : f_X10_holds p0 p1 σ = some q) : Met l yX10_holds (gW yX10_holds cX10_holds 2 (some .boolean)) rmX10_holds (gPc G (entX G o) o 302 [.int p0, .int p1] σ) (gQi G (entX G o) o 302 q) 0 0 (gA o 302) := by
  refine g_met (by decide) ⟨rfl, rfl⟩ (fun p e s m args below meth c ls K hS hl => ?_) (Nat.le_of_ble_eq_true rfl)
  have K : gK p s m args meth c G cX10_holds 2 RX10 (some .boolean) := K
  have hl : lv_has ls 2 [(0, .int p0), (1, .int p1)] := hl
  obtain ⟨hx, hb, hml, hown, hts, -⟩ := id K
  unfold f_X10_holds at hf
  refine lv_iload_n hx hb dX10_holds_0 rfl (lv_at hl 0 rfl) ?_
  refine lv_iload_n hx hb dX10_holds_1 rfl (lv_at hl 1 rfl) ?_
  refine lv_ishr hx hb dX10_holds_2 ?_
  refine lv_iconst (v := 1) hx hb dX10_holds_3 (by decide) ?_
  refine lv_iand hx hb dX10_holds_4 ?_
  refine lv_if_eq (tgt := 12) hx hb dX10_holds_5 (by decide) (fun c1 => ?_) (fun c1 => ?_)
  · have hf := gIf_t c1 hf
    refine lv_iconst (v := 0) hx hb dX10_holds_12 (by decide) ?_
    exact g_zret K hS rfl hf dX10_holds_13
  · have hf := gIf_f c1 hf
    refine lv_iconst (v := 1) hx hb dX10_holds_8 (by decide) ?_
    refine lv_goto (tgt := 13) hx hb dX10_holds_9 (by decide) ?_
    exact g_zret K hS rfl hf dX10_holds_13
abbrev rmX0_ghostsFreeFor : Room := { frames := 3, cells := 0, slots := 0, locals := 65 }
def f_X0_ghostsFreeFor_L4 (w1 : Int32) : Nat → Int32 → Int32 → gS → Option (Int32 × gS)
  | 0, _, _, _ => none
  | n + 1, v2, v3, σ => if 4 ≤ v3 then (some (v2, σ)) else (Option.bind (f_X0_freeTo v3 σ) (fun q2 => Option.bind (f_X10_holds q2.1 w1 q2.2) (fun q3 => if q3.1 = 0 then (f_X0_ghostsFreeFor_L4 w1 n v2 (v3 + 1) q3.2) else (gLet (v2 ||| (1 <<< (v3 &&& 31))) (fun x5 => f_X0_ghostsFreeFor_L4 w1 n x5 (v3 + 1) q3.2)))))
theorem f_X0_ghostsFreeFor_L4_s (w1 : Int32) (n : Nat) (v2 : Int32) (v3 : Int32) (σ : gS) : f_X0_ghostsFreeFor_L4 w1 (n + 1) v2 v3 σ = (if 4 ≤ v3 then (some (v2, σ)) else (Option.bind (f_X0_freeTo v3 σ) (fun q2 => Option.bind (f_X10_holds q2.1 w1 q2.2) (fun q3 => if q3.1 = 0 then (f_X0_ghostsFreeFor_L4 w1 n v2 (v3 + 1) q3.2) else (gLet (v2 ||| (1 <<< (v3 &&& 31))) (fun x5 => f_X0_ghostsFreeFor_L4 w1 n x5 (v3 + 1) q3.2)))))) := rfl
def f_X0_ghostsFreeFor (p0 : Int32) (σ : gS) : Option (Int32 × gS) := f_X0_ghostsFreeFor_L4 p0 gFu 0 0 σ
set_option maxHeartbeats 4000000 in
set_option maxRecDepth 100000 in
theorem w_X0_ghostsFreeFor_L4 (w1 : Int32) {q : Int32 × gS} (K : gK p s m args meth c G cX0_ghostsFreeFor 4 RX0 (some .int)) : ∀ (n : Nat) (v2 : Int32) (v3 : Int32) (σ : gS), f_X0_ghostsFreeFor_L4 w1 n v2 v3 σ = some q → ∀ (H : Heap) (locs : List Loc) (ls : Array Slot), gSt G (entX G o) o 302 s σ H locs → lv_has ls 4 [(0, .ref (o + 1)), (1, .int w1), (2, .int v2), (3, .int v3)] → W p l e rmX0_ghostsFreeFor s m args below meth c H locs 0 0 (MQ below (gQi G (entX G o) o 302 q) args s 0 0 (gA o 302)) (F0 m 4 ls []) := by
  obtain ⟨hx, hb, hml, hown, hts, -⟩ := id K
  intro n
  induction n with
  | zero =>
    intro v2 v3 σ hf
    exact absurd (show (none : Option _) = some q from hf) (by simp)
  | succ n ih =>
    intro v2 v3 σ hf H locs ls hS hl
    rw [f_X0_ghostsFreeFor_L4_s] at hf
    refine lv_iload_n hx hb dX0_ghostsFreeFor_4 rfl (lv_at hl 3 rfl) ?_
    refine lv_iconst (v := 4) hx hb dX0_ghostsFreeFor_5 (by decide) ?_
    refine lv_icmp_ge (tgt := 33) hx hb dX0_ghostsFreeFor_6 (by decide) (fun c1 => ?_) (fun c1 => ?_)
    · have hf := gIf_t c1 hf
      refine lv_iload_n hx hb dX0_ghostsFreeFor_33 rfl (lv_at hl 2 rfl) ?_
      exact g_iret K hS hf dX0_ghostsFreeFor_34
    · have hf := gIf_f c1 hf
      refine lv_aload_n hx hb dX0_ghostsFreeFor_9 rfl (lv_at hl 0 rfl) ?_
      refine lv_iload_n hx hb dX0_ghostsFreeFor_10 rfl (lv_at hl 3 rfl) ?_
      obtain ⟨q2, hq2, hf⟩ := Option.bind_eq_some_iff.mp hf
      refine g_Vi (cx := 1) (As := [.int v3]) K hS lV_X0_94 (c_X0_freeTo v3 σ q2 hq2) ((eX_1 G o) _) (by decide) rfl rfl rfl (Nat.le_of_ble_eq_true rfl) ⟨⟨Nat.le_of_ble_eq_true rfl, Nat.le_of_ble_eq_true rfl⟩, rfl, rfl⟩ hl.1 ⟨Nat.zero_le _, Nat.zero_le _⟩ dX0_ghostsFreeFor_11 (fun H locs hS => ?_)
      refine lv_iload_n hx hb dX0_ghostsFreeFor_14 rfl (lv_at hl 1 rfl) ?_
      obtain ⟨q3, hq3, hf⟩ := Option.bind_eq_some_iff.mp hf
      refine g_Ni (As := [.int q2.1, .int w1]) K hS lN_X0_100 (c_X10_holds q2.1 w1 q2.2 q3 hq3) rfl rfl (Nat.le_of_ble_eq_true rfl) ⟨⟨Nat.le_of_ble_eq_true rfl, Nat.le_of_ble_eq_true rfl⟩, rfl, rfl⟩ hl.1 ⟨Nat.zero_le _, Nat.zero_le _⟩ dX0_ghostsFreeFor_15 (fun H locs hS => ?_)
      refine lv_if_eq (tgt := 27) hx hb dX0_ghostsFreeFor_18 (by decide) (fun c4 => ?_) (fun c4 => ?_)
      · have hf := gIf_t c4 hf
        refine lv_iinc (v := (v3 + 1)) (lv' := [(3, .int (v3 + 1)), (0, .ref (o + 1)), (1, .int w1), (2, .int v2)]) hx hb dX0_ghostsFreeFor_27 hl (k := 3) rfl rfl (by decide) rfl (fun ls hl => ?_)
        refine lv_goto (tgt := 4) hx hb dX0_ghostsFreeFor_30 (by decide) ?_
        exact ih v2 (v3 + 1) q3.2 hf _ _ _ hS (lv_sub hl [1, 2, 3, 0] rfl)
      · have hf := gIf_f c4 hf
        refine lv_iload_n hx hb dX0_ghostsFreeFor_21 rfl (lv_at hl 2 rfl) ?_
        refine lv_iconst (v := 1) hx hb dX0_ghostsFreeFor_22 (by decide) ?_
        refine lv_iload_n hx hb dX0_ghostsFreeFor_23 rfl (lv_at hl 3 rfl) ?_
        refine lv_ishl hx hb dX0_ghostsFreeFor_24 ?_
        refine lv_ior hx hb dX0_ghostsFreeFor_25 ?_
        obtain ⟨x5, hx5, hf⟩ := gLet_some hf
        refine g_top hx5 ?_
        refine lv_istore_n (lv' := [(2, .int x5), (0, .ref (o + 1)), (1, .int w1), (3, .int v3)]) hx hb dX0_ghostsFreeFor_26 rfl hl (by decide) rfl (fun ls hl => ?_)
        refine lv_iinc (v := (v3 + 1)) (lv' := [(3, .int (v3 + 1)), (2, .int x5), (0, .ref (o + 1)), (1, .int w1)]) hx hb dX0_ghostsFreeFor_27 hl (k := 3) rfl rfl (by decide) rfl (fun ls hl => ?_)
        refine lv_goto (tgt := 4) hx hb dX0_ghostsFreeFor_30 (by decide) ?_
        exact ih x5 (v3 + 1) q3.2 hf _ _ _ hS (lv_sub hl [2, 3, 1, 0] rfl)
set_option maxHeartbeats 4000000 in
set_option maxRecDepth 100000 in
theorem c_X0_ghostsFreeFor (p0 : Int32) (σ : gS) (q : Int32 × gS) (hf : f_X0_ghostsFreeFor p0 σ = some q) : Met l yX0_ghostsFreeFor (gW yX0_ghostsFreeFor cX0_ghostsFreeFor 4 (some .int)) rmX0_ghostsFreeFor (gPc G (entX G o) o 302 [.ref (o + 1), .int p0] σ) (gQi G (entX G o) o 302 q) 0 0 (gA o 302) := by
  refine g_met (by decide) ⟨rfl, rfl⟩ (fun p e s m args below meth c ls K hS hl => ?_) (Nat.le_of_ble_eq_true rfl)
  have K : gK p s m args meth c G cX0_ghostsFreeFor 4 RX0 (some .int) := K
  have hl : lv_has ls 4 [(0, .ref (o + 1)), (1, .int p0)] := hl
  obtain ⟨hx, hb, hml, hown, hts, -⟩ := id K
  unfold f_X0_ghostsFreeFor at hf
  refine lv_iconst (v := 0) hx hb dX0_ghostsFreeFor_0 (by decide) ?_
  refine lv_istore_n (lv' := [(2, .int 0), (0, .ref (o + 1)), (1, .int p0)]) hx hb dX0_ghostsFreeFor_1 rfl hl (by decide) rfl (fun ls hl => ?_)
  refine lv_iconst (v := 0) hx hb dX0_ghostsFreeFor_2 (by decide) ?_
  refine lv_istore_n (lv' := [(3, .int 0), (2, .int 0), (0, .ref (o + 1)), (1, .int p0)]) hx hb dX0_ghostsFreeFor_3 rfl hl (by decide) rfl (fun ls hl => ?_)
  refine w_X0_ghostsFreeFor_L4 p0 K gFu 0 0 σ hf _ _ _ hS (lv_sub hl [2, 3, 1, 0] rfl)
abbrev rmX1_widened : Room := { frames := 1, cells := 0, slots := 0, locals := 21 }
def f_X1_widened_L5 (w1 : Int32) (w2 : Int32) : Nat → Int32 → Int32 → gS → Option (Int32 × gS)
  | 0, _, _, _ => none
  | n + 1, v3, v4, σ => if (σ 4 0) ≤ v4 then (some (v3, σ)) else (Option.bind (f_X10_holds w2 v4 σ) (fun q2 => if q2.1 = 0 then (f_X1_widened_L5 w1 w2 n v3 (v4 + 1) q2.2) else (Option.bind (f_X5_at 9 20 v4 q2.2) (fun q4 => if (q4.1 &&& w1) = 0 then (f_X1_widened_L5 w1 w2 n v3 (v4 + 1) q4.2) else (Option.bind (f_X5_at 9 20 v4 q4.2) (fun q6 => gLet (v3 ||| q6.1) (fun x7 => f_X1_widened_L5 w1 w2 n x7 (v4 + 1) q6.2)))))))
theorem f_X1_widened_L5_s (w1 : Int32) (w2 : Int32) (n : Nat) (v3 : Int32) (v4 : Int32) (σ : gS) : f_X1_widened_L5 w1 w2 (n + 1) v3 v4 σ = (if (σ 4 0) ≤ v4 then (some (v3, σ)) else (Option.bind (f_X10_holds w2 v4 σ) (fun q2 => if q2.1 = 0 then (f_X1_widened_L5 w1 w2 n v3 (v4 + 1) q2.2) else (Option.bind (f_X5_at 9 20 v4 q2.2) (fun q4 => if (q4.1 &&& w1) = 0 then (f_X1_widened_L5 w1 w2 n v3 (v4 + 1) q4.2) else (Option.bind (f_X5_at 9 20 v4 q4.2) (fun q6 => gLet (v3 ||| q6.1) (fun x7 => f_X1_widened_L5 w1 w2 n x7 (v4 + 1) q6.2)))))))) := rfl
def f_X1_widened (p0 : Int32) (p1 : Int32) (σ : gS) : Option (Int32 × gS) := f_X1_widened_L5 p0 p1 gFu p0 0 σ
set_option maxHeartbeats 4000000 in
set_option maxRecDepth 100000 in
theorem w_X1_widened_L5 (w1 : Int32) (w2 : Int32) {q : Int32 × gS} (K : gK p s m args meth c G cX1_widened 5 RX1 (some .int)) : ∀ (n : Nat) (v3 : Int32) (v4 : Int32) (σ : gS), f_X1_widened_L5 w1 w2 n v3 v4 σ = some q → ∀ (H : Heap) (locs : List Loc) (ls : Array Slot), gSt G (entX G o) o 302 s σ H locs → lv_has ls 5 [(0, .ref (o + 4)), (1, .int w1), (2, .int w2), (3, .int v3), (4, .int v4)] → W p l e rmX1_widened s m args below meth c H locs 0 0 (MQ below (gQi G (entX G o) o 302 q) args s 0 0 (gA o 302)) (F0 m 5 ls []) := by
  obtain ⟨hx, hb, hml, hown, hts, -⟩ := id K
  intro n
  induction n with
  | zero =>
    intro v3 v4 σ hf
    exact absurd (show (none : Option _) = some q from hf) (by simp)
  | succ n ih =>
    intro v3 v4 σ hf H locs ls hS hl
    rw [f_X1_widened_L5_s] at hf
    refine lv_iload hx hb dX1_widened_5 (lv_at hl 4 rfl) ?_
    refine lv_aload_n hx hb dX1_widened_7 rfl (lv_at hl 0 rfl) ?_
    refine g_get (cx := 4) K hS lF_X1_35 ((eX_4 G o) _) (by decide) rfl dX1_widened_8 ?_
    refine lv_icmp_ge (tgt := 55) hx hb dX1_widened_11 (by decide) (fun c1 => ?_) (fun c1 => ?_)
    · have hf := gIf_t c1 hf
      refine lv_iload_n hx hb dX1_widened_55 rfl (lv_at hl 3 rfl) ?_
      exact g_iret K hS hf dX1_widened_56
    · have hf := gIf_f c1 hf
      refine lv_iload_n hx hb dX1_widened_14 rfl (lv_at hl 2 rfl) ?_
      refine lv_iload hx hb dX1_widened_15 (lv_at hl 4 rfl) ?_
      obtain ⟨q2, hq2, hf⟩ := Option.bind_eq_some_iff.mp hf
      refine g_Ni (As := [.int w2, .int v4]) K hS lN_X1_71 (c_X10_holds w2 v4 σ q2 hq2) rfl rfl (Nat.le_of_ble_eq_true rfl) ⟨⟨Nat.le_of_ble_eq_true rfl, Nat.le_of_ble_eq_true rfl⟩, rfl, rfl⟩ hl.1 ⟨Nat.zero_le _, Nat.zero_le _⟩ dX1_widened_17 (fun H locs hS => ?_)
      refine lv_if_eq (tgt := 49) hx hb dX1_widened_20 (by decide) (fun c3 => ?_) (fun c3 => ?_)
      · have hf := gIf_t c3 hf
        refine lv_iinc (v := (v4 + 1)) (lv' := [(4, .int (v4 + 1)), (0, .ref (o + 4)), (1, .int w1), (2, .int w2), (3, .int v3)]) hx hb dX1_widened_49 hl (k := 4) rfl rfl (by decide) rfl (fun ls hl => ?_)
        refine lv_goto (tgt := 5) hx hb dX1_widened_52 (by decide) ?_
        exact ih v3 (v4 + 1) q2.2 hf _ _ _ hS (lv_sub hl [1, 2, 3, 4, 0] rfl)
      · have hf := gIf_f c3 hf
        refine lv_aload_n hx hb dX1_widened_23 rfl (lv_at hl 0 rfl) ?_
        refine g_get (cx := 4) K hS lF_X1_23 ((eX_4 G o) _) (by decide) rfl dX1_widened_24 ?_
        refine lv_iload hx hb dX1_widened_27 (lv_at hl 4 rfl) ?_
        obtain ⟨q4, hq4, hf⟩ := Option.bind_eq_some_iff.mp hf
        refine g_Vi (cx := 9) (As := [.int v4]) K hS lV_X1_67 (c_X5_at 9 20 (gRow_9 G o) v4 q2.2 q4 hq4) ((eX_9 G o) _) (by decide) rfl rfl rfl (Nat.le_of_ble_eq_true rfl) ⟨⟨Nat.le_of_ble_eq_true rfl, Nat.le_of_ble_eq_true rfl⟩, rfl, rfl⟩ hl.1 ⟨Nat.zero_le _, Nat.zero_le _⟩ dX1_widened_29 (fun H locs hS => ?_)
        refine lv_iload_n hx hb dX1_widened_32 rfl (lv_at hl 1 rfl) ?_
        refine lv_iand hx hb dX1_widened_33 ?_
        refine lv_if_eq (tgt := 49) hx hb dX1_widened_34 (by decide) (fun c5 => ?_) (fun c5 => ?_)
        · have hf := gIf_t c5 hf
          refine lv_iinc (v := (v4 + 1)) (lv' := [(4, .int (v4 + 1)), (0, .ref (o + 4)), (1, .int w1), (2, .int w2), (3, .int v3)]) hx hb dX1_widened_49 hl (k := 4) rfl rfl (by decide) rfl (fun ls hl => ?_)
          refine lv_goto (tgt := 5) hx hb dX1_widened_52 (by decide) ?_
          exact ih v3 (v4 + 1) q4.2 hf _ _ _ hS (lv_sub hl [1, 2, 3, 4, 0] rfl)
        · have hf := gIf_f c5 hf
          refine lv_iload_n hx hb dX1_widened_37 rfl (lv_at hl 3 rfl) ?_
          refine lv_aload_n hx hb dX1_widened_38 rfl (lv_at hl 0 rfl) ?_
          refine g_get (cx := 4) K hS lF_X1_23 ((eX_4 G o) _) (by decide) rfl dX1_widened_39 ?_
          refine lv_iload hx hb dX1_widened_42 (lv_at hl 4 rfl) ?_
          obtain ⟨q6, hq6, hf⟩ := Option.bind_eq_some_iff.mp hf
          refine g_Vi (cx := 9) (As := [.int v4]) K hS lV_X1_67 (c_X5_at 9 20 (gRow_9 G o) v4 q4.2 q6 hq6) ((eX_9 G o) _) (by decide) rfl rfl rfl (Nat.le_of_ble_eq_true rfl) ⟨⟨Nat.le_of_ble_eq_true rfl, Nat.le_of_ble_eq_true rfl⟩, rfl, rfl⟩ hl.1 ⟨Nat.zero_le _, Nat.zero_le _⟩ dX1_widened_44 (fun H locs hS => ?_)
          refine lv_ior hx hb dX1_widened_47 ?_
          obtain ⟨x7, hx7, hf⟩ := gLet_some hf
          refine g_top hx7 ?_
          refine lv_istore_n (lv' := [(3, .int x7), (0, .ref (o + 4)), (1, .int w1), (2, .int w2), (4, .int v4)]) hx hb dX1_widened_48 rfl hl (by decide) rfl (fun ls hl => ?_)
          refine lv_iinc (v := (v4 + 1)) (lv' := [(4, .int (v4 + 1)), (3, .int x7), (0, .ref (o + 4)), (1, .int w1), (2, .int w2)]) hx hb dX1_widened_49 hl (k := 4) rfl rfl (by decide) rfl (fun ls hl => ?_)
          refine lv_goto (tgt := 5) hx hb dX1_widened_52 (by decide) ?_
          exact ih x7 (v4 + 1) q6.2 hf _ _ _ hS (lv_sub hl [2, 3, 4, 1, 0] rfl)
set_option maxHeartbeats 4000000 in
set_option maxRecDepth 100000 in
theorem c_X1_widened (p0 : Int32) (p1 : Int32) (σ : gS) (q : Int32 × gS) (hf : f_X1_widened p0 p1 σ = some q) : Met l yX1_widened (gW yX1_widened cX1_widened 5 (some .int)) rmX1_widened (gPc G (entX G o) o 302 [.ref (o + 4), .int p0, .int p1] σ) (gQi G (entX G o) o 302 q) 0 0 (gA o 302) := by
  refine g_met (by decide) ⟨rfl, rfl⟩ (fun p e s m args below meth c ls K hS hl => ?_) (Nat.le_of_ble_eq_true rfl)
  have K : gK p s m args meth c G cX1_widened 5 RX1 (some .int) := K
  have hl : lv_has ls 5 [(0, .ref (o + 4)), (1, .int p0), (2, .int p1)] := hl
  obtain ⟨hx, hb, hml, hown, hts, -⟩ := id K
  unfold f_X1_widened at hf
  refine lv_iload_n hx hb dX1_widened_0 rfl (lv_at hl 1 rfl) ?_
  refine lv_istore_n (lv' := [(3, .int p0), (0, .ref (o + 4)), (1, .int p0), (2, .int p1)]) hx hb dX1_widened_1 rfl hl (by decide) rfl (fun ls hl => ?_)
  refine lv_iconst (v := 0) hx hb dX1_widened_2 (by decide) ?_
  refine lv_istore (lv' := [(4, .int 0), (3, .int p0), (0, .ref (o + 4)), (1, .int p0), (2, .int p1)]) hx hb dX1_widened_3 hl (by decide) rfl (fun ls hl => ?_)
  refine w_X1_widened_L5 p0 p1 K gFu p0 0 σ hf _ _ _ hS (lv_sub hl [2, 3, 4, 1, 0] rfl)
abbrev rmX1_fewestTo : Room := { frames := 2, cells := 0, slots := 0, locals := 45 }
def f_X1_fewestTo_L7 (w2 : Int32) : Nat → Int32 → Int32 → gS → Option (Int32 × gS)
  | 0, _, _, _ => none
  | n + 1, v3, v4, σ => if 10 ≤ v4 then (some ((-6), σ)) else (if (v3 &&& w2) = 0 then (Option.bind (f_X1_all σ) (fun q4 => Option.bind (f_X1_widened v3 q4.1 q4.2) (fun q5 => if q5.1 = v3 then (some ((-6), q5.2)) else (f_X1_fewestTo_L7 w2 n q5.1 (v4 + 1) q5.2)))) else (some (v4, σ)))
theorem f_X1_fewestTo_L7_s (w2 : Int32) (n : Nat) (v3 : Int32) (v4 : Int32) (σ : gS) : f_X1_fewestTo_L7 w2 (n + 1) v3 v4 σ = (if 10 ≤ v4 then (some ((-6), σ)) else (if (v3 &&& w2) = 0 then (Option.bind (f_X1_all σ) (fun q4 => Option.bind (f_X1_widened v3 q4.1 q4.2) (fun q5 => if q5.1 = v3 then (some ((-6), q5.2)) else (f_X1_fewestTo_L7 w2 n q5.1 (v4 + 1) q5.2)))) else (some (v4, σ)))) := rfl
def f_X1_fewestTo (p0 : Int32) (p1 : Int32) (σ : gS) : Option (Int32 × gS) := gLet (1 <<< (p0 &&& 31)) (fun x1 => f_X1_fewestTo_L7 p1 gFu x1 0 σ)
set_option maxHeartbeats 4000000 in
set_option maxRecDepth 100000 in
theorem w_X1_fewestTo_L7 (w2 : Int32) {q : Int32 × gS} (K : gK p s m args meth c G cX1_fewestTo 6 RX1 (some .int)) : ∀ (n : Nat) (v3 : Int32) (v4 : Int32) (σ : gS), f_X1_fewestTo_L7 w2 n v3 v4 σ = some q → ∀ (H : Heap) (locs : List Loc) (ls : Array Slot), gSt G (entX G o) o 302 s σ H locs → lv_has ls 6 [(0, .ref (o + 4)), (2, .int w2), (3, .int v3), (4, .int v4)] → W p l e rmX1_fewestTo s m args below meth c H locs 0 0 (MQ below (gQi G (entX G o) o 302 q) args s 0 0 (gA o 302)) (F0 m 7 ls []) := by
  obtain ⟨hx, hb, hml, hown, hts, -⟩ := id K
  intro n
  induction n with
  | zero =>
    intro v3 v4 σ hf
    exact absurd (show (none : Option _) = some q from hf) (by simp)
  | succ n ih =>
    intro v3 v4 σ hf H locs ls hS hl
    rw [f_X1_fewestTo_L7_s] at hf
    refine lv_iload hx hb dX1_fewestTo_7 (lv_at hl 3 rfl) ?_
    refine lv_bipush (v := 10) hx hb dX1_fewestTo_9 (by decide) ?_
    refine lv_icmp_ge (tgt := 52) hx hb dX1_fewestTo_11 (by decide) (fun c2 => ?_) (fun c2 => ?_)
    · have hf := gIf_t c2 hf
      refine lv_bipush (v := (-6)) hx hb dX1_fewestTo_52 (by decide) ?_
      exact g_iret K hS hf dX1_fewestTo_54
    · have hf := gIf_f c2 hf
      refine lv_iload_n hx hb dX1_fewestTo_14 rfl (lv_at hl 2 rfl) ?_
      refine lv_iload_n hx hb dX1_fewestTo_15 rfl (lv_at hl 1 rfl) ?_
      refine lv_iand hx hb dX1_fewestTo_16 ?_
      refine lv_if_eq (tgt := 23) hx hb dX1_fewestTo_17 (by decide) (fun c3 => ?_) (fun c3 => ?_)
      · have hf := gIf_t c3 hf
        refine lv_aload_n hx hb dX1_fewestTo_23 rfl (lv_at hl 0 rfl) ?_
        refine lv_iload_n hx hb dX1_fewestTo_24 rfl (lv_at hl 2 rfl) ?_
        refine lv_aload_n hx hb dX1_fewestTo_25 rfl (lv_at hl 0 rfl) ?_
        obtain ⟨q4, hq4, hf⟩ := Option.bind_eq_some_iff.mp hf
        refine g_Vi (cx := 4) (As := []) K hS lV_X1_78 (c_X1_all σ q4 hq4) ((eX_4 G o) _) (by decide) rfl rfl rfl (Nat.le_of_ble_eq_true rfl) ⟨⟨Nat.le_of_ble_eq_true rfl, Nat.le_of_ble_eq_true rfl⟩, rfl, rfl⟩ hl.1 ⟨Nat.zero_le _, Nat.zero_le _⟩ dX1_fewestTo_26 (fun H locs hS => ?_)
        obtain ⟨q5, hq5, hf⟩ := Option.bind_eq_some_iff.mp hf
        refine g_Vi (cx := 4) (As := [.int v3, .int q4.1]) K hS lV_X1_75 (c_X1_widened v3 q4.1 q4.2 q5 hq5) ((eX_4 G o) _) (by decide) rfl rfl rfl (Nat.le_of_ble_eq_true rfl) ⟨⟨Nat.le_of_ble_eq_true rfl, Nat.le_of_ble_eq_true rfl⟩, rfl, rfl⟩ hl.1 ⟨Nat.zero_le _, Nat.zero_le _⟩ dX1_fewestTo_29 (fun H locs hS => ?_)
        refine lv_istore (lv' := [(5, .int q5.1), (0, .ref (o + 4)), (2, .int w2), (3, .int v3), (4, .int v4)]) hx hb dX1_fewestTo_32 hl (by decide) rfl (fun ls hl => ?_)
        refine lv_iload hx hb dX1_fewestTo_34 (lv_at hl 0 rfl) ?_
        refine lv_iload_n hx hb dX1_fewestTo_36 rfl (lv_at hl 3 rfl) ?_
        refine lv_icmp_ne (tgt := 43) hx hb dX1_fewestTo_37 (by decide) (fun c6 => ?_) (fun c6 => ?_)
        · have hf := gIf_f c6 hf
          refine lv_iload hx hb dX1_fewestTo_43 (lv_at hl 0 rfl) ?_
          refine lv_istore_n (lv' := [(3, .int q5.1), (5, .int q5.1), (0, .ref (o + 4)), (2, .int w2), (4, .int v4)]) hx hb dX1_fewestTo_45 rfl hl (by decide) rfl (fun ls hl => ?_)
          refine lv_iinc (v := (v4 + 1)) (lv' := [(4, .int (v4 + 1)), (3, .int q5.1), (5, .int q5.1), (0, .ref (o + 4)), (2, .int w2)]) hx hb dX1_fewestTo_46 hl (k := 4) rfl rfl (by decide) rfl (fun ls hl => ?_)
          refine lv_goto (tgt := 7) hx hb dX1_fewestTo_49 (by decide) ?_
          exact ih q5.1 (v4 + 1) q5.2 hf _ _ _ hS (lv_sub hl [3, 4, 1, 0] rfl)
        · have hf := gIf_t c6 hf
          refine lv_goto (tgt := 52) hx hb dX1_fewestTo_40 (by decide) ?_
          refine lv_bipush (v := (-6)) hx hb dX1_fewestTo_52 (by decide) ?_
          exact g_iret K hS hf dX1_fewestTo_54
      · have hf := gIf_f c3 hf
        refine lv_iload hx hb dX1_fewestTo_20 (lv_at hl 3 rfl) ?_
        exact g_iret K hS hf dX1_fewestTo_22
set_option maxHeartbeats 4000000 in
set_option maxRecDepth 100000 in
theorem c_X1_fewestTo (p0 : Int32) (p1 : Int32) (σ : gS) (q : Int32 × gS) (hf : f_X1_fewestTo p0 p1 σ = some q) : Met l yX1_fewestTo (gW yX1_fewestTo cX1_fewestTo 6 (some .int)) rmX1_fewestTo (gPc G (entX G o) o 302 [.ref (o + 4), .int p0, .int p1] σ) (gQi G (entX G o) o 302 q) 0 0 (gA o 302) := by
  refine g_met (by decide) ⟨rfl, rfl⟩ (fun p e s m args below meth c ls K hS hl => ?_) (Nat.le_of_ble_eq_true rfl)
  have K : gK p s m args meth c G cX1_fewestTo 6 RX1 (some .int) := K
  have hl : lv_has ls 6 [(0, .ref (o + 4)), (1, .int p0), (2, .int p1)] := hl
  obtain ⟨hx, hb, hml, hown, hts, -⟩ := id K
  unfold f_X1_fewestTo at hf
  refine lv_iconst (v := 1) hx hb dX1_fewestTo_0 (by decide) ?_
  refine lv_iload_n hx hb dX1_fewestTo_1 rfl (lv_at hl 1 rfl) ?_
  refine lv_ishl hx hb dX1_fewestTo_2 ?_
  obtain ⟨x1, hx1, hf⟩ := gLet_some hf
  refine g_top hx1 ?_
  refine lv_istore_n (lv' := [(3, .int x1), (0, .ref (o + 4)), (1, .int p0), (2, .int p1)]) hx hb dX1_fewestTo_3 rfl hl (by decide) rfl (fun ls hl => ?_)
  refine lv_iconst (v := 0) hx hb dX1_fewestTo_4 (by decide) ?_
  refine lv_istore (lv' := [(4, .int 0), (3, .int x1), (0, .ref (o + 4)), (1, .int p0), (2, .int p1)]) hx hb dX1_fewestTo_5 hl (by decide) rfl (fun ls hl => ?_)
  refine w_X1_fewestTo_L7 p1 K gFu x1 0 σ hf _ _ _ hS (lv_sub hl [2, 4, 1, 0] rfl)
abbrev rmX1_loudnessIn : Room := { frames := 3, cells := 0, slots := 0, locals := 70 }
def f_X1_loudnessIn (p0 : Int32) (p1 : Int32) (σ : gS) : Option (Int32 × gS) := Option.bind (f_X5_at 9 20 p1 σ) (fun q1 => Option.bind (f_X1_fewestTo p0 q1.1 q1.2) (fun q2 => if q2.1 = (-6) then (some (0, q2.2)) else (Option.bind (f_X5_at 11 20 p1 q2.2) (fun q4 => some ((if (q4.1 - q2.1) < 0 then 0 else (q4.1 - q2.1)), q4.2)))))
set_option maxHeartbeats 4000000 in
set_option maxRecDepth 100000 in
theorem c_X1_loudnessIn (p0 : Int32) (p1 : Int32) (σ : gS) (q : Int32 × gS) (hf : f_X1_loudnessIn p0 p1 σ = some q) : Met l yX1_loudnessIn (gW yX1_loudnessIn cX1_loudnessIn 4 (some .int)) rmX1_loudnessIn (gPc G (entX G o) o 302 [.ref (o + 4), .int p0, .int p1] σ) (gQi G (entX G o) o 302 q) 0 0 (gA o 302) := by
  refine g_met (by decide) ⟨rfl, rfl⟩ (fun p e s m args below meth c ls K hS hl => ?_) (Nat.le_of_ble_eq_true rfl)
  have K : gK p s m args meth c G cX1_loudnessIn 4 RX1 (some .int) := K
  have hl : lv_has ls 4 [(0, .ref (o + 4)), (1, .int p0), (2, .int p1)] := hl
  obtain ⟨hx, hb, hml, hown, hts, -⟩ := id K
  unfold f_X1_loudnessIn at hf
  refine lv_aload_n hx hb dX1_loudnessIn_0 rfl (lv_at hl 0 rfl) ?_
  refine lv_iload_n hx hb dX1_loudnessIn_1 rfl (lv_at hl 1 rfl) ?_
  refine lv_aload_n hx hb dX1_loudnessIn_2 rfl (lv_at hl 0 rfl) ?_
  refine g_get (cx := 4) K hS lF_X1_23 ((eX_4 G o) _) (by decide) rfl dX1_loudnessIn_3 ?_
  refine lv_iload_n hx hb dX1_loudnessIn_6 rfl (lv_at hl 2 rfl) ?_
  obtain ⟨q1, hq1, hf⟩ := Option.bind_eq_some_iff.mp hf
  refine g_Vi (cx := 9) (As := [.int p1]) K hS lV_X1_67 (c_X5_at 9 20 (gRow_9 G o) p1 σ q1 hq1) ((eX_9 G o) _) (by decide) rfl rfl rfl (Nat.le_of_ble_eq_true rfl) ⟨⟨Nat.le_of_ble_eq_true rfl, Nat.le_of_ble_eq_true rfl⟩, rfl, rfl⟩ hl.1 ⟨Nat.zero_le _, Nat.zero_le _⟩ dX1_loudnessIn_7 (fun H locs hS => ?_)
  obtain ⟨q2, hq2, hf⟩ := Option.bind_eq_some_iff.mp hf
  refine g_Vi (cx := 4) (As := [.int p0, .int q1.1]) K hS lV_X1_82 (c_X1_fewestTo p0 q1.1 q1.2 q2 hq2) ((eX_4 G o) _) (by decide) rfl rfl rfl (Nat.le_of_ble_eq_true rfl) ⟨⟨Nat.le_of_ble_eq_true rfl, Nat.le_of_ble_eq_true rfl⟩, rfl, rfl⟩ hl.1 ⟨Nat.zero_le _, Nat.zero_le _⟩ dX1_loudnessIn_10 (fun H locs hS => ?_)
  refine lv_istore_n (lv' := [(3, .int q2.1), (0, .ref (o + 4)), (1, .int p0), (2, .int p1)]) hx hb dX1_loudnessIn_13 rfl hl (by decide) rfl (fun ls hl => ?_)
  refine lv_iload_n hx hb dX1_loudnessIn_14 rfl (lv_at hl 0 rfl) ?_
  refine lv_bipush (v := (-6)) hx hb dX1_loudnessIn_15 (by decide) ?_
  refine lv_icmp_ne (tgt := 24) hx hb dX1_loudnessIn_17 (by decide) (fun c3 => ?_) (fun c3 => ?_)
  · have hf := gIf_f c3 hf
    refine lv_aload_n hx hb dX1_loudnessIn_24 rfl (lv_at hl 1 rfl) ?_
    refine g_get (cx := 4) K hS lF_X1_26 ((eX_4 G o) _) (by decide) rfl dX1_loudnessIn_25 ?_
    refine lv_iload_n hx hb dX1_loudnessIn_28 rfl (lv_at hl 3 rfl) ?_
    obtain ⟨q4, hq4, hf⟩ := Option.bind_eq_some_iff.mp hf
    refine g_Vi (cx := 11) (As := [.int p1]) K hS lV_X1_67 (c_X5_at 11 20 (gRow_11 G o) p1 q2.2 q4 hq4) ((eX_11 G o) _) (by decide) rfl rfl rfl (Nat.le_of_ble_eq_true rfl) ⟨⟨Nat.le_of_ble_eq_true rfl, Nat.le_of_ble_eq_true rfl⟩, rfl, rfl⟩ hl.1 ⟨Nat.zero_le _, Nat.zero_le _⟩ dX1_loudnessIn_29 (fun H locs hS => ?_)
    refine lv_iload_n hx hb dX1_loudnessIn_32 rfl (lv_at hl 0 rfl) ?_
    refine lv_isub hx hb dX1_loudnessIn_33 ?_
    refine lv_iconst (v := 0) hx hb dX1_loudnessIn_34 (by decide) ?_
    refine g_mmax K hl.1 (gmem 343 (by decide +kernel) rfl) q_static_max q_init_Math q_code_max (Nat.le_of_ble_eq_true rfl) (Nat.le_of_ble_eq_true rfl) (Nat.zero_le _) (Nat.zero_le _) dX1_loudnessIn_35 ?_
    exact g_iret K hS hf dX1_loudnessIn_38
  · have hf := gIf_t c3 hf
    refine lv_iconst (v := 0) hx hb dX1_loudnessIn_20 (by decide) ?_
    refine lv_goto (tgt := 38) hx hb dX1_loudnessIn_21 (by decide) ?_
    exact g_iret K hS hf dX1_loudnessIn_38
abbrev rmX0_boardsThatWake : Room := { frames := 4, cells := 0, slots := 0, locals := 93 }
def f_X0_boardsThatWake_L17 (w1 : Int32) (w3 : Int32) : Nat → Int32 → Int32 → gS → Option (Int32 × gS)
  | 0, _, _, _ => none
  | n + 1, v2, v4, σ => if (σ 4 0) ≤ v4 then (some (v2, σ)) else (Option.bind (f_X1_loudnessIn w3 v4 σ) (fun q3 => Option.bind (f_X5_at 27 5 w1 q3.2) (fun q4 => if q3.1 < q4.1 then (f_X0_boardsThatWake_L17 w1 w3 n v2 (v4 + 1) q4.2) else (gLet (v2 ||| (1 <<< (v4 &&& 31))) (fun x6 => f_X0_boardsThatWake_L17 w1 w3 n x6 (v4 + 1) q4.2)))))
theorem f_X0_boardsThatWake_L17_s (w1 : Int32) (w3 : Int32) (n : Nat) (v2 : Int32) (v4 : Int32) (σ : gS) : f_X0_boardsThatWake_L17 w1 w3 (n + 1) v2 v4 σ = (if (σ 4 0) ≤ v4 then (some (v2, σ)) else (Option.bind (f_X1_loudnessIn w3 v4 σ) (fun q3 => Option.bind (f_X5_at 27 5 w1 q3.2) (fun q4 => if q3.1 < q4.1 then (f_X0_boardsThatWake_L17 w1 w3 n v2 (v4 + 1) q4.2) else (gLet (v2 ||| (1 <<< (v4 &&& 31))) (fun x6 => f_X0_boardsThatWake_L17 w1 w3 n x6 (v4 + 1) q4.2)))))) := rfl
def f_X0_boardsThatWake (p0 : Int32) (σ : gS) : Option (Int32 × gS) := Option.bind (f_X5_at 25 5 p0 σ) (fun q1 => f_X0_boardsThatWake_L17 p0 q1.1 gFu 0 0 q1.2)
set_option maxHeartbeats 4000000 in
set_option maxRecDepth 100000 in
theorem w_X0_boardsThatWake_L17 (w1 : Int32) (w3 : Int32) {q : Int32 × gS} (K : gK p s m args meth c G cX0_boardsThatWake 5 RX0 (some .int)) : ∀ (n : Nat) (v2 : Int32) (v4 : Int32) (σ : gS), f_X0_boardsThatWake_L17 w1 w3 n v2 v4 σ = some q → ∀ (H : Heap) (locs : List Loc) (ls : Array Slot), gSt G (entX G o) o 302 s σ H locs → lv_has ls 5 [(0, .ref (o + 1)), (1, .int w1), (2, .int v2), (3, .int w3), (4, .int v4)] → W p l e rmX0_boardsThatWake s m args below meth c H locs 0 0 (MQ below (gQi G (entX G o) o 302 q) args s 0 0 (gA o 302)) (F0 m 17 ls []) := by
  obtain ⟨hx, hb, hml, hown, hts, -⟩ := id K
  intro n
  induction n with
  | zero =>
    intro v2 v4 σ hf
    exact absurd (show (none : Option _) = some q from hf) (by simp)
  | succ n ih =>
    intro v2 v4 σ hf H locs ls hS hl
    rw [f_X0_boardsThatWake_L17_s] at hf
    refine lv_iload hx hb dX0_boardsThatWake_17 (lv_at hl 4 rfl) ?_
    refine lv_aload_n hx hb dX0_boardsThatWake_19 rfl (lv_at hl 0 rfl) ?_
    refine g_get (cx := 1) K hS lF_X0_23 ((eX_1 G o) _) (by decide) rfl dX0_boardsThatWake_20 ?_
    refine g_get (cx := 4) K hS lF_X0_105 ((eX_4 G o) _) (by decide) rfl dX0_boardsThatWake_23 ?_
    refine lv_icmp_ge (tgt := 66) hx hb dX0_boardsThatWake_26 (by decide) (fun c2 => ?_) (fun c2 => ?_)
    · have hf := gIf_t c2 hf
      refine lv_iload_n hx hb dX0_boardsThatWake_66 rfl (lv_at hl 2 rfl) ?_
      exact g_iret K hS hf dX0_boardsThatWake_67
    · have hf := gIf_f c2 hf
      refine lv_aload_n hx hb dX0_boardsThatWake_29 rfl (lv_at hl 0 rfl) ?_
      refine g_get (cx := 1) K hS lF_X0_23 ((eX_1 G o) _) (by decide) rfl dX0_boardsThatWake_30 ?_
      refine lv_iload_n hx hb dX0_boardsThatWake_33 rfl (lv_at hl 3 rfl) ?_
      refine lv_iload hx hb dX0_boardsThatWake_34 (lv_at hl 4 rfl) ?_
      obtain ⟨q3, hq3, hf⟩ := Option.bind_eq_some_iff.mp hf
      refine g_Vi (cx := 4) (As := [.int w3, .int v4]) K hS lV_X0_108 (c_X1_loudnessIn w3 v4 σ q3 hq3) ((eX_4 G o) _) (by decide) rfl rfl rfl (Nat.le_of_ble_eq_true rfl) ⟨⟨Nat.le_of_ble_eq_true rfl, Nat.le_of_ble_eq_true rfl⟩, rfl, rfl⟩ hl.1 ⟨Nat.zero_le _, Nat.zero_le _⟩ dX0_boardsThatWake_36 (fun H locs hS => ?_)
      refine lv_aload_n hx hb dX0_boardsThatWake_39 rfl (lv_at hl 0 rfl) ?_
      refine g_get (cx := 1) K hS lF_X0_37 ((eX_1 G o) _) (by decide) rfl dX0_boardsThatWake_40 ?_
      refine g_get (cx := 24) K hS lF_X0_111 ((eX_24 G o) _) (by decide) rfl dX0_boardsThatWake_43 ?_
      refine lv_iload_n hx hb dX0_boardsThatWake_46 rfl (lv_at hl 1 rfl) ?_
      obtain ⟨q4, hq4, hf⟩ := Option.bind_eq_some_iff.mp hf
      refine g_Vi (cx := 27) (As := [.int w1]) K hS lV_X0_65 (c_X5_at 27 5 (gRow_27 G o) w1 q3.2 q4 hq4) ((eX_27 G o) _) (by decide) rfl rfl rfl (Nat.le_of_ble_eq_true rfl) ⟨⟨Nat.le_of_ble_eq_true rfl, Nat.le_of_ble_eq_true rfl⟩, rfl, rfl⟩ hl.1 ⟨Nat.zero_le _, Nat.zero_le _⟩ dX0_boardsThatWake_47 (fun H locs hS => ?_)
      refine lv_icmp_lt (tgt := 60) hx hb dX0_boardsThatWake_50 (by decide) (fun c5 => ?_) (fun c5 => ?_)
      · have hf := gIf_t c5 hf
        refine lv_iinc (v := (v4 + 1)) (lv' := [(4, .int (v4 + 1)), (0, .ref (o + 1)), (1, .int w1), (2, .int v2), (3, .int w3)]) hx hb dX0_boardsThatWake_60 hl (k := 4) rfl rfl (by decide) rfl (fun ls hl => ?_)
        refine lv_goto (tgt := 17) hx hb dX0_boardsThatWake_63 (by decide) ?_
        exact ih v2 (v4 + 1) q4.2 hf _ _ _ hS (lv_sub hl [1, 2, 3, 4, 0] rfl)
      · have hf := gIf_f c5 hf
        refine lv_iload_n hx hb dX0_boardsThatWake_53 rfl (lv_at hl 2 rfl) ?_
        refine lv_iconst (v := 1) hx hb dX0_boardsThatWake_54 (by decide) ?_
        refine lv_iload hx hb dX0_boardsThatWake_55 (lv_at hl 4 rfl) ?_
        refine lv_ishl hx hb dX0_boardsThatWake_57 ?_
        refine lv_ior hx hb dX0_boardsThatWake_58 ?_
        obtain ⟨x6, hx6, hf⟩ := gLet_some hf
        refine g_top hx6 ?_
        refine lv_istore_n (lv' := [(2, .int x6), (0, .ref (o + 1)), (1, .int w1), (3, .int w3), (4, .int v4)]) hx hb dX0_boardsThatWake_59 rfl hl (by decide) rfl (fun ls hl => ?_)
        refine lv_iinc (v := (v4 + 1)) (lv' := [(4, .int (v4 + 1)), (2, .int x6), (0, .ref (o + 1)), (1, .int w1), (3, .int w3)]) hx hb dX0_boardsThatWake_60 hl (k := 4) rfl rfl (by decide) rfl (fun ls hl => ?_)
        refine lv_goto (tgt := 17) hx hb dX0_boardsThatWake_63 (by decide) ?_
        exact ih x6 (v4 + 1) q4.2 hf _ _ _ hS (lv_sub hl [2, 3, 1, 4, 0] rfl)
set_option maxHeartbeats 4000000 in
set_option maxRecDepth 100000 in
theorem c_X0_boardsThatWake (p0 : Int32) (σ : gS) (q : Int32 × gS) (hf : f_X0_boardsThatWake p0 σ = some q) : Met l yX0_boardsThatWake (gW yX0_boardsThatWake cX0_boardsThatWake 5 (some .int)) rmX0_boardsThatWake (gPc G (entX G o) o 302 [.ref (o + 1), .int p0] σ) (gQi G (entX G o) o 302 q) 0 0 (gA o 302) := by
  refine g_met (by decide) ⟨rfl, rfl⟩ (fun p e s m args below meth c ls K hS hl => ?_) (Nat.le_of_ble_eq_true rfl)
  have K : gK p s m args meth c G cX0_boardsThatWake 5 RX0 (some .int) := K
  have hl : lv_has ls 5 [(0, .ref (o + 1)), (1, .int p0)] := hl
  obtain ⟨hx, hb, hml, hown, hts, -⟩ := id K
  unfold f_X0_boardsThatWake at hf
  refine lv_iconst (v := 0) hx hb dX0_boardsThatWake_0 (by decide) ?_
  refine lv_istore_n (lv' := [(2, .int 0), (0, .ref (o + 1)), (1, .int p0)]) hx hb dX0_boardsThatWake_1 rfl hl (by decide) rfl (fun ls hl => ?_)
  refine lv_aload_n hx hb dX0_boardsThatWake_2 rfl (lv_at hl 1 rfl) ?_
  refine g_get (cx := 1) K hS lF_X0_37 ((eX_1 G o) _) (by decide) rfl dX0_boardsThatWake_3 ?_
  refine g_get (cx := 24) K hS lF_X0_104 ((eX_24 G o) _) (by decide) rfl dX0_boardsThatWake_6 ?_
  refine lv_iload_n hx hb dX0_boardsThatWake_9 rfl (lv_at hl 2 rfl) ?_
  obtain ⟨q1, hq1, hf⟩ := Option.bind_eq_some_iff.mp hf
  refine g_Vi (cx := 25) (As := [.int p0]) K hS lV_X0_65 (c_X5_at 25 5 (gRow_25 G o) p0 σ q1 hq1) ((eX_25 G o) _) (by decide) rfl rfl rfl (Nat.le_of_ble_eq_true rfl) ⟨⟨Nat.le_of_ble_eq_true rfl, Nat.le_of_ble_eq_true rfl⟩, rfl, rfl⟩ hl.1 ⟨Nat.zero_le _, Nat.zero_le _⟩ dX0_boardsThatWake_10 (fun H locs hS => ?_)
  refine lv_istore_n (lv' := [(3, .int q1.1), (2, .int 0), (0, .ref (o + 1)), (1, .int p0)]) hx hb dX0_boardsThatWake_13 rfl hl (by decide) rfl (fun ls hl => ?_)
  refine lv_iconst (v := 0) hx hb dX0_boardsThatWake_14 (by decide) ?_
  refine lv_istore (lv' := [(4, .int 0), (3, .int q1.1), (2, .int 0), (0, .ref (o + 1)), (1, .int p0)]) hx hb dX0_boardsThatWake_15 hl (by decide) rfl (fun ls hl => ?_)
  refine w_X0_boardsThatWake_L17 p0 q1.1 K gFu 0 0 q1.2 hf _ _ _ hS (lv_sub hl [3, 4, 2, 1, 0] rfl)
abbrev rmX5_store : Room := { frames := 0, cells := 0, slots := 0, locals := 0 }
def f_X5_store (r L : Nat) (p0 : Int32) (p1 : Int32) (σ : gS) : Option (gS) := if p0 < 0 then (some σ) else (if (Int32.ofNat L) ≤ p0 then (some σ) else (gGd (gin p0 L) (gLet (up2 σ (r + 1) (gil p0) p1) (fun s3 => some s3))))
set_option maxHeartbeats 4000000 in
set_option maxRecDepth 100000 in
theorem c_X5_store (r L : Nat) (hr : gRow G o r L) (p0 : Int32) (p1 : Int32) (σ : gS) (q : gS) (hf : f_X5_store r L p0 p1 σ = some q) : Met l yX5_store (gW yX5_store cX5_store 3 none) rmX5_store (gPc G (entX G o) o 302 [.ref (o + r), .int p0, .int p1] σ) (gQv G (entX G o) o 302 q) 0 0 (gA o 302) := by
  refine g_met (by decide) ⟨rfl, rfl⟩ (fun p e s m args below meth c ls K hS hl => ?_) (Nat.le_of_ble_eq_true rfl)
  have K : gK p s m args meth c G cX5_store 3 RX5 none := K
  have hl : lv_has ls 3 [(0, .ref (o + r)), (1, .int p0), (2, .int p1)] := hl
  obtain ⟨hx, hb, hml, hown, hts, -⟩ := id K
  unfold f_X5_store at hf
  refine lv_iload_n hx hb dX5_store_0 rfl (lv_at hl 1 rfl) ?_
  refine lv_if_lt (tgt := 20) hx hb dX5_store_1 (by decide) (fun c1 => ?_) (fun c1 => ?_)
  · have hf := gIf_t c1 hf
    exact g_vret K hS hf dX5_store_20
  · have hf := gIf_f c1 hf
    refine lv_iload_n hx hb dX5_store_4 rfl (lv_at hl 1 rfl) ?_
    refine lv_aload_n hx hb dX5_store_5 rfl (lv_at hl 0 rfl) ?_
    refine g_get (cx := r) K hS lF_X5_13 (hr.1 _) hr.2.2.1 rfl dX5_store_6 ?_
    refine g_alen (cx := (r + 1)) (t0 := 0) (v := (Int32.ofNat L)) K hS (hr.2.1 _) hr.2.2.2 rfl rfl dX5_store_9 ?_
    refine lv_icmp_ge (tgt := 20) hx hb dX5_store_10 (by decide) (fun c2 => ?_) (fun c2 => ?_)
    · have hf := gIf_t c2 hf
      exact g_vret K hS hf dX5_store_20
    · have hf := gIf_f c2 hf
      refine lv_aload_n hx hb dX5_store_13 rfl (lv_at hl 0 rfl) ?_
      refine g_get (cx := r) K hS lF_X5_13 (hr.1 _) hr.2.2.1 rfl dX5_store_14 ?_
      refine lv_iload_n hx hb dX5_store_17 rfl (lv_at hl 1 rfl) ?_
      refine lv_iload_n hx hb dX5_store_18 rfl (lv_at hl 2 rfl) ?_
      obtain ⟨h4, hf⟩ := gGd_some hf
      obtain ⟨s3, hs3, hf⟩ := gLet_some hf
      refine g_iast (cx := (r + 1)) K hS hr.2.1 hr.2.2.2 h4 rfl dX5_store_19 (fun H locs hS => ?_)
      rw [← hs3] at hS
      exact g_vret K hS hf dX5_store_20
abbrev rmX5_increase : Room := { frames := 1, cells := 0, slots := 0, locals := 22 }
def f_X5_increase (r L : Nat) (p0 : Int32) (σ : gS) : Option (gS) := Option.bind (f_X5_at r L p0 σ) (fun q1 => Option.bind (f_X5_store r L p0 (q1.1 + 1) q1.2) (fun q2 => some q2))
set_option maxHeartbeats 4000000 in
set_option maxRecDepth 100000 in
theorem c_X5_increase (r L : Nat) (hr : gRow G o r L) (p0 : Int32) (σ : gS) (q : gS) (hf : f_X5_increase r L p0 σ = some q) : Met l yX5_increase (gW yX5_increase cX5_increase 2 none) rmX5_increase (gPc G (entX G o) o 302 [.ref (o + r), .int p0] σ) (gQv G (entX G o) o 302 q) 0 0 (gA o 302) := by
  refine g_met (by decide) ⟨rfl, rfl⟩ (fun p e s m args below meth c ls K hS hl => ?_) (Nat.le_of_ble_eq_true rfl)
  have K : gK p s m args meth c G cX5_increase 2 RX5 none := K
  have hl : lv_has ls 2 [(0, .ref (o + r)), (1, .int p0)] := hl
  obtain ⟨hx, hb, hml, hown, hts, -⟩ := id K
  unfold f_X5_increase at hf
  refine lv_aload_n hx hb dX5_increase_0 rfl (lv_at hl 0 rfl) ?_
  refine lv_iload_n hx hb dX5_increase_1 rfl (lv_at hl 1 rfl) ?_
  refine lv_aload_n hx hb dX5_increase_2 rfl (lv_at hl 0 rfl) ?_
  refine lv_iload_n hx hb dX5_increase_3 rfl (lv_at hl 1 rfl) ?_
  obtain ⟨q1, hq1, hf⟩ := Option.bind_eq_some_iff.mp hf
  refine g_Vi (cx := r) (As := [.int p0]) K hS lV_X5_19 (c_X5_at r L hr p0 σ q1 hq1) (hr.1 _) hr.2.2.1 rfl rfl rfl (Nat.le_of_ble_eq_true rfl) ⟨⟨Nat.le_of_ble_eq_true rfl, Nat.le_of_ble_eq_true rfl⟩, rfl, rfl⟩ hl.1 ⟨Nat.zero_le _, Nat.zero_le _⟩ dX5_increase_4 (fun H locs hS => ?_)
  refine lv_iconst (v := 1) hx hb dX5_increase_7 (by decide) ?_
  refine lv_iadd hx hb dX5_increase_8 ?_
  obtain ⟨q2, hq2, hf⟩ := Option.bind_eq_some_iff.mp hf
  refine g_Vv (cx := r) (As := [.int p0, .int (q1.1 + 1)]) K hS lV_X5_23 (c_X5_store r L hr p0 (q1.1 + 1) q1.2 q2 hq2) (hr.1 _) hr.2.2.1 rfl rfl rfl (Nat.le_of_ble_eq_true rfl) ⟨⟨Nat.le_of_ble_eq_true rfl, Nat.le_of_ble_eq_true rfl⟩, rfl, rfl⟩ hl.1 ⟨Nat.zero_le _, Nat.zero_le _⟩ dX5_increase_9 (fun H locs hS => ?_)
  exact g_vret K hS hf dX5_increase_12
abbrev rmX7_wake : Room := { frames := 2, cells := 0, slots := 0, locals := 43 }
def f_X7_wake (p0 : Int32) (p1 : Int32) (σ : gS) : Option (gS) := Option.bind (f_X5_at 29 5 p0 σ) (fun q1 => gLet (fun (s2 : gS) => Option.bind (f_X5_store 29 5 p0 p1 s2) (fun q4 => some q4)) (fun J3 => if q1.1 = 0 then (Option.bind (f_X5_increase 31 5 p0 q1.2) (fun q6 => J3 q6)) else (J3 q1.2)))
set_option maxHeartbeats 4000000 in
set_option maxRecDepth 100000 in
theorem c_X7_wake (p0 : Int32) (p1 : Int32) (σ : gS) (q : gS) (hf : f_X7_wake p0 p1 σ = some q) : Met l yX7_wake (gW yX7_wake cX7_wake 3 none) rmX7_wake (gPc G (entX G o) o 302 [.ref (o + 24), .int p0, .int p1] σ) (gQv G (entX G o) o 302 q) 0 0 (gA o 302) := by
  refine g_met (by decide) ⟨rfl, rfl⟩ (fun p e s m args below meth c ls K hS hl => ?_) (Nat.le_of_ble_eq_true rfl)
  have K : gK p s m args meth c G cX7_wake 3 RX7 none := K
  have hl : lv_has ls 3 [(0, .ref (o + 24)), (1, .int p0), (2, .int p1)] := hl
  obtain ⟨hx, hb, hml, hown, hts, -⟩ := id K
  unfold f_X7_wake at hf
  refine lv_aload_n hx hb dX7_wake_0 rfl (lv_at hl 0 rfl) ?_
  refine g_get (cx := 24) K hS lF_X7_23 ((eX_24 G o) _) (by decide) rfl dX7_wake_1 ?_
  refine lv_iload_n hx hb dX7_wake_4 rfl (lv_at hl 1 rfl) ?_
  obtain ⟨q1, hq1, hf⟩ := Option.bind_eq_some_iff.mp hf
  refine g_Vi (cx := 29) (As := [.int p0]) K hS lV_X7_45 (c_X5_at 29 5 (gRow_29 G o) p0 σ q1 hq1) ((eX_29 G o) _) (by decide) rfl rfl rfl (Nat.le_of_ble_eq_true rfl) ⟨⟨Nat.le_of_ble_eq_true rfl, Nat.le_of_ble_eq_true rfl⟩, rfl, rfl⟩ hl.1 ⟨Nat.zero_le _, Nat.zero_le _⟩ dX7_wake_5 (fun H locs hS => ?_)
  obtain ⟨J3, hJ3, hf⟩ := gLet_some hf
  have wJ3 : ∀  (s2 : gS), J3  s2 = some q → ∀ (H : Heap) (locs : List Loc) (ls : Array Slot), gSt G (entX G o) o 302 s s2 H locs → lv_has ls 3 [(0, .ref (o + 24)), (1, .int p0), (2, .int p1)] → W p l e rmX7_wake s m args below meth c H locs 0 0 (MQ below (gQv G (entX G o) o 302 q) args s 0 0 (gA o 302)) (F0 m 19 ls []) := by
    intro  s2 hf H locs ls hS hl
    rw [hJ3] at hf
    refine lv_aload_n hx hb dX7_wake_19 rfl (lv_at hl 0 rfl) ?_
    refine g_get (cx := 24) K hS lF_X7_23 ((eX_24 G o) _) (by decide) rfl dX7_wake_20 ?_
    refine lv_iload_n hx hb dX7_wake_23 rfl (lv_at hl 1 rfl) ?_
    refine lv_iload_n hx hb dX7_wake_24 rfl (lv_at hl 2 rfl) ?_
    obtain ⟨q4, hq4, hf⟩ := Option.bind_eq_some_iff.mp hf
    refine g_Vv (cx := 29) (As := [.int p0, .int p1]) K hS lV_X7_41 (c_X5_store 29 5 (gRow_29 G o) p0 p1 s2 q4 hq4) ((eX_29 G o) _) (by decide) rfl rfl rfl (Nat.le_of_ble_eq_true rfl) ⟨⟨Nat.le_of_ble_eq_true rfl, Nat.le_of_ble_eq_true rfl⟩, rfl, rfl⟩ hl.1 ⟨Nat.zero_le _, Nat.zero_le _⟩ dX7_wake_25 (fun H locs hS => ?_)
    exact g_vret K hS hf dX7_wake_28
  clear hJ3
  refine lv_if_ne (tgt := 19) hx hb dX7_wake_8 (by decide) (fun c5 => ?_) (fun c5 => ?_)
  · have hf := gIf_f c5 hf
    exact wJ3  q1.2 hf _ _ _ hS (lv_sub hl [0, 1, 2] rfl)
  · have hf := gIf_t c5 hf
    refine lv_aload_n hx hb dX7_wake_11 rfl (lv_at hl 0 rfl) ?_
    refine g_get (cx := 24) K hS lF_X7_26 ((eX_24 G o) _) (by decide) rfl dX7_wake_12 ?_
    refine lv_iload_n hx hb dX7_wake_15 rfl (lv_at hl 1 rfl) ?_
    obtain ⟨q6, hq6, hf⟩ := Option.bind_eq_some_iff.mp hf
    refine g_Vv (cx := 31) (As := [.int p0]) K hS lV_X7_49 (c_X5_increase 31 5 (gRow_31 G o) p0 q1.2 q6 hq6) ((eX_31 G o) _) (by decide) rfl rfl rfl (Nat.le_of_ble_eq_true rfl) ⟨⟨Nat.le_of_ble_eq_true rfl, Nat.le_of_ble_eq_true rfl⟩, rfl, rfl⟩ hl.1 ⟨Nat.zero_le _, Nat.zero_le _⟩ dX7_wake_16 (fun H locs hS => ?_)
    exact wJ3  q6 hf _ _ _ hS (lv_sub hl [0, 1, 2] rfl)
abbrev rmX0_letCreak : Room := { frames := 4, cells := 0, slots := 0, locals := 93 }
def f_X0_letCreak_L15 (w1 : Int32) : Nat → Int32 → Int32 → gS → Option (Int32 × gS)
  | 0, _, _, _ => none
  | n + 1, v2, v3, σ => if (σ 24 0) ≤ v3 then (some (v2, σ)) else (Option.bind (f_X5_at 25 5 v3 σ) (fun q3 => Option.bind (f_X1_loudnessIn q3.1 w1 q3.2) (fun q4 => Option.bind (f_X5_at 27 5 v3 q4.2) (fun q5 => if q4.1 < q5.1 then (f_X0_letCreak_L15 w1 n v2 (v3 + 1) q5.2) else (Option.bind (f_X5_at 2 2 1 q5.2) (fun q7 => Option.bind (f_X7_wake v3 q7.1 q7.2) (fun q8 => gLet (v2 ||| (1 <<< (v3 &&& 31))) (fun x9 => f_X0_letCreak_L15 w1 n x9 (v3 + 1) q8))))))))
theorem f_X0_letCreak_L15_s (w1 : Int32) (n : Nat) (v2 : Int32) (v3 : Int32) (σ : gS) : f_X0_letCreak_L15 w1 (n + 1) v2 v3 σ = (if (σ 24 0) ≤ v3 then (some (v2, σ)) else (Option.bind (f_X5_at 25 5 v3 σ) (fun q3 => Option.bind (f_X1_loudnessIn q3.1 w1 q3.2) (fun q4 => Option.bind (f_X5_at 27 5 v3 q4.2) (fun q5 => if q4.1 < q5.1 then (f_X0_letCreak_L15 w1 n v2 (v3 + 1) q5.2) else (Option.bind (f_X5_at 2 2 1 q5.2) (fun q7 => Option.bind (f_X7_wake v3 q7.1 q7.2) (fun q8 => gLet (v2 ||| (1 <<< (v3 &&& 31))) (fun x9 => f_X0_letCreak_L15 w1 n x9 (v3 + 1) q8))))))))) := rfl
def f_X0_letCreak (p0 : Int32) (σ : gS) : Option (Int32 × gS) := Option.bind (f_X5_increase 15 20 p0 σ) (fun q1 => f_X0_letCreak_L15 p0 gFu 0 0 q1)
set_option maxHeartbeats 4000000 in
set_option maxRecDepth 100000 in
theorem w_X0_letCreak_L15 (w1 : Int32) {q : Int32 × gS} (K : gK p s m args meth c G cX0_letCreak 5 RX0 (some .int)) : ∀ (n : Nat) (v2 : Int32) (v3 : Int32) (σ : gS), f_X0_letCreak_L15 w1 n v2 v3 σ = some q → ∀ (H : Heap) (locs : List Loc) (ls : Array Slot), gSt G (entX G o) o 302 s σ H locs → lv_has ls 5 [(0, .ref (o + 1)), (1, .int w1), (2, .int v2), (3, .int v3)] → W p l e rmX0_letCreak s m args below meth c H locs 0 0 (MQ below (gQi G (entX G o) o 302 q) args s 0 0 (gA o 302)) (F0 m 15 ls []) := by
  obtain ⟨hx, hb, hml, hown, hts, -⟩ := id K
  intro n
  induction n with
  | zero =>
    intro v2 v3 σ hf
    exact absurd (show (none : Option _) = some q from hf) (by simp)
  | succ n ih =>
    intro v2 v3 σ hf H locs ls hS hl
    rw [f_X0_letCreak_L15_s] at hf
    refine lv_iload_n hx hb dX0_letCreak_15 rfl (lv_at hl 3 rfl) ?_
    refine lv_aload_n hx hb dX0_letCreak_16 rfl (lv_at hl 0 rfl) ?_
    refine g_get (cx := 1) K hS lF_X0_37 ((eX_1 G o) _) (by decide) rfl dX0_letCreak_17 ?_
    refine g_get (cx := 24) K hS lF_X0_120 ((eX_24 G o) _) (by decide) rfl dX0_letCreak_20 ?_
    refine lv_icmp_ge (tgt := 91) hx hb dX0_letCreak_23 (by decide) (fun c2 => ?_) (fun c2 => ?_)
    · have hf := gIf_t c2 hf
      refine lv_iload_n hx hb dX0_letCreak_91 rfl (lv_at hl 2 rfl) ?_
      exact g_iret K hS hf dX0_letCreak_92
    · have hf := gIf_f c2 hf
      refine lv_aload_n hx hb dX0_letCreak_26 rfl (lv_at hl 0 rfl) ?_
      refine g_get (cx := 1) K hS lF_X0_23 ((eX_1 G o) _) (by decide) rfl dX0_letCreak_27 ?_
      refine lv_aload_n hx hb dX0_letCreak_30 rfl (lv_at hl 0 rfl) ?_
      refine g_get (cx := 1) K hS lF_X0_37 ((eX_1 G o) _) (by decide) rfl dX0_letCreak_31 ?_
      refine g_get (cx := 24) K hS lF_X0_104 ((eX_24 G o) _) (by decide) rfl dX0_letCreak_34 ?_
      refine lv_iload_n hx hb dX0_letCreak_37 rfl (lv_at hl 3 rfl) ?_
      obtain ⟨q3, hq3, hf⟩ := Option.bind_eq_some_iff.mp hf
      refine g_Vi (cx := 25) (As := [.int v3]) K hS lV_X0_65 (c_X5_at 25 5 (gRow_25 G o) v3 σ q3 hq3) ((eX_25 G o) _) (by decide) rfl rfl rfl (Nat.le_of_ble_eq_true rfl) ⟨⟨Nat.le_of_ble_eq_true rfl, Nat.le_of_ble_eq_true rfl⟩, rfl, rfl⟩ hl.1 ⟨Nat.zero_le _, Nat.zero_le _⟩ dX0_letCreak_38 (fun H locs hS => ?_)
      refine lv_iload_n hx hb dX0_letCreak_41 rfl (lv_at hl 1 rfl) ?_
      obtain ⟨q4, hq4, hf⟩ := Option.bind_eq_some_iff.mp hf
      refine g_Vi (cx := 4) (As := [.int q3.1, .int w1]) K hS lV_X0_108 (c_X1_loudnessIn q3.1 w1 q3.2 q4 hq4) ((eX_4 G o) _) (by decide) rfl rfl rfl (Nat.le_of_ble_eq_true rfl) ⟨⟨Nat.le_of_ble_eq_true rfl, Nat.le_of_ble_eq_true rfl⟩, rfl, rfl⟩ hl.1 ⟨Nat.zero_le _, Nat.zero_le _⟩ dX0_letCreak_42 (fun H locs hS => ?_)
      refine lv_istore (lv' := [(4, .int q4.1), (0, .ref (o + 1)), (1, .int w1), (2, .int v2), (3, .int v3)]) hx hb dX0_letCreak_45 hl (by decide) rfl (fun ls hl => ?_)
      refine lv_iload hx hb dX0_letCreak_47 (lv_at hl 0 rfl) ?_
      refine lv_aload_n hx hb dX0_letCreak_49 rfl (lv_at hl 1 rfl) ?_
      refine g_get (cx := 1) K hS lF_X0_37 ((eX_1 G o) _) (by decide) rfl dX0_letCreak_50 ?_
      refine g_get (cx := 24) K hS lF_X0_111 ((eX_24 G o) _) (by decide) rfl dX0_letCreak_53 ?_
      refine lv_iload_n hx hb dX0_letCreak_56 rfl (lv_at hl 4 rfl) ?_
      obtain ⟨q5, hq5, hf⟩ := Option.bind_eq_some_iff.mp hf
      refine g_Vi (cx := 27) (As := [.int v3]) K hS lV_X0_65 (c_X5_at 27 5 (gRow_27 G o) v3 q4.2 q5 hq5) ((eX_27 G o) _) (by decide) rfl rfl rfl (Nat.le_of_ble_eq_true rfl) ⟨⟨Nat.le_of_ble_eq_true rfl, Nat.le_of_ble_eq_true rfl⟩, rfl, rfl⟩ hl.1 ⟨Nat.zero_le _, Nat.zero_le _⟩ dX0_letCreak_57 (fun H locs hS => ?_)
      refine lv_icmp_lt (tgt := 85) hx hb dX0_letCreak_60 (by decide) (fun c6 => ?_) (fun c6 => ?_)
      · have hf := gIf_t c6 hf
        refine lv_iinc (v := (v3 + 1)) (lv' := [(3, .int (v3 + 1)), (4, .int q4.1), (0, .ref (o + 1)), (1, .int w1), (2, .int v2)]) hx hb dX0_letCreak_85 hl (k := 4) rfl rfl (by decide) rfl (fun ls hl => ?_)
        refine lv_goto (tgt := 15) hx hb dX0_letCreak_88 (by decide) ?_
        exact ih v2 (v3 + 1) q5.2 hf _ _ _ hS (lv_sub hl [2, 3, 4, 0] rfl)
      · have hf := gIf_f c6 hf
        refine lv_aload_n hx hb dX0_letCreak_63 rfl (lv_at hl 1 rfl) ?_
        refine g_get (cx := 1) K hS lF_X0_37 ((eX_1 G o) _) (by decide) rfl dX0_letCreak_64 ?_
        refine lv_iload_n hx hb dX0_letCreak_67 rfl (lv_at hl 4 rfl) ?_
        refine lv_aload_n hx hb dX0_letCreak_68 rfl (lv_at hl 1 rfl) ?_
        refine g_get (cx := 1) K hS lF_X0_14 ((eX_1 G o) _) (by decide) rfl dX0_letCreak_69 ?_
        refine lv_iconst (v := 1) hx hb dX0_letCreak_72 (by decide) ?_
        obtain ⟨q7, hq7, hf⟩ := Option.bind_eq_some_iff.mp hf
        refine g_Vi (cx := 2) (As := [.int 1]) K hS lV_X0_65 (c_X5_at 2 2 (gRow_2 G o) 1 q5.2 q7 hq7) ((eX_2 G o) _) (by decide) rfl rfl rfl (Nat.le_of_ble_eq_true rfl) ⟨⟨Nat.le_of_ble_eq_true rfl, Nat.le_of_ble_eq_true rfl⟩, rfl, rfl⟩ hl.1 ⟨Nat.zero_le _, Nat.zero_le _⟩ dX0_letCreak_73 (fun H locs hS => ?_)
        obtain ⟨q8, hq8, hf⟩ := Option.bind_eq_some_iff.mp hf
        refine g_Vv (cx := 24) (As := [.int v3, .int q7.1]) K hS lV_X0_123 (c_X7_wake v3 q7.1 q7.2 q8 hq8) ((eX_24 G o) _) (by decide) rfl rfl rfl (Nat.le_of_ble_eq_true rfl) ⟨⟨Nat.le_of_ble_eq_true rfl, Nat.le_of_ble_eq_true rfl⟩, rfl, rfl⟩ hl.1 ⟨Nat.zero_le _, Nat.zero_le _⟩ dX0_letCreak_76 (fun H locs hS => ?_)
        refine lv_iload_n hx hb dX0_letCreak_79 rfl (lv_at hl 3 rfl) ?_
        refine lv_iconst (v := 1) hx hb dX0_letCreak_80 (by decide) ?_
        refine lv_iload_n hx hb dX0_letCreak_81 rfl (lv_at hl 4 rfl) ?_
        refine lv_ishl hx hb dX0_letCreak_82 ?_
        refine lv_ior hx hb dX0_letCreak_83 ?_
        obtain ⟨x9, hx9, hf⟩ := gLet_some hf
        refine g_top hx9 ?_
        refine lv_istore_n (lv' := [(2, .int x9), (4, .int q4.1), (0, .ref (o + 1)), (1, .int w1), (3, .int v3)]) hx hb dX0_letCreak_84 rfl hl (by decide) rfl (fun ls hl => ?_)
        refine lv_iinc (v := (v3 + 1)) (lv' := [(3, .int (v3 + 1)), (2, .int x9), (4, .int q4.1), (0, .ref (o + 1)), (1, .int w1)]) hx hb dX0_letCreak_85 hl (k := 4) rfl rfl (by decide) rfl (fun ls hl => ?_)
        refine lv_goto (tgt := 15) hx hb dX0_letCreak_88 (by decide) ?_
        exact ih x9 (v3 + 1) q8 hf _ _ _ hS (lv_sub hl [3, 4, 1, 0] rfl)
set_option maxHeartbeats 4000000 in
set_option maxRecDepth 100000 in
theorem c_X0_letCreak (p0 : Int32) (σ : gS) (q : Int32 × gS) (hf : f_X0_letCreak p0 σ = some q) : Met l yX0_letCreak (gW yX0_letCreak cX0_letCreak 5 (some .int)) rmX0_letCreak (gPc G (entX G o) o 302 [.ref (o + 1), .int p0] σ) (gQi G (entX G o) o 302 q) 0 0 (gA o 302) := by
  refine g_met (by decide) ⟨rfl, rfl⟩ (fun p e s m args below meth c ls K hS hl => ?_) (Nat.le_of_ble_eq_true rfl)
  have K : gK p s m args meth c G cX0_letCreak 5 RX0 (some .int) := K
  have hl : lv_has ls 5 [(0, .ref (o + 1)), (1, .int p0)] := hl
  obtain ⟨hx, hb, hml, hown, hts, -⟩ := id K
  unfold f_X0_letCreak at hf
  refine lv_aload_n hx hb dX0_letCreak_0 rfl (lv_at hl 0 rfl) ?_
  refine g_get (cx := 1) K hS lF_X0_23 ((eX_1 G o) _) (by decide) rfl dX0_letCreak_1 ?_
  refine g_get (cx := 4) K hS lF_X0_114 ((eX_4 G o) _) (by decide) rfl dX0_letCreak_4 ?_
  refine lv_iload_n hx hb dX0_letCreak_7 rfl (lv_at hl 1 rfl) ?_
  obtain ⟨q1, hq1, hf⟩ := Option.bind_eq_some_iff.mp hf
  refine g_Vv (cx := 15) (As := [.int p0]) K hS lV_X0_117 (c_X5_increase 15 20 (gRow_15 G o) p0 σ q1 hq1) ((eX_15 G o) _) (by decide) rfl rfl rfl (Nat.le_of_ble_eq_true rfl) ⟨⟨Nat.le_of_ble_eq_true rfl, Nat.le_of_ble_eq_true rfl⟩, rfl, rfl⟩ hl.1 ⟨Nat.zero_le _, Nat.zero_le _⟩ dX0_letCreak_8 (fun H locs hS => ?_)
  refine lv_iconst (v := 0) hx hb dX0_letCreak_11 (by decide) ?_
  refine lv_istore_n (lv' := [(2, .int 0), (0, .ref (o + 1)), (1, .int p0)]) hx hb dX0_letCreak_12 rfl hl (by decide) rfl (fun ls hl => ?_)
  refine lv_iconst (v := 0) hx hb dX0_letCreak_13 (by decide) ?_
  refine lv_istore_n (lv' := [(3, .int 0), (2, .int 0), (0, .ref (o + 1)), (1, .int p0)]) hx hb dX0_letCreak_14 rfl hl (by decide) rfl (fun ls hl => ?_)
  refine w_X0_letCreak_L15 p0 K gFu 0 0 q1 hf _ _ _ hS (lv_sub hl [2, 3, 1, 0] rfl)
abbrev rmX7_tire : Room := { frames := 1, cells := 0, slots := 0, locals := 22 }
def f_X7_tire_L2 (w1 : Int32) : Nat → Int32 → gS → Option (gS)
  | 0, _, _ => none
  | n + 1, v2, σ => if (σ 24 0) ≤ v2 then (some σ) else (Option.bind (f_X5_at 29 5 v2 σ) (fun q2 => Option.bind (f_X5_store 29 5 v2 (if (q2.1 - w1) < 0 then 0 else (q2.1 - w1)) q2.2) (fun q3 => f_X7_tire_L2 w1 n (v2 + 1) q3)))
theorem f_X7_tire_L2_s (w1 : Int32) (n : Nat) (v2 : Int32) (σ : gS) : f_X7_tire_L2 w1 (n + 1) v2 σ = (if (σ 24 0) ≤ v2 then (some σ) else (Option.bind (f_X5_at 29 5 v2 σ) (fun q2 => Option.bind (f_X5_store 29 5 v2 (if (q2.1 - w1) < 0 then 0 else (q2.1 - w1)) q2.2) (fun q3 => f_X7_tire_L2 w1 n (v2 + 1) q3)))) := rfl
def f_X7_tire (p0 : Int32) (σ : gS) : Option (gS) := f_X7_tire_L2 p0 gFu 0 σ
set_option maxHeartbeats 4000000 in
set_option maxRecDepth 100000 in
theorem w_X7_tire_L2 (w1 : Int32) {q : gS} (K : gK p s m args meth c G cX7_tire 3 RX7 none) : ∀ (n : Nat) (v2 : Int32) (σ : gS), f_X7_tire_L2 w1 n v2 σ = some q → ∀ (H : Heap) (locs : List Loc) (ls : Array Slot), gSt G (entX G o) o 302 s σ H locs → lv_has ls 3 [(0, .ref (o + 24)), (1, .int w1), (2, .int v2)] → W p l e rmX7_tire s m args below meth c H locs 0 0 (MQ below (gQv G (entX G o) o 302 q) args s 0 0 (gA o 302)) (F0 m 2 ls []) := by
  obtain ⟨hx, hb, hml, hown, hts, -⟩ := id K
  intro n
  induction n with
  | zero =>
    intro v2 σ hf
    exact absurd (show (none : Option _) = some q from hf) (by simp)
  | succ n ih =>
    intro v2 σ hf H locs ls hS hl
    rw [f_X7_tire_L2_s] at hf
    refine lv_iload_n hx hb dX7_tire_2 rfl (lv_at hl 2 rfl) ?_
    refine lv_aload_n hx hb dX7_tire_3 rfl (lv_at hl 0 rfl) ?_
    refine g_get (cx := 24) K hS lF_X7_29 ((eX_24 G o) _) (by decide) rfl dX7_tire_4 ?_
    refine lv_icmp_ge (tgt := 38) hx hb dX7_tire_7 (by decide) (fun c1 => ?_) (fun c1 => ?_)
    · have hf := gIf_t c1 hf
      exact g_vret K hS hf dX7_tire_38
    · have hf := gIf_f c1 hf
      refine lv_aload_n hx hb dX7_tire_10 rfl (lv_at hl 0 rfl) ?_
      refine g_get (cx := 24) K hS lF_X7_23 ((eX_24 G o) _) (by decide) rfl dX7_tire_11 ?_
      refine lv_iload_n hx hb dX7_tire_14 rfl (lv_at hl 2 rfl) ?_
      refine lv_aload_n hx hb dX7_tire_15 rfl (lv_at hl 0 rfl) ?_
      refine g_get (cx := 24) K hS lF_X7_23 ((eX_24 G o) _) (by decide) rfl dX7_tire_16 ?_
      refine lv_iload_n hx hb dX7_tire_19 rfl (lv_at hl 2 rfl) ?_
      obtain ⟨q2, hq2, hf⟩ := Option.bind_eq_some_iff.mp hf
      refine g_Vi (cx := 29) (As := [.int v2]) K hS lV_X7_45 (c_X5_at 29 5 (gRow_29 G o) v2 σ q2 hq2) ((eX_29 G o) _) (by decide) rfl rfl rfl (Nat.le_of_ble_eq_true rfl) ⟨⟨Nat.le_of_ble_eq_true rfl, Nat.le_of_ble_eq_true rfl⟩, rfl, rfl⟩ hl.1 ⟨Nat.zero_le _, Nat.zero_le _⟩ dX7_tire_20 (fun H locs hS => ?_)
      refine lv_iload_n hx hb dX7_tire_23 rfl (lv_at hl 1 rfl) ?_
      refine lv_isub hx hb dX7_tire_24 ?_
      refine lv_iconst (v := 0) hx hb dX7_tire_25 (by decide) ?_
      refine g_mmax K hl.1 (gmem 464 (by decide +kernel) rfl) q_static_max q_init_Math q_code_max (Nat.le_of_ble_eq_true rfl) (Nat.le_of_ble_eq_true rfl) (Nat.zero_le _) (Nat.zero_le _) dX7_tire_26 ?_
      obtain ⟨q3, hq3, hf⟩ := Option.bind_eq_some_iff.mp hf
      refine g_Vv (cx := 29) (As := [.int v2, .int (if (q2.1 - w1) < 0 then 0 else (q2.1 - w1))]) K hS lV_X7_41 (c_X5_store 29 5 (gRow_29 G o) v2 (if (q2.1 - w1) < 0 then 0 else (q2.1 - w1)) q2.2 q3 hq3) ((eX_29 G o) _) (by decide) rfl rfl rfl (Nat.le_of_ble_eq_true rfl) ⟨⟨Nat.le_of_ble_eq_true rfl, Nat.le_of_ble_eq_true rfl⟩, rfl, rfl⟩ hl.1 ⟨Nat.zero_le _, Nat.zero_le _⟩ dX7_tire_29 (fun H locs hS => ?_)
      refine lv_iinc (v := (v2 + 1)) (lv' := [(2, .int (v2 + 1)), (0, .ref (o + 24)), (1, .int w1)]) hx hb dX7_tire_32 hl (k := 2) rfl rfl (by decide) rfl (fun ls hl => ?_)
      refine lv_goto (tgt := 2) hx hb dX7_tire_35 (by decide) ?_
      exact ih (v2 + 1) q3 hf _ _ _ hS (lv_sub hl [1, 2, 0] rfl)
set_option maxHeartbeats 4000000 in
set_option maxRecDepth 100000 in
theorem c_X7_tire (p0 : Int32) (σ : gS) (q : gS) (hf : f_X7_tire p0 σ = some q) : Met l yX7_tire (gW yX7_tire cX7_tire 3 none) rmX7_tire (gPc G (entX G o) o 302 [.ref (o + 24), .int p0] σ) (gQv G (entX G o) o 302 q) 0 0 (gA o 302) := by
  refine g_met (by decide) ⟨rfl, rfl⟩ (fun p e s m args below meth c ls K hS hl => ?_) (Nat.le_of_ble_eq_true rfl)
  have K : gK p s m args meth c G cX7_tire 3 RX7 none := K
  have hl : lv_has ls 3 [(0, .ref (o + 24)), (1, .int p0)] := hl
  obtain ⟨hx, hb, hml, hown, hts, -⟩ := id K
  unfold f_X7_tire at hf
  refine lv_iconst (v := 0) hx hb dX7_tire_0 (by decide) ?_
  refine lv_istore_n (lv' := [(2, .int 0), (0, .ref (o + 24)), (1, .int p0)]) hx hb dX7_tire_1 rfl hl (by decide) rfl (fun ls hl => ?_)
  refine w_X7_tire_L2 p0 K gFu 0 σ hf _ _ _ hS (lv_sub hl [1, 2, 0] rfl)
abbrev rmX5_fill : Room := { frames := 0, cells := 0, slots := 0, locals := 0 }
def f_X5_fill_L2 (r L : Nat) (w1 : Int32) : Nat → Int32 → gS → Option (gS)
  | 0, _, _ => none
  | n + 1, v2, σ => if (Int32.ofNat L) ≤ v2 then (some σ) else (gGd (gin v2 L) (gLet (up2 σ (r + 1) (gil v2) w1) (fun s2 => f_X5_fill_L2 r L w1 n (v2 + 1) s2)))
theorem f_X5_fill_L2_s (r L : Nat) (w1 : Int32) (n : Nat) (v2 : Int32) (σ : gS) : f_X5_fill_L2 r L w1 (n + 1) v2 σ = (if (Int32.ofNat L) ≤ v2 then (some σ) else (gGd (gin v2 L) (gLet (up2 σ (r + 1) (gil v2) w1) (fun s2 => f_X5_fill_L2 r L w1 n (v2 + 1) s2)))) := rfl
def f_X5_fill (r L : Nat) (p0 : Int32) (σ : gS) : Option (gS) := f_X5_fill_L2 r L p0 gFu 0 σ
set_option maxHeartbeats 4000000 in
set_option maxRecDepth 100000 in
theorem w_X5_fill_L2 (r L : Nat) (hr : gRow G o r L) (w1 : Int32) {q : gS} (K : gK p s m args meth c G cX5_fill 3 RX5 none) : ∀ (n : Nat) (v2 : Int32) (σ : gS), f_X5_fill_L2 r L w1 n v2 σ = some q → ∀ (H : Heap) (locs : List Loc) (ls : Array Slot), gSt G (entX G o) o 302 s σ H locs → lv_has ls 3 [(0, .ref (o + r)), (1, .int w1), (2, .int v2)] → W p l e rmX5_fill s m args below meth c H locs 0 0 (MQ below (gQv G (entX G o) o 302 q) args s 0 0 (gA o 302)) (F0 m 2 ls []) := by
  obtain ⟨hx, hb, hml, hown, hts, -⟩ := id K
  intro n
  induction n with
  | zero =>
    intro v2 σ hf
    exact absurd (show (none : Option _) = some q from hf) (by simp)
  | succ n ih =>
    intro v2 σ hf H locs ls hS hl
    rw [f_X5_fill_L2_s] at hf
    refine lv_iload_n hx hb dX5_fill_2 rfl (lv_at hl 2 rfl) ?_
    refine lv_aload_n hx hb dX5_fill_3 rfl (lv_at hl 0 rfl) ?_
    refine g_get (cx := r) K hS lF_X5_13 (hr.1 _) hr.2.2.1 rfl dX5_fill_4 ?_
    refine g_alen (cx := (r + 1)) (t0 := 0) (v := (Int32.ofNat L)) K hS (hr.2.1 _) hr.2.2.2 rfl rfl dX5_fill_7 ?_
    refine lv_icmp_ge (tgt := 24) hx hb dX5_fill_8 (by decide) (fun c1 => ?_) (fun c1 => ?_)
    · have hf := gIf_t c1 hf
      exact g_vret K hS hf dX5_fill_24
    · have hf := gIf_f c1 hf
      refine lv_aload_n hx hb dX5_fill_11 rfl (lv_at hl 0 rfl) ?_
      refine g_get (cx := r) K hS lF_X5_13 (hr.1 _) hr.2.2.1 rfl dX5_fill_12 ?_
      refine lv_iload_n hx hb dX5_fill_15 rfl (lv_at hl 2 rfl) ?_
      refine lv_iload_n hx hb dX5_fill_16 rfl (lv_at hl 1 rfl) ?_
      obtain ⟨h3, hf⟩ := gGd_some hf
      obtain ⟨s2, hs2, hf⟩ := gLet_some hf
      refine g_iast (cx := (r + 1)) K hS hr.2.1 hr.2.2.2 h3 rfl dX5_fill_17 (fun H locs hS => ?_)
      rw [← hs2] at hS
      refine lv_iinc (v := (v2 + 1)) (lv' := [(2, .int (v2 + 1)), (0, .ref (o + r)), (1, .int w1)]) hx hb dX5_fill_18 hl (k := 2) rfl rfl (by decide) rfl (fun ls hl => ?_)
      refine lv_goto (tgt := 2) hx hb dX5_fill_21 (by decide) ?_
      exact ih (v2 + 1) s2 hf _ _ _ hS (lv_sub hl [1, 2, 0] rfl)
set_option maxHeartbeats 4000000 in
set_option maxRecDepth 100000 in
theorem c_X5_fill (r L : Nat) (hr : gRow G o r L) (p0 : Int32) (σ : gS) (q : gS) (hf : f_X5_fill r L p0 σ = some q) : Met l yX5_fill (gW yX5_fill cX5_fill 3 none) rmX5_fill (gPc G (entX G o) o 302 [.ref (o + r), .int p0] σ) (gQv G (entX G o) o 302 q) 0 0 (gA o 302) := by
  refine g_met (by decide) ⟨rfl, rfl⟩ (fun p e s m args below meth c ls K hS hl => ?_) (Nat.le_of_ble_eq_true rfl)
  have K : gK p s m args meth c G cX5_fill 3 RX5 none := K
  have hl : lv_has ls 3 [(0, .ref (o + r)), (1, .int p0)] := hl
  obtain ⟨hx, hb, hml, hown, hts, -⟩ := id K
  unfold f_X5_fill at hf
  refine lv_iconst (v := 0) hx hb dX5_fill_0 (by decide) ?_
  refine lv_istore_n (lv' := [(2, .int 0), (0, .ref (o + r)), (1, .int p0)]) hx hb dX5_fill_1 rfl hl (by decide) rfl (fun ls hl => ?_)
  refine w_X5_fill_L2 r L hr p0 K gFu 0 σ hf _ _ _ hS (lv_sub hl [1, 2, 0] rfl)
abbrev rmX0_letPass : Room := { frames := 2, cells := 0, slots := 0, locals := 44 }
def f_X0_letPass (p0 : Int32) (σ : gS) : Option (Int32 × gS) := Option.bind (f_X0_minutesBetweenBells σ) (fun q1 => gGd (gne q1.1) (Option.bind (f_X0_minutesBetweenBells q1.2) (fun q3 => gGd (gne q3.1) (gLet ((((σ 1 0) + p0) / q1.1) - ((q1.2 1 0) / q3.1)) (fun x5 => gLet (up2 q3.2 1 0 ((q3.2 1 0) + p0)) (fun s6 => gLet (up2 s6 1 1 ((s6 1 1) + x5)) (fun s8 => Option.bind (f_X7_tire p0 s8) (fun q10 => if x5 ≤ 0 then (some (x5, q10)) else (Option.bind (f_X5_fill 20 4 0 q10) (fun q12 => some (x5, q12)))))))))))
set_option maxHeartbeats 4000000 in
set_option maxRecDepth 100000 in
theorem c_X0_letPass (p0 : Int32) (σ : gS) (q : Int32 × gS) (hf : f_X0_letPass p0 σ = some q) : Met l yX0_letPass (gW yX0_letPass cX0_letPass 3 (some .int)) rmX0_letPass (gPc G (entX G o) o 302 [.ref (o + 1), .int p0] σ) (gQi G (entX G o) o 302 q) 0 0 (gA o 302) := by
  refine g_met (by decide) ⟨rfl, rfl⟩ (fun p e s m args below meth c ls K hS hl => ?_) (Nat.le_of_ble_eq_true rfl)
  have K : gK p s m args meth c G cX0_letPass 3 RX0 (some .int) := K
  have hl : lv_has ls 3 [(0, .ref (o + 1)), (1, .int p0)] := hl
  obtain ⟨hx, hb, hml, hown, hts, -⟩ := id K
  unfold f_X0_letPass at hf
  refine lv_aload_n hx hb dX0_letPass_0 rfl (lv_at hl 0 rfl) ?_
  refine g_get (cx := 1) K hS lF_X0_45 ((eX_1 G o) _) (by decide) rfl dX0_letPass_1 ?_
  refine lv_iload_n hx hb dX0_letPass_4 rfl (lv_at hl 1 rfl) ?_
  refine lv_iadd hx hb dX0_letPass_5 ?_
  refine lv_aload_n hx hb dX0_letPass_6 rfl (lv_at hl 0 rfl) ?_
  obtain ⟨q1, hq1, hf⟩ := Option.bind_eq_some_iff.mp hf
  refine g_Vi (cx := 1) (As := []) K hS lV_X0_75 (c_X0_minutesBetweenBells σ q1 hq1) ((eX_1 G o) _) (by decide) rfl rfl rfl (Nat.le_of_ble_eq_true rfl) ⟨⟨Nat.le_of_ble_eq_true rfl, Nat.le_of_ble_eq_true rfl⟩, rfl, rfl⟩ hl.1 ⟨Nat.zero_le _, Nat.zero_le _⟩ dX0_letPass_7 (fun H locs hS => ?_)
  obtain ⟨h2, hf⟩ := gGd_some hf
  refine lv_idiv hx hb dX0_letPass_10 (gne_ne h2) ?_
  refine lv_aload_n hx hb dX0_letPass_11 rfl (lv_at hl 0 rfl) ?_
  refine g_get (cx := 1) K hS lF_X0_45 ((eX_1 G o) _) (by decide) rfl dX0_letPass_12 ?_
  refine lv_aload_n hx hb dX0_letPass_15 rfl (lv_at hl 0 rfl) ?_
  obtain ⟨q3, hq3, hf⟩ := Option.bind_eq_some_iff.mp hf
  refine g_Vi (cx := 1) (As := []) K hS lV_X0_75 (c_X0_minutesBetweenBells q1.2 q3 hq3) ((eX_1 G o) _) (by decide) rfl rfl rfl (Nat.le_of_ble_eq_true rfl) ⟨⟨Nat.le_of_ble_eq_true rfl, Nat.le_of_ble_eq_true rfl⟩, rfl, rfl⟩ hl.1 ⟨Nat.zero_le _, Nat.zero_le _⟩ dX0_letPass_16 (fun H locs hS => ?_)
  obtain ⟨h4, hf⟩ := gGd_some hf
  refine lv_idiv hx hb dX0_letPass_19 (gne_ne h4) ?_
  refine lv_isub hx hb dX0_letPass_20 ?_
  obtain ⟨x5, hx5, hf⟩ := gLet_some hf
  refine g_top hx5 ?_
  refine lv_istore_n (lv' := [(2, .int x5), (0, .ref (o + 1)), (1, .int p0)]) hx hb dX0_letPass_21 rfl hl (by decide) rfl (fun ls hl => ?_)
  refine lv_aload_n hx hb dX0_letPass_22 rfl (lv_at hl 1 rfl) ?_
  refine lv_dup hx hb dX0_letPass_23 rfl ?_
  refine g_get (cx := 1) K hS lF_X0_45 ((eX_1 G o) _) (by decide) rfl dX0_letPass_24 ?_
  refine lv_iload_n hx hb dX0_letPass_27 rfl (lv_at hl 2 rfl) ?_
  refine lv_iadd hx hb dX0_letPass_28 ?_
  obtain ⟨s6, hs6, hf⟩ := gLet_some hf
  refine g_put (cx := 1) K hS lP_X0_45 (eX_1 G o) (by decide) rfl (Nat.le_of_ble_eq_true rfl) rfl rfl dX0_letPass_29 (fun H locs hS => ?_)
  rw [← hs6] at hS
  refine lv_aload_n hx hb dX0_letPass_32 rfl (lv_at hl 1 rfl) ?_
  refine lv_dup hx hb dX0_letPass_33 rfl ?_
  refine g_get (cx := 1) K hS lF_X0_49 ((eX_1 G o) _) (by decide) rfl dX0_letPass_34 ?_
  refine lv_iload_n hx hb dX0_letPass_37 rfl (lv_at hl 0 rfl) ?_
  refine lv_iadd hx hb dX0_letPass_38 ?_
  obtain ⟨s8, hs8, hf⟩ := gLet_some hf
  refine g_put (cx := 1) K hS lP_X0_49 (eX_1 G o) (by decide) rfl (Nat.le_of_ble_eq_true rfl) rfl rfl dX0_letPass_39 (fun H locs hS => ?_)
  rw [← hs8] at hS
  refine lv_aload_n hx hb dX0_letPass_42 rfl (lv_at hl 1 rfl) ?_
  refine g_get (cx := 1) K hS lF_X0_37 ((eX_1 G o) _) (by decide) rfl dX0_letPass_43 ?_
  refine lv_iload_n hx hb dX0_letPass_46 rfl (lv_at hl 2 rfl) ?_
  obtain ⟨q10, hq10, hf⟩ := Option.bind_eq_some_iff.mp hf
  refine g_Vv (cx := 24) (As := [.int p0]) K hS lV_X0_126 (c_X7_tire p0 s8 q10 hq10) ((eX_24 G o) _) (by decide) rfl rfl rfl (Nat.le_of_ble_eq_true rfl) ⟨⟨Nat.le_of_ble_eq_true rfl, Nat.le_of_ble_eq_true rfl⟩, rfl, rfl⟩ hl.1 ⟨Nat.zero_le _, Nat.zero_le _⟩ dX0_letPass_47 (fun H locs hS => ?_)
  refine lv_iload_n hx hb dX0_letPass_50 rfl (lv_at hl 0 rfl) ?_
  refine lv_if_le (tgt := 65) hx hb dX0_letPass_51 (by decide) (fun c11 => ?_) (fun c11 => ?_)
  · have hf := gIf_t c11 hf
    refine lv_iload_n hx hb dX0_letPass_65 rfl (lv_at hl 0 rfl) ?_
    exact g_iret K hS hf dX0_letPass_66
  · have hf := gIf_f c11 hf
    refine lv_aload_n hx hb dX0_letPass_54 rfl (lv_at hl 1 rfl) ?_
    refine g_get (cx := 1) K hS lF_X0_30 ((eX_1 G o) _) (by decide) rfl dX0_letPass_55 ?_
    refine g_get (cx := 17) K hS lF_X0_82 ((eX_17 G o) _) (by decide) rfl dX0_letPass_58 ?_
    refine lv_iconst (v := 0) hx hb dX0_letPass_61 (by decide) ?_
    obtain ⟨q12, hq12, hf⟩ := Option.bind_eq_some_iff.mp hf
    refine g_Vv (cx := 20) (As := [.int 0]) K hS lV_X0_129 (c_X5_fill 20 4 (gRow_20 G o) 0 q10 q12 hq12) ((eX_20 G o) _) (by decide) rfl rfl rfl (Nat.le_of_ble_eq_true rfl) ⟨⟨Nat.le_of_ble_eq_true rfl, Nat.le_of_ble_eq_true rfl⟩, rfl, rfl⟩ hl.1 ⟨Nat.zero_le _, Nat.zero_le _⟩ dX0_letPass_62 (fun H locs hS => ?_)
    refine lv_iload_n hx hb dX0_letPass_65 rfl (lv_at hl 0 rfl) ?_
    exact g_iret K hS hf dX0_letPass_66
abbrev rmX1_beyond : Room := { frames := 1, cells := 0, slots := 0, locals := 21 }
def f_X1_beyond (p0 : Int32) (p1 : Int32) (σ : gS) : Option (Int32 × gS) := Option.bind (f_X5_at 5 20 p0 σ) (fun q1 => if q1.1 = p1 then (Option.bind (f_X5_at 7 20 p0 q1.2) (fun q4 => some (q4.1, q4.2))) else (Option.bind (f_X5_at 5 20 p0 q1.2) (fun q3 => some (q3.1, q3.2))))
set_option maxHeartbeats 4000000 in
set_option maxRecDepth 100000 in
theorem c_X1_beyond (p0 : Int32) (p1 : Int32) (σ : gS) (q : Int32 × gS) (hf : f_X1_beyond p0 p1 σ = some q) : Met l yX1_beyond (gW yX1_beyond cX1_beyond 3 (some .int)) rmX1_beyond (gPc G (entX G o) o 302 [.ref (o + 4), .int p0, .int p1] σ) (gQi G (entX G o) o 302 q) 0 0 (gA o 302) := by
  refine g_met (by decide) ⟨rfl, rfl⟩ (fun p e s m args below meth c ls K hS hl => ?_) (Nat.le_of_ble_eq_true rfl)
  have K : gK p s m args meth c G cX1_beyond 3 RX1 (some .int) := K
  have hl : lv_has ls 3 [(0, .ref (o + 4)), (1, .int p0), (2, .int p1)] := hl
  obtain ⟨hx, hb, hml, hown, hts, -⟩ := id K
  unfold f_X1_beyond at hf
  refine lv_aload_n hx hb dX1_beyond_0 rfl (lv_at hl 0 rfl) ?_
  refine g_get (cx := 4) K hS lF_X1_14 ((eX_4 G o) _) (by decide) rfl dX1_beyond_1 ?_
  refine lv_iload_n hx hb dX1_beyond_4 rfl (lv_at hl 1 rfl) ?_
  obtain ⟨q1, hq1, hf⟩ := Option.bind_eq_some_iff.mp hf
  refine g_Vi (cx := 5) (As := [.int p0]) K hS lV_X1_67 (c_X5_at 5 20 (gRow_5 G o) p0 σ q1 hq1) ((eX_5 G o) _) (by decide) rfl rfl rfl (Nat.le_of_ble_eq_true rfl) ⟨⟨Nat.le_of_ble_eq_true rfl, Nat.le_of_ble_eq_true rfl⟩, rfl, rfl⟩ hl.1 ⟨Nat.zero_le _, Nat.zero_le _⟩ dX1_beyond_5 (fun H locs hS => ?_)
  refine lv_iload_n hx hb dX1_beyond_8 rfl (lv_at hl 2 rfl) ?_
  refine lv_icmp_ne (tgt := 23) hx hb dX1_beyond_9 (by decide) (fun c2 => ?_) (fun c2 => ?_)
  · have hf := gIf_f c2 hf
    refine lv_aload_n hx hb dX1_beyond_23 rfl (lv_at hl 0 rfl) ?_
    refine g_get (cx := 4) K hS lF_X1_14 ((eX_4 G o) _) (by decide) rfl dX1_beyond_24 ?_
    refine lv_iload_n hx hb dX1_beyond_27 rfl (lv_at hl 1 rfl) ?_
    obtain ⟨q3, hq3, hf⟩ := Option.bind_eq_some_iff.mp hf
    refine g_Vi (cx := 5) (As := [.int p0]) K hS lV_X1_67 (c_X5_at 5 20 (gRow_5 G o) p0 q1.2 q3 hq3) ((eX_5 G o) _) (by decide) rfl rfl rfl (Nat.le_of_ble_eq_true rfl) ⟨⟨Nat.le_of_ble_eq_true rfl, Nat.le_of_ble_eq_true rfl⟩, rfl, rfl⟩ hl.1 ⟨Nat.zero_le _, Nat.zero_le _⟩ dX1_beyond_28 (fun H locs hS => ?_)
    exact g_iret K hS hf dX1_beyond_31
  · have hf := gIf_t c2 hf
    refine lv_aload_n hx hb dX1_beyond_12 rfl (lv_at hl 0 rfl) ?_
    refine g_get (cx := 4) K hS lF_X1_20 ((eX_4 G o) _) (by decide) rfl dX1_beyond_13 ?_
    refine lv_iload_n hx hb dX1_beyond_16 rfl (lv_at hl 1 rfl) ?_
    obtain ⟨q4, hq4, hf⟩ := Option.bind_eq_some_iff.mp hf
    refine g_Vi (cx := 7) (As := [.int p0]) K hS lV_X1_67 (c_X5_at 7 20 (gRow_7 G o) p0 q1.2 q4 hq4) ((eX_7 G o) _) (by decide) rfl rfl rfl (Nat.le_of_ble_eq_true rfl) ⟨⟨Nat.le_of_ble_eq_true rfl, Nat.le_of_ble_eq_true rfl⟩, rfl, rfl⟩ hl.1 ⟨Nat.zero_le _, Nat.zero_le _⟩ dX1_beyond_17 (fun H locs hS => ?_)
    refine lv_goto (tgt := 31) hx hb dX1_beyond_20 (by decide) ?_
    exact g_iret K hS hf dX1_beyond_31
abbrev rmX2_cross : Room := { frames := 2, cells := 0, slots := 0, locals := 43 }
def f_X2_cross (p0 : Int32) (p1 : Int32) (p2 : Int32) (σ : gS) : Option (gS) := Option.bind (f_X5_store 18 4 p0 p2 σ) (fun q1 => Option.bind (f_X5_at 20 4 p0 q1) (fun q2 => Option.bind (f_X5_store 20 4 p0 (q2.1 ||| (1 <<< (p1 &&& 31))) q2.2) (fun q3 => Option.bind (f_X5_increase 22 4 p0 q3) (fun q4 => some q4))))
set_option maxHeartbeats 4000000 in
set_option maxRecDepth 100000 in
theorem c_X2_cross (p0 : Int32) (p1 : Int32) (p2 : Int32) (σ : gS) (q : gS) (hf : f_X2_cross p0 p1 p2 σ = some q) : Met l yX2_cross (gW yX2_cross cX2_cross 4 none) rmX2_cross (gPc G (entX G o) o 302 [.ref (o + 17), .int p0, .int p1, .int p2] σ) (gQv G (entX G o) o 302 q) 0 0 (gA o 302) := by
  refine g_met (by decide) ⟨rfl, rfl⟩ (fun p e s m args below meth c ls K hS hl => ?_) (Nat.le_of_ble_eq_true rfl)
  have K : gK p s m args meth c G cX2_cross 4 RX2 none := K
  have hl : lv_has ls 4 [(0, .ref (o + 17)), (1, .int p0), (2, .int p1), (3, .int p2)] := hl
  obtain ⟨hx, hb, hml, hown, hts, -⟩ := id K
  unfold f_X2_cross at hf
  refine lv_aload_n hx hb dX2_cross_0 rfl (lv_at hl 0 rfl) ?_
  refine g_get (cx := 17) K hS lF_X2_14 ((eX_17 G o) _) (by decide) rfl dX2_cross_1 ?_
  refine lv_iload_n hx hb dX2_cross_4 rfl (lv_at hl 1 rfl) ?_
  refine lv_iload_n hx hb dX2_cross_5 rfl (lv_at hl 3 rfl) ?_
  obtain ⟨q1, hq1, hf⟩ := Option.bind_eq_some_iff.mp hf
  refine g_Vv (cx := 18) (As := [.int p0, .int p2]) K hS lV_X2_38 (c_X5_store 18 4 (gRow_18 G o) p0 p2 σ q1 hq1) ((eX_18 G o) _) (by decide) rfl rfl rfl (Nat.le_of_ble_eq_true rfl) ⟨⟨Nat.le_of_ble_eq_true rfl, Nat.le_of_ble_eq_true rfl⟩, rfl, rfl⟩ hl.1 ⟨Nat.zero_le _, Nat.zero_le _⟩ dX2_cross_6 (fun H locs hS => ?_)
  refine lv_aload_n hx hb dX2_cross_9 rfl (lv_at hl 0 rfl) ?_
  refine g_get (cx := 17) K hS lF_X2_20 ((eX_17 G o) _) (by decide) rfl dX2_cross_10 ?_
  refine lv_iload_n hx hb dX2_cross_13 rfl (lv_at hl 1 rfl) ?_
  refine lv_aload_n hx hb dX2_cross_14 rfl (lv_at hl 0 rfl) ?_
  refine g_get (cx := 17) K hS lF_X2_20 ((eX_17 G o) _) (by decide) rfl dX2_cross_15 ?_
  refine lv_iload_n hx hb dX2_cross_18 rfl (lv_at hl 1 rfl) ?_
  obtain ⟨q2, hq2, hf⟩ := Option.bind_eq_some_iff.mp hf
  refine g_Vi (cx := 20) (As := [.int p0]) K hS lV_X2_30 (c_X5_at 20 4 (gRow_20 G o) p0 q1 q2 hq2) ((eX_20 G o) _) (by decide) rfl rfl rfl (Nat.le_of_ble_eq_true rfl) ⟨⟨Nat.le_of_ble_eq_true rfl, Nat.le_of_ble_eq_true rfl⟩, rfl, rfl⟩ hl.1 ⟨Nat.zero_le _, Nat.zero_le _⟩ dX2_cross_19 (fun H locs hS => ?_)
  refine lv_iconst (v := 1) hx hb dX2_cross_22 (by decide) ?_
  refine lv_iload_n hx hb dX2_cross_23 rfl (lv_at hl 2 rfl) ?_
  refine lv_ishl hx hb dX2_cross_24 ?_
  refine lv_ior hx hb dX2_cross_25 ?_
  obtain ⟨q3, hq3, hf⟩ := Option.bind_eq_some_iff.mp hf
  refine g_Vv (cx := 20) (As := [.int p0, .int (q2.1 ||| (1 <<< (p1 &&& 31)))]) K hS lV_X2_38 (c_X5_store 20 4 (gRow_20 G o) p0 (q2.1 ||| (1 <<< (p1 &&& 31))) q2.2 q3 hq3) ((eX_20 G o) _) (by decide) rfl rfl rfl (Nat.le_of_ble_eq_true rfl) ⟨⟨Nat.le_of_ble_eq_true rfl, Nat.le_of_ble_eq_true rfl⟩, rfl, rfl⟩ hl.1 ⟨Nat.zero_le _, Nat.zero_le _⟩ dX2_cross_26 (fun H locs hS => ?_)
  refine lv_aload_n hx hb dX2_cross_29 rfl (lv_at hl 0 rfl) ?_
  refine g_get (cx := 17) K hS lF_X2_23 ((eX_17 G o) _) (by decide) rfl dX2_cross_30 ?_
  refine lv_iload_n hx hb dX2_cross_33 rfl (lv_at hl 1 rfl) ?_
  obtain ⟨q4, hq4, hf⟩ := Option.bind_eq_some_iff.mp hf
  refine g_Vv (cx := 22) (As := [.int p0]) K hS lV_X2_42 (c_X5_increase 22 4 (gRow_22 G o) p0 q3 q4 hq4) ((eX_22 G o) _) (by decide) rfl rfl rfl (Nat.le_of_ble_eq_true rfl) ⟨⟨Nat.le_of_ble_eq_true rfl, Nat.le_of_ble_eq_true rfl⟩, rfl, rfl⟩ hl.1 ⟨Nat.zero_le _, Nat.zero_le _⟩ dX2_cross_34 (fun H locs hS => ?_)
  exact g_vret K hS hf dX2_cross_37
abbrev rmX0_letGlide : Room := { frames := 5, cells := 0, slots := 0, locals := 117 }
def f_X0_letGlide (p0 : Int32) (p1 : Int32) (σ : gS) : Option (Int32 × gS) := Option.bind (f_X0_letCreak p1 σ) (fun q1 => Option.bind (f_X5_at 13 20 p1 q1.2) (fun q2 => Option.bind (f_X0_letPass q2.1 q2.2) (fun q3 => Option.bind (f_X5_at 18 4 p0 q3.2) (fun q4 => Option.bind (f_X1_beyond p1 q4.1 q4.2) (fun q5 => Option.bind (f_X2_cross p0 p1 q5.1 q5.2) (fun q6 => some (q1.1, q6)))))))
set_option maxHeartbeats 4000000 in
set_option maxRecDepth 100000 in
theorem c_X0_letGlide (p0 : Int32) (p1 : Int32) (σ : gS) (q : Int32 × gS) (hf : f_X0_letGlide p0 p1 σ = some q) : Met l yX0_letGlide (gW yX0_letGlide cX0_letGlide 4 (some .int)) rmX0_letGlide (gPc G (entX G o) o 302 [.ref (o + 1), .int p0, .int p1] σ) (gQi G (entX G o) o 302 q) 0 0 (gA o 302) := by
  refine g_met (by decide) ⟨rfl, rfl⟩ (fun p e s m args below meth c ls K hS hl => ?_) (Nat.le_of_ble_eq_true rfl)
  have K : gK p s m args meth c G cX0_letGlide 4 RX0 (some .int) := K
  have hl : lv_has ls 4 [(0, .ref (o + 1)), (1, .int p0), (2, .int p1)] := hl
  obtain ⟨hx, hb, hml, hown, hts, -⟩ := id K
  unfold f_X0_letGlide at hf
  refine lv_aload_n hx hb dX0_letGlide_0 rfl (lv_at hl 0 rfl) ?_
  refine lv_iload_n hx hb dX0_letGlide_1 rfl (lv_at hl 2 rfl) ?_
  obtain ⟨q1, hq1, hf⟩ := Option.bind_eq_some_iff.mp hf
  refine g_Vi (cx := 1) (As := [.int p1]) K hS lV_X0_132 (c_X0_letCreak p1 σ q1 hq1) ((eX_1 G o) _) (by decide) rfl rfl rfl (Nat.le_of_ble_eq_true rfl) ⟨⟨Nat.le_of_ble_eq_true rfl, Nat.le_of_ble_eq_true rfl⟩, rfl, rfl⟩ hl.1 ⟨Nat.zero_le _, Nat.zero_le _⟩ dX0_letGlide_2 (fun H locs hS => ?_)
  refine lv_istore_n (lv' := [(3, .int q1.1), (0, .ref (o + 1)), (1, .int p0), (2, .int p1)]) hx hb dX0_letGlide_5 rfl hl (by decide) rfl (fun ls hl => ?_)
  refine lv_aload_n hx hb dX0_letGlide_6 rfl (lv_at hl 1 rfl) ?_
  refine lv_aload_n hx hb dX0_letGlide_7 rfl (lv_at hl 1 rfl) ?_
  refine g_get (cx := 1) K hS lF_X0_23 ((eX_1 G o) _) (by decide) rfl dX0_letGlide_8 ?_
  refine g_get (cx := 4) K hS lF_X0_135 ((eX_4 G o) _) (by decide) rfl dX0_letGlide_11 ?_
  refine lv_iload_n hx hb dX0_letGlide_14 rfl (lv_at hl 3 rfl) ?_
  obtain ⟨q2, hq2, hf⟩ := Option.bind_eq_some_iff.mp hf
  refine g_Vi (cx := 13) (As := [.int p1]) K hS lV_X0_65 (c_X5_at 13 20 (gRow_13 G o) p1 q1.2 q2 hq2) ((eX_13 G o) _) (by decide) rfl rfl rfl (Nat.le_of_ble_eq_true rfl) ⟨⟨Nat.le_of_ble_eq_true rfl, Nat.le_of_ble_eq_true rfl⟩, rfl, rfl⟩ hl.1 ⟨Nat.zero_le _, Nat.zero_le _⟩ dX0_letGlide_15 (fun H locs hS => ?_)
  obtain ⟨q3, hq3, hf⟩ := Option.bind_eq_some_iff.mp hf
  refine g_Vi (cx := 1) (As := [.int q2.1]) K hS lV_X0_137 (c_X0_letPass q2.1 q2.2 q3 hq3) ((eX_1 G o) _) (by decide) rfl rfl rfl (Nat.le_of_ble_eq_true rfl) ⟨⟨Nat.le_of_ble_eq_true rfl, Nat.le_of_ble_eq_true rfl⟩, rfl, rfl⟩ hl.1 ⟨Nat.zero_le _, Nat.zero_le _⟩ dX0_letGlide_18 (fun H locs hS => ?_)
  refine lv_pop hx hb dX0_letGlide_21 rfl ?_
  refine lv_aload_n hx hb dX0_letGlide_22 rfl (lv_at hl 1 rfl) ?_
  refine g_get (cx := 1) K hS lF_X0_30 ((eX_1 G o) _) (by decide) rfl dX0_letGlide_23 ?_
  refine lv_iload_n hx hb dX0_letGlide_26 rfl (lv_at hl 2 rfl) ?_
  refine lv_iload_n hx hb dX0_letGlide_27 rfl (lv_at hl 3 rfl) ?_
  refine lv_aload_n hx hb dX0_letGlide_28 rfl (lv_at hl 1 rfl) ?_
  refine g_get (cx := 1) K hS lF_X0_23 ((eX_1 G o) _) (by decide) rfl dX0_letGlide_29 ?_
  refine lv_iload_n hx hb dX0_letGlide_32 rfl (lv_at hl 3 rfl) ?_
  refine lv_aload_n hx hb dX0_letGlide_33 rfl (lv_at hl 1 rfl) ?_
  refine g_get (cx := 1) K hS lF_X0_30 ((eX_1 G o) _) (by decide) rfl dX0_letGlide_34 ?_
  refine g_get (cx := 17) K hS lF_X0_97 ((eX_17 G o) _) (by decide) rfl dX0_letGlide_37 ?_
  refine lv_iload_n hx hb dX0_letGlide_40 rfl (lv_at hl 2 rfl) ?_
  obtain ⟨q4, hq4, hf⟩ := Option.bind_eq_some_iff.mp hf
  refine g_Vi (cx := 18) (As := [.int p0]) K hS lV_X0_65 (c_X5_at 18 4 (gRow_18 G o) p0 q3.2 q4 hq4) ((eX_18 G o) _) (by decide) rfl rfl rfl (Nat.le_of_ble_eq_true rfl) ⟨⟨Nat.le_of_ble_eq_true rfl, Nat.le_of_ble_eq_true rfl⟩, rfl, rfl⟩ hl.1 ⟨Nat.zero_le _, Nat.zero_le _⟩ dX0_letGlide_41 (fun H locs hS => ?_)
  obtain ⟨q5, hq5, hf⟩ := Option.bind_eq_some_iff.mp hf
  refine g_Vi (cx := 4) (As := [.int p1, .int q4.1]) K hS lV_X0_140 (c_X1_beyond p1 q4.1 q4.2 q5 hq5) ((eX_4 G o) _) (by decide) rfl rfl rfl (Nat.le_of_ble_eq_true rfl) ⟨⟨Nat.le_of_ble_eq_true rfl, Nat.le_of_ble_eq_true rfl⟩, rfl, rfl⟩ hl.1 ⟨Nat.zero_le _, Nat.zero_le _⟩ dX0_letGlide_44 (fun H locs hS => ?_)
  obtain ⟨q6, hq6, hf⟩ := Option.bind_eq_some_iff.mp hf
  refine g_Vv (cx := 17) (As := [.int p0, .int p1, .int q5.1]) K hS lV_X0_143 (c_X2_cross p0 p1 q5.1 q5.2 q6 hq6) ((eX_17 G o) _) (by decide) rfl rfl rfl (Nat.le_of_ble_eq_true rfl) ⟨⟨Nat.le_of_ble_eq_true rfl, Nat.le_of_ble_eq_true rfl⟩, rfl, rfl⟩ hl.1 ⟨Nat.zero_le _, Nat.zero_le _⟩ dX0_letGlide_47 (fun H locs hS => ?_)
  refine lv_iload_n hx hb dX0_letGlide_50 rfl (lv_at hl 0 rfl) ?_
  exact g_iret K hS hf dX0_letGlide_51
abbrev rmX10_isWithin : Room := { frames := 0, cells := 0, slots := 0, locals := 0 }
def f_X10_isWithin (p0 : Int32) (p1 : Int32) (p2 : Int32) (σ : gS) : Option (Int32 × gS) := if p0 < p1 then (some (0, σ)) else (if p2 < p0 then (some (0, σ)) else (some (1, σ)))
set_option maxHeartbeats 4000000 in
set_option maxRecDepth 100000 in
theorem c_X10_isWithin (p0 : Int32) (p1 : Int32) (p2 : Int32) (σ : gS) (q : Int32 × gS) (hf : f_X10_isWithin p0 p1 p2 σ = some q) : Met l yX10_isWithin (gW yX10_isWithin cX10_isWithin 3 (some .boolean)) rmX10_isWithin (gPc G (entX G o) o 302 [.int p0, .int p1, .int p2] σ) (gQi G (entX G o) o 302 q) 0 0 (gA o 302) := by
  refine g_met (by decide) ⟨rfl, rfl⟩ (fun p e s m args below meth c ls K hS hl => ?_) (Nat.le_of_ble_eq_true rfl)
  have K : gK p s m args meth c G cX10_isWithin 3 RX10 (some .boolean) := K
  have hl : lv_has ls 3 [(0, .int p0), (1, .int p1), (2, .int p2)] := hl
  obtain ⟨hx, hb, hml, hown, hts, -⟩ := id K
  unfold f_X10_isWithin at hf
  refine lv_iload_n hx hb dX10_isWithin_0 rfl (lv_at hl 0 rfl) ?_
  refine lv_iload_n hx hb dX10_isWithin_1 rfl (lv_at hl 1 rfl) ?_
  refine lv_icmp_lt (tgt := 14) hx hb dX10_isWithin_2 (by decide) (fun c1 => ?_) (fun c1 => ?_)
  · have hf := gIf_t c1 hf
    refine lv_iconst (v := 0) hx hb dX10_isWithin_14 (by decide) ?_
    exact g_zret K hS rfl hf dX10_isWithin_15
  · have hf := gIf_f c1 hf
    refine lv_iload_n hx hb dX10_isWithin_5 rfl (lv_at hl 0 rfl) ?_
    refine lv_iload_n hx hb dX10_isWithin_6 rfl (lv_at hl 2 rfl) ?_
    refine lv_icmp_gt (tgt := 14) hx hb dX10_isWithin_7 (by decide) (fun c2 => ?_) (fun c2 => ?_)
    · have hf := gIf_t c2 hf
      refine lv_iconst (v := 0) hx hb dX10_isWithin_14 (by decide) ?_
      exact g_zret K hS rfl hf dX10_isWithin_15
    · have hf := gIf_f c2 hf
      refine lv_iconst (v := 1) hx hb dX10_isWithin_10 (by decide) ?_
      refine lv_goto (tgt := 15) hx hb dX10_isWithin_11 (by decide) ?_
      exact g_zret K hS rfl hf dX10_isWithin_15
abbrev rmX1_has : Room := { frames := 1, cells := 0, slots := 0, locals := 22 }
def f_X1_has (p0 : Int32) (σ : gS) : Option (Int32 × gS) := Option.bind (f_X10_isWithin p0 0 ((σ 4 0) - 1) σ) (fun q1 => gGd (gbo q1.1) (some (q1.1, q1.2)))
set_option maxHeartbeats 4000000 in
set_option maxRecDepth 100000 in
theorem c_X1_has (p0 : Int32) (σ : gS) (q : Int32 × gS) (hf : f_X1_has p0 σ = some q) : Met l yX1_has (gW yX1_has cX1_has 2 (some .boolean)) rmX1_has (gPc G (entX G o) o 302 [.ref (o + 4), .int p0] σ) (gQi G (entX G o) o 302 q) 0 0 (gA o 302) := by
  refine g_met (by decide) ⟨rfl, rfl⟩ (fun p e s m args below meth c ls K hS hl => ?_) (Nat.le_of_ble_eq_true rfl)
  have K : gK p s m args meth c G cX1_has 2 RX1 (some .boolean) := K
  have hl : lv_has ls 2 [(0, .ref (o + 4)), (1, .int p0)] := hl
  obtain ⟨hx, hb, hml, hown, hts, -⟩ := id K
  unfold f_X1_has at hf
  refine lv_iload_n hx hb dX1_has_0 rfl (lv_at hl 1 rfl) ?_
  refine lv_iconst (v := 0) hx hb dX1_has_1 (by decide) ?_
  refine lv_aload_n hx hb dX1_has_2 rfl (lv_at hl 0 rfl) ?_
  refine g_get (cx := 4) K hS lF_X1_35 ((eX_4 G o) _) (by decide) rfl dX1_has_3 ?_
  refine lv_iconst (v := 1) hx hb dX1_has_6 (by decide) ?_
  refine lv_isub hx hb dX1_has_7 ?_
  obtain ⟨q1, hq1, hf⟩ := Option.bind_eq_some_iff.mp hf
  refine g_Ni (As := [.int p0, .int 0, .int ((σ 4 0) - 1)]) K hS lN_X1_43 (c_X10_isWithin p0 0 ((σ 4 0) - 1) σ q1 hq1) rfl rfl (Nat.le_of_ble_eq_true rfl) ⟨⟨Nat.le_of_ble_eq_true rfl, Nat.le_of_ble_eq_true rfl⟩, rfl, rfl⟩ hl.1 ⟨Nat.zero_le _, Nat.zero_le _⟩ dX1_has_8 (fun H locs hS => ?_)
  obtain ⟨h2, hf⟩ := gGd_some hf
  exact g_zret K hS (gbo_nar h2) hf dX1_has_11
abbrev rmX1_append : Room := { frames := 1, cells := 0, slots := 0, locals := 22 }
def f_X1_append (p0 : Int32) (p1 : Int32) (p2 : Int32) (p3 : Int32) (σ : gS) : Option (gS) := if (σ 4 0) < 20 then (Option.bind (f_X5_store 5 20 (σ 4 0) (if p1 < p0 then p1 else p0) σ) (fun q2 => Option.bind (f_X5_store 7 20 (q2 4 0) (if p0 < p1 then p1 else p0) q2) (fun q3 => Option.bind (f_X5_store 9 20 (q3 4 0) ((1 <<< (p0 &&& 31)) ||| (1 <<< (p1 &&& 31))) q3) (fun q4 => Option.bind (f_X5_store 11 20 (q4 4 0) p2 q4) (fun q5 => Option.bind (f_X5_store 13 20 (q5 4 0) p3 q5) (fun q6 => Option.bind (f_X5_store 15 20 (q6 4 0) 0 q6) (fun q7 => gLet (up2 q7 4 0 ((q7 4 0) + 1)) (fun s8 => some s8)))))))) else (some σ)
set_option maxHeartbeats 4000000 in
set_option maxRecDepth 100000 in
theorem c_X1_append (p0 : Int32) (p1 : Int32) (p2 : Int32) (p3 : Int32) (σ : gS) (q : gS) (hf : f_X1_append p0 p1 p2 p3 σ = some q) : Met l yX1_append (gW yX1_append cX1_append 5 none) rmX1_append (gPc G (entX G o) o 302 [.ref (o + 4), .int p0, .int p1, .int p2, .int p3] σ) (gQv G (entX G o) o 302 q) 0 0 (gA o 302) := by
  refine g_met (by decide) ⟨rfl, rfl⟩ (fun p e s m args below meth c ls K hS hl => ?_) (Nat.le_of_ble_eq_true rfl)
  have K : gK p s m args meth c G cX1_append 5 RX1 none := K
  have hl : lv_has ls 5 [(0, .ref (o + 4)), (1, .int p0), (2, .int p1), (3, .int p2), (4, .int p3)] := hl
  obtain ⟨hx, hb, hml, hown, hts, -⟩ := id K
  unfold f_X1_append at hf
  refine lv_aload_n hx hb dX1_append_0 rfl (lv_at hl 0 rfl) ?_
  refine g_get (cx := 4) K hS lF_X1_35 ((eX_4 G o) _) (by decide) rfl dX1_append_1 ?_
  refine lv_bipush (v := 20) hx hb dX1_append_4 (by decide) ?_
  refine lv_icmp_lt (tgt := 10) hx hb dX1_append_6 (by decide) (fun c1 => ?_) (fun c1 => ?_)
  · have hf := gIf_t c1 hf
    refine lv_aload_n hx hb dX1_append_10 rfl (lv_at hl 0 rfl) ?_
    refine g_get (cx := 4) K hS lF_X1_14 ((eX_4 G o) _) (by decide) rfl dX1_append_11 ?_
    refine lv_aload_n hx hb dX1_append_14 rfl (lv_at hl 0 rfl) ?_
    refine g_get (cx := 4) K hS lF_X1_35 ((eX_4 G o) _) (by decide) rfl dX1_append_15 ?_
    refine lv_iload_n hx hb dX1_append_18 rfl (lv_at hl 1 rfl) ?_
    refine lv_iload_n hx hb dX1_append_19 rfl (lv_at hl 2 rfl) ?_
    refine g_mmin K hl.1 (gmem 341 (by decide +kernel) rfl) q_static_min q_init_Math q_code_min (Nat.le_of_ble_eq_true rfl) (Nat.le_of_ble_eq_true rfl) (Nat.zero_le _) (Nat.zero_le _) dX1_append_20 ?_
    obtain ⟨q2, hq2, hf⟩ := Option.bind_eq_some_iff.mp hf
    refine g_Vv (cx := 5) (As := [.int (σ 4 0), .int (if p1 < p0 then p1 else p0)]) K hS lV_X1_53 (c_X5_store 5 20 (gRow_5 G o) (σ 4 0) (if p1 < p0 then p1 else p0) σ q2 hq2) ((eX_5 G o) _) (by decide) rfl rfl rfl (Nat.le_of_ble_eq_true rfl) ⟨⟨Nat.le_of_ble_eq_true rfl, Nat.le_of_ble_eq_true rfl⟩, rfl, rfl⟩ hl.1 ⟨Nat.zero_le _, Nat.zero_le _⟩ dX1_append_23 (fun H locs hS => ?_)
    refine lv_aload_n hx hb dX1_append_26 rfl (lv_at hl 0 rfl) ?_
    refine g_get (cx := 4) K hS lF_X1_20 ((eX_4 G o) _) (by decide) rfl dX1_append_27 ?_
    refine lv_aload_n hx hb dX1_append_30 rfl (lv_at hl 0 rfl) ?_
    refine g_get (cx := 4) K hS lF_X1_35 ((eX_4 G o) _) (by decide) rfl dX1_append_31 ?_
    refine lv_iload_n hx hb dX1_append_34 rfl (lv_at hl 1 rfl) ?_
    refine lv_iload_n hx hb dX1_append_35 rfl (lv_at hl 2 rfl) ?_
    refine g_mmax K hl.1 (gmem 343 (by decide +kernel) rfl) q_static_max q_init_Math q_code_max (Nat.le_of_ble_eq_true rfl) (Nat.le_of_ble_eq_true rfl) (Nat.zero_le _) (Nat.zero_le _) dX1_append_36 ?_
    obtain ⟨q3, hq3, hf⟩ := Option.bind_eq_some_iff.mp hf
    refine g_Vv (cx := 7) (As := [.int (q2 4 0), .int (if p0 < p1 then p1 else p0)]) K hS lV_X1_53 (c_X5_store 7 20 (gRow_7 G o) (q2 4 0) (if p0 < p1 then p1 else p0) q2 q3 hq3) ((eX_7 G o) _) (by decide) rfl rfl rfl (Nat.le_of_ble_eq_true rfl) ⟨⟨Nat.le_of_ble_eq_true rfl, Nat.le_of_ble_eq_true rfl⟩, rfl, rfl⟩ hl.1 ⟨Nat.zero_le _, Nat.zero_le _⟩ dX1_append_39 (fun H locs hS => ?_)
    refine lv_aload_n hx hb dX1_append_42 rfl (lv_at hl 0 rfl) ?_
    refine g_get (cx := 4) K hS lF_X1_23 ((eX_4 G o) _) (by decide) rfl dX1_append_43 ?_
    refine lv_aload_n hx hb dX1_append_46 rfl (lv_at hl 0 rfl) ?_
    refine g_get (cx := 4) K hS lF_X1_35 ((eX_4 G o) _) (by decide) rfl dX1_append_47 ?_
    refine lv_iconst (v := 1) hx hb dX1_append_50 (by decide) ?_
    refine lv_iload_n hx hb dX1_append_51 rfl (lv_at hl 1 rfl) ?_
    refine lv_ishl hx hb dX1_append_52 ?_
    refine lv_iconst (v := 1) hx hb dX1_append_53 (by decide) ?_
    refine lv_iload_n hx hb dX1_append_54 rfl (lv_at hl 2 rfl) ?_
    refine lv_ishl hx hb dX1_append_55 ?_
    refine lv_ior hx hb dX1_append_56 ?_
    obtain ⟨q4, hq4, hf⟩ := Option.bind_eq_some_iff.mp hf
    refine g_Vv (cx := 9) (As := [.int (q3 4 0), .int ((1 <<< (p0 &&& 31)) ||| (1 <<< (p1 &&& 31)))]) K hS lV_X1_53 (c_X5_store 9 20 (gRow_9 G o) (q3 4 0) ((1 <<< (p0 &&& 31)) ||| (1 <<< (p1 &&& 31))) q3 q4 hq4) ((eX_9 G o) _) (by decide) rfl rfl rfl (Nat.le_of_ble_eq_true rfl) ⟨⟨Nat.le_of_ble_eq_true rfl, Nat.le_of_ble_eq_true rfl⟩, rfl, rfl⟩ hl.1 ⟨Nat.zero_le _, Nat.zero_le _⟩ dX1_append_57 (fun H locs hS => ?_)
    refine lv_aload_n hx hb dX1_append_60 rfl (lv_at hl 0 rfl) ?_
    refine g_get (cx := 4) K hS lF_X1_26 ((eX_4 G o) _) (by decide) rfl dX1_append_61 ?_
    refine lv_aload_n hx hb dX1_append_64 rfl (lv_at hl 0 rfl) ?_
    refine g_get (cx := 4) K hS lF_X1_35 ((eX_4 G o) _) (by decide) rfl dX1_append_65 ?_
    refine lv_iload_n hx hb dX1_append_68 rfl (lv_at hl 3 rfl) ?_
    obtain ⟨q5, hq5, hf⟩ := Option.bind_eq_some_iff.mp hf
    refine g_Vv (cx := 11) (As := [.int (q4 4 0), .int p2]) K hS lV_X1_53 (c_X5_store 11 20 (gRow_11 G o) (q4 4 0) p2 q4 q5 hq5) ((eX_11 G o) _) (by decide) rfl rfl rfl (Nat.le_of_ble_eq_true rfl) ⟨⟨Nat.le_of_ble_eq_true rfl, Nat.le_of_ble_eq_true rfl⟩, rfl, rfl⟩ hl.1 ⟨Nat.zero_le _, Nat.zero_le _⟩ dX1_append_69 (fun H locs hS => ?_)
    refine lv_aload_n hx hb dX1_append_72 rfl (lv_at hl 0 rfl) ?_
    refine g_get (cx := 4) K hS lF_X1_29 ((eX_4 G o) _) (by decide) rfl dX1_append_73 ?_
    refine lv_aload_n hx hb dX1_append_76 rfl (lv_at hl 0 rfl) ?_
    refine g_get (cx := 4) K hS lF_X1_35 ((eX_4 G o) _) (by decide) rfl dX1_append_77 ?_
    refine lv_iload hx hb dX1_append_80 (lv_at hl 4 rfl) ?_
    obtain ⟨q6, hq6, hf⟩ := Option.bind_eq_some_iff.mp hf
    refine g_Vv (cx := 13) (As := [.int (q5 4 0), .int p3]) K hS lV_X1_53 (c_X5_store 13 20 (gRow_13 G o) (q5 4 0) p3 q5 q6 hq6) ((eX_13 G o) _) (by decide) rfl rfl rfl (Nat.le_of_ble_eq_true rfl) ⟨⟨Nat.le_of_ble_eq_true rfl, Nat.le_of_ble_eq_true rfl⟩, rfl, rfl⟩ hl.1 ⟨Nat.zero_le _, Nat.zero_le _⟩ dX1_append_82 (fun H locs hS => ?_)
    refine lv_aload_n hx hb dX1_append_85 rfl (lv_at hl 0 rfl) ?_
    refine g_get (cx := 4) K hS lF_X1_32 ((eX_4 G o) _) (by decide) rfl dX1_append_86 ?_
    refine lv_aload_n hx hb dX1_append_89 rfl (lv_at hl 0 rfl) ?_
    refine g_get (cx := 4) K hS lF_X1_35 ((eX_4 G o) _) (by decide) rfl dX1_append_90 ?_
    refine lv_iconst (v := 0) hx hb dX1_append_93 (by decide) ?_
    obtain ⟨q7, hq7, hf⟩ := Option.bind_eq_some_iff.mp hf
    refine g_Vv (cx := 15) (As := [.int (q6 4 0), .int 0]) K hS lV_X1_53 (c_X5_store 15 20 (gRow_15 G o) (q6 4 0) 0 q6 q7 hq7) ((eX_15 G o) _) (by decide) rfl rfl rfl (Nat.le_of_ble_eq_true rfl) ⟨⟨Nat.le_of_ble_eq_true rfl, Nat.le_of_ble_eq_true rfl⟩, rfl, rfl⟩ hl.1 ⟨Nat.zero_le _, Nat.zero_le _⟩ dX1_append_94 (fun H locs hS => ?_)
    refine lv_aload_n hx hb dX1_append_97 rfl (lv_at hl 0 rfl) ?_
    refine lv_dup hx hb dX1_append_98 rfl ?_
    refine g_get (cx := 4) K hS lF_X1_35 ((eX_4 G o) _) (by decide) rfl dX1_append_99 ?_
    refine lv_iconst (v := 1) hx hb dX1_append_102 (by decide) ?_
    refine lv_iadd hx hb dX1_append_103 ?_
    obtain ⟨s8, hs8, hf⟩ := gLet_some hf
    refine g_put (cx := 4) K hS lP_X1_35 (eX_4 G o) (by decide) rfl (Nat.le_of_ble_eq_true rfl) rfl rfl dX1_append_104 (fun H locs hS => ?_)
    rw [← hs8] at hS
    exact g_vret K hS hf dX1_append_107
  · have hf := gIf_f c1 hf
    exact g_vret K hS hf dX1_append_9
abbrev rmX5_moveUpBehind : Room := { frames := 1, cells := 0, slots := 0, locals := 21 }
def f_X5_moveUpBehind_L6 (r L : Nat) : Nat → Int32 → gS → Option (gS)
  | 0, _, _ => none
  | n + 1, v2, σ => if ((Int32.ofNat L) - 1) ≤ v2 then (some σ) else (gGd (gin (v2 + 1) L) (gGd (gin v2 L) (gLet (up2 σ (r + 1) (gil v2) (σ (r + 1) (gil (v2 + 1)))) (fun s4 => f_X5_moveUpBehind_L6 r L n (v2 + 1) s4))))
theorem f_X5_moveUpBehind_L6_s (r L : Nat) (n : Nat) (v2 : Int32) (σ : gS) : f_X5_moveUpBehind_L6 r L (n + 1) v2 σ = (if ((Int32.ofNat L) - 1) ≤ v2 then (some σ) else (gGd (gin (v2 + 1) L) (gGd (gin v2 L) (gLet (up2 σ (r + 1) (gil v2) (σ (r + 1) (gil (v2 + 1)))) (fun s4 => f_X5_moveUpBehind_L6 r L n (v2 + 1) s4))))) := rfl
def f_X5_moveUpBehind (r L : Nat) (p0 : Int32) (σ : gS) : Option (gS) := gLet (if p0 < 0 then 0 else p0) (fun x1 => f_X5_moveUpBehind_L6 r L gFu x1 σ)
set_option maxHeartbeats 4000000 in
set_option maxRecDepth 100000 in
theorem w_X5_moveUpBehind_L6 (r L : Nat) (hr : gRow G o r L) {q : gS} (K : gK p s m args meth c G cX5_moveUpBehind 3 RX5 none) : ∀ (n : Nat) (v2 : Int32) (σ : gS), f_X5_moveUpBehind_L6 r L n v2 σ = some q → ∀ (H : Heap) (locs : List Loc) (ls : Array Slot), gSt G (entX G o) o 302 s σ H locs → lv_has ls 3 [(0, .ref (o + r)), (2, .int v2)] → W p l e rmX5_moveUpBehind s m args below meth c H locs 0 0 (MQ below (gQv G (entX G o) o 302 q) args s 0 0 (gA o 302)) (F0 m 6 ls []) := by
  obtain ⟨hx, hb, hml, hown, hts, -⟩ := id K
  intro n
  induction n with
  | zero =>
    intro v2 σ hf
    exact absurd (show (none : Option _) = some q from hf) (by simp)
  | succ n ih =>
    intro v2 σ hf H locs ls hS hl
    rw [f_X5_moveUpBehind_L6_s] at hf
    refine lv_iload_n hx hb dX5_moveUpBehind_6 rfl (lv_at hl 1 rfl) ?_
    refine lv_aload_n hx hb dX5_moveUpBehind_7 rfl (lv_at hl 0 rfl) ?_
    refine g_get (cx := r) K hS lF_X5_13 (hr.1 _) hr.2.2.1 rfl dX5_moveUpBehind_8 ?_
    refine g_alen (cx := (r + 1)) (t0 := 0) (v := (Int32.ofNat L)) K hS (hr.2.1 _) hr.2.2.2 rfl rfl dX5_moveUpBehind_11 ?_
    refine lv_iconst (v := 1) hx hb dX5_moveUpBehind_12 (by decide) ?_
    refine lv_isub hx hb dX5_moveUpBehind_13 ?_
    refine lv_icmp_ge (tgt := 37) hx hb dX5_moveUpBehind_14 (by decide) (fun c2 => ?_) (fun c2 => ?_)
    · have hf := gIf_t c2 hf
      exact g_vret K hS hf dX5_moveUpBehind_37
    · have hf := gIf_f c2 hf
      refine lv_aload_n hx hb dX5_moveUpBehind_17 rfl (lv_at hl 0 rfl) ?_
      refine g_get (cx := r) K hS lF_X5_13 (hr.1 _) hr.2.2.1 rfl dX5_moveUpBehind_18 ?_
      refine lv_iload_n hx hb dX5_moveUpBehind_21 rfl (lv_at hl 1 rfl) ?_
      refine lv_aload_n hx hb dX5_moveUpBehind_22 rfl (lv_at hl 0 rfl) ?_
      refine g_get (cx := r) K hS lF_X5_13 (hr.1 _) hr.2.2.1 rfl dX5_moveUpBehind_23 ?_
      refine lv_iload_n hx hb dX5_moveUpBehind_26 rfl (lv_at hl 1 rfl) ?_
      refine lv_iconst (v := 1) hx hb dX5_moveUpBehind_27 (by decide) ?_
      refine lv_iadd hx hb dX5_moveUpBehind_28 ?_
      obtain ⟨h3, hf⟩ := gGd_some hf
      refine g_iald (cx := (r + 1)) K hS hr.2.1 hr.2.2.2 h3 rfl dX5_moveUpBehind_29 ?_
      obtain ⟨h5, hf⟩ := gGd_some hf
      obtain ⟨s4, hs4, hf⟩ := gLet_some hf
      refine g_iast (cx := (r + 1)) K hS hr.2.1 hr.2.2.2 h5 rfl dX5_moveUpBehind_30 (fun H locs hS => ?_)
      rw [← hs4] at hS
      refine lv_iinc (v := (v2 + 1)) (lv' := [(2, .int (v2 + 1)), (0, .ref (o + r))]) hx hb dX5_moveUpBehind_31 hl (k := 1) rfl rfl (by decide) rfl (fun ls hl => ?_)
      refine lv_goto (tgt := 6) hx hb dX5_moveUpBehind_34 (by decide) ?_
      exact ih (v2 + 1) s4 hf _ _ _ hS (lv_sub hl [1, 0] rfl)
set_option maxHeartbeats 4000000 in
set_option maxRecDepth 100000 in
theorem c_X5_moveUpBehind (r L : Nat) (hr : gRow G o r L) (p0 : Int32) (σ : gS) (q : gS) (hf : f_X5_moveUpBehind r L p0 σ = some q) : Met l yX5_moveUpBehind (gW yX5_moveUpBehind cX5_moveUpBehind 3 none) rmX5_moveUpBehind (gPc G (entX G o) o 302 [.ref (o + r), .int p0] σ) (gQv G (entX G o) o 302 q) 0 0 (gA o 302) := by
  refine g_met (by decide) ⟨rfl, rfl⟩ (fun p e s m args below meth c ls K hS hl => ?_) (Nat.le_of_ble_eq_true rfl)
  have K : gK p s m args meth c G cX5_moveUpBehind 3 RX5 none := K
  have hl : lv_has ls 3 [(0, .ref (o + r)), (1, .int p0)] := hl
  obtain ⟨hx, hb, hml, hown, hts, -⟩ := id K
  unfold f_X5_moveUpBehind at hf
  refine lv_iload_n hx hb dX5_moveUpBehind_0 rfl (lv_at hl 1 rfl) ?_
  refine lv_iconst (v := 0) hx hb dX5_moveUpBehind_1 (by decide) ?_
  refine g_mmax K hl.1 (gmem 42 (by decide +kernel) rfl) q_static_max q_init_Math q_code_max (Nat.le_of_ble_eq_true rfl) (Nat.le_of_ble_eq_true rfl) (Nat.zero_le _) (Nat.zero_le _) dX5_moveUpBehind_2 ?_
  obtain ⟨x1, hx1, hf⟩ := gLet_some hf
  refine g_top hx1 ?_
  refine lv_istore_n (lv' := [(2, .int x1), (0, .ref (o + r)), (1, .int p0)]) hx hb dX5_moveUpBehind_5 rfl hl (by decide) rfl (fun ls hl => ?_)
  refine w_X5_moveUpBehind_L6 r L hr K gFu x1 σ hf _ _ _ hS (lv_sub hl [1, 0] rfl)
abbrev rmX1_remove : Room := { frames := 2, cells := 0, slots := 0, locals := 43 }
def f_X1_remove (p0 : Int32) (σ : gS) : Option (gS) := Option.bind (f_X1_has p0 σ) (fun q1 => if q1.1 = 0 then (some q1.2) else (Option.bind (f_X5_moveUpBehind 5 20 p0 q1.2) (fun q3 => Option.bind (f_X5_moveUpBehind 7 20 p0 q3) (fun q4 => Option.bind (f_X5_moveUpBehind 9 20 p0 q4) (fun q5 => Option.bind (f_X5_moveUpBehind 11 20 p0 q5) (fun q6 => Option.bind (f_X5_moveUpBehind 13 20 p0 q6) (fun q7 => Option.bind (f_X5_moveUpBehind 15 20 p0 q7) (fun q8 => gLet (up2 q8 4 0 ((q8 4 0) - 1)) (fun s9 => some s9)))))))))
set_option maxHeartbeats 4000000 in
set_option maxRecDepth 100000 in
theorem c_X1_remove (p0 : Int32) (σ : gS) (q : gS) (hf : f_X1_remove p0 σ = some q) : Met l yX1_remove (gW yX1_remove cX1_remove 2 none) rmX1_remove (gPc G (entX G o) o 302 [.ref (o + 4), .int p0] σ) (gQv G (entX G o) o 302 q) 0 0 (gA o 302) := by
  refine g_met (by decide) ⟨rfl, rfl⟩ (fun p e s m args below meth c ls K hS hl => ?_) (Nat.le_of_ble_eq_true rfl)
  have K : gK p s m args meth c G cX1_remove 2 RX1 none := K
  have hl : lv_has ls 2 [(0, .ref (o + 4)), (1, .int p0)] := hl
  obtain ⟨hx, hb, hml, hown, hts, -⟩ := id K
  unfold f_X1_remove at hf
  refine lv_aload_n hx hb dX1_remove_0 rfl (lv_at hl 0 rfl) ?_
  refine lv_iload_n hx hb dX1_remove_1 rfl (lv_at hl 1 rfl) ?_
  obtain ⟨q1, hq1, hf⟩ := Option.bind_eq_some_iff.mp hf
  refine g_Vi (cx := 4) (As := [.int p0]) K hS lV_X1_60 (c_X1_has p0 σ q1 hq1) ((eX_4 G o) _) (by decide) rfl rfl rfl (Nat.le_of_ble_eq_true rfl) ⟨⟨Nat.le_of_ble_eq_true rfl, Nat.le_of_ble_eq_true rfl⟩, rfl, rfl⟩ hl.1 ⟨Nat.zero_le _, Nat.zero_le _⟩ dX1_remove_2 (fun H locs hS => ?_)
  refine lv_if_ne (tgt := 9) hx hb dX1_remove_5 (by decide) (fun c2 => ?_) (fun c2 => ?_)
  · have hf := gIf_f c2 hf
    refine lv_aload_n hx hb dX1_remove_9 rfl (lv_at hl 0 rfl) ?_
    refine g_get (cx := 4) K hS lF_X1_14 ((eX_4 G o) _) (by decide) rfl dX1_remove_10 ?_
    refine lv_iload_n hx hb dX1_remove_13 rfl (lv_at hl 1 rfl) ?_
    obtain ⟨q3, hq3, hf⟩ := Option.bind_eq_some_iff.mp hf
    refine g_Vv (cx := 5) (As := [.int p0]) K hS lV_X1_64 (c_X5_moveUpBehind 5 20 (gRow_5 G o) p0 q1.2 q3 hq3) ((eX_5 G o) _) (by decide) rfl rfl rfl (Nat.le_of_ble_eq_true rfl) ⟨⟨Nat.le_of_ble_eq_true rfl, Nat.le_of_ble_eq_true rfl⟩, rfl, rfl⟩ hl.1 ⟨Nat.zero_le _, Nat.zero_le _⟩ dX1_remove_14 (fun H locs hS => ?_)
    refine lv_aload_n hx hb dX1_remove_17 rfl (lv_at hl 0 rfl) ?_
    refine g_get (cx := 4) K hS lF_X1_20 ((eX_4 G o) _) (by decide) rfl dX1_remove_18 ?_
    refine lv_iload_n hx hb dX1_remove_21 rfl (lv_at hl 1 rfl) ?_
    obtain ⟨q4, hq4, hf⟩ := Option.bind_eq_some_iff.mp hf
    refine g_Vv (cx := 7) (As := [.int p0]) K hS lV_X1_64 (c_X5_moveUpBehind 7 20 (gRow_7 G o) p0 q3 q4 hq4) ((eX_7 G o) _) (by decide) rfl rfl rfl (Nat.le_of_ble_eq_true rfl) ⟨⟨Nat.le_of_ble_eq_true rfl, Nat.le_of_ble_eq_true rfl⟩, rfl, rfl⟩ hl.1 ⟨Nat.zero_le _, Nat.zero_le _⟩ dX1_remove_22 (fun H locs hS => ?_)
    refine lv_aload_n hx hb dX1_remove_25 rfl (lv_at hl 0 rfl) ?_
    refine g_get (cx := 4) K hS lF_X1_23 ((eX_4 G o) _) (by decide) rfl dX1_remove_26 ?_
    refine lv_iload_n hx hb dX1_remove_29 rfl (lv_at hl 1 rfl) ?_
    obtain ⟨q5, hq5, hf⟩ := Option.bind_eq_some_iff.mp hf
    refine g_Vv (cx := 9) (As := [.int p0]) K hS lV_X1_64 (c_X5_moveUpBehind 9 20 (gRow_9 G o) p0 q4 q5 hq5) ((eX_9 G o) _) (by decide) rfl rfl rfl (Nat.le_of_ble_eq_true rfl) ⟨⟨Nat.le_of_ble_eq_true rfl, Nat.le_of_ble_eq_true rfl⟩, rfl, rfl⟩ hl.1 ⟨Nat.zero_le _, Nat.zero_le _⟩ dX1_remove_30 (fun H locs hS => ?_)
    refine lv_aload_n hx hb dX1_remove_33 rfl (lv_at hl 0 rfl) ?_
    refine g_get (cx := 4) K hS lF_X1_26 ((eX_4 G o) _) (by decide) rfl dX1_remove_34 ?_
    refine lv_iload_n hx hb dX1_remove_37 rfl (lv_at hl 1 rfl) ?_
    obtain ⟨q6, hq6, hf⟩ := Option.bind_eq_some_iff.mp hf
    refine g_Vv (cx := 11) (As := [.int p0]) K hS lV_X1_64 (c_X5_moveUpBehind 11 20 (gRow_11 G o) p0 q5 q6 hq6) ((eX_11 G o) _) (by decide) rfl rfl rfl (Nat.le_of_ble_eq_true rfl) ⟨⟨Nat.le_of_ble_eq_true rfl, Nat.le_of_ble_eq_true rfl⟩, rfl, rfl⟩ hl.1 ⟨Nat.zero_le _, Nat.zero_le _⟩ dX1_remove_38 (fun H locs hS => ?_)
    refine lv_aload_n hx hb dX1_remove_41 rfl (lv_at hl 0 rfl) ?_
    refine g_get (cx := 4) K hS lF_X1_29 ((eX_4 G o) _) (by decide) rfl dX1_remove_42 ?_
    refine lv_iload_n hx hb dX1_remove_45 rfl (lv_at hl 1 rfl) ?_
    obtain ⟨q7, hq7, hf⟩ := Option.bind_eq_some_iff.mp hf
    refine g_Vv (cx := 13) (As := [.int p0]) K hS lV_X1_64 (c_X5_moveUpBehind 13 20 (gRow_13 G o) p0 q6 q7 hq7) ((eX_13 G o) _) (by decide) rfl rfl rfl (Nat.le_of_ble_eq_true rfl) ⟨⟨Nat.le_of_ble_eq_true rfl, Nat.le_of_ble_eq_true rfl⟩, rfl, rfl⟩ hl.1 ⟨Nat.zero_le _, Nat.zero_le _⟩ dX1_remove_46 (fun H locs hS => ?_)
    refine lv_aload_n hx hb dX1_remove_49 rfl (lv_at hl 0 rfl) ?_
    refine g_get (cx := 4) K hS lF_X1_32 ((eX_4 G o) _) (by decide) rfl dX1_remove_50 ?_
    refine lv_iload_n hx hb dX1_remove_53 rfl (lv_at hl 1 rfl) ?_
    obtain ⟨q8, hq8, hf⟩ := Option.bind_eq_some_iff.mp hf
    refine g_Vv (cx := 15) (As := [.int p0]) K hS lV_X1_64 (c_X5_moveUpBehind 15 20 (gRow_15 G o) p0 q7 q8 hq8) ((eX_15 G o) _) (by decide) rfl rfl rfl (Nat.le_of_ble_eq_true rfl) ⟨⟨Nat.le_of_ble_eq_true rfl, Nat.le_of_ble_eq_true rfl⟩, rfl, rfl⟩ hl.1 ⟨Nat.zero_le _, Nat.zero_le _⟩ dX1_remove_54 (fun H locs hS => ?_)
    refine lv_aload_n hx hb dX1_remove_57 rfl (lv_at hl 0 rfl) ?_
    refine lv_dup hx hb dX1_remove_58 rfl ?_
    refine g_get (cx := 4) K hS lF_X1_35 ((eX_4 G o) _) (by decide) rfl dX1_remove_59 ?_
    refine lv_iconst (v := 1) hx hb dX1_remove_62 (by decide) ?_
    refine lv_isub hx hb dX1_remove_63 ?_
    obtain ⟨s9, hs9, hf⟩ := gLet_some hf
    refine g_put (cx := 4) K hS lP_X1_35 (eX_4 G o) (by decide) rfl (Nat.le_of_ble_eq_true rfl) rfl rfl dX1_remove_64 (fun H locs hS => ?_)
    rw [← hs9] at hS
    exact g_vret K hS hf dX1_remove_67
  · have hf := gIf_t c2 hf
    exact g_vret K hS hf dX1_remove_8
abbrev rmX1_atMostAsLoud : Room := { frames := 1, cells := 0, slots := 0, locals := 21 }
def f_X1_atMostAsLoud_L4 (w1 : Int32) : Nat → Int32 → Int32 → gS → Option (Int32 × gS)
  | 0, _, _, _ => none
  | n + 1, v2, v3, σ => if (σ 4 0) ≤ v3 then (some (v2, σ)) else (Option.bind (f_X5_at 11 20 v3 σ) (fun q2 => if w1 < q2.1 then (f_X1_atMostAsLoud_L4 w1 n v2 (v3 + 1) q2.2) else (gLet (v2 ||| (1 <<< (v3 &&& 31))) (fun x4 => f_X1_atMostAsLoud_L4 w1 n x4 (v3 + 1) q2.2))))
theorem f_X1_atMostAsLoud_L4_s (w1 : Int32) (n : Nat) (v2 : Int32) (v3 : Int32) (σ : gS) : f_X1_atMostAsLoud_L4 w1 (n + 1) v2 v3 σ = (if (σ 4 0) ≤ v3 then (some (v2, σ)) else (Option.bind (f_X5_at 11 20 v3 σ) (fun q2 => if w1 < q2.1 then (f_X1_atMostAsLoud_L4 w1 n v2 (v3 + 1) q2.2) else (gLet (v2 ||| (1 <<< (v3 &&& 31))) (fun x4 => f_X1_atMostAsLoud_L4 w1 n x4 (v3 + 1) q2.2))))) := rfl
def f_X1_atMostAsLoud (p0 : Int32) (σ : gS) : Option (Int32 × gS) := f_X1_atMostAsLoud_L4 p0 gFu 0 0 σ
set_option maxHeartbeats 4000000 in
set_option maxRecDepth 100000 in
theorem w_X1_atMostAsLoud_L4 (w1 : Int32) {q : Int32 × gS} (K : gK p s m args meth c G cX1_atMostAsLoud 4 RX1 (some .int)) : ∀ (n : Nat) (v2 : Int32) (v3 : Int32) (σ : gS), f_X1_atMostAsLoud_L4 w1 n v2 v3 σ = some q → ∀ (H : Heap) (locs : List Loc) (ls : Array Slot), gSt G (entX G o) o 302 s σ H locs → lv_has ls 4 [(0, .ref (o + 4)), (1, .int w1), (2, .int v2), (3, .int v3)] → W p l e rmX1_atMostAsLoud s m args below meth c H locs 0 0 (MQ below (gQi G (entX G o) o 302 q) args s 0 0 (gA o 302)) (F0 m 4 ls []) := by
  obtain ⟨hx, hb, hml, hown, hts, -⟩ := id K
  intro n
  induction n with
  | zero =>
    intro v2 v3 σ hf
    exact absurd (show (none : Option _) = some q from hf) (by simp)
  | succ n ih =>
    intro v2 v3 σ hf H locs ls hS hl
    rw [f_X1_atMostAsLoud_L4_s] at hf
    refine lv_iload_n hx hb dX1_atMostAsLoud_4 rfl (lv_at hl 3 rfl) ?_
    refine lv_aload_n hx hb dX1_atMostAsLoud_5 rfl (lv_at hl 0 rfl) ?_
    refine g_get (cx := 4) K hS lF_X1_35 ((eX_4 G o) _) (by decide) rfl dX1_atMostAsLoud_6 ?_
    refine lv_icmp_ge (tgt := 36) hx hb dX1_atMostAsLoud_9 (by decide) (fun c1 => ?_) (fun c1 => ?_)
    · have hf := gIf_t c1 hf
      refine lv_iload_n hx hb dX1_atMostAsLoud_36 rfl (lv_at hl 2 rfl) ?_
      exact g_iret K hS hf dX1_atMostAsLoud_37
    · have hf := gIf_f c1 hf
      refine lv_aload_n hx hb dX1_atMostAsLoud_12 rfl (lv_at hl 0 rfl) ?_
      refine g_get (cx := 4) K hS lF_X1_26 ((eX_4 G o) _) (by decide) rfl dX1_atMostAsLoud_13 ?_
      refine lv_iload_n hx hb dX1_atMostAsLoud_16 rfl (lv_at hl 3 rfl) ?_
      obtain ⟨q2, hq2, hf⟩ := Option.bind_eq_some_iff.mp hf
      refine g_Vi (cx := 11) (As := [.int v3]) K hS lV_X1_67 (c_X5_at 11 20 (gRow_11 G o) v3 σ q2 hq2) ((eX_11 G o) _) (by decide) rfl rfl rfl (Nat.le_of_ble_eq_true rfl) ⟨⟨Nat.le_of_ble_eq_true rfl, Nat.le_of_ble_eq_true rfl⟩, rfl, rfl⟩ hl.1 ⟨Nat.zero_le _, Nat.zero_le _⟩ dX1_atMostAsLoud_17 (fun H locs hS => ?_)
      refine lv_iload_n hx hb dX1_atMostAsLoud_20 rfl (lv_at hl 1 rfl) ?_
      refine lv_icmp_gt (tgt := 30) hx hb dX1_atMostAsLoud_21 (by decide) (fun c3 => ?_) (fun c3 => ?_)
      · have hf := gIf_t c3 hf
        refine lv_iinc (v := (v3 + 1)) (lv' := [(3, .int (v3 + 1)), (0, .ref (o + 4)), (1, .int w1), (2, .int v2)]) hx hb dX1_atMostAsLoud_30 hl (k := 3) rfl rfl (by decide) rfl (fun ls hl => ?_)
        refine lv_goto (tgt := 4) hx hb dX1_atMostAsLoud_33 (by decide) ?_
        exact ih v2 (v3 + 1) q2.2 hf _ _ _ hS (lv_sub hl [1, 2, 3, 0] rfl)
      · have hf := gIf_f c3 hf
        refine lv_iload_n hx hb dX1_atMostAsLoud_24 rfl (lv_at hl 2 rfl) ?_
        refine lv_iconst (v := 1) hx hb dX1_atMostAsLoud_25 (by decide) ?_
        refine lv_iload_n hx hb dX1_atMostAsLoud_26 rfl (lv_at hl 3 rfl) ?_
        refine lv_ishl hx hb dX1_atMostAsLoud_27 ?_
        refine lv_ior hx hb dX1_atMostAsLoud_28 ?_
        obtain ⟨x4, hx4, hf⟩ := gLet_some hf
        refine g_top hx4 ?_
        refine lv_istore_n (lv' := [(2, .int x4), (0, .ref (o + 4)), (1, .int w1), (3, .int v3)]) hx hb dX1_atMostAsLoud_29 rfl hl (by decide) rfl (fun ls hl => ?_)
        refine lv_iinc (v := (v3 + 1)) (lv' := [(3, .int (v3 + 1)), (2, .int x4), (0, .ref (o + 4)), (1, .int w1)]) hx hb dX1_atMostAsLoud_30 hl (k := 3) rfl rfl (by decide) rfl (fun ls hl => ?_)
        refine lv_goto (tgt := 4) hx hb dX1_atMostAsLoud_33 (by decide) ?_
        exact ih x4 (v3 + 1) q2.2 hf _ _ _ hS (lv_sub hl [2, 3, 1, 0] rfl)
set_option maxHeartbeats 4000000 in
set_option maxRecDepth 100000 in
theorem c_X1_atMostAsLoud (p0 : Int32) (σ : gS) (q : Int32 × gS) (hf : f_X1_atMostAsLoud p0 σ = some q) : Met l yX1_atMostAsLoud (gW yX1_atMostAsLoud cX1_atMostAsLoud 4 (some .int)) rmX1_atMostAsLoud (gPc G (entX G o) o 302 [.ref (o + 4), .int p0] σ) (gQi G (entX G o) o 302 q) 0 0 (gA o 302) := by
  refine g_met (by decide) ⟨rfl, rfl⟩ (fun p e s m args below meth c ls K hS hl => ?_) (Nat.le_of_ble_eq_true rfl)
  have K : gK p s m args meth c G cX1_atMostAsLoud 4 RX1 (some .int) := K
  have hl : lv_has ls 4 [(0, .ref (o + 4)), (1, .int p0)] := hl
  obtain ⟨hx, hb, hml, hown, hts, -⟩ := id K
  unfold f_X1_atMostAsLoud at hf
  refine lv_iconst (v := 0) hx hb dX1_atMostAsLoud_0 (by decide) ?_
  refine lv_istore_n (lv' := [(2, .int 0), (0, .ref (o + 4)), (1, .int p0)]) hx hb dX1_atMostAsLoud_1 rfl hl (by decide) rfl (fun ls hl => ?_)
  refine lv_iconst (v := 0) hx hb dX1_atMostAsLoud_2 (by decide) ?_
  refine lv_istore_n (lv' := [(3, .int 0), (2, .int 0), (0, .ref (o + 4)), (1, .int p0)]) hx hb dX1_atMostAsLoud_3 rfl hl (by decide) rfl (fun ls hl => ?_)
  refine w_X1_atMostAsLoud_L4 p0 K gFu 0 0 σ hf _ _ _ hS (lv_sub hl [2, 3, 1, 0] rfl)
abbrev rmX1_roomsFrom : Room := { frames := 2, cells := 0, slots := 0, locals := 45 }
def f_X1_roomsFrom_L7 (w2 : Int32) : Nat → Int32 → Int32 → gS → Option (Int32 × gS)
  | 0, _, _, _ => none
  | n + 1, v3, v4, σ => if 10 ≤ v4 then (some (v3, σ)) else (Option.bind (f_X1_widened v3 w2 σ) (fun q3 => if q3.1 = v3 then (some (v3, q3.2)) else (f_X1_roomsFrom_L7 w2 n q3.1 (v4 + 1) q3.2)))
theorem f_X1_roomsFrom_L7_s (w2 : Int32) (n : Nat) (v3 : Int32) (v4 : Int32) (σ : gS) : f_X1_roomsFrom_L7 w2 (n + 1) v3 v4 σ = (if 10 ≤ v4 then (some (v3, σ)) else (Option.bind (f_X1_widened v3 w2 σ) (fun q3 => if q3.1 = v3 then (some (v3, q3.2)) else (f_X1_roomsFrom_L7 w2 n q3.1 (v4 + 1) q3.2)))) := rfl
def f_X1_roomsFrom (p0 : Int32) (p1 : Int32) (σ : gS) : Option (Int32 × gS) := gLet (1 <<< (p0 &&& 31)) (fun x1 => f_X1_roomsFrom_L7 p1 gFu x1 1 σ)
set_option maxHeartbeats 4000000 in
set_option maxRecDepth 100000 in
theorem w_X1_roomsFrom_L7 (w2 : Int32) {q : Int32 × gS} (K : gK p s m args meth c G cX1_roomsFrom 6 RX1 (some .int)) : ∀ (n : Nat) (v3 : Int32) (v4 : Int32) (σ : gS), f_X1_roomsFrom_L7 w2 n v3 v4 σ = some q → ∀ (H : Heap) (locs : List Loc) (ls : Array Slot), gSt G (entX G o) o 302 s σ H locs → lv_has ls 6 [(0, .ref (o + 4)), (2, .int w2), (3, .int v3), (4, .int v4)] → W p l e rmX1_roomsFrom s m args below meth c H locs 0 0 (MQ below (gQi G (entX G o) o 302 q) args s 0 0 (gA o 302)) (F0 m 7 ls []) := by
  obtain ⟨hx, hb, hml, hown, hts, -⟩ := id K
  intro n
  induction n with
  | zero =>
    intro v3 v4 σ hf
    exact absurd (show (none : Option _) = some q from hf) (by simp)
  | succ n ih =>
    intro v3 v4 σ hf H locs ls hS hl
    rw [f_X1_roomsFrom_L7_s] at hf
    refine lv_iload hx hb dX1_roomsFrom_7 (lv_at hl 3 rfl) ?_
    refine lv_bipush (v := 10) hx hb dX1_roomsFrom_9 (by decide) ?_
    refine lv_icmp_ge (tgt := 40) hx hb dX1_roomsFrom_11 (by decide) (fun c2 => ?_) (fun c2 => ?_)
    · have hf := gIf_t c2 hf
      refine lv_iload_n hx hb dX1_roomsFrom_40 rfl (lv_at hl 2 rfl) ?_
      exact g_iret K hS hf dX1_roomsFrom_41
    · have hf := gIf_f c2 hf
      refine lv_aload_n hx hb dX1_roomsFrom_14 rfl (lv_at hl 0 rfl) ?_
      refine lv_iload_n hx hb dX1_roomsFrom_15 rfl (lv_at hl 2 rfl) ?_
      refine lv_iload_n hx hb dX1_roomsFrom_16 rfl (lv_at hl 1 rfl) ?_
      obtain ⟨q3, hq3, hf⟩ := Option.bind_eq_some_iff.mp hf
      refine g_Vi (cx := 4) (As := [.int v3, .int w2]) K hS lV_X1_75 (c_X1_widened v3 w2 σ q3 hq3) ((eX_4 G o) _) (by decide) rfl rfl rfl (Nat.le_of_ble_eq_true rfl) ⟨⟨Nat.le_of_ble_eq_true rfl, Nat.le_of_ble_eq_true rfl⟩, rfl, rfl⟩ hl.1 ⟨Nat.zero_le _, Nat.zero_le _⟩ dX1_roomsFrom_17 (fun H locs hS => ?_)
      refine lv_istore (lv' := [(5, .int q3.1), (0, .ref (o + 4)), (2, .int w2), (3, .int v3), (4, .int v4)]) hx hb dX1_roomsFrom_20 hl (by decide) rfl (fun ls hl => ?_)
      refine lv_iload hx hb dX1_roomsFrom_22 (lv_at hl 0 rfl) ?_
      refine lv_iload_n hx hb dX1_roomsFrom_24 rfl (lv_at hl 3 rfl) ?_
      refine lv_icmp_ne (tgt := 31) hx hb dX1_roomsFrom_25 (by decide) (fun c4 => ?_) (fun c4 => ?_)
      · have hf := gIf_f c4 hf
        refine lv_iload hx hb dX1_roomsFrom_31 (lv_at hl 0 rfl) ?_
        refine lv_istore_n (lv' := [(3, .int q3.1), (5, .int q3.1), (0, .ref (o + 4)), (2, .int w2), (4, .int v4)]) hx hb dX1_roomsFrom_33 rfl hl (by decide) rfl (fun ls hl => ?_)
        refine lv_iinc (v := (v4 + 1)) (lv' := [(4, .int (v4 + 1)), (3, .int q3.1), (5, .int q3.1), (0, .ref (o + 4)), (2, .int w2)]) hx hb dX1_roomsFrom_34 hl (k := 4) rfl rfl (by decide) rfl (fun ls hl => ?_)
        refine lv_goto (tgt := 7) hx hb dX1_roomsFrom_37 (by decide) ?_
        exact ih q3.1 (v4 + 1) q3.2 hf _ _ _ hS (lv_sub hl [3, 4, 1, 0] rfl)
      · have hf := gIf_t c4 hf
        refine lv_goto (tgt := 40) hx hb dX1_roomsFrom_28 (by decide) ?_
        refine lv_iload_n hx hb dX1_roomsFrom_40 rfl (lv_at hl 3 rfl) ?_
        exact g_iret K hS hf dX1_roomsFrom_41
set_option maxHeartbeats 4000000 in
set_option maxRecDepth 100000 in
theorem c_X1_roomsFrom (p0 : Int32) (p1 : Int32) (σ : gS) (q : Int32 × gS) (hf : f_X1_roomsFrom p0 p1 σ = some q) : Met l yX1_roomsFrom (gW yX1_roomsFrom cX1_roomsFrom 6 (some .int)) rmX1_roomsFrom (gPc G (entX G o) o 302 [.ref (o + 4), .int p0, .int p1] σ) (gQi G (entX G o) o 302 q) 0 0 (gA o 302) := by
  refine g_met (by decide) ⟨rfl, rfl⟩ (fun p e s m args below meth c ls K hS hl => ?_) (Nat.le_of_ble_eq_true rfl)
  have K : gK p s m args meth c G cX1_roomsFrom 6 RX1 (some .int) := K
  have hl : lv_has ls 6 [(0, .ref (o + 4)), (1, .int p0), (2, .int p1)] := hl
  obtain ⟨hx, hb, hml, hown, hts, -⟩ := id K
  unfold f_X1_roomsFrom at hf
  refine lv_iconst (v := 1) hx hb dX1_roomsFrom_0 (by decide) ?_
  refine lv_iload_n hx hb dX1_roomsFrom_1 rfl (lv_at hl 1 rfl) ?_
  refine lv_ishl hx hb dX1_roomsFrom_2 ?_
  obtain ⟨x1, hx1, hf⟩ := gLet_some hf
  refine g_top hx1 ?_
  refine lv_istore_n (lv' := [(3, .int x1), (0, .ref (o + 4)), (1, .int p0), (2, .int p1)]) hx hb dX1_roomsFrom_3 rfl hl (by decide) rfl (fun ls hl => ?_)
  refine lv_iconst (v := 1) hx hb dX1_roomsFrom_4 (by decide) ?_
  refine lv_istore (lv' := [(4, .int 1), (3, .int x1), (0, .ref (o + 4)), (1, .int p0), (2, .int p1)]) hx hb dX1_roomsFrom_5 hl (by decide) rfl (fun ls hl => ?_)
  refine w_X1_roomsFrom_L7 p1 K gFu x1 1 σ hf _ _ _ hS (lv_sub hl [2, 4, 1, 0] rfl)
abbrev rmJ6_bitCount_0f7a4 : Room := { frames := 0, cells := 0, slots := 0, locals := 0 }
def f_J6_bitCount_0f7a4 (p0 : Int32) (σ : gS) : Option (Int32 × gS) := gLet (p0 - ((gush p0 1) &&& 1431655765)) (fun x1 => gLet ((x1 &&& 858993459) + ((gush x1 2) &&& 858993459)) (fun x2 => gLet ((x2 + (gush x2 4)) &&& 252645135) (fun x3 => gLet (x3 + (gush x3 8)) (fun x4 => gLet (x4 + (gush x4 16)) (fun x5 => some ((x5 &&& 63), σ))))))
set_option maxHeartbeats 4000000 in
set_option maxRecDepth 100000 in
theorem c_J6_bitCount_0f7a4 (p0 : Int32) (σ : gS) (q : Int32 × gS) (hf : f_J6_bitCount_0f7a4 p0 σ = some q) : Met l yJ6_bitCount_0f7a4 (gW yJ6_bitCount_0f7a4 cJ6_bitCount_0f7a4 1 (some .int)) rmJ6_bitCount_0f7a4 (gPc G (entX G o) o 302 [.int p0] σ) (gQi G (entX G o) o 302 q) 0 0 (gA o 302) := by
  refine g_met (by decide) ⟨rfl, rfl⟩ (fun p e s m args below meth c ls K hS hl => ?_) (Nat.le_of_ble_eq_true rfl)
  have K : gK p s m args meth c G cJ6_bitCount_0f7a4 1 RJ6 (some .int) := K
  have hl : lv_has ls 1 [(0, .int p0)] := hl
  obtain ⟨hx, hb, hml, hown, hts, -⟩ := id K
  unfold f_J6_bitCount_0f7a4 at hf
  refine lv_iload_n hx hb dJ6_bitCount_0f7a4_0 rfl (lv_at hl 0 rfl) ?_
  refine lv_iload_n hx hb dJ6_bitCount_0f7a4_1 rfl (lv_at hl 0 rfl) ?_
  refine lv_iconst (v := 1) hx hb dJ6_bitCount_0f7a4_2 (by decide) ?_
  refine lv_iushr (v := gush p0 1) hx hb dJ6_bitCount_0f7a4_3 rfl ?_
  refine lv_ldcw (v := 1431655765) hx hb hown (hts _ (gmem 621 (by decide +kernel) rfl)) dJ6_bitCount_0f7a4_4 ?_
  refine lv_iand hx hb dJ6_bitCount_0f7a4_7 ?_
  refine lv_isub hx hb dJ6_bitCount_0f7a4_8 ?_
  obtain ⟨x1, hx1, hf⟩ := gLet_some hf
  refine g_top hx1 ?_
  refine lv_istore_n (lv' := [(0, .int x1)]) hx hb dJ6_bitCount_0f7a4_9 rfl hl (by decide) rfl (fun ls hl => ?_)
  refine lv_iload_n hx hb dJ6_bitCount_0f7a4_10 rfl (lv_at hl 0 rfl) ?_
  refine lv_ldcw (v := 858993459) hx hb hown (hts _ (gmem 622 (by decide +kernel) rfl)) dJ6_bitCount_0f7a4_11 ?_
  refine lv_iand hx hb dJ6_bitCount_0f7a4_14 ?_
  refine lv_iload_n hx hb dJ6_bitCount_0f7a4_15 rfl (lv_at hl 0 rfl) ?_
  refine lv_iconst (v := 2) hx hb dJ6_bitCount_0f7a4_16 (by decide) ?_
  refine lv_iushr (v := gush x1 2) hx hb dJ6_bitCount_0f7a4_17 rfl ?_
  refine lv_ldcw (v := 858993459) hx hb hown (hts _ (gmem 622 (by decide +kernel) rfl)) dJ6_bitCount_0f7a4_18 ?_
  refine lv_iand hx hb dJ6_bitCount_0f7a4_21 ?_
  refine lv_iadd hx hb dJ6_bitCount_0f7a4_22 ?_
  obtain ⟨x2, hx2, hf⟩ := gLet_some hf
  refine g_top hx2 ?_
  refine lv_istore_n (lv' := [(0, .int x2)]) hx hb dJ6_bitCount_0f7a4_23 rfl hl (by decide) rfl (fun ls hl => ?_)
  refine lv_iload_n hx hb dJ6_bitCount_0f7a4_24 rfl (lv_at hl 0 rfl) ?_
  refine lv_iload_n hx hb dJ6_bitCount_0f7a4_25 rfl (lv_at hl 0 rfl) ?_
  refine lv_iconst (v := 4) hx hb dJ6_bitCount_0f7a4_26 (by decide) ?_
  refine lv_iushr (v := gush x2 4) hx hb dJ6_bitCount_0f7a4_27 rfl ?_
  refine lv_iadd hx hb dJ6_bitCount_0f7a4_28 ?_
  refine lv_ldcw (v := 252645135) hx hb hown (hts _ (gmem 623 (by decide +kernel) rfl)) dJ6_bitCount_0f7a4_29 ?_
  refine lv_iand hx hb dJ6_bitCount_0f7a4_32 ?_
  obtain ⟨x3, hx3, hf⟩ := gLet_some hf
  refine g_top hx3 ?_
  refine lv_istore_n (lv' := [(0, .int x3)]) hx hb dJ6_bitCount_0f7a4_33 rfl hl (by decide) rfl (fun ls hl => ?_)
  refine lv_iload_n hx hb dJ6_bitCount_0f7a4_34 rfl (lv_at hl 0 rfl) ?_
  refine lv_iload_n hx hb dJ6_bitCount_0f7a4_35 rfl (lv_at hl 0 rfl) ?_
  refine lv_bipush (v := 8) hx hb dJ6_bitCount_0f7a4_36 (by decide) ?_
  refine lv_iushr (v := gush x3 8) hx hb dJ6_bitCount_0f7a4_38 rfl ?_
  refine lv_iadd hx hb dJ6_bitCount_0f7a4_39 ?_
  obtain ⟨x4, hx4, hf⟩ := gLet_some hf
  refine g_top hx4 ?_
  refine lv_istore_n (lv' := [(0, .int x4)]) hx hb dJ6_bitCount_0f7a4_40 rfl hl (by decide) rfl (fun ls hl => ?_)
  refine lv_iload_n hx hb dJ6_bitCount_0f7a4_41 rfl (lv_at hl 0 rfl) ?_
  refine lv_iload_n hx hb dJ6_bitCount_0f7a4_42 rfl (lv_at hl 0 rfl) ?_
  refine lv_bipush (v := 16) hx hb dJ6_bitCount_0f7a4_43 (by decide) ?_
  refine lv_iushr (v := gush x4 16) hx hb dJ6_bitCount_0f7a4_45 rfl ?_
  refine lv_iadd hx hb dJ6_bitCount_0f7a4_46 ?_
  obtain ⟨x5, hx5, hf⟩ := gLet_some hf
  refine g_top hx5 ?_
  refine lv_istore_n (lv' := [(0, .int x5)]) hx hb dJ6_bitCount_0f7a4_47 rfl hl (by decide) rfl (fun ls hl => ?_)
  refine lv_iload_n hx hb dJ6_bitCount_0f7a4_48 rfl (lv_at hl 0 rfl) ?_
  refine lv_bipush (v := 63) hx hb dJ6_bitCount_0f7a4_49 (by decide) ?_
  refine lv_iand hx hb dJ6_bitCount_0f7a4_51 ?_
  exact g_iret K hS hf dJ6_bitCount_0f7a4_52
abbrev rmX1_pairsApartWithout : Room := { frames := 3, cells := 0, slots := 0, locals := 70 }
def f_X1_pairsApartWithout (p0 : Int32) (σ : gS) : Option (Int32 × gS) := Option.bind (f_X1_all σ) (fun q1 => gLet (q1.1 &&& ((1 <<< (p0 &&& 31)) ^^^ (-1))) (fun x2 => Option.bind (f_X5_at 5 20 p0 q1.2) (fun q3 => Option.bind (f_X1_roomsFrom q3.1 x2 q3.2) (fun q4 => Option.bind (f_X5_at 7 20 p0 q4.2) (fun q5 => Option.bind (f_X10_holds q4.1 q5.1 q5.2) (fun q6 => if q6.1 = 0 then (Option.bind (f_X5_at 7 20 p0 q6.2) (fun q8 => Option.bind (f_X1_roomsFrom q8.1 x2 q8.2) (fun q9 => Option.bind (f_J6_bitCount_0f7a4 q4.1 q9.2) (fun q10 => Option.bind (f_J6_bitCount_0f7a4 q9.1 q10.2) (fun q11 => some ((q10.1 * q11.1), q11.2)))))) else (some (0, q6.2))))))))
set_option maxHeartbeats 4000000 in
set_option maxRecDepth 100000 in
theorem c_X1_pairsApartWithout (p0 : Int32) (σ : gS) (q : Int32 × gS) (hf : f_X1_pairsApartWithout p0 σ = some q) : Met l yX1_pairsApartWithout (gW yX1_pairsApartWithout cX1_pairsApartWithout 5 (some .int)) rmX1_pairsApartWithout (gPc G (entX G o) o 302 [.ref (o + 4), .int p0] σ) (gQi G (entX G o) o 302 q) 0 0 (gA o 302) := by
  refine g_met (by decide) ⟨rfl, rfl⟩ (fun p e s m args below meth c ls K hS hl => ?_) (Nat.le_of_ble_eq_true rfl)
  have K : gK p s m args meth c G cX1_pairsApartWithout 5 RX1 (some .int) := K
  have hl : lv_has ls 5 [(0, .ref (o + 4)), (1, .int p0)] := hl
  obtain ⟨hx, hb, hml, hown, hts, -⟩ := id K
  unfold f_X1_pairsApartWithout at hf
  refine lv_aload_n hx hb dX1_pairsApartWithout_0 rfl (lv_at hl 0 rfl) ?_
  obtain ⟨q1, hq1, hf⟩ := Option.bind_eq_some_iff.mp hf
  refine g_Vi (cx := 4) (As := []) K hS lV_X1_78 (c_X1_all σ q1 hq1) ((eX_4 G o) _) (by decide) rfl rfl rfl (Nat.le_of_ble_eq_true rfl) ⟨⟨Nat.le_of_ble_eq_true rfl, Nat.le_of_ble_eq_true rfl⟩, rfl, rfl⟩ hl.1 ⟨Nat.zero_le _, Nat.zero_le _⟩ dX1_pairsApartWithout_1 (fun H locs hS => ?_)
  refine lv_iconst (v := 1) hx hb dX1_pairsApartWithout_4 (by decide) ?_
  refine lv_iload_n hx hb dX1_pairsApartWithout_5 rfl (lv_at hl 1 rfl) ?_
  refine lv_ishl hx hb dX1_pairsApartWithout_6 ?_
  refine lv_iconst (v := (-1)) hx hb dX1_pairsApartWithout_7 (by decide) ?_
  refine lv_ixor hx hb dX1_pairsApartWithout_8 ?_
  refine lv_iand hx hb dX1_pairsApartWithout_9 ?_
  obtain ⟨x2, hx2, hf⟩ := gLet_some hf
  refine g_top hx2 ?_
  refine lv_istore_n (lv' := [(2, .int x2), (0, .ref (o + 4)), (1, .int p0)]) hx hb dX1_pairsApartWithout_10 rfl hl (by decide) rfl (fun ls hl => ?_)
  refine lv_aload_n hx hb dX1_pairsApartWithout_11 rfl (lv_at hl 1 rfl) ?_
  refine lv_aload_n hx hb dX1_pairsApartWithout_12 rfl (lv_at hl 1 rfl) ?_
  refine g_get (cx := 4) K hS lF_X1_14 ((eX_4 G o) _) (by decide) rfl dX1_pairsApartWithout_13 ?_
  refine lv_iload_n hx hb dX1_pairsApartWithout_16 rfl (lv_at hl 2 rfl) ?_
  obtain ⟨q3, hq3, hf⟩ := Option.bind_eq_some_iff.mp hf
  refine g_Vi (cx := 5) (As := [.int p0]) K hS lV_X1_67 (c_X5_at 5 20 (gRow_5 G o) p0 q1.2 q3 hq3) ((eX_5 G o) _) (by decide) rfl rfl rfl (Nat.le_of_ble_eq_true rfl) ⟨⟨Nat.le_of_ble_eq_true rfl, Nat.le_of_ble_eq_true rfl⟩, rfl, rfl⟩ hl.1 ⟨Nat.zero_le _, Nat.zero_le _⟩ dX1_pairsApartWithout_17 (fun H locs hS => ?_)
  refine lv_iload_n hx hb dX1_pairsApartWithout_20 rfl (lv_at hl 0 rfl) ?_
  obtain ⟨q4, hq4, hf⟩ := Option.bind_eq_some_iff.mp hf
  refine g_Vi (cx := 4) (As := [.int q3.1, .int x2]) K hS lV_X1_85 (c_X1_roomsFrom q3.1 x2 q3.2 q4 hq4) ((eX_4 G o) _) (by decide) rfl rfl rfl (Nat.le_of_ble_eq_true rfl) ⟨⟨Nat.le_of_ble_eq_true rfl, Nat.le_of_ble_eq_true rfl⟩, rfl, rfl⟩ hl.1 ⟨Nat.zero_le _, Nat.zero_le _⟩ dX1_pairsApartWithout_21 (fun H locs hS => ?_)
  refine lv_istore_n (lv' := [(3, .int q4.1), (2, .int x2), (0, .ref (o + 4)), (1, .int p0)]) hx hb dX1_pairsApartWithout_24 rfl hl (by decide) rfl (fun ls hl => ?_)
  refine lv_iload_n hx hb dX1_pairsApartWithout_25 rfl (lv_at hl 0 rfl) ?_
  refine lv_aload_n hx hb dX1_pairsApartWithout_26 rfl (lv_at hl 2 rfl) ?_
  refine g_get (cx := 4) K hS lF_X1_20 ((eX_4 G o) _) (by decide) rfl dX1_pairsApartWithout_27 ?_
  refine lv_iload_n hx hb dX1_pairsApartWithout_30 rfl (lv_at hl 3 rfl) ?_
  obtain ⟨q5, hq5, hf⟩ := Option.bind_eq_some_iff.mp hf
  refine g_Vi (cx := 7) (As := [.int p0]) K hS lV_X1_67 (c_X5_at 7 20 (gRow_7 G o) p0 q4.2 q5 hq5) ((eX_7 G o) _) (by decide) rfl rfl rfl (Nat.le_of_ble_eq_true rfl) ⟨⟨Nat.le_of_ble_eq_true rfl, Nat.le_of_ble_eq_true rfl⟩, rfl, rfl⟩ hl.1 ⟨Nat.zero_le _, Nat.zero_le _⟩ dX1_pairsApartWithout_31 (fun H locs hS => ?_)
  obtain ⟨q6, hq6, hf⟩ := Option.bind_eq_some_iff.mp hf
  refine g_Ni (As := [.int q4.1, .int q5.1]) K hS lN_X1_71 (c_X10_holds q4.1 q5.1 q5.2 q6 hq6) rfl rfl (Nat.le_of_ble_eq_true rfl) ⟨⟨Nat.le_of_ble_eq_true rfl, Nat.le_of_ble_eq_true rfl⟩, rfl, rfl⟩ hl.1 ⟨Nat.zero_le _, Nat.zero_le _⟩ dX1_pairsApartWithout_34 (fun H locs hS => ?_)
  refine lv_if_eq (tgt := 42) hx hb dX1_pairsApartWithout_37 (by decide) (fun c7 => ?_) (fun c7 => ?_)
  · have hf := gIf_t c7 hf
    refine lv_aload_n hx hb dX1_pairsApartWithout_42 rfl (lv_at hl 2 rfl) ?_
    refine lv_aload_n hx hb dX1_pairsApartWithout_43 rfl (lv_at hl 2 rfl) ?_
    refine g_get (cx := 4) K hS lF_X1_20 ((eX_4 G o) _) (by decide) rfl dX1_pairsApartWithout_44 ?_
    refine lv_iload_n hx hb dX1_pairsApartWithout_47 rfl (lv_at hl 3 rfl) ?_
    obtain ⟨q8, hq8, hf⟩ := Option.bind_eq_some_iff.mp hf
    refine g_Vi (cx := 7) (As := [.int p0]) K hS lV_X1_67 (c_X5_at 7 20 (gRow_7 G o) p0 q6.2 q8 hq8) ((eX_7 G o) _) (by decide) rfl rfl rfl (Nat.le_of_ble_eq_true rfl) ⟨⟨Nat.le_of_ble_eq_true rfl, Nat.le_of_ble_eq_true rfl⟩, rfl, rfl⟩ hl.1 ⟨Nat.zero_le _, Nat.zero_le _⟩ dX1_pairsApartWithout_48 (fun H locs hS => ?_)
    refine lv_iload_n hx hb dX1_pairsApartWithout_51 rfl (lv_at hl 1 rfl) ?_
    obtain ⟨q9, hq9, hf⟩ := Option.bind_eq_some_iff.mp hf
    refine g_Vi (cx := 4) (As := [.int q8.1, .int x2]) K hS lV_X1_85 (c_X1_roomsFrom q8.1 x2 q8.2 q9 hq9) ((eX_4 G o) _) (by decide) rfl rfl rfl (Nat.le_of_ble_eq_true rfl) ⟨⟨Nat.le_of_ble_eq_true rfl, Nat.le_of_ble_eq_true rfl⟩, rfl, rfl⟩ hl.1 ⟨Nat.zero_le _, Nat.zero_le _⟩ dX1_pairsApartWithout_52 (fun H locs hS => ?_)
    refine lv_istore (lv' := [(4, .int q9.1), (3, .int q4.1), (2, .int x2), (0, .ref (o + 4)), (1, .int p0)]) hx hb dX1_pairsApartWithout_55 hl (by decide) rfl (fun ls hl => ?_)
    refine lv_iload_n hx hb dX1_pairsApartWithout_57 rfl (lv_at hl 1 rfl) ?_
    obtain ⟨q10, hq10, hf⟩ := Option.bind_eq_some_iff.mp hf
    refine g_Si (As := [.int q4.1]) K hS lS_X1_88 (c_J6_bitCount_0f7a4 q4.1 q9.2 q10 hq10) rfl rfl (Nat.le_of_ble_eq_true rfl) ⟨⟨Nat.le_of_ble_eq_true rfl, Nat.le_of_ble_eq_true rfl⟩, rfl, rfl⟩ hl.1 ⟨Nat.zero_le _, Nat.zero_le _⟩ dX1_pairsApartWithout_58 (fun H locs hS => ?_)
    refine lv_iload hx hb dX1_pairsApartWithout_61 (lv_at hl 0 rfl) ?_
    obtain ⟨q11, hq11, hf⟩ := Option.bind_eq_some_iff.mp hf
    refine g_Si (As := [.int q9.1]) K hS lS_X1_88 (c_J6_bitCount_0f7a4 q9.1 q10.2 q11 hq11) rfl rfl (Nat.le_of_ble_eq_true rfl) ⟨⟨Nat.le_of_ble_eq_true rfl, Nat.le_of_ble_eq_true rfl⟩, rfl, rfl⟩ hl.1 ⟨Nat.zero_le _, Nat.zero_le _⟩ dX1_pairsApartWithout_63 (fun H locs hS => ?_)
    refine lv_imul hx hb dX1_pairsApartWithout_66 ?_
    exact g_iret K hS hf dX1_pairsApartWithout_67
  · have hf := gIf_f c7 hf
    refine lv_iconst (v := 0) hx hb dX1_pairsApartWithout_40 (by decide) ?_
    exact g_iret K hS hf dX1_pairsApartWithout_41
abbrev rmX2_whoCrossed : Room := { frames := 1, cells := 0, slots := 0, locals := 21 }
def f_X2_whoCrossed_L4 (w1 : Int32) : Nat → Int32 → Int32 → gS → Option (Int32 × gS)
  | 0, _, _, _ => none
  | n + 1, v2, v3, σ => if 4 ≤ v3 then (some (v2, σ)) else (Option.bind (f_X5_at 20 4 v3 σ) (fun q2 => Option.bind (f_X10_holds q2.1 w1 q2.2) (fun q3 => if q3.1 = 0 then (f_X2_whoCrossed_L4 w1 n v2 (v3 + 1) q3.2) else (gLet (v2 ||| (1 <<< (v3 &&& 31))) (fun x5 => f_X2_whoCrossed_L4 w1 n x5 (v3 + 1) q3.2)))))
theorem f_X2_whoCrossed_L4_s (w1 : Int32) (n : Nat) (v2 : Int32) (v3 : Int32) (σ : gS) : f_X2_whoCrossed_L4 w1 (n + 1) v2 v3 σ = (if 4 ≤ v3 then (some (v2, σ)) else (Option.bind (f_X5_at 20 4 v3 σ) (fun q2 => Option.bind (f_X10_holds q2.1 w1 q2.2) (fun q3 => if q3.1 = 0 then (f_X2_whoCrossed_L4 w1 n v2 (v3 + 1) q3.2) else (gLet (v2 ||| (1 <<< (v3 &&& 31))) (fun x5 => f_X2_whoCrossed_L4 w1 n x5 (v3 + 1) q3.2)))))) := rfl
def f_X2_whoCrossed (p0 : Int32) (σ : gS) : Option (Int32 × gS) := f_X2_whoCrossed_L4 p0 gFu 0 0 σ
set_option maxHeartbeats 4000000 in
set_option maxRecDepth 100000 in
theorem w_X2_whoCrossed_L4 (w1 : Int32) {q : Int32 × gS} (K : gK p s m args meth c G cX2_whoCrossed 4 RX2 (some .int)) : ∀ (n : Nat) (v2 : Int32) (v3 : Int32) (σ : gS), f_X2_whoCrossed_L4 w1 n v2 v3 σ = some q → ∀ (H : Heap) (locs : List Loc) (ls : Array Slot), gSt G (entX G o) o 302 s σ H locs → lv_has ls 4 [(0, .ref (o + 17)), (1, .int w1), (2, .int v2), (3, .int v3)] → W p l e rmX2_whoCrossed s m args below meth c H locs 0 0 (MQ below (gQi G (entX G o) o 302 q) args s 0 0 (gA o 302)) (F0 m 4 ls []) := by
  obtain ⟨hx, hb, hml, hown, hts, -⟩ := id K
  intro n
  induction n with
  | zero =>
    intro v2 v3 σ hf
    exact absurd (show (none : Option _) = some q from hf) (by simp)
  | succ n ih =>
    intro v2 v3 σ hf H locs ls hS hl
    rw [f_X2_whoCrossed_L4_s] at hf
    refine lv_iload_n hx hb dX2_whoCrossed_4 rfl (lv_at hl 3 rfl) ?_
    refine lv_iconst (v := 4) hx hb dX2_whoCrossed_5 (by decide) ?_
    refine lv_icmp_ge (tgt := 36) hx hb dX2_whoCrossed_6 (by decide) (fun c1 => ?_) (fun c1 => ?_)
    · have hf := gIf_t c1 hf
      refine lv_iload_n hx hb dX2_whoCrossed_36 rfl (lv_at hl 2 rfl) ?_
      exact g_iret K hS hf dX2_whoCrossed_37
    · have hf := gIf_f c1 hf
      refine lv_aload_n hx hb dX2_whoCrossed_9 rfl (lv_at hl 0 rfl) ?_
      refine g_get (cx := 17) K hS lF_X2_20 ((eX_17 G o) _) (by decide) rfl dX2_whoCrossed_10 ?_
      refine lv_iload_n hx hb dX2_whoCrossed_13 rfl (lv_at hl 3 rfl) ?_
      obtain ⟨q2, hq2, hf⟩ := Option.bind_eq_some_iff.mp hf
      refine g_Vi (cx := 20) (As := [.int v3]) K hS lV_X2_30 (c_X5_at 20 4 (gRow_20 G o) v3 σ q2 hq2) ((eX_20 G o) _) (by decide) rfl rfl rfl (Nat.le_of_ble_eq_true rfl) ⟨⟨Nat.le_of_ble_eq_true rfl, Nat.le_of_ble_eq_true rfl⟩, rfl, rfl⟩ hl.1 ⟨Nat.zero_le _, Nat.zero_le _⟩ dX2_whoCrossed_14 (fun H locs hS => ?_)
      refine lv_iload_n hx hb dX2_whoCrossed_17 rfl (lv_at hl 1 rfl) ?_
      obtain ⟨q3, hq3, hf⟩ := Option.bind_eq_some_iff.mp hf
      refine g_Ni (As := [.int q2.1, .int w1]) K hS lN_X2_34 (c_X10_holds q2.1 w1 q2.2 q3 hq3) rfl rfl (Nat.le_of_ble_eq_true rfl) ⟨⟨Nat.le_of_ble_eq_true rfl, Nat.le_of_ble_eq_true rfl⟩, rfl, rfl⟩ hl.1 ⟨Nat.zero_le _, Nat.zero_le _⟩ dX2_whoCrossed_18 (fun H locs hS => ?_)
      refine lv_if_eq (tgt := 30) hx hb dX2_whoCrossed_21 (by decide) (fun c4 => ?_) (fun c4 => ?_)
      · have hf := gIf_t c4 hf
        refine lv_iinc (v := (v3 + 1)) (lv' := [(3, .int (v3 + 1)), (0, .ref (o + 17)), (1, .int w1), (2, .int v2)]) hx hb dX2_whoCrossed_30 hl (k := 3) rfl rfl (by decide) rfl (fun ls hl => ?_)
        refine lv_goto (tgt := 4) hx hb dX2_whoCrossed_33 (by decide) ?_
        exact ih v2 (v3 + 1) q3.2 hf _ _ _ hS (lv_sub hl [1, 2, 3, 0] rfl)
      · have hf := gIf_f c4 hf
        refine lv_iload_n hx hb dX2_whoCrossed_24 rfl (lv_at hl 2 rfl) ?_
        refine lv_iconst (v := 1) hx hb dX2_whoCrossed_25 (by decide) ?_
        refine lv_iload_n hx hb dX2_whoCrossed_26 rfl (lv_at hl 3 rfl) ?_
        refine lv_ishl hx hb dX2_whoCrossed_27 ?_
        refine lv_ior hx hb dX2_whoCrossed_28 ?_
        obtain ⟨x5, hx5, hf⟩ := gLet_some hf
        refine g_top hx5 ?_
        refine lv_istore_n (lv' := [(2, .int x5), (0, .ref (o + 17)), (1, .int w1), (3, .int v3)]) hx hb dX2_whoCrossed_29 rfl hl (by decide) rfl (fun ls hl => ?_)
        refine lv_iinc (v := (v3 + 1)) (lv' := [(3, .int (v3 + 1)), (2, .int x5), (0, .ref (o + 17)), (1, .int w1)]) hx hb dX2_whoCrossed_30 hl (k := 3) rfl rfl (by decide) rfl (fun ls hl => ?_)
        refine lv_goto (tgt := 4) hx hb dX2_whoCrossed_33 (by decide) ?_
        exact ih x5 (v3 + 1) q3.2 hf _ _ _ hS (lv_sub hl [2, 3, 1, 0] rfl)
set_option maxHeartbeats 4000000 in
set_option maxRecDepth 100000 in
theorem c_X2_whoCrossed (p0 : Int32) (σ : gS) (q : Int32 × gS) (hf : f_X2_whoCrossed p0 σ = some q) : Met l yX2_whoCrossed (gW yX2_whoCrossed cX2_whoCrossed 4 (some .int)) rmX2_whoCrossed (gPc G (entX G o) o 302 [.ref (o + 17), .int p0] σ) (gQi G (entX G o) o 302 q) 0 0 (gA o 302) := by
  refine g_met (by decide) ⟨rfl, rfl⟩ (fun p e s m args below meth c ls K hS hl => ?_) (Nat.le_of_ble_eq_true rfl)
  have K : gK p s m args meth c G cX2_whoCrossed 4 RX2 (some .int) := K
  have hl : lv_has ls 4 [(0, .ref (o + 17)), (1, .int p0)] := hl
  obtain ⟨hx, hb, hml, hown, hts, -⟩ := id K
  unfold f_X2_whoCrossed at hf
  refine lv_iconst (v := 0) hx hb dX2_whoCrossed_0 (by decide) ?_
  refine lv_istore_n (lv' := [(2, .int 0), (0, .ref (o + 17)), (1, .int p0)]) hx hb dX2_whoCrossed_1 rfl hl (by decide) rfl (fun ls hl => ?_)
  refine lv_iconst (v := 0) hx hb dX2_whoCrossed_2 (by decide) ?_
  refine lv_istore_n (lv' := [(3, .int 0), (2, .int 0), (0, .ref (o + 17)), (1, .int p0)]) hx hb dX2_whoCrossed_3 rfl hl (by decide) rfl (fun ls hl => ?_)
  refine w_X2_whoCrossed_L4 p0 K gFu 0 0 σ hf _ _ _ hS (lv_sub hl [2, 3, 1, 0] rfl)
abbrev rmX2_forgetBoard : Room := { frames := 1, cells := 0, slots := 0, locals := 22 }
def f_X2_forgetBoard_L8 (w2 : Int32) : Nat → Int32 → gS → Option (gS)
  | 0, _, _ => none
  | n + 1, v3, σ => if 4 ≤ v3 then (some σ) else (Option.bind (f_X5_at 20 4 v3 σ) (fun q3 => Option.bind (f_X5_store 20 4 v3 ((q3.1 &&& w2) ||| ((q3.1 >>> (1 &&& 31)) &&& (w2 ^^^ (-1)))) q3.2) (fun q4 => f_X2_forgetBoard_L8 w2 n (v3 + 1) q4)))
theorem f_X2_forgetBoard_L8_s (w2 : Int32) (n : Nat) (v3 : Int32) (σ : gS) : f_X2_forgetBoard_L8 w2 (n + 1) v3 σ = (if 4 ≤ v3 then (some σ) else (Option.bind (f_X5_at 20 4 v3 σ) (fun q3 => Option.bind (f_X5_store 20 4 v3 ((q3.1 &&& w2) ||| ((q3.1 >>> (1 &&& 31)) &&& (w2 ^^^ (-1)))) q3.2) (fun q4 => f_X2_forgetBoard_L8 w2 n (v3 + 1) q4)))) := rfl
def f_X2_forgetBoard (p0 : Int32) (σ : gS) : Option (gS) := gLet ((1 <<< (p0 &&& 31)) - 1) (fun x1 => f_X2_forgetBoard_L8 x1 gFu 0 σ)
set_option maxHeartbeats 4000000 in
set_option maxRecDepth 100000 in
theorem w_X2_forgetBoard_L8 (w2 : Int32) {q : gS} (K : gK p s m args meth c G cX2_forgetBoard 5 RX2 none) : ∀ (n : Nat) (v3 : Int32) (σ : gS), f_X2_forgetBoard_L8 w2 n v3 σ = some q → ∀ (H : Heap) (locs : List Loc) (ls : Array Slot), gSt G (entX G o) o 302 s σ H locs → lv_has ls 5 [(0, .ref (o + 17)), (2, .int w2), (3, .int v3)] → W p l e rmX2_forgetBoard s m args below meth c H locs 0 0 (MQ below (gQv G (entX G o) o 302 q) args s 0 0 (gA o 302)) (F0 m 8 ls []) := by
  obtain ⟨hx, hb, hml, hown, hts, -⟩ := id K
  intro n
  induction n with
  | zero =>
    intro v3 σ hf
    exact absurd (show (none : Option _) = some q from hf) (by simp)
  | succ n ih =>
    intro v3 σ hf H locs ls hS hl
    rw [f_X2_forgetBoard_L8_s] at hf
    refine lv_iload_n hx hb dX2_forgetBoard_8 rfl (lv_at hl 2 rfl) ?_
    refine lv_iconst (v := 4) hx hb dX2_forgetBoard_9 (by decide) ?_
    refine lv_icmp_ge (tgt := 50) hx hb dX2_forgetBoard_10 (by decide) (fun c2 => ?_) (fun c2 => ?_)
    · have hf := gIf_t c2 hf
      exact g_vret K hS hf dX2_forgetBoard_50
    · have hf := gIf_f c2 hf
      refine lv_aload_n hx hb dX2_forgetBoard_13 rfl (lv_at hl 0 rfl) ?_
      refine g_get (cx := 17) K hS lF_X2_20 ((eX_17 G o) _) (by decide) rfl dX2_forgetBoard_14 ?_
      refine lv_iload_n hx hb dX2_forgetBoard_17 rfl (lv_at hl 2 rfl) ?_
      obtain ⟨q3, hq3, hf⟩ := Option.bind_eq_some_iff.mp hf
      refine g_Vi (cx := 20) (As := [.int v3]) K hS lV_X2_30 (c_X5_at 20 4 (gRow_20 G o) v3 σ q3 hq3) ((eX_20 G o) _) (by decide) rfl rfl rfl (Nat.le_of_ble_eq_true rfl) ⟨⟨Nat.le_of_ble_eq_true rfl, Nat.le_of_ble_eq_true rfl⟩, rfl, rfl⟩ hl.1 ⟨Nat.zero_le _, Nat.zero_le _⟩ dX2_forgetBoard_18 (fun H locs hS => ?_)
      refine lv_istore (lv' := [(4, .int q3.1), (0, .ref (o + 17)), (2, .int w2), (3, .int v3)]) hx hb dX2_forgetBoard_21 hl (by decide) rfl (fun ls hl => ?_)
      refine lv_aload_n hx hb dX2_forgetBoard_23 rfl (lv_at hl 1 rfl) ?_
      refine g_get (cx := 17) K hS lF_X2_20 ((eX_17 G o) _) (by decide) rfl dX2_forgetBoard_24 ?_
      refine lv_iload_n hx hb dX2_forgetBoard_27 rfl (lv_at hl 3 rfl) ?_
      refine lv_iload hx hb dX2_forgetBoard_28 (lv_at hl 0 rfl) ?_
      refine lv_iload_n hx hb dX2_forgetBoard_30 rfl (lv_at hl 2 rfl) ?_
      refine lv_iand hx hb dX2_forgetBoard_31 ?_
      refine lv_iload hx hb dX2_forgetBoard_32 (lv_at hl 0 rfl) ?_
      refine lv_iconst (v := 1) hx hb dX2_forgetBoard_34 (by decide) ?_
      refine lv_ishr hx hb dX2_forgetBoard_35 ?_
      refine lv_iload_n hx hb dX2_forgetBoard_36 rfl (lv_at hl 2 rfl) ?_
      refine lv_iconst (v := (-1)) hx hb dX2_forgetBoard_37 (by decide) ?_
      refine lv_ixor hx hb dX2_forgetBoard_38 ?_
      refine lv_iand hx hb dX2_forgetBoard_39 ?_
      refine lv_ior hx hb dX2_forgetBoard_40 ?_
      obtain ⟨q4, hq4, hf⟩ := Option.bind_eq_some_iff.mp hf
      refine g_Vv (cx := 20) (As := [.int v3, .int ((q3.1 &&& w2) ||| ((q3.1 >>> (1 &&& 31)) &&& (w2 ^^^ (-1))))]) K hS lV_X2_38 (c_X5_store 20 4 (gRow_20 G o) v3 ((q3.1 &&& w2) ||| ((q3.1 >>> (1 &&& 31)) &&& (w2 ^^^ (-1)))) q3.2 q4 hq4) ((eX_20 G o) _) (by decide) rfl rfl rfl (Nat.le_of_ble_eq_true rfl) ⟨⟨Nat.le_of_ble_eq_true rfl, Nat.le_of_ble_eq_true rfl⟩, rfl, rfl⟩ hl.1 ⟨Nat.zero_le _, Nat.zero_le _⟩ dX2_forgetBoard_41 (fun H locs hS => ?_)
      refine lv_iinc (v := (v3 + 1)) (lv' := [(3, .int (v3 + 1)), (4, .int q3.1), (0, .ref (o + 17)), (2, .int w2)]) hx hb dX2_forgetBoard_44 hl (k := 3) rfl rfl (by decide) rfl (fun ls hl => ?_)
      refine lv_goto (tgt := 8) hx hb dX2_forgetBoard_47 (by decide) ?_
      exact ih (v3 + 1) q4 hf _ _ _ hS (lv_sub hl [2, 3, 0] rfl)
set_option maxHeartbeats 4000000 in
set_option maxRecDepth 100000 in
theorem c_X2_forgetBoard (p0 : Int32) (σ : gS) (q : gS) (hf : f_X2_forgetBoard p0 σ = some q) : Met l yX2_forgetBoard (gW yX2_forgetBoard cX2_forgetBoard 5 none) rmX2_forgetBoard (gPc G (entX G o) o 302 [.ref (o + 17), .int p0] σ) (gQv G (entX G o) o 302 q) 0 0 (gA o 302) := by
  refine g_met (by decide) ⟨rfl, rfl⟩ (fun p e s m args below meth c ls K hS hl => ?_) (Nat.le_of_ble_eq_true rfl)
  have K : gK p s m args meth c G cX2_forgetBoard 5 RX2 none := K
  have hl : lv_has ls 5 [(0, .ref (o + 17)), (1, .int p0)] := hl
  obtain ⟨hx, hb, hml, hown, hts, -⟩ := id K
  unfold f_X2_forgetBoard at hf
  refine lv_iconst (v := 1) hx hb dX2_forgetBoard_0 (by decide) ?_
  refine lv_iload_n hx hb dX2_forgetBoard_1 rfl (lv_at hl 1 rfl) ?_
  refine lv_ishl hx hb dX2_forgetBoard_2 ?_
  refine lv_iconst (v := 1) hx hb dX2_forgetBoard_3 (by decide) ?_
  refine lv_isub hx hb dX2_forgetBoard_4 ?_
  obtain ⟨x1, hx1, hf⟩ := gLet_some hf
  refine g_top hx1 ?_
  refine lv_istore_n (lv' := [(2, .int x1), (0, .ref (o + 17)), (1, .int p0)]) hx hb dX2_forgetBoard_5 rfl hl (by decide) rfl (fun ls hl => ?_)
  refine lv_iconst (v := 0) hx hb dX2_forgetBoard_6 (by decide) ?_
  refine lv_istore_n (lv' := [(3, .int 0), (2, .int x1), (0, .ref (o + 17)), (1, .int p0)]) hx hb dX2_forgetBoard_7 rfl hl (by decide) rfl (fun ls hl => ?_)
  refine w_X2_forgetBoard_L8 x1 K gFu 0 σ hf _ _ _ hS (lv_sub hl [2, 1, 0] rfl)
abbrev rmX6_has_37 : Room := { frames := 0, cells := 0, slots := 0, locals := 0 }
def f_X6_has_37 (p0 : Int32) (σ : gS) : Option (Int32 × gS) := if p0 < 0 then (some (0, σ)) else (if 6 ≤ p0 then (some (0, σ)) else (gGd (gin p0 6) (some (1, σ))))
set_option maxHeartbeats 4000000 in
set_option maxRecDepth 100000 in
theorem c_X6_has_37 (p0 : Int32) (σ : gS) (q : Int32 × gS) (hf : f_X6_has_37 p0 σ = some q) : Met l yX6_has (gW yX6_has cX6_has 2 (some .boolean)) rmX6_has_37 (gPc G (entX G o) o 302 [.ref (o + 37), .int p0] σ) (gQi G (entX G o) o 302 q) 0 0 (gA o 302) := by
  refine g_met (by decide) ⟨rfl, rfl⟩ (fun p e s m args below meth c ls K hS hl => ?_) (Nat.le_of_ble_eq_true rfl)
  have K : gK p s m args meth c G cX6_has 2 RX6 (some .boolean) := K
  have hl : lv_has ls 2 [(0, .ref (o + 37)), (1, .int p0)] := hl
  obtain ⟨hx, hb, hml, hown, hts, -⟩ := id K
  unfold f_X6_has_37 at hf
  refine lv_iload_n hx hb dX6_has_0 rfl (lv_at hl 1 rfl) ?_
  refine lv_if_lt (tgt := 26) hx hb dX6_has_1 (by decide) (fun c1 => ?_) (fun c1 => ?_)
  · have hf := gIf_t c1 hf
    refine lv_iconst (v := 0) hx hb dX6_has_26 (by decide) ?_
    exact g_zret K hS rfl hf dX6_has_27
  · have hf := gIf_f c1 hf
    refine lv_iload_n hx hb dX6_has_4 rfl (lv_at hl 1 rfl) ?_
    refine lv_aload_n hx hb dX6_has_5 rfl (lv_at hl 0 rfl) ?_
    refine g_get (cx := 37) K hS lF_X6_15 ((eX_37 G o) _) (by decide) rfl dX6_has_6 ?_
    refine g_alen (cx := 38) (t0 := 1) (v := 6) K hS ((eX_38 G o) _) (by decide) rfl rfl dX6_has_9 ?_
    refine lv_icmp_ge (tgt := 26) hx hb dX6_has_10 (by decide) (fun c2 => ?_) (fun c2 => ?_)
    · have hf := gIf_t c2 hf
      refine lv_iconst (v := 0) hx hb dX6_has_26 (by decide) ?_
      exact g_zret K hS rfl hf dX6_has_27
    · have hf := gIf_f c2 hf
      refine lv_aload_n hx hb dX6_has_13 rfl (lv_at hl 0 rfl) ?_
      refine g_get (cx := 37) K hS lF_X6_15 ((eX_37 G o) _) (by decide) rfl dX6_has_14 ?_
      refine lv_iload_n hx hb dX6_has_17 rfl (lv_at hl 1 rfl) ?_
      obtain ⟨h3, hf⟩ := gGd_some hf
      refine g_aald (cx := 38) K hS ((eX_38 G o) _) (by decide) h3 dX6_has_18 ?_
      show W _ _ _ _ _ _ _ _ _ _ _ _ _ _ _ (F0 m 19 ls [.ref (o + (39 + 32 * gil p0))])
      refine lv_ifnull hx hb dX6_has_19 ?_
      refine lv_iconst (v := 1) hx hb dX6_has_22 (by decide) ?_
      refine lv_goto (tgt := 27) hx hb dX6_has_23 (by decide) ?_
      exact g_zret K hS rfl hf dX6_has_27
abbrev rmX6_has_231 : Room := { frames := 0, cells := 0, slots := 0, locals := 0 }
def f_X6_has_231 (p0 : Int32) (σ : gS) : Option (Int32 × gS) := if p0 < 0 then (some (0, σ)) else (if 2 ≤ p0 then (some (0, σ)) else (gGd (gin p0 2) (some (1, σ))))
set_option maxHeartbeats 4000000 in
set_option maxRecDepth 100000 in
theorem c_X6_has_231 (p0 : Int32) (σ : gS) (q : Int32 × gS) (hf : f_X6_has_231 p0 σ = some q) : Met l yX6_has (gW yX6_has cX6_has 2 (some .boolean)) rmX6_has_231 (gPc G (entX G o) o 302 [.ref (o + 231), .int p0] σ) (gQi G (entX G o) o 302 q) 0 0 (gA o 302) := by
  refine g_met (by decide) ⟨rfl, rfl⟩ (fun p e s m args below meth c ls K hS hl => ?_) (Nat.le_of_ble_eq_true rfl)
  have K : gK p s m args meth c G cX6_has 2 RX6 (some .boolean) := K
  have hl : lv_has ls 2 [(0, .ref (o + 231)), (1, .int p0)] := hl
  obtain ⟨hx, hb, hml, hown, hts, -⟩ := id K
  unfold f_X6_has_231 at hf
  refine lv_iload_n hx hb dX6_has_0 rfl (lv_at hl 1 rfl) ?_
  refine lv_if_lt (tgt := 26) hx hb dX6_has_1 (by decide) (fun c1 => ?_) (fun c1 => ?_)
  · have hf := gIf_t c1 hf
    refine lv_iconst (v := 0) hx hb dX6_has_26 (by decide) ?_
    exact g_zret K hS rfl hf dX6_has_27
  · have hf := gIf_f c1 hf
    refine lv_iload_n hx hb dX6_has_4 rfl (lv_at hl 1 rfl) ?_
    refine lv_aload_n hx hb dX6_has_5 rfl (lv_at hl 0 rfl) ?_
    refine g_get (cx := 231) K hS lF_X6_15 ((eX_231 G o) _) (by decide) rfl dX6_has_6 ?_
    refine g_alen (cx := 232) (t0 := 1) (v := 2) K hS ((eX_232 G o) _) (by decide) rfl rfl dX6_has_9 ?_
    refine lv_icmp_ge (tgt := 26) hx hb dX6_has_10 (by decide) (fun c2 => ?_) (fun c2 => ?_)
    · have hf := gIf_t c2 hf
      refine lv_iconst (v := 0) hx hb dX6_has_26 (by decide) ?_
      exact g_zret K hS rfl hf dX6_has_27
    · have hf := gIf_f c2 hf
      refine lv_aload_n hx hb dX6_has_13 rfl (lv_at hl 0 rfl) ?_
      refine g_get (cx := 231) K hS lF_X6_15 ((eX_231 G o) _) (by decide) rfl dX6_has_14 ?_
      refine lv_iload_n hx hb dX6_has_17 rfl (lv_at hl 1 rfl) ?_
      obtain ⟨h3, hf⟩ := gGd_some hf
      refine g_aald (cx := 232) K hS ((eX_232 G o) _) (by decide) h3 dX6_has_18 ?_
      show W _ _ _ _ _ _ _ _ _ _ _ _ _ _ _ (F0 m 19 ls [.ref (o + (233 + 32 * gil p0))])
      refine lv_ifnull hx hb dX6_has_19 ?_
      refine lv_iconst (v := 1) hx hb dX6_has_22 (by decide) ?_
      refine lv_goto (tgt := 27) hx hb dX6_has_23 (by decide) ?_
      exact g_zret K hS rfl hf dX6_has_27
abbrev rmX6_keep_37 : Room := { frames := 4, cells := 0, slots := 0, locals := 103 }
def f_X6_keep_37 (p0 : Int32) (σ : gS) : Option (gS) := Option.bind (f_X6_has_37 p0 σ) (fun q1 => if q1.1 = 0 then (some q1.2) else (gGd (gin p0 6) (Option.bind (f_X0_copyFrom (39 + 32 * gil p0) 1 q1.2) (fun q4 => some q4))))
set_option maxHeartbeats 4000000 in
set_option maxRecDepth 100000 in
theorem c_X6_keep_37 (p0 : Int32) (σ : gS) (q : gS) (hf : f_X6_keep_37 p0 σ = some q) : Met l yX6_keep (gW yX6_keep cX6_keep 3 none) rmX6_keep_37 (gPc G (entX G o) o 302 [.ref (o + 37), .int p0, .ref (o + 1)] σ) (gQv G (entX G o) o 302 q) 0 0 (gA o 302) := by
  refine g_met (by decide) ⟨rfl, rfl⟩ (fun p e s m args below meth c ls K hS hl => ?_) (Nat.le_of_ble_eq_true rfl)
  have K : gK p s m args meth c G cX6_keep 3 RX6 none := K
  have hl : lv_has ls 3 [(0, .ref (o + 37)), (1, .int p0), (2, .ref (o + 1))] := hl
  obtain ⟨hx, hb, hml, hown, hts, -⟩ := id K
  unfold f_X6_keep_37 at hf
  refine lv_aload_n hx hb dX6_keep_0 rfl (lv_at hl 0 rfl) ?_
  refine lv_iload_n hx hb dX6_keep_1 rfl (lv_at hl 1 rfl) ?_
  obtain ⟨q1, hq1, hf⟩ := Option.bind_eq_some_iff.mp hf
  refine g_Vi (cx := 37) (As := [.int p0]) K hS lV_X6_22 (c_X6_has_37 p0 σ q1 hq1) ((eX_37 G o) _) (by decide) rfl rfl rfl (Nat.le_of_ble_eq_true rfl) ⟨⟨Nat.le_of_ble_eq_true rfl, Nat.le_of_ble_eq_true rfl⟩, rfl, rfl⟩ hl.1 ⟨Nat.zero_le _, Nat.zero_le _⟩ dX6_keep_2 (fun H locs hS => ?_)
  refine lv_if_eq (tgt := 18) hx hb dX6_keep_5 (by decide) (fun c2 => ?_) (fun c2 => ?_)
  · have hf := gIf_t c2 hf
    exact g_vret K hS hf dX6_keep_18
  · have hf := gIf_f c2 hf
    refine lv_aload_n hx hb dX6_keep_8 rfl (lv_at hl 0 rfl) ?_
    refine g_get (cx := 37) K hS lF_X6_15 ((eX_37 G o) _) (by decide) rfl dX6_keep_9 ?_
    refine lv_iload_n hx hb dX6_keep_12 rfl (lv_at hl 1 rfl) ?_
    obtain ⟨h3, hf⟩ := gGd_some hf
    refine g_aald (cx := 38) K hS ((eX_38 G o) _) (by decide) h3 dX6_keep_13 ?_
    show W _ _ _ _ _ _ _ _ _ _ _ _ _ _ _ (F0 m 14 ls [.ref (o + (39 + 32 * gil p0))])
    refine lv_aload_n hx hb dX6_keep_14 rfl (lv_at hl 2 rfl) ?_
    obtain ⟨q4, hq4, hf⟩ := Option.bind_eq_some_iff.mp hf
    refine g_Vv (cx := (39 + 32 * gil p0)) (As := [.ref (o + 1)]) K hS lV_X6_26 (c_X0_copyFrom (39 + 32 * gil p0) 1 (gIsAt_37 h3) gIsAt_1 q1.2 q4 hq4) ((eA_0 G o (gIsAt_37 h3)) _) (eA_lt (gIsAt_37 h3) 0 (by decide)) rfl rfl rfl (Nat.le_of_ble_eq_true rfl) ⟨⟨Nat.le_of_ble_eq_true rfl, Nat.le_of_ble_eq_true rfl⟩, rfl, rfl⟩ hl.1 ⟨Nat.zero_le _, Nat.zero_le _⟩ dX6_keep_15 (fun H locs hS => ?_)
    exact g_vret K hS hf dX6_keep_18
abbrev rmX6_keep_231 : Room := { frames := 4, cells := 0, slots := 0, locals := 103 }
def f_X6_keep_231 (p0 : Int32) (σ : gS) : Option (gS) := Option.bind (f_X6_has_231 p0 σ) (fun q1 => if q1.1 = 0 then (some q1.2) else (gGd (gin p0 2) (Option.bind (f_X0_copyFrom (233 + 32 * gil p0) 1 q1.2) (fun q4 => some q4))))
set_option maxHeartbeats 4000000 in
set_option maxRecDepth 100000 in
theorem c_X6_keep_231 (p0 : Int32) (σ : gS) (q : gS) (hf : f_X6_keep_231 p0 σ = some q) : Met l yX6_keep (gW yX6_keep cX6_keep 3 none) rmX6_keep_231 (gPc G (entX G o) o 302 [.ref (o + 231), .int p0, .ref (o + 1)] σ) (gQv G (entX G o) o 302 q) 0 0 (gA o 302) := by
  refine g_met (by decide) ⟨rfl, rfl⟩ (fun p e s m args below meth c ls K hS hl => ?_) (Nat.le_of_ble_eq_true rfl)
  have K : gK p s m args meth c G cX6_keep 3 RX6 none := K
  have hl : lv_has ls 3 [(0, .ref (o + 231)), (1, .int p0), (2, .ref (o + 1))] := hl
  obtain ⟨hx, hb, hml, hown, hts, -⟩ := id K
  unfold f_X6_keep_231 at hf
  refine lv_aload_n hx hb dX6_keep_0 rfl (lv_at hl 0 rfl) ?_
  refine lv_iload_n hx hb dX6_keep_1 rfl (lv_at hl 1 rfl) ?_
  obtain ⟨q1, hq1, hf⟩ := Option.bind_eq_some_iff.mp hf
  refine g_Vi (cx := 231) (As := [.int p0]) K hS lV_X6_22 (c_X6_has_231 p0 σ q1 hq1) ((eX_231 G o) _) (by decide) rfl rfl rfl (Nat.le_of_ble_eq_true rfl) ⟨⟨Nat.le_of_ble_eq_true rfl, Nat.le_of_ble_eq_true rfl⟩, rfl, rfl⟩ hl.1 ⟨Nat.zero_le _, Nat.zero_le _⟩ dX6_keep_2 (fun H locs hS => ?_)
  refine lv_if_eq (tgt := 18) hx hb dX6_keep_5 (by decide) (fun c2 => ?_) (fun c2 => ?_)
  · have hf := gIf_t c2 hf
    exact g_vret K hS hf dX6_keep_18
  · have hf := gIf_f c2 hf
    refine lv_aload_n hx hb dX6_keep_8 rfl (lv_at hl 0 rfl) ?_
    refine g_get (cx := 231) K hS lF_X6_15 ((eX_231 G o) _) (by decide) rfl dX6_keep_9 ?_
    refine lv_iload_n hx hb dX6_keep_12 rfl (lv_at hl 1 rfl) ?_
    obtain ⟨h3, hf⟩ := gGd_some hf
    refine g_aald (cx := 232) K hS ((eX_232 G o) _) (by decide) h3 dX6_keep_13 ?_
    show W _ _ _ _ _ _ _ _ _ _ _ _ _ _ _ (F0 m 14 ls [.ref (o + (233 + 32 * gil p0))])
    refine lv_aload_n hx hb dX6_keep_14 rfl (lv_at hl 2 rfl) ?_
    obtain ⟨q4, hq4, hf⟩ := Option.bind_eq_some_iff.mp hf
    refine g_Vv (cx := (233 + 32 * gil p0)) (As := [.ref (o + 1)]) K hS lV_X6_26 (c_X0_copyFrom (233 + 32 * gil p0) 1 (gIsAt_231 h3) gIsAt_1 q1.2 q4 hq4) ((eA_0 G o (gIsAt_231 h3)) _) (eA_lt (gIsAt_231 h3) 0 (by decide)) rfl rfl rfl (Nat.le_of_ble_eq_true rfl) ⟨⟨Nat.le_of_ble_eq_true rfl, Nat.le_of_ble_eq_true rfl⟩, rfl, rfl⟩ hl.1 ⟨Nat.zero_le _, Nat.zero_le _⟩ dX6_keep_15 (fun H locs hS => ?_)
    exact g_vret K hS hf dX6_keep_18
abbrev rmX3_remember : Room := { frames := 5, cells := 0, slots := 0, locals := 125 }
def f_X3_remember (σ : gS) : Option (gS) := Option.bind (f_X6_keep_37 (σ 36 1) σ) (fun q1 => gLet (fun (j2 : Int32) (s3 : gS) => gLet (up2 s3 36 1 j2) (fun s5 => gLet (up2 s5 36 2 (if 6 < ((s5 36 2) + 1) then 6 else ((s5 36 2) + 1))) (fun s7 => some s7))) (fun J4 => if 6 ≤ ((q1 36 1) + 1) then (J4 0 q1) else (J4 ((q1 36 1) + 1) q1)))
set_option maxHeartbeats 4000000 in
set_option maxRecDepth 100000 in
theorem c_X3_remember (σ : gS) (q : gS) (hf : f_X3_remember σ = some q) : Met l yX3_remember (gW yX3_remember cX3_remember 2 none) rmX3_remember (gPc G (entX G o) o 302 [.ref (o + 36), .ref (o + 1)] σ) (gQv G (entX G o) o 302 q) 0 0 (gA o 302) := by
  refine g_met (by decide) ⟨rfl, rfl⟩ (fun p e s m args below meth c ls K hS hl => ?_) (Nat.le_of_ble_eq_true rfl)
  have K : gK p s m args meth c G cX3_remember 2 RX3 none := K
  have hl : lv_has ls 2 [(0, .ref (o + 36)), (1, .ref (o + 1))] := hl
  obtain ⟨hx, hb, hml, hown, hts, -⟩ := id K
  unfold f_X3_remember at hf
  refine lv_aload_n hx hb dX3_remember_0 rfl (lv_at hl 0 rfl) ?_
  refine g_get (cx := 36) K hS lF_X3_14 ((eX_36 G o) _) (by decide) rfl dX3_remember_1 ?_
  refine lv_aload_n hx hb dX3_remember_4 rfl (lv_at hl 0 rfl) ?_
  refine g_get (cx := 36) K hS lF_X3_20 ((eX_36 G o) _) (by decide) rfl dX3_remember_5 ?_
  refine lv_aload_n hx hb dX3_remember_8 rfl (lv_at hl 1 rfl) ?_
  obtain ⟨q1, hq1, hf⟩ := Option.bind_eq_some_iff.mp hf
  refine g_Vv (cx := 37) (As := [.int (σ 36 1), .ref (o + 1)]) K hS lV_X3_24 (c_X6_keep_37 (σ 36 1) σ q1 hq1) ((eX_37 G o) _) (by decide) rfl rfl rfl (Nat.le_of_ble_eq_true rfl) ⟨⟨Nat.le_of_ble_eq_true rfl, Nat.le_of_ble_eq_true rfl⟩, rfl, rfl⟩ hl.1 ⟨Nat.zero_le _, Nat.zero_le _⟩ dX3_remember_9 (fun H locs hS => ?_)
  refine lv_aload_n hx hb dX3_remember_12 rfl (lv_at hl 0 rfl) ?_
  refine lv_aload_n hx hb dX3_remember_13 rfl (lv_at hl 0 rfl) ?_
  refine g_get (cx := 36) K hS lF_X3_20 ((eX_36 G o) _) (by decide) rfl dX3_remember_14 ?_
  refine lv_iconst (v := 1) hx hb dX3_remember_17 (by decide) ?_
  refine lv_iadd hx hb dX3_remember_18 ?_
  refine lv_bipush (v := 6) hx hb dX3_remember_19 (by decide) ?_
  obtain ⟨J4, hJ4, hf⟩ := gLet_some hf
  have wJ4 : ∀ (j2 : Int32) (s3 : gS), J4 j2 s3 = some q → ∀ (H : Heap) (locs : List Loc) (ls : Array Slot), gSt G (entX G o) o 302 s s3 H locs → lv_has ls 2 [(0, .ref (o + 36))] → W p l e rmX3_remember s m args below meth c H locs 0 0 (MQ below (gQv G (entX G o) o 302 q) args s 0 0 (gA o 302)) (F0 m 34 ls [.int j2, .ref (o + 36)]) := by
    intro j2 s3 hf H locs ls hS hl
    rw [hJ4] at hf
    obtain ⟨s5, hs5, hf⟩ := gLet_some hf
    refine g_put (cx := 36) K hS lP_X3_20 (eX_36 G o) (by decide) rfl (Nat.le_of_ble_eq_true rfl) rfl rfl dX3_remember_34 (fun H locs hS => ?_)
    rw [← hs5] at hS
    refine lv_aload_n hx hb dX3_remember_37 rfl (lv_at hl 0 rfl) ?_
    refine lv_aload_n hx hb dX3_remember_38 rfl (lv_at hl 0 rfl) ?_
    refine g_get (cx := 36) K hS lF_X3_28 ((eX_36 G o) _) (by decide) rfl dX3_remember_39 ?_
    refine lv_iconst (v := 1) hx hb dX3_remember_42 (by decide) ?_
    refine lv_iadd hx hb dX3_remember_43 ?_
    refine lv_bipush (v := 6) hx hb dX3_remember_44 (by decide) ?_
    refine g_mmin K hl.1 (gmem 324 (by decide +kernel) rfl) q_static_min q_init_Math q_code_min (Nat.le_of_ble_eq_true rfl) (Nat.le_of_ble_eq_true rfl) (Nat.zero_le _) (Nat.zero_le _) dX3_remember_46 ?_
    obtain ⟨s7, hs7, hf⟩ := gLet_some hf
    refine g_put (cx := 36) K hS lP_X3_28 (eX_36 G o) (by decide) rfl (Nat.le_of_ble_eq_true rfl) rfl rfl dX3_remember_49 (fun H locs hS => ?_)
    rw [← hs7] at hS
    exact g_vret K hS hf dX3_remember_52
  clear hJ4
  refine lv_icmp_ge (tgt := 33) hx hb dX3_remember_21 (by decide) (fun c9 => ?_) (fun c9 => ?_)
  · have hf := gIf_t c9 hf
    refine lv_iconst (v := 0) hx hb dX3_remember_33 (by decide) ?_
    exact wJ4 0 q1 hf _ _ _ hS (lv_sub hl [0] rfl)
  · have hf := gIf_f c9 hf
    refine lv_aload_n hx hb dX3_remember_24 rfl (lv_at hl 0 rfl) ?_
    refine g_get (cx := 36) K hS lF_X3_20 ((eX_36 G o) _) (by decide) rfl dX3_remember_25 ?_
    refine lv_iconst (v := 1) hx hb dX3_remember_28 (by decide) ?_
    refine lv_iadd hx hb dX3_remember_29 ?_
    refine lv_goto (tgt := 34) hx hb dX3_remember_30 (by decide) ?_
    exact wJ4 ((q1 36 1) + 1) q1 hf _ _ _ hS (lv_sub hl [0] rfl)
abbrev rmX7_has : Room := { frames := 1, cells := 0, slots := 0, locals := 22 }
def f_X7_has (p0 : Int32) (σ : gS) : Option (Int32 × gS) := Option.bind (f_X10_isWithin p0 0 ((σ 24 0) - 1) σ) (fun q1 => gGd (gbo q1.1) (some (q1.1, q1.2)))
set_option maxHeartbeats 4000000 in
set_option maxRecDepth 100000 in
theorem c_X7_has (p0 : Int32) (σ : gS) (q : Int32 × gS) (hf : f_X7_has p0 σ = some q) : Met l yX7_has (gW yX7_has cX7_has 2 (some .boolean)) rmX7_has (gPc G (entX G o) o 302 [.ref (o + 24), .int p0] σ) (gQi G (entX G o) o 302 q) 0 0 (gA o 302) := by
  refine g_met (by decide) ⟨rfl, rfl⟩ (fun p e s m args below meth c ls K hS hl => ?_) (Nat.le_of_ble_eq_true rfl)
  have K : gK p s m args meth c G cX7_has 2 RX7 (some .boolean) := K
  have hl : lv_has ls 2 [(0, .ref (o + 24)), (1, .int p0)] := hl
  obtain ⟨hx, hb, hml, hown, hts, -⟩ := id K
  unfold f_X7_has at hf
  refine lv_iload_n hx hb dX7_has_0 rfl (lv_at hl 1 rfl) ?_
  refine lv_iconst (v := 0) hx hb dX7_has_1 (by decide) ?_
  refine lv_aload_n hx hb dX7_has_2 rfl (lv_at hl 0 rfl) ?_
  refine g_get (cx := 24) K hS lF_X7_29 ((eX_24 G o) _) (by decide) rfl dX7_has_3 ?_
  refine lv_iconst (v := 1) hx hb dX7_has_6 (by decide) ?_
  refine lv_isub hx hb dX7_has_7 ?_
  obtain ⟨q1, hq1, hf⟩ := Option.bind_eq_some_iff.mp hf
  refine g_Ni (As := [.int p0, .int 0, .int ((σ 24 0) - 1)]) K hS lN_X7_37 (c_X10_isWithin p0 0 ((σ 24 0) - 1) σ q1 hq1) rfl rfl (Nat.le_of_ble_eq_true rfl) ⟨⟨Nat.le_of_ble_eq_true rfl, Nat.le_of_ble_eq_true rfl⟩, rfl, rfl⟩ hl.1 ⟨Nat.zero_le _, Nat.zero_le _⟩ dX7_has_8 (fun H locs hS => ?_)
  obtain ⟨h2, hf⟩ := gGd_some hf
  exact g_zret K hS (gbo_nar h2) hf dX7_has_11
abbrev rmX7_append : Room := { frames := 1, cells := 0, slots := 0, locals := 22 }
def f_X7_append (p0 : Int32) (p1 : Int32) (σ : gS) : Option (gS) := if (σ 24 0) < 5 then (Option.bind (f_X5_store 25 5 (σ 24 0) p0 σ) (fun q2 => Option.bind (f_X5_store 27 5 (q2 24 0) p1 q2) (fun q3 => Option.bind (f_X5_store 29 5 (q3 24 0) 0 q3) (fun q4 => Option.bind (f_X5_store 31 5 (q4 24 0) 0 q4) (fun q5 => gLet (up2 q5 24 0 ((q5 24 0) + 1)) (fun s6 => some s6)))))) else (some σ)
set_option maxHeartbeats 4000000 in
set_option maxRecDepth 100000 in
theorem c_X7_append (p0 : Int32) (p1 : Int32) (σ : gS) (q : gS) (hf : f_X7_append p0 p1 σ = some q) : Met l yX7_append (gW yX7_append cX7_append 3 none) rmX7_append (gPc G (entX G o) o 302 [.ref (o + 24), .int p0, .int p1] σ) (gQv G (entX G o) o 302 q) 0 0 (gA o 302) := by
  refine g_met (by decide) ⟨rfl, rfl⟩ (fun p e s m args below meth c ls K hS hl => ?_) (Nat.le_of_ble_eq_true rfl)
  have K : gK p s m args meth c G cX7_append 3 RX7 none := K
  have hl : lv_has ls 3 [(0, .ref (o + 24)), (1, .int p0), (2, .int p1)] := hl
  obtain ⟨hx, hb, hml, hown, hts, -⟩ := id K
  unfold f_X7_append at hf
  refine lv_aload_n hx hb dX7_append_0 rfl (lv_at hl 0 rfl) ?_
  refine g_get (cx := 24) K hS lF_X7_29 ((eX_24 G o) _) (by decide) rfl dX7_append_1 ?_
  refine lv_iconst (v := 5) hx hb dX7_append_4 (by decide) ?_
  refine lv_icmp_lt (tgt := 9) hx hb dX7_append_5 (by decide) (fun c1 => ?_) (fun c1 => ?_)
  · have hf := gIf_t c1 hf
    refine lv_aload_n hx hb dX7_append_9 rfl (lv_at hl 0 rfl) ?_
    refine g_get (cx := 24) K hS lF_X7_14 ((eX_24 G o) _) (by decide) rfl dX7_append_10 ?_
    refine lv_aload_n hx hb dX7_append_13 rfl (lv_at hl 0 rfl) ?_
    refine g_get (cx := 24) K hS lF_X7_29 ((eX_24 G o) _) (by decide) rfl dX7_append_14 ?_
    refine lv_iload_n hx hb dX7_append_17 rfl (lv_at hl 1 rfl) ?_
    obtain ⟨q2, hq2, hf⟩ := Option.bind_eq_some_iff.mp hf
    refine g_Vv (cx := 25) (As := [.int (σ 24 0), .int p0]) K hS lV_X7_41 (c_X5_store 25 5 (gRow_25 G o) (σ 24 0) p0 σ q2 hq2) ((eX_25 G o) _) (by decide) rfl rfl rfl (Nat.le_of_ble_eq_true rfl) ⟨⟨Nat.le_of_ble_eq_true rfl, Nat.le_of_ble_eq_true rfl⟩, rfl, rfl⟩ hl.1 ⟨Nat.zero_le _, Nat.zero_le _⟩ dX7_append_18 (fun H locs hS => ?_)
    refine lv_aload_n hx hb dX7_append_21 rfl (lv_at hl 0 rfl) ?_
    refine g_get (cx := 24) K hS lF_X7_20 ((eX_24 G o) _) (by decide) rfl dX7_append_22 ?_
    refine lv_aload_n hx hb dX7_append_25 rfl (lv_at hl 0 rfl) ?_
    refine g_get (cx := 24) K hS lF_X7_29 ((eX_24 G o) _) (by decide) rfl dX7_append_26 ?_
    refine lv_iload_n hx hb dX7_append_29 rfl (lv_at hl 2 rfl) ?_
    obtain ⟨q3, hq3, hf⟩ := Option.bind_eq_some_iff.mp hf
    refine g_Vv (cx := 27) (As := [.int (q2 24 0), .int p1]) K hS lV_X7_41 (c_X5_store 27 5 (gRow_27 G o) (q2 24 0) p1 q2 q3 hq3) ((eX_27 G o) _) (by decide) rfl rfl rfl (Nat.le_of_ble_eq_true rfl) ⟨⟨Nat.le_of_ble_eq_true rfl, Nat.le_of_ble_eq_true rfl⟩, rfl, rfl⟩ hl.1 ⟨Nat.zero_le _, Nat.zero_le _⟩ dX7_append_30 (fun H locs hS => ?_)
    refine lv_aload_n hx hb dX7_append_33 rfl (lv_at hl 0 rfl) ?_
    refine g_get (cx := 24) K hS lF_X7_23 ((eX_24 G o) _) (by decide) rfl dX7_append_34 ?_
    refine lv_aload_n hx hb dX7_append_37 rfl (lv_at hl 0 rfl) ?_
    refine g_get (cx := 24) K hS lF_X7_29 ((eX_24 G o) _) (by decide) rfl dX7_append_38 ?_
    refine lv_iconst (v := 0) hx hb dX7_append_41 (by decide) ?_
    obtain ⟨q4, hq4, hf⟩ := Option.bind_eq_some_iff.mp hf
    refine g_Vv (cx := 29) (As := [.int (q3 24 0), .int 0]) K hS lV_X7_41 (c_X5_store 29 5 (gRow_29 G o) (q3 24 0) 0 q3 q4 hq4) ((eX_29 G o) _) (by decide) rfl rfl rfl (Nat.le_of_ble_eq_true rfl) ⟨⟨Nat.le_of_ble_eq_true rfl, Nat.le_of_ble_eq_true rfl⟩, rfl, rfl⟩ hl.1 ⟨Nat.zero_le _, Nat.zero_le _⟩ dX7_append_42 (fun H locs hS => ?_)
    refine lv_aload_n hx hb dX7_append_45 rfl (lv_at hl 0 rfl) ?_
    refine g_get (cx := 24) K hS lF_X7_26 ((eX_24 G o) _) (by decide) rfl dX7_append_46 ?_
    refine lv_aload_n hx hb dX7_append_49 rfl (lv_at hl 0 rfl) ?_
    refine g_get (cx := 24) K hS lF_X7_29 ((eX_24 G o) _) (by decide) rfl dX7_append_50 ?_
    refine lv_iconst (v := 0) hx hb dX7_append_53 (by decide) ?_
    obtain ⟨q5, hq5, hf⟩ := Option.bind_eq_some_iff.mp hf
    refine g_Vv (cx := 31) (As := [.int (q4 24 0), .int 0]) K hS lV_X7_41 (c_X5_store 31 5 (gRow_31 G o) (q4 24 0) 0 q4 q5 hq5) ((eX_31 G o) _) (by decide) rfl rfl rfl (Nat.le_of_ble_eq_true rfl) ⟨⟨Nat.le_of_ble_eq_true rfl, Nat.le_of_ble_eq_true rfl⟩, rfl, rfl⟩ hl.1 ⟨Nat.zero_le _, Nat.zero_le _⟩ dX7_append_54 (fun H locs hS => ?_)
    refine lv_aload_n hx hb dX7_append_57 rfl (lv_at hl 0 rfl) ?_
    refine lv_dup hx hb dX7_append_58 rfl ?_
    refine g_get (cx := 24) K hS lF_X7_29 ((eX_24 G o) _) (by decide) rfl dX7_append_59 ?_
    refine lv_iconst (v := 1) hx hb dX7_append_62 (by decide) ?_
    refine lv_iadd hx hb dX7_append_63 ?_
    obtain ⟨s6, hs6, hf⟩ := gLet_some hf
    refine g_put (cx := 24) K hS lP_X7_29 (eX_24 G o) (by decide) rfl (Nat.le_of_ble_eq_true rfl) rfl rfl dX7_append_64 (fun H locs hS => ?_)
    rw [← hs6] at hS
    exact g_vret K hS hf dX7_append_67
  · have hf := gIf_f c1 hf
    exact g_vret K hS hf dX7_append_8
abbrev rmX7_whoAreAwake : Room := { frames := 1, cells := 0, slots := 0, locals := 21 }
def f_X7_whoAreAwake_L4 : Nat → Int32 → Int32 → gS → Option (Int32 × gS)
  | 0, _, _, _ => none
  | n + 1, v1, v2, σ => if (σ 24 0) ≤ v2 then (some (v1, σ)) else (Option.bind (f_X5_at 29 5 v2 σ) (fun q2 => if q2.1 ≤ 0 then (f_X7_whoAreAwake_L4 n v1 (v2 + 1) q2.2) else (gLet (v1 ||| (1 <<< (v2 &&& 31))) (fun x4 => f_X7_whoAreAwake_L4 n x4 (v2 + 1) q2.2))))
theorem f_X7_whoAreAwake_L4_s (n : Nat) (v1 : Int32) (v2 : Int32) (σ : gS) : f_X7_whoAreAwake_L4 (n + 1) v1 v2 σ = (if (σ 24 0) ≤ v2 then (some (v1, σ)) else (Option.bind (f_X5_at 29 5 v2 σ) (fun q2 => if q2.1 ≤ 0 then (f_X7_whoAreAwake_L4 n v1 (v2 + 1) q2.2) else (gLet (v1 ||| (1 <<< (v2 &&& 31))) (fun x4 => f_X7_whoAreAwake_L4 n x4 (v2 + 1) q2.2))))) := rfl
def f_X7_whoAreAwake (σ : gS) : Option (Int32 × gS) := f_X7_whoAreAwake_L4 gFu 0 0 σ
set_option maxHeartbeats 4000000 in
set_option maxRecDepth 100000 in
theorem w_X7_whoAreAwake_L4 {q : Int32 × gS} (K : gK p s m args meth c G cX7_whoAreAwake 3 RX7 (some .int)) : ∀ (n : Nat) (v1 : Int32) (v2 : Int32) (σ : gS), f_X7_whoAreAwake_L4 n v1 v2 σ = some q → ∀ (H : Heap) (locs : List Loc) (ls : Array Slot), gSt G (entX G o) o 302 s σ H locs → lv_has ls 3 [(0, .ref (o + 24)), (1, .int v1), (2, .int v2)] → W p l e rmX7_whoAreAwake s m args below meth c H locs 0 0 (MQ below (gQi G (entX G o) o 302 q) args s 0 0 (gA o 302)) (F0 m 4 ls []) := by
  obtain ⟨hx, hb, hml, hown, hts, -⟩ := id K
  intro n
  induction n with
  | zero =>
    intro v1 v2 σ hf
    exact absurd (show (none : Option _) = some q from hf) (by simp)
  | succ n ih =>
    intro v1 v2 σ hf H locs ls hS hl
    rw [f_X7_whoAreAwake_L4_s] at hf
    refine lv_iload_n hx hb dX7_whoAreAwake_4 rfl (lv_at hl 2 rfl) ?_
    refine lv_aload_n hx hb dX7_whoAreAwake_5 rfl (lv_at hl 0 rfl) ?_
    refine g_get (cx := 24) K hS lF_X7_29 ((eX_24 G o) _) (by decide) rfl dX7_whoAreAwake_6 ?_
    refine lv_icmp_ge (tgt := 35) hx hb dX7_whoAreAwake_9 (by decide) (fun c1 => ?_) (fun c1 => ?_)
    · have hf := gIf_t c1 hf
      refine lv_iload_n hx hb dX7_whoAreAwake_35 rfl (lv_at hl 1 rfl) ?_
      exact g_iret K hS hf dX7_whoAreAwake_36
    · have hf := gIf_f c1 hf
      refine lv_aload_n hx hb dX7_whoAreAwake_12 rfl (lv_at hl 0 rfl) ?_
      refine g_get (cx := 24) K hS lF_X7_23 ((eX_24 G o) _) (by decide) rfl dX7_whoAreAwake_13 ?_
      refine lv_iload_n hx hb dX7_whoAreAwake_16 rfl (lv_at hl 2 rfl) ?_
      obtain ⟨q2, hq2, hf⟩ := Option.bind_eq_some_iff.mp hf
      refine g_Vi (cx := 29) (As := [.int v2]) K hS lV_X7_45 (c_X5_at 29 5 (gRow_29 G o) v2 σ q2 hq2) ((eX_29 G o) _) (by decide) rfl rfl rfl (Nat.le_of_ble_eq_true rfl) ⟨⟨Nat.le_of_ble_eq_true rfl, Nat.le_of_ble_eq_true rfl⟩, rfl, rfl⟩ hl.1 ⟨Nat.zero_le _, Nat.zero_le _⟩ dX7_whoAreAwake_17 (fun H locs hS => ?_)
      refine lv_if_le (tgt := 29) hx hb dX7_whoAreAwake_20 (by decide) (fun c3 => ?_) (fun c3 => ?_)
      · have hf := gIf_t c3 hf
        refine lv_iinc (v := (v2 + 1)) (lv' := [(2, .int (v2 + 1)), (0, .ref (o + 24)), (1, .int v1)]) hx hb dX7_whoAreAwake_29 hl (k := 2) rfl rfl (by decide) rfl (fun ls hl => ?_)
        refine lv_goto (tgt := 4) hx hb dX7_whoAreAwake_32 (by decide) ?_
        exact ih v1 (v2 + 1) q2.2 hf _ _ _ hS (lv_sub hl [1, 2, 0] rfl)
      · have hf := gIf_f c3 hf
        refine lv_iload_n hx hb dX7_whoAreAwake_23 rfl (lv_at hl 1 rfl) ?_
        refine lv_iconst (v := 1) hx hb dX7_whoAreAwake_24 (by decide) ?_
        refine lv_iload_n hx hb dX7_whoAreAwake_25 rfl (lv_at hl 2 rfl) ?_
        refine lv_ishl hx hb dX7_whoAreAwake_26 ?_
        refine lv_ior hx hb dX7_whoAreAwake_27 ?_
        obtain ⟨x4, hx4, hf⟩ := gLet_some hf
        refine g_top hx4 ?_
        refine lv_istore_n (lv' := [(1, .int x4), (0, .ref (o + 24)), (2, .int v2)]) hx hb dX7_whoAreAwake_28 rfl hl (by decide) rfl (fun ls hl => ?_)
        refine lv_iinc (v := (v2 + 1)) (lv' := [(2, .int (v2 + 1)), (1, .int x4), (0, .ref (o + 24))]) hx hb dX7_whoAreAwake_29 hl (k := 2) rfl rfl (by decide) rfl (fun ls hl => ?_)
        refine lv_goto (tgt := 4) hx hb dX7_whoAreAwake_32 (by decide) ?_
        exact ih x4 (v2 + 1) q2.2 hf _ _ _ hS (lv_sub hl [2, 1, 0] rfl)
set_option maxHeartbeats 4000000 in
set_option maxRecDepth 100000 in
theorem c_X7_whoAreAwake (σ : gS) (q : Int32 × gS) (hf : f_X7_whoAreAwake σ = some q) : Met l yX7_whoAreAwake (gW yX7_whoAreAwake cX7_whoAreAwake 3 (some .int)) rmX7_whoAreAwake (gPc G (entX G o) o 302 [.ref (o + 24)] σ) (gQi G (entX G o) o 302 q) 0 0 (gA o 302) := by
  refine g_met (by decide) ⟨rfl, rfl⟩ (fun p e s m args below meth c ls K hS hl => ?_) (Nat.le_of_ble_eq_true rfl)
  have K : gK p s m args meth c G cX7_whoAreAwake 3 RX7 (some .int) := K
  have hl : lv_has ls 3 [(0, .ref (o + 24))] := hl
  obtain ⟨hx, hb, hml, hown, hts, -⟩ := id K
  unfold f_X7_whoAreAwake at hf
  refine lv_iconst (v := 0) hx hb dX7_whoAreAwake_0 (by decide) ?_
  refine lv_istore_n (lv' := [(1, .int 0), (0, .ref (o + 24))]) hx hb dX7_whoAreAwake_1 rfl hl (by decide) rfl (fun ls hl => ?_)
  refine lv_iconst (v := 0) hx hb dX7_whoAreAwake_2 (by decide) ?_
  refine lv_istore_n (lv' := [(2, .int 0), (1, .int 0), (0, .ref (o + 24))]) hx hb dX7_whoAreAwake_3 rfl hl (by decide) rfl (fun ls hl => ?_)
  refine w_X7_whoAreAwake_L4 K gFu 0 0 σ hf _ _ _ hS (lv_sub hl [2, 1, 0] rfl)
abbrev rmX8_whyNot : Room := { frames := 3, cells := 0, slots := 0, locals := 70 }
def f_X8_whyNot_L8 (w1 : Int32) (w2 : Int32) (K58 : Int32 → Int32 → gS → Option (Int32 × gS)) : Nat → Int32 → Int32 → Int32 → gS → Option (Int32 × gS)
  | 0, _, _, _, _ => none
  | n + 1, v3, v4, v5, σ => if (σ 4 0) ≤ v5 then (K58 v3 v4 σ) else (Option.bind (f_X10_holds w1 v5 σ) (fun q2 => if q2.1 = 0 then (f_X8_whyNot_L8 w1 w2 K58 n v3 v4 (v5 + 1) q2.2) else (Option.bind (f_X5_at 9 20 v5 q2.2) (fun q4 => gLet (v3 ^^^ q4.1) (fun x5 => Option.bind (f_X5_at 9 20 v5 q4.2) (fun q6 => gLet (v4 ||| q6.1) (fun x7 => f_X8_whyNot_L8 w1 w2 K58 n x5 x7 (v5 + 1) q6.2)))))))
theorem f_X8_whyNot_L8_s (w1 : Int32) (w2 : Int32) (K58 : Int32 → Int32 → gS → Option (Int32 × gS)) (n : Nat) (v3 : Int32) (v4 : Int32) (v5 : Int32) (σ : gS) : f_X8_whyNot_L8 w1 w2 K58 (n + 1) v3 v4 v5 σ = (if (σ 4 0) ≤ v5 then (K58 v3 v4 σ) else (Option.bind (f_X10_holds w1 v5 σ) (fun q2 => if q2.1 = 0 then (f_X8_whyNot_L8 w1 w2 K58 n v3 v4 (v5 + 1) q2.2) else (Option.bind (f_X5_at 9 20 v5 q2.2) (fun q4 => gLet (v3 ^^^ q4.1) (fun x5 => Option.bind (f_X5_at 9 20 v5 q4.2) (fun q6 => gLet (v4 ||| q6.1) (fun x7 => f_X8_whyNot_L8 w1 w2 K58 n x5 x7 (v5 + 1) q6.2)))))))) := rfl
def f_X8_whyNot (p0 : Int32) (p1 : Int32) (σ : gS) : Option (Int32 × gS) := f_X8_whyNot_L8 p0 p1 (fun (k8 : Int32) (k9 : Int32) (s10 : gS) => if p0 = 0 then (some (1, s10)) else (Option.bind (f_X10_holds k9 p1 s10) (fun q12 => if q12.1 = 0 then (some (2, q12.2)) else (Option.bind (f_X1_roomsFrom p1 p0 q12.2) (fun q14 => if (k9 &&& (q14.1 ^^^ (-1))) = 0 then (Option.bind (f_J6_bitCount_0f7a4 k8 q14.2) (fun q16 => if q16.1 ≤ 2 then (if k8 = 0 then (some (0, q16.2)) else (Option.bind (f_X10_holds k8 p1 q16.2) (fun q19 => if q19.1 = 0 then (some (5, q19.2)) else (some (0, q19.2))))) else (some (4, q16.2)))) else (some (3, q14.2))))))) gFu 0 0 0 σ
set_option maxHeartbeats 4000000 in
set_option maxRecDepth 100000 in
theorem w_X8_whyNot_L8 (w1 : Int32) (w2 : Int32) (K58 : Int32 → Int32 → gS → Option (Int32 × gS)) {q : Int32 × gS} (K : gK p s m args meth c G cX8_whyNot 6 RX8 (some .int)) (hK58 : ∀ (k3 : Int32) (k4 : Int32) (σ : gS), K58 k3 k4 σ = some q → ∀ (H : Heap) (locs : List Loc) (ls : Array Slot), gSt G (entX G o) o 302 s σ H locs → lv_has ls 6 [(0, .ref (o + 4)), (1, .int w1), (2, .int w2), (3, .int k3), (4, .int k4)] → W p l e rmX8_whyNot s m args below meth c H locs 0 0 (MQ below (gQi G (entX G o) o 302 q) args s 0 0 (gA o 302)) (F0 m 58 ls [])) : ∀ (n : Nat) (v3 : Int32) (v4 : Int32) (v5 : Int32) (σ : gS), f_X8_whyNot_L8 w1 w2 K58 n v3 v4 v5 σ = some q → ∀ (H : Heap) (locs : List Loc) (ls : Array Slot), gSt G (entX G o) o 302 s σ H locs → lv_has ls 6 [(0, .ref (o + 4)), (1, .int w1), (2, .int w2), (3, .int v3), (4, .int v4), (5, .int v5)] → W p l e rmX8_whyNot s m args below meth c H locs 0 0 (MQ below (gQi G (entX G o) o 302 q) args s 0 0 (gA o 302)) (F0 m 8 ls []) := by
  obtain ⟨hx, hb, hml, hown, hts, -⟩ := id K
  intro n
  induction n with
  | zero =>
    intro v3 v4 v5 σ hf
    exact absurd (show (none : Option _) = some q from hf) (by simp)
  | succ n ih =>
    intro v3 v4 v5 σ hf H locs ls hS hl
    rw [f_X8_whyNot_L8_s] at hf
    refine lv_iload hx hb dX8_whyNot_8 (lv_at hl 5 rfl) ?_
    refine lv_aload_n hx hb dX8_whyNot_10 rfl (lv_at hl 0 rfl) ?_
    refine g_get (cx := 4) K hS lF_X8_9 ((eX_4 G o) _) (by decide) rfl dX8_whyNot_11 ?_
    refine lv_icmp_ge (tgt := 58) hx hb dX8_whyNot_14 (by decide) (fun c1 => ?_) (fun c1 => ?_)
    · have hf := gIf_t c1 hf
      exact hK58 v3 v4 σ hf _ _ _ hS (lv_sub hl [0, 1, 2, 3, 4] rfl)
    · have hf := gIf_f c1 hf
      refine lv_iload_n hx hb dX8_whyNot_17 rfl (lv_at hl 1 rfl) ?_
      refine lv_iload hx hb dX8_whyNot_18 (lv_at hl 5 rfl) ?_
      obtain ⟨q2, hq2, hf⟩ := Option.bind_eq_some_iff.mp hf
      refine g_Ni (As := [.int w1, .int v5]) K hS lN_X8_15 (c_X10_holds w1 v5 σ q2 hq2) rfl rfl (Nat.le_of_ble_eq_true rfl) ⟨⟨Nat.le_of_ble_eq_true rfl, Nat.le_of_ble_eq_true rfl⟩, rfl, rfl⟩ hl.1 ⟨Nat.zero_le _, Nat.zero_le _⟩ dX8_whyNot_20 (fun H locs hS => ?_)
      refine lv_if_eq (tgt := 52) hx hb dX8_whyNot_23 (by decide) (fun c3 => ?_) (fun c3 => ?_)
      · have hf := gIf_t c3 hf
        refine lv_iinc (v := (v5 + 1)) (lv' := [(5, .int (v5 + 1)), (0, .ref (o + 4)), (1, .int w1), (2, .int w2), (3, .int v3), (4, .int v4)]) hx hb dX8_whyNot_52 hl (k := 5) rfl rfl (by decide) rfl (fun ls hl => ?_)
        refine lv_goto (tgt := 8) hx hb dX8_whyNot_55 (by decide) ?_
        exact ih v3 v4 (v5 + 1) q2.2 hf _ _ _ hS (lv_sub hl [1, 2, 3, 4, 5, 0] rfl)
      · have hf := gIf_f c3 hf
        refine lv_iload_n hx hb dX8_whyNot_26 rfl (lv_at hl 3 rfl) ?_
        refine lv_aload_n hx hb dX8_whyNot_27 rfl (lv_at hl 0 rfl) ?_
        refine g_get (cx := 4) K hS lF_X8_19 ((eX_4 G o) _) (by decide) rfl dX8_whyNot_28 ?_
        refine lv_iload hx hb dX8_whyNot_31 (lv_at hl 5 rfl) ?_
        obtain ⟨q4, hq4, hf⟩ := Option.bind_eq_some_iff.mp hf
        refine g_Vi (cx := 9) (As := [.int v5]) K hS lV_X8_23 (c_X5_at 9 20 (gRow_9 G o) v5 q2.2 q4 hq4) ((eX_9 G o) _) (by decide) rfl rfl rfl (Nat.le_of_ble_eq_true rfl) ⟨⟨Nat.le_of_ble_eq_true rfl, Nat.le_of_ble_eq_true rfl⟩, rfl, rfl⟩ hl.1 ⟨Nat.zero_le _, Nat.zero_le _⟩ dX8_whyNot_33 (fun H locs hS => ?_)
        refine lv_ixor hx hb dX8_whyNot_36 ?_
        obtain ⟨x5, hx5, hf⟩ := gLet_some hf
        refine g_top hx5 ?_
        refine lv_istore_n (lv' := [(3, .int x5), (0, .ref (o + 4)), (1, .int w1), (2, .int w2), (4, .int v4), (5, .int v5)]) hx hb dX8_whyNot_37 rfl hl (by decide) rfl (fun ls hl => ?_)
        refine lv_iload hx hb dX8_whyNot_38 (lv_at hl 4 rfl) ?_
        refine lv_aload_n hx hb dX8_whyNot_40 rfl (lv_at hl 1 rfl) ?_
        refine g_get (cx := 4) K hS lF_X8_19 ((eX_4 G o) _) (by decide) rfl dX8_whyNot_41 ?_
        refine lv_iload hx hb dX8_whyNot_44 (lv_at hl 5 rfl) ?_
        obtain ⟨q6, hq6, hf⟩ := Option.bind_eq_some_iff.mp hf
        refine g_Vi (cx := 9) (As := [.int v5]) K hS lV_X8_23 (c_X5_at 9 20 (gRow_9 G o) v5 q4.2 q6 hq6) ((eX_9 G o) _) (by decide) rfl rfl rfl (Nat.le_of_ble_eq_true rfl) ⟨⟨Nat.le_of_ble_eq_true rfl, Nat.le_of_ble_eq_true rfl⟩, rfl, rfl⟩ hl.1 ⟨Nat.zero_le _, Nat.zero_le _⟩ dX8_whyNot_46 (fun H locs hS => ?_)
        refine lv_ior hx hb dX8_whyNot_49 ?_
        obtain ⟨x7, hx7, hf⟩ := gLet_some hf
        refine g_top hx7 ?_
        refine lv_istore (lv' := [(4, .int x7), (3, .int x5), (0, .ref (o + 4)), (1, .int w1), (2, .int w2), (5, .int v5)]) hx hb dX8_whyNot_50 hl (by decide) rfl (fun ls hl => ?_)
        refine lv_iinc (v := (v5 + 1)) (lv' := [(5, .int (v5 + 1)), (4, .int x7), (3, .int x5), (0, .ref (o + 4)), (1, .int w1), (2, .int w2)]) hx hb dX8_whyNot_52 hl (k := 5) rfl rfl (by decide) rfl (fun ls hl => ?_)
        refine lv_goto (tgt := 8) hx hb dX8_whyNot_55 (by decide) ?_
        exact ih x5 x7 (v5 + 1) q6.2 hf _ _ _ hS (lv_sub hl [3, 4, 5, 2, 1, 0] rfl)
set_option maxHeartbeats 4000000 in
set_option maxRecDepth 100000 in
theorem c_X8_whyNot (p0 : Int32) (p1 : Int32) (σ : gS) (q : Int32 × gS) (hf : f_X8_whyNot p0 p1 σ = some q) : Met l yX8_whyNot (gW yX8_whyNot cX8_whyNot 6 (some .int)) rmX8_whyNot (gPc G (entX G o) o 302 [.ref (o + 4), .int p0, .int p1] σ) (gQi G (entX G o) o 302 q) 0 0 (gA o 302) := by
  refine g_met (by decide) ⟨rfl, rfl⟩ (fun p e s m args below meth c ls K hS hl => ?_) (Nat.le_of_ble_eq_true rfl)
  have K : gK p s m args meth c G cX8_whyNot 6 RX8 (some .int) := K
  have hl : lv_has ls 6 [(0, .ref (o + 4)), (1, .int p0), (2, .int p1)] := hl
  obtain ⟨hx, hb, hml, hown, hts, -⟩ := id K
  unfold f_X8_whyNot at hf
  refine lv_iconst (v := 0) hx hb dX8_whyNot_0 (by decide) ?_
  refine lv_istore_n (lv' := [(3, .int 0), (0, .ref (o + 4)), (1, .int p0), (2, .int p1)]) hx hb dX8_whyNot_1 rfl hl (by decide) rfl (fun ls hl => ?_)
  refine lv_iconst (v := 0) hx hb dX8_whyNot_2 (by decide) ?_
  refine lv_istore (lv' := [(4, .int 0), (3, .int 0), (0, .ref (o + 4)), (1, .int p0), (2, .int p1)]) hx hb dX8_whyNot_3 hl (by decide) rfl (fun ls hl => ?_)
  refine lv_iconst (v := 0) hx hb dX8_whyNot_5 (by decide) ?_
  refine lv_istore (lv' := [(5, .int 0), (4, .int 0), (3, .int 0), (0, .ref (o + 4)), (1, .int p0), (2, .int p1)]) hx hb dX8_whyNot_6 hl (by decide) rfl (fun ls hl => ?_)
  refine w_X8_whyNot_L8 p0 p1 _ K ?_ gFu 0 0 0 σ hf _ _ _ hS (lv_sub hl [3, 4, 5, 2, 1, 0] rfl)
  · intro k8 k9 s10 hf H locs ls hS hl
    refine lv_iload_n hx hb dX8_whyNot_58 rfl (lv_at hl 1 rfl) ?_
    refine lv_if_ne (tgt := 64) hx hb dX8_whyNot_59 (by decide) (fun c11 => ?_) (fun c11 => ?_)
    · have hf := gIf_f c11 hf
      refine lv_iload hx hb dX8_whyNot_64 (lv_at hl 4 rfl) ?_
      refine lv_iload_n hx hb dX8_whyNot_66 rfl (lv_at hl 2 rfl) ?_
      obtain ⟨q12, hq12, hf⟩ := Option.bind_eq_some_iff.mp hf
      refine g_Ni (As := [.int k9, .int p1]) K hS lN_X8_15 (c_X10_holds k9 p1 s10 q12 hq12) rfl rfl (Nat.le_of_ble_eq_true rfl) ⟨⟨Nat.le_of_ble_eq_true rfl, Nat.le_of_ble_eq_true rfl⟩, rfl, rfl⟩ hl.1 ⟨Nat.zero_le _, Nat.zero_le _⟩ dX8_whyNot_67 (fun H locs hS => ?_)
      refine lv_if_ne (tgt := 75) hx hb dX8_whyNot_70 (by decide) (fun c13 => ?_) (fun c13 => ?_)
      · have hf := gIf_f c13 hf
        refine lv_iload hx hb dX8_whyNot_75 (lv_at hl 4 rfl) ?_
        refine lv_aload_n hx hb dX8_whyNot_77 rfl (lv_at hl 0 rfl) ?_
        refine lv_iload_n hx hb dX8_whyNot_78 rfl (lv_at hl 2 rfl) ?_
        refine lv_iload_n hx hb dX8_whyNot_79 rfl (lv_at hl 1 rfl) ?_
        obtain ⟨q14, hq14, hf⟩ := Option.bind_eq_some_iff.mp hf
        refine g_Vi (cx := 4) (As := [.int p1, .int p0]) K hS lV_X8_31 (c_X1_roomsFrom p1 p0 q12.2 q14 hq14) ((eX_4 G o) _) (by decide) rfl rfl rfl (Nat.le_of_ble_eq_true rfl) ⟨⟨Nat.le_of_ble_eq_true rfl, Nat.le_of_ble_eq_true rfl⟩, rfl, rfl⟩ hl.1 ⟨Nat.zero_le _, Nat.zero_le _⟩ dX8_whyNot_80 (fun H locs hS => ?_)
        refine lv_iconst (v := (-1)) hx hb dX8_whyNot_83 (by decide) ?_
        refine lv_ixor hx hb dX8_whyNot_84 ?_
        refine lv_iand hx hb dX8_whyNot_85 ?_
        refine lv_if_eq (tgt := 91) hx hb dX8_whyNot_86 (by decide) (fun c15 => ?_) (fun c15 => ?_)
        · have hf := gIf_t c15 hf
          refine lv_iload_n hx hb dX8_whyNot_91 rfl (lv_at hl 3 rfl) ?_
          obtain ⟨q16, hq16, hf⟩ := Option.bind_eq_some_iff.mp hf
          refine g_Si (As := [.int k8]) K hS lS_X8_35 (c_J6_bitCount_0f7a4 k8 q14.2 q16 hq16) rfl rfl (Nat.le_of_ble_eq_true rfl) ⟨⟨Nat.le_of_ble_eq_true rfl, Nat.le_of_ble_eq_true rfl⟩, rfl, rfl⟩ hl.1 ⟨Nat.zero_le _, Nat.zero_le _⟩ dX8_whyNot_92 (fun H locs hS => ?_)
          refine lv_iconst (v := 2) hx hb dX8_whyNot_95 (by decide) ?_
          refine lv_icmp_le (tgt := 101) hx hb dX8_whyNot_96 (by decide) (fun c17 => ?_) (fun c17 => ?_)
          · have hf := gIf_t c17 hf
            refine lv_iload_n hx hb dX8_whyNot_101 rfl (lv_at hl 3 rfl) ?_
            refine lv_if_eq (tgt := 113) hx hb dX8_whyNot_102 (by decide) (fun c18 => ?_) (fun c18 => ?_)
            · have hf := gIf_t c18 hf
              refine lv_iconst (v := 0) hx hb dX8_whyNot_113 (by decide) ?_
              refine lv_goto (tgt := 118) hx hb dX8_whyNot_114 (by decide) ?_
              exact g_iret K hS hf dX8_whyNot_118
            · have hf := gIf_f c18 hf
              refine lv_iload_n hx hb dX8_whyNot_105 rfl (lv_at hl 3 rfl) ?_
              refine lv_iload_n hx hb dX8_whyNot_106 rfl (lv_at hl 2 rfl) ?_
              obtain ⟨q19, hq19, hf⟩ := Option.bind_eq_some_iff.mp hf
              refine g_Ni (As := [.int k8, .int p1]) K hS lN_X8_15 (c_X10_holds k8 p1 q16.2 q19 hq19) rfl rfl (Nat.le_of_ble_eq_true rfl) ⟨⟨Nat.le_of_ble_eq_true rfl, Nat.le_of_ble_eq_true rfl⟩, rfl, rfl⟩ hl.1 ⟨Nat.zero_le _, Nat.zero_le _⟩ dX8_whyNot_107 (fun H locs hS => ?_)
              refine lv_if_eq (tgt := 117) hx hb dX8_whyNot_110 (by decide) (fun c20 => ?_) (fun c20 => ?_)
              · have hf := gIf_t c20 hf
                refine lv_iconst (v := 5) hx hb dX8_whyNot_117 (by decide) ?_
                exact g_iret K hS hf dX8_whyNot_118
              · have hf := gIf_f c20 hf
                refine lv_iconst (v := 0) hx hb dX8_whyNot_113 (by decide) ?_
                refine lv_goto (tgt := 118) hx hb dX8_whyNot_114 (by decide) ?_
                exact g_iret K hS hf dX8_whyNot_118
          · have hf := gIf_f c17 hf
            refine lv_iconst (v := 4) hx hb dX8_whyNot_99 (by decide) ?_
            exact g_iret K hS hf dX8_whyNot_100
        · have hf := gIf_f c15 hf
          refine lv_iconst (v := 3) hx hb dX8_whyNot_89 (by decide) ?_
          exact g_iret K hS hf dX8_whyNot_90
      · have hf := gIf_t c13 hf
        refine lv_iconst (v := 2) hx hb dX8_whyNot_73 (by decide) ?_
        exact g_iret K hS hf dX8_whyNot_74
    · have hf := gIf_t c11 hf
      refine lv_iconst (v := 1) hx hb dX8_whyNot_62 (by decide) ?_
      exact g_iret K hS hf dX8_whyNot_63
abbrev rmX8_firstBoard : Room := { frames := 4, cells := 0, slots := 0, locals := 95 }
def f_X8_firstBoard_L13 (w1 : Int32) (w2 : Int32) (w3 : Int32) : Nat → Int32 → gS → Option (Int32 × gS)
  | 0, _, _ => none
  | n + 1, v4, σ => if (σ 4 0) ≤ v4 then (some ((-6), σ)) else (Option.bind (f_X10_holds w3 v4 σ) (fun q4 => if q4.1 = 0 then (f_X8_firstBoard_L13 w1 w2 w3 n (v4 + 1) q4.2) else (gLet (w1 &&& ((1 <<< (v4 &&& 31)) ^^^ (-1))) (fun x6 => if x6 = 0 then (some (v4, q4.2)) else (Option.bind (f_X1_beyond v4 w2 q4.2) (fun q8 => Option.bind (f_X8_whyNot x6 q8.1 q8.2) (fun q9 => if q9.1 = 0 then (some (v4, q9.2)) else (f_X8_firstBoard_L13 w1 w2 w3 n (v4 + 1) q9.2))))))))
theorem f_X8_firstBoard_L13_s (w1 : Int32) (w2 : Int32) (w3 : Int32) (n : Nat) (v4 : Int32) (σ : gS) : f_X8_firstBoard_L13 w1 w2 w3 (n + 1) v4 σ = (if (σ 4 0) ≤ v4 then (some ((-6), σ)) else (Option.bind (f_X10_holds w3 v4 σ) (fun q4 => if q4.1 = 0 then (f_X8_firstBoard_L13 w1 w2 w3 n (v4 + 1) q4.2) else (gLet (w1 &&& ((1 <<< (v4 &&& 31)) ^^^ (-1))) (fun x6 => if x6 = 0 then (some (v4, q4.2)) else (Option.bind (f_X1_beyond v4 w2 q4.2) (fun q8 => Option.bind (f_X8_whyNot x6 q8.1 q8.2) (fun q9 => if q9.1 = 0 then (some (v4, q9.2)) else (f_X8_firstBoard_L13 w1 w2 w3 n (v4 + 1) q9.2))))))))) := rfl
def f_X8_firstBoard (p0 : Int32) (p1 : Int32) (σ : gS) : Option (Int32 × gS) := Option.bind (f_X1_touching (1 <<< (p1 &&& 31)) σ) (fun q1 => gLet (p0 &&& q1.1) (fun x2 => f_X8_firstBoard_L13 p0 p1 x2 gFu 0 q1.2))
set_option maxHeartbeats 4000000 in
set_option maxRecDepth 100000 in
theorem w_X8_firstBoard_L13 (w1 : Int32) (w2 : Int32) (w3 : Int32) {q : Int32 × gS} (K : gK p s m args meth c G cX8_firstBoard 6 RX8 (some .int)) : ∀ (n : Nat) (v4 : Int32) (σ : gS), f_X8_firstBoard_L13 w1 w2 w3 n v4 σ = some q → ∀ (H : Heap) (locs : List Loc) (ls : Array Slot), gSt G (entX G o) o 302 s σ H locs → lv_has ls 6 [(0, .ref (o + 4)), (1, .int w1), (2, .int w2), (3, .int w3), (4, .int v4)] → W p l e rmX8_firstBoard s m args below meth c H locs 0 0 (MQ below (gQi G (entX G o) o 302 q) args s 0 0 (gA o 302)) (F0 m 13 ls []) := by
  obtain ⟨hx, hb, hml, hown, hts, -⟩ := id K
  intro n
  induction n with
  | zero =>
    intro v4 σ hf
    exact absurd (show (none : Option _) = some q from hf) (by simp)
  | succ n ih =>
    intro v4 σ hf H locs ls hS hl
    rw [f_X8_firstBoard_L13_s] at hf
    refine lv_iload hx hb dX8_firstBoard_13 (lv_at hl 4 rfl) ?_
    refine lv_aload_n hx hb dX8_firstBoard_15 rfl (lv_at hl 0 rfl) ?_
    refine g_get (cx := 4) K hS lF_X8_9 ((eX_4 G o) _) (by decide) rfl dX8_firstBoard_16 ?_
    refine lv_icmp_ge (tgt := 71) hx hb dX8_firstBoard_19 (by decide) (fun c3 => ?_) (fun c3 => ?_)
    · have hf := gIf_t c3 hf
      refine lv_bipush (v := (-6)) hx hb dX8_firstBoard_71 (by decide) ?_
      exact g_iret K hS hf dX8_firstBoard_73
    · have hf := gIf_f c3 hf
      refine lv_iload_n hx hb dX8_firstBoard_22 rfl (lv_at hl 3 rfl) ?_
      refine lv_iload hx hb dX8_firstBoard_23 (lv_at hl 4 rfl) ?_
      obtain ⟨q4, hq4, hf⟩ := Option.bind_eq_some_iff.mp hf
      refine g_Ni (As := [.int w3, .int v4]) K hS lN_X8_15 (c_X10_holds w3 v4 σ q4 hq4) rfl rfl (Nat.le_of_ble_eq_true rfl) ⟨⟨Nat.le_of_ble_eq_true rfl, Nat.le_of_ble_eq_true rfl⟩, rfl, rfl⟩ hl.1 ⟨Nat.zero_le _, Nat.zero_le _⟩ dX8_firstBoard_25 (fun H locs hS => ?_)
      refine lv_if_eq (tgt := 65) hx hb dX8_firstBoard_28 (by decide) (fun c5 => ?_) (fun c5 => ?_)
      · have hf := gIf_t c5 hf
        refine lv_iinc (v := (v4 + 1)) (lv' := [(4, .int (v4 + 1)), (0, .ref (o + 4)), (1, .int w1), (2, .int w2), (3, .int w3)]) hx hb dX8_firstBoard_65 hl (k := 4) rfl rfl (by decide) rfl (fun ls hl => ?_)
        refine lv_goto (tgt := 13) hx hb dX8_firstBoard_68 (by decide) ?_
        exact ih (v4 + 1) q4.2 hf _ _ _ hS (lv_sub hl [1, 2, 3, 4, 0] rfl)
      · have hf := gIf_f c5 hf
        refine lv_iload_n hx hb dX8_firstBoard_31 rfl (lv_at hl 1 rfl) ?_
        refine lv_iconst (v := 1) hx hb dX8_firstBoard_32 (by decide) ?_
        refine lv_iload hx hb dX8_firstBoard_33 (lv_at hl 4 rfl) ?_
        refine lv_ishl hx hb dX8_firstBoard_35 ?_
        refine lv_iconst (v := (-1)) hx hb dX8_firstBoard_36 (by decide) ?_
        refine lv_ixor hx hb dX8_firstBoard_37 ?_
        refine lv_iand hx hb dX8_firstBoard_38 ?_
        obtain ⟨x6, hx6, hf⟩ := gLet_some hf
        refine g_top hx6 ?_
        refine lv_istore (lv' := [(5, .int x6), (0, .ref (o + 4)), (1, .int w1), (2, .int w2), (3, .int w3), (4, .int v4)]) hx hb dX8_firstBoard_39 hl (by decide) rfl (fun ls hl => ?_)
        refine lv_iload hx hb dX8_firstBoard_41 (lv_at hl 0 rfl) ?_
        refine lv_if_eq (tgt := 62) hx hb dX8_firstBoard_43 (by decide) (fun c7 => ?_) (fun c7 => ?_)
        · have hf := gIf_t c7 hf
          refine lv_iload hx hb dX8_firstBoard_62 (lv_at hl 5 rfl) ?_
          exact g_iret K hS hf dX8_firstBoard_64
        · have hf := gIf_f c7 hf
          refine lv_aload_n hx hb dX8_firstBoard_46 rfl (lv_at hl 1 rfl) ?_
          refine lv_iload hx hb dX8_firstBoard_47 (lv_at hl 0 rfl) ?_
          refine lv_aload_n hx hb dX8_firstBoard_49 rfl (lv_at hl 1 rfl) ?_
          refine lv_iload hx hb dX8_firstBoard_50 (lv_at hl 5 rfl) ?_
          refine lv_iload_n hx hb dX8_firstBoard_52 rfl (lv_at hl 3 rfl) ?_
          obtain ⟨q8, hq8, hf⟩ := Option.bind_eq_some_iff.mp hf
          refine g_Vi (cx := 4) (As := [.int v4, .int w2]) K hS lV_X8_44 (c_X1_beyond v4 w2 q4.2 q8 hq8) ((eX_4 G o) _) (by decide) rfl rfl rfl (Nat.le_of_ble_eq_true rfl) ⟨⟨Nat.le_of_ble_eq_true rfl, Nat.le_of_ble_eq_true rfl⟩, rfl, rfl⟩ hl.1 ⟨Nat.zero_le _, Nat.zero_le _⟩ dX8_firstBoard_53 (fun H locs hS => ?_)
          obtain ⟨q9, hq9, hf⟩ := Option.bind_eq_some_iff.mp hf
          refine g_Si (As := [.ref (o + 4), .int x6, .int q8.1]) K hS lS_X8_50 (c_X8_whyNot x6 q8.1 q8.2 q9 hq9) rfl rfl (Nat.le_of_ble_eq_true rfl) ⟨⟨Nat.le_of_ble_eq_true rfl, Nat.le_of_ble_eq_true rfl⟩, rfl, rfl⟩ hl.1 ⟨Nat.zero_le _, Nat.zero_le _⟩ dX8_firstBoard_56 (fun H locs hS => ?_)
          refine lv_if_ne (tgt := 65) hx hb dX8_firstBoard_59 (by decide) (fun c10 => ?_) (fun c10 => ?_)
          · have hf := gIf_f c10 hf
            refine lv_iinc (v := (v4 + 1)) (lv' := [(4, .int (v4 + 1)), (5, .int x6), (0, .ref (o + 4)), (1, .int w1), (2, .int w2), (3, .int w3)]) hx hb dX8_firstBoard_65 hl (k := 5) rfl rfl (by decide) rfl (fun ls hl => ?_)
            refine lv_goto (tgt := 13) hx hb dX8_firstBoard_68 (by decide) ?_
            exact ih (v4 + 1) q9.2 hf _ _ _ hS (lv_sub hl [2, 3, 4, 5, 0] rfl)
          · have hf := gIf_t c10 hf
            refine lv_iload hx hb dX8_firstBoard_62 (lv_at hl 5 rfl) ?_
            exact g_iret K hS hf dX8_firstBoard_64
set_option maxHeartbeats 4000000 in
set_option maxRecDepth 100000 in
theorem c_X8_firstBoard (p0 : Int32) (p1 : Int32) (σ : gS) (q : Int32 × gS) (hf : f_X8_firstBoard p0 p1 σ = some q) : Met l yX8_firstBoard (gW yX8_firstBoard cX8_firstBoard 6 (some .int)) rmX8_firstBoard (gPc G (entX G o) o 302 [.ref (o + 4), .int p0, .int p1] σ) (gQi G (entX G o) o 302 q) 0 0 (gA o 302) := by
  refine g_met (by decide) ⟨rfl, rfl⟩ (fun p e s m args below meth c ls K hS hl => ?_) (Nat.le_of_ble_eq_true rfl)
  have K : gK p s m args meth c G cX8_firstBoard 6 RX8 (some .int) := K
  have hl : lv_has ls 6 [(0, .ref (o + 4)), (1, .int p0), (2, .int p1)] := hl
  obtain ⟨hx, hb, hml, hown, hts, -⟩ := id K
  unfold f_X8_firstBoard at hf
  refine lv_iload_n hx hb dX8_firstBoard_0 rfl (lv_at hl 1 rfl) ?_
  refine lv_aload_n hx hb dX8_firstBoard_1 rfl (lv_at hl 0 rfl) ?_
  refine lv_iconst (v := 1) hx hb dX8_firstBoard_2 (by decide) ?_
  refine lv_iload_n hx hb dX8_firstBoard_3 rfl (lv_at hl 2 rfl) ?_
  refine lv_ishl hx hb dX8_firstBoard_4 ?_
  obtain ⟨q1, hq1, hf⟩ := Option.bind_eq_some_iff.mp hf
  refine g_Vi (cx := 4) (As := [.int (1 <<< (p1 &&& 31))]) K hS lV_X8_47 (c_X1_touching (1 <<< (p1 &&& 31)) σ q1 hq1) ((eX_4 G o) _) (by decide) rfl rfl rfl (Nat.le_of_ble_eq_true rfl) ⟨⟨Nat.le_of_ble_eq_true rfl, Nat.le_of_ble_eq_true rfl⟩, rfl, rfl⟩ hl.1 ⟨Nat.zero_le _, Nat.zero_le _⟩ dX8_firstBoard_5 (fun H locs hS => ?_)
  refine lv_iand hx hb dX8_firstBoard_8 ?_
  obtain ⟨x2, hx2, hf⟩ := gLet_some hf
  refine g_top hx2 ?_
  refine lv_istore_n (lv' := [(3, .int x2), (0, .ref (o + 4)), (1, .int p0), (2, .int p1)]) hx hb dX8_firstBoard_9 rfl hl (by decide) rfl (fun ls hl => ?_)
  refine lv_iconst (v := 0) hx hb dX8_firstBoard_10 (by decide) ?_
  refine lv_istore (lv' := [(4, .int 0), (3, .int x2), (0, .ref (o + 4)), (1, .int p0), (2, .int p1)]) hx hb dX8_firstBoard_11 hl (by decide) rfl (fun ls hl => ?_)
  refine w_X8_firstBoard_L13 p0 p1 x2 K gFu 0 q1.2 hf _ _ _ hS (lv_sub hl [2, 3, 4, 1, 0] rfl)
abbrev rmX8_boardAt : Room := { frames := 5, cells := 0, slots := 0, locals := 120 }
def f_X8_boardAt_L9 (w3 : Int32) : Nat → Int32 → Int32 → Int32 → gS → Option (Int32 × gS)
  | 0, _, _, _, _ => none
  | n + 1, v4, v5, v6, σ => if 20 ≤ v6 then (some ((-6), σ)) else (if v4 = 0 then (some ((-6), σ)) else (Option.bind (f_X8_firstBoard v4 v5 σ) (fun q3 => if v6 = w3 then (some (q3.1, q3.2)) else (if q3.1 = (-6) then (some (q3.1, q3.2)) else (gLet (v4 &&& ((1 <<< (q3.1 &&& 31)) ^^^ (-1))) (fun x6 => Option.bind (f_X1_beyond q3.1 v5 q3.2) (fun q7 => f_X8_boardAt_L9 w3 n x6 q7.1 (v6 + 1) q7.2)))))))
theorem f_X8_boardAt_L9_s (w3 : Int32) (n : Nat) (v4 : Int32) (v5 : Int32) (v6 : Int32) (σ : gS) : f_X8_boardAt_L9 w3 (n + 1) v4 v5 v6 σ = (if 20 ≤ v6 then (some ((-6), σ)) else (if v4 = 0 then (some ((-6), σ)) else (Option.bind (f_X8_firstBoard v4 v5 σ) (fun q3 => if v6 = w3 then (some (q3.1, q3.2)) else (if q3.1 = (-6) then (some (q3.1, q3.2)) else (gLet (v4 &&& ((1 <<< (q3.1 &&& 31)) ^^^ (-1))) (fun x6 => Option.bind (f_X1_beyond q3.1 v5 q3.2) (fun q7 => f_X8_boardAt_L9 w3 n x6 q7.1 (v6 + 1) q7.2)))))))) := rfl
def f_X8_boardAt (p0 : Int32) (p1 : Int32) (p2 : Int32) (σ : gS) : Option (Int32 × gS) := f_X8_boardAt_L9 p2 gFu p0 p1 0 σ
set_option maxHeartbeats 4000000 in
set_option maxRecDepth 100000 in
theorem w_X8_boardAt_L9 (w3 : Int32) {q : Int32 × gS} (K : gK p s m args meth c G cX8_boardAt 8 RX8 (some .int)) : ∀ (n : Nat) (v4 : Int32) (v5 : Int32) (v6 : Int32) (σ : gS), f_X8_boardAt_L9 w3 n v4 v5 v6 σ = some q → ∀ (H : Heap) (locs : List Loc) (ls : Array Slot), gSt G (entX G o) o 302 s σ H locs → lv_has ls 8 [(0, .ref (o + 4)), (3, .int w3), (4, .int v4), (5, .int v5), (6, .int v6)] → W p l e rmX8_boardAt s m args below meth c H locs 0 0 (MQ below (gQi G (entX G o) o 302 q) args s 0 0 (gA o 302)) (F0 m 9 ls []) := by
  obtain ⟨hx, hb, hml, hown, hts, -⟩ := id K
  intro n
  induction n with
  | zero =>
    intro v4 v5 v6 σ hf
    exact absurd (show (none : Option _) = some q from hf) (by simp)
  | succ n ih =>
    intro v4 v5 v6 σ hf H locs ls hS hl
    rw [f_X8_boardAt_L9_s] at hf
    refine lv_iload hx hb dX8_boardAt_9 (lv_at hl 4 rfl) ?_
    refine lv_bipush (v := 20) hx hb dX8_boardAt_11 (by decide) ?_
    refine lv_icmp_ge (tgt := 74) hx hb dX8_boardAt_13 (by decide) (fun c1 => ?_) (fun c1 => ?_)
    · have hf := gIf_t c1 hf
      refine lv_bipush (v := (-6)) hx hb dX8_boardAt_74 (by decide) ?_
      exact g_iret K hS hf dX8_boardAt_76
    · have hf := gIf_f c1 hf
      refine lv_iload hx hb dX8_boardAt_16 (lv_at hl 2 rfl) ?_
      refine lv_if_eq (tgt := 74) hx hb dX8_boardAt_18 (by decide) (fun c2 => ?_) (fun c2 => ?_)
      · have hf := gIf_t c2 hf
        refine lv_bipush (v := (-6)) hx hb dX8_boardAt_74 (by decide) ?_
        exact g_iret K hS hf dX8_boardAt_76
      · have hf := gIf_f c2 hf
        refine lv_aload_n hx hb dX8_boardAt_21 rfl (lv_at hl 0 rfl) ?_
        refine lv_iload hx hb dX8_boardAt_22 (lv_at hl 2 rfl) ?_
        refine lv_iload hx hb dX8_boardAt_24 (lv_at hl 3 rfl) ?_
        obtain ⟨q3, hq3, hf⟩ := Option.bind_eq_some_iff.mp hf
        refine g_Si (As := [.ref (o + 4), .int v4, .int v5]) K hS lS_X8_40 (c_X8_firstBoard v4 v5 σ q3 hq3) rfl rfl (Nat.le_of_ble_eq_true rfl) ⟨⟨Nat.le_of_ble_eq_true rfl, Nat.le_of_ble_eq_true rfl⟩, rfl, rfl⟩ hl.1 ⟨Nat.zero_le _, Nat.zero_le _⟩ dX8_boardAt_26 (fun H locs hS => ?_)
        refine lv_istore (lv' := [(7, .int q3.1), (0, .ref (o + 4)), (3, .int w3), (4, .int v4), (5, .int v5), (6, .int v6)]) hx hb dX8_boardAt_29 hl (by decide) rfl (fun ls hl => ?_)
        refine lv_iload hx hb dX8_boardAt_31 (lv_at hl 5 rfl) ?_
        refine lv_iload_n hx hb dX8_boardAt_33 rfl (lv_at hl 2 rfl) ?_
        refine lv_icmp_eq (tgt := 44) hx hb dX8_boardAt_34 (by decide) (fun c4 => ?_) (fun c4 => ?_)
        · have hf := gIf_t c4 hf
          refine lv_iload hx hb dX8_boardAt_44 (lv_at hl 0 rfl) ?_
          exact g_iret K hS hf dX8_boardAt_46
        · have hf := gIf_f c4 hf
          refine lv_iload hx hb dX8_boardAt_37 (lv_at hl 0 rfl) ?_
          refine lv_bipush (v := (-6)) hx hb dX8_boardAt_39 (by decide) ?_
          refine lv_icmp_ne (tgt := 47) hx hb dX8_boardAt_41 (by decide) (fun c5 => ?_) (fun c5 => ?_)
          · have hf := gIf_f c5 hf
            refine lv_iload hx hb dX8_boardAt_47 (lv_at hl 3 rfl) ?_
            refine lv_iconst (v := 1) hx hb dX8_boardAt_49 (by decide) ?_
            refine lv_iload hx hb dX8_boardAt_50 (lv_at hl 0 rfl) ?_
            refine lv_ishl hx hb dX8_boardAt_52 ?_
            refine lv_iconst (v := (-1)) hx hb dX8_boardAt_53 (by decide) ?_
            refine lv_ixor hx hb dX8_boardAt_54 ?_
            refine lv_iand hx hb dX8_boardAt_55 ?_
            obtain ⟨x6, hx6, hf⟩ := gLet_some hf
            refine g_top hx6 ?_
            refine lv_istore (lv' := [(4, .int x6), (7, .int q3.1), (0, .ref (o + 4)), (3, .int w3), (5, .int v5), (6, .int v6)]) hx hb dX8_boardAt_56 hl (by decide) rfl (fun ls hl => ?_)
            refine lv_aload_n hx hb dX8_boardAt_58 rfl (lv_at hl 2 rfl) ?_
            refine lv_iload hx hb dX8_boardAt_59 (lv_at hl 1 rfl) ?_
            refine lv_iload hx hb dX8_boardAt_61 (lv_at hl 4 rfl) ?_
            obtain ⟨q7, hq7, hf⟩ := Option.bind_eq_some_iff.mp hf
            refine g_Vi (cx := 4) (As := [.int q3.1, .int v5]) K hS lV_X8_44 (c_X1_beyond q3.1 v5 q3.2 q7 hq7) ((eX_4 G o) _) (by decide) rfl rfl rfl (Nat.le_of_ble_eq_true rfl) ⟨⟨Nat.le_of_ble_eq_true rfl, Nat.le_of_ble_eq_true rfl⟩, rfl, rfl⟩ hl.1 ⟨Nat.zero_le _, Nat.zero_le _⟩ dX8_boardAt_63 (fun H locs hS => ?_)
            refine lv_istore (lv' := [(5, .int q7.1), (4, .int x6), (7, .int q3.1), (0, .ref (o + 4)), (3, .int w3), (6, .int v6)]) hx hb dX8_boardAt_66 hl (by decide) rfl (fun ls hl => ?_)
            refine lv_iinc (v := (v6 + 1)) (lv' := [(6, .int (v6 + 1)), (5, .int q7.1), (4, .int x6), (7, .int q3.1), (0, .ref (o + 4)), (3, .int w3)]) hx hb dX8_boardAt_68 hl (k := 5) rfl rfl (by decide) rfl (fun ls hl => ?_)
            refine lv_goto (tgt := 9) hx hb dX8_boardAt_71 (by decide) ?_
            exact ih x6 q7.1 (v6 + 1) q7.2 hf _ _ _ hS (lv_sub hl [4, 5, 2, 1, 0] rfl)
          · have hf := gIf_t c5 hf
            refine lv_iload hx hb dX8_boardAt_44 (lv_at hl 0 rfl) ?_
            exact g_iret K hS hf dX8_boardAt_46
set_option maxHeartbeats 4000000 in
set_option maxRecDepth 100000 in
theorem c_X8_boardAt (p0 : Int32) (p1 : Int32) (p2 : Int32) (σ : gS) (q : Int32 × gS) (hf : f_X8_boardAt p0 p1 p2 σ = some q) : Met l yX8_boardAt (gW yX8_boardAt cX8_boardAt 8 (some .int)) rmX8_boardAt (gPc G (entX G o) o 302 [.ref (o + 4), .int p0, .int p1, .int p2] σ) (gQi G (entX G o) o 302 q) 0 0 (gA o 302) := by
  refine g_met (by decide) ⟨rfl, rfl⟩ (fun p e s m args below meth c ls K hS hl => ?_) (Nat.le_of_ble_eq_true rfl)
  have K : gK p s m args meth c G cX8_boardAt 8 RX8 (some .int) := K
  have hl : lv_has ls 8 [(0, .ref (o + 4)), (1, .int p0), (2, .int p1), (3, .int p2)] := hl
  obtain ⟨hx, hb, hml, hown, hts, -⟩ := id K
  unfold f_X8_boardAt at hf
  refine lv_iload_n hx hb dX8_boardAt_0 rfl (lv_at hl 1 rfl) ?_
  refine lv_istore (lv' := [(4, .int p0), (0, .ref (o + 4)), (1, .int p0), (2, .int p1), (3, .int p2)]) hx hb dX8_boardAt_1 hl (by decide) rfl (fun ls hl => ?_)
  refine lv_iload_n hx hb dX8_boardAt_3 rfl (lv_at hl 3 rfl) ?_
  refine lv_istore (lv' := [(5, .int p1), (4, .int p0), (0, .ref (o + 4)), (1, .int p0), (2, .int p1), (3, .int p2)]) hx hb dX8_boardAt_4 hl (by decide) rfl (fun ls hl => ?_)
  refine lv_iconst (v := 0) hx hb dX8_boardAt_6 (by decide) ?_
  refine lv_istore (lv' := [(6, .int 0), (5, .int p1), (4, .int p0), (0, .ref (o + 4)), (1, .int p0), (2, .int p1), (3, .int p2)]) hx hb dX8_boardAt_7 hl (by decide) rfl (fun ls hl => ?_)
  refine w_X8_boardAt_L9 p2 K gFu p0 p1 0 σ hf _ _ _ hS (lv_sub hl [3, 6, 2, 1, 0] rfl)
abbrev rmX9_priceOf : Room := { frames := 1, cells := 0, slots := 0, locals := 21 }
def f_X9_priceOf (p0 : Int32) (σ : gS) : Option (Int32 × gS) := Option.bind (f_X5_at 13 20 p0 σ) (fun q1 => some (((q1.1 * 10) + 1), q1.2))
set_option maxHeartbeats 4000000 in
set_option maxRecDepth 100000 in
theorem c_X9_priceOf (p0 : Int32) (σ : gS) (q : Int32 × gS) (hf : f_X9_priceOf p0 σ = some q) : Met l yX9_priceOf (gW yX9_priceOf cX9_priceOf 2 (some .int)) rmX9_priceOf (gPc G (entX G o) o 302 [.ref (o + 4), .int p0] σ) (gQi G (entX G o) o 302 q) 0 0 (gA o 302) := by
  refine g_met (by decide) ⟨rfl, rfl⟩ (fun p e s m args below meth c ls K hS hl => ?_) (Nat.le_of_ble_eq_true rfl)
  have K : gK p s m args meth c G cX9_priceOf 2 RX9 (some .int) := K
  have hl : lv_has ls 2 [(0, .ref (o + 4)), (1, .int p0)] := hl
  obtain ⟨hx, hb, hml, hown, hts, -⟩ := id K
  unfold f_X9_priceOf at hf
  refine lv_aload_n hx hb dX9_priceOf_0 rfl (lv_at hl 0 rfl) ?_
  refine g_get (cx := 4) K hS lF_X9_51 ((eX_4 G o) _) (by decide) rfl dX9_priceOf_1 ?_
  refine lv_iload_n hx hb dX9_priceOf_4 rfl (lv_at hl 1 rfl) ?_
  obtain ⟨q1, hq1, hf⟩ := Option.bind_eq_some_iff.mp hf
  refine g_Vi (cx := 13) (As := [.int p0]) K hS lV_X9_27 (c_X5_at 13 20 (gRow_13 G o) p0 σ q1 hq1) ((eX_13 G o) _) (by decide) rfl rfl rfl (Nat.le_of_ble_eq_true rfl) ⟨⟨Nat.le_of_ble_eq_true rfl, Nat.le_of_ble_eq_true rfl⟩, rfl, rfl⟩ hl.1 ⟨Nat.zero_le _, Nat.zero_le _⟩ dX9_priceOf_5 (fun H locs hS => ?_)
  refine lv_bipush (v := 10) hx hb dX9_priceOf_8 (by decide) ?_
  refine lv_imul hx hb dX9_priceOf_10 ?_
  refine lv_iconst (v := 1) hx hb dX9_priceOf_11 (by decide) ?_
  refine lv_iadd hx hb dX9_priceOf_12 ?_
  exact g_iret K hS hf dX9_priceOf_13
abbrev rmX9_lowerCosts : Room := { frames := 2, cells := 0, slots := 0, locals := 42 }
def f_X9_lowerCosts (p0 : Int32) (σ : gS) : Option (Int32 × gS) := Option.bind (f_X5_at 5 20 p0 σ) (fun q1 => Option.bind (f_X5_at 7 20 p0 q1.2) (fun q2 => Option.bind (f_X9_priceOf p0 q2.2) (fun q3 => Option.bind (f_X5_at 298 10 q2.1 q3.2) (fun q4 => Option.bind (f_X5_at 298 10 q1.1 q4.2) (fun q5 => if q5.1 ≤ (q4.1 + q3.1) then (Option.bind (f_X5_at 298 10 q1.1 q5.2) (fun q7 => Option.bind (f_X5_at 298 10 q2.1 q7.2) (fun q8 => if q8.1 ≤ (q7.1 + q3.1) then (some (0, q8.2)) else (Option.bind (f_X5_at 298 10 q1.1 q8.2) (fun q10 => Option.bind (f_X5_store 298 10 q2.1 (q10.1 + q3.1) q10.2) (fun q11 => some (1, q11))))))) else (Option.bind (f_X5_at 298 10 q2.1 q5.2) (fun q12 => Option.bind (f_X5_store 298 10 q1.1 (q12.1 + q3.1) q12.2) (fun q13 => some (1, q13)))))))))
set_option maxHeartbeats 4000000 in
set_option maxRecDepth 100000 in
theorem c_X9_lowerCosts (p0 : Int32) (σ : gS) (q : Int32 × gS) (hf : f_X9_lowerCosts p0 σ = some q) : Met l yX9_lowerCosts (gW yX9_lowerCosts cX9_lowerCosts 6 (some .boolean)) rmX9_lowerCosts (gPc G (entX G o) o 302 [.ref (o + 297), .ref (o + 4), .int p0] σ) (gQi G (entX G o) o 302 q) 0 0 (gA o 302) := by
  refine g_met (by decide) ⟨rfl, rfl⟩ (fun p e s m args below meth c ls K hS hl => ?_) (Nat.le_of_ble_eq_true rfl)
  have K : gK p s m args meth c G cX9_lowerCosts 6 RX9 (some .boolean) := K
  have hl : lv_has ls 6 [(0, .ref (o + 297)), (1, .ref (o + 4)), (2, .int p0)] := hl
  obtain ⟨hx, hb, hml, hown, hts, -⟩ := id K
  unfold f_X9_lowerCosts at hf
  refine lv_aload_n hx hb dX9_lowerCosts_0 rfl (lv_at hl 1 rfl) ?_
  refine g_get (cx := 4) K hS lF_X9_73 ((eX_4 G o) _) (by decide) rfl dX9_lowerCosts_1 ?_
  refine lv_iload_n hx hb dX9_lowerCosts_4 rfl (lv_at hl 2 rfl) ?_
  obtain ⟨q1, hq1, hf⟩ := Option.bind_eq_some_iff.mp hf
  refine g_Vi (cx := 5) (As := [.int p0]) K hS lV_X9_27 (c_X5_at 5 20 (gRow_5 G o) p0 σ q1 hq1) ((eX_5 G o) _) (by decide) rfl rfl rfl (Nat.le_of_ble_eq_true rfl) ⟨⟨Nat.le_of_ble_eq_true rfl, Nat.le_of_ble_eq_true rfl⟩, rfl, rfl⟩ hl.1 ⟨Nat.zero_le _, Nat.zero_le _⟩ dX9_lowerCosts_5 (fun H locs hS => ?_)
  refine lv_istore_n (lv' := [(3, .int q1.1), (0, .ref (o + 297)), (1, .ref (o + 4)), (2, .int p0)]) hx hb dX9_lowerCosts_8 rfl hl (by decide) rfl (fun ls hl => ?_)
  refine lv_aload_n hx hb dX9_lowerCosts_9 rfl (lv_at hl 2 rfl) ?_
  refine g_get (cx := 4) K hS lF_X9_76 ((eX_4 G o) _) (by decide) rfl dX9_lowerCosts_10 ?_
  refine lv_iload_n hx hb dX9_lowerCosts_13 rfl (lv_at hl 3 rfl) ?_
  obtain ⟨q2, hq2, hf⟩ := Option.bind_eq_some_iff.mp hf
  refine g_Vi (cx := 7) (As := [.int p0]) K hS lV_X9_27 (c_X5_at 7 20 (gRow_7 G o) p0 q1.2 q2 hq2) ((eX_7 G o) _) (by decide) rfl rfl rfl (Nat.le_of_ble_eq_true rfl) ⟨⟨Nat.le_of_ble_eq_true rfl, Nat.le_of_ble_eq_true rfl⟩, rfl, rfl⟩ hl.1 ⟨Nat.zero_le _, Nat.zero_le _⟩ dX9_lowerCosts_14 (fun H locs hS => ?_)
  refine lv_istore (lv' := [(4, .int q2.1), (3, .int q1.1), (0, .ref (o + 297)), (1, .ref (o + 4)), (2, .int p0)]) hx hb dX9_lowerCosts_17 hl (by decide) rfl (fun ls hl => ?_)
  refine lv_aload_n hx hb dX9_lowerCosts_19 rfl (lv_at hl 3 rfl) ?_
  refine lv_iload_n hx hb dX9_lowerCosts_20 rfl (lv_at hl 4 rfl) ?_
  obtain ⟨q3, hq3, hf⟩ := Option.bind_eq_some_iff.mp hf
  refine g_Si (As := [.ref (o + 4), .int p0]) K hS lS_X9_79 (c_X9_priceOf p0 q2.2 q3 hq3) rfl rfl (Nat.le_of_ble_eq_true rfl) ⟨⟨Nat.le_of_ble_eq_true rfl, Nat.le_of_ble_eq_true rfl⟩, rfl, rfl⟩ hl.1 ⟨Nat.zero_le _, Nat.zero_le _⟩ dX9_lowerCosts_21 (fun H locs hS => ?_)
  refine lv_istore (lv' := [(5, .int q3.1), (4, .int q2.1), (3, .int q1.1), (0, .ref (o + 297)), (1, .ref (o + 4)), (2, .int p0)]) hx hb dX9_lowerCosts_24 hl (by decide) rfl (fun ls hl => ?_)
  refine lv_aload_n hx hb dX9_lowerCosts_26 rfl (lv_at hl 3 rfl) ?_
  refine g_get (cx := 297) K hS lF_X9_14 ((eX_297 G o) _) (by decide) rfl dX9_lowerCosts_27 ?_
  refine lv_iload hx hb dX9_lowerCosts_30 (lv_at hl 1 rfl) ?_
  obtain ⟨q4, hq4, hf⟩ := Option.bind_eq_some_iff.mp hf
  refine g_Vi (cx := 298) (As := [.int q2.1]) K hS lV_X9_27 (c_X5_at 298 10 (gRow_298 G o) q2.1 q3.2 q4 hq4) ((eX_298 G o) _) (by decide) rfl rfl rfl (Nat.le_of_ble_eq_true rfl) ⟨⟨Nat.le_of_ble_eq_true rfl, Nat.le_of_ble_eq_true rfl⟩, rfl, rfl⟩ hl.1 ⟨Nat.zero_le _, Nat.zero_le _⟩ dX9_lowerCosts_32 (fun H locs hS => ?_)
  refine lv_iload hx hb dX9_lowerCosts_35 (lv_at hl 0 rfl) ?_
  refine lv_iadd hx hb dX9_lowerCosts_37 ?_
  refine lv_aload_n hx hb dX9_lowerCosts_38 rfl (lv_at hl 3 rfl) ?_
  refine g_get (cx := 297) K hS lF_X9_14 ((eX_297 G o) _) (by decide) rfl dX9_lowerCosts_39 ?_
  refine lv_iload_n hx hb dX9_lowerCosts_42 rfl (lv_at hl 2 rfl) ?_
  obtain ⟨q5, hq5, hf⟩ := Option.bind_eq_some_iff.mp hf
  refine g_Vi (cx := 298) (As := [.int q1.1]) K hS lV_X9_27 (c_X5_at 298 10 (gRow_298 G o) q1.1 q4.2 q5 hq5) ((eX_298 G o) _) (by decide) rfl rfl rfl (Nat.le_of_ble_eq_true rfl) ⟨⟨Nat.le_of_ble_eq_true rfl, Nat.le_of_ble_eq_true rfl⟩, rfl, rfl⟩ hl.1 ⟨Nat.zero_le _, Nat.zero_le _⟩ dX9_lowerCosts_43 (fun H locs hS => ?_)
  refine lv_icmp_ge (tgt := 71) hx hb dX9_lowerCosts_46 (by decide) (fun c6 => ?_) (fun c6 => ?_)
  · have hf := gIf_t c6 hf
    refine lv_aload_n hx hb dX9_lowerCosts_71 rfl (lv_at hl 3 rfl) ?_
    refine g_get (cx := 297) K hS lF_X9_14 ((eX_297 G o) _) (by decide) rfl dX9_lowerCosts_72 ?_
    refine lv_iload_n hx hb dX9_lowerCosts_75 rfl (lv_at hl 2 rfl) ?_
    obtain ⟨q7, hq7, hf⟩ := Option.bind_eq_some_iff.mp hf
    refine g_Vi (cx := 298) (As := [.int q1.1]) K hS lV_X9_27 (c_X5_at 298 10 (gRow_298 G o) q1.1 q5.2 q7 hq7) ((eX_298 G o) _) (by decide) rfl rfl rfl (Nat.le_of_ble_eq_true rfl) ⟨⟨Nat.le_of_ble_eq_true rfl, Nat.le_of_ble_eq_true rfl⟩, rfl, rfl⟩ hl.1 ⟨Nat.zero_le _, Nat.zero_le _⟩ dX9_lowerCosts_76 (fun H locs hS => ?_)
    refine lv_iload hx hb dX9_lowerCosts_79 (lv_at hl 0 rfl) ?_
    refine lv_iadd hx hb dX9_lowerCosts_81 ?_
    refine lv_aload_n hx hb dX9_lowerCosts_82 rfl (lv_at hl 3 rfl) ?_
    refine g_get (cx := 297) K hS lF_X9_14 ((eX_297 G o) _) (by decide) rfl dX9_lowerCosts_83 ?_
    refine lv_iload hx hb dX9_lowerCosts_86 (lv_at hl 1 rfl) ?_
    obtain ⟨q8, hq8, hf⟩ := Option.bind_eq_some_iff.mp hf
    refine g_Vi (cx := 298) (As := [.int q2.1]) K hS lV_X9_27 (c_X5_at 298 10 (gRow_298 G o) q2.1 q7.2 q8 hq8) ((eX_298 G o) _) (by decide) rfl rfl rfl (Nat.le_of_ble_eq_true rfl) ⟨⟨Nat.le_of_ble_eq_true rfl, Nat.le_of_ble_eq_true rfl⟩, rfl, rfl⟩ hl.1 ⟨Nat.zero_le _, Nat.zero_le _⟩ dX9_lowerCosts_88 (fun H locs hS => ?_)
    refine lv_icmp_ge (tgt := 116) hx hb dX9_lowerCosts_91 (by decide) (fun c9 => ?_) (fun c9 => ?_)
    · have hf := gIf_t c9 hf
      refine lv_iconst (v := 0) hx hb dX9_lowerCosts_116 (by decide) ?_
      exact g_zret K hS rfl hf dX9_lowerCosts_117
    · have hf := gIf_f c9 hf
      refine lv_aload_n hx hb dX9_lowerCosts_94 rfl (lv_at hl 3 rfl) ?_
      refine g_get (cx := 297) K hS lF_X9_14 ((eX_297 G o) _) (by decide) rfl dX9_lowerCosts_95 ?_
      refine lv_iload hx hb dX9_lowerCosts_98 (lv_at hl 1 rfl) ?_
      refine lv_aload_n hx hb dX9_lowerCosts_100 rfl (lv_at hl 3 rfl) ?_
      refine g_get (cx := 297) K hS lF_X9_14 ((eX_297 G o) _) (by decide) rfl dX9_lowerCosts_101 ?_
      refine lv_iload_n hx hb dX9_lowerCosts_104 rfl (lv_at hl 2 rfl) ?_
      obtain ⟨q10, hq10, hf⟩ := Option.bind_eq_some_iff.mp hf
      refine g_Vi (cx := 298) (As := [.int q1.1]) K hS lV_X9_27 (c_X5_at 298 10 (gRow_298 G o) q1.1 q8.2 q10 hq10) ((eX_298 G o) _) (by decide) rfl rfl rfl (Nat.le_of_ble_eq_true rfl) ⟨⟨Nat.le_of_ble_eq_true rfl, Nat.le_of_ble_eq_true rfl⟩, rfl, rfl⟩ hl.1 ⟨Nat.zero_le _, Nat.zero_le _⟩ dX9_lowerCosts_105 (fun H locs hS => ?_)
      refine lv_iload hx hb dX9_lowerCosts_108 (lv_at hl 0 rfl) ?_
      refine lv_iadd hx hb dX9_lowerCosts_110 ?_
      obtain ⟨q11, hq11, hf⟩ := Option.bind_eq_some_iff.mp hf
      refine g_Vv (cx := 298) (As := [.int q2.1, .int (q10.1 + q3.1)]) K hS lV_X9_47 (c_X5_store 298 10 (gRow_298 G o) q2.1 (q10.1 + q3.1) q10.2 q11 hq11) ((eX_298 G o) _) (by decide) rfl rfl rfl (Nat.le_of_ble_eq_true rfl) ⟨⟨Nat.le_of_ble_eq_true rfl, Nat.le_of_ble_eq_true rfl⟩, rfl, rfl⟩ hl.1 ⟨Nat.zero_le _, Nat.zero_le _⟩ dX9_lowerCosts_111 (fun H locs hS => ?_)
      refine lv_iconst (v := 1) hx hb dX9_lowerCosts_114 (by decide) ?_
      exact g_zret K hS rfl hf dX9_lowerCosts_115
  · have hf := gIf_f c6 hf
    refine lv_aload_n hx hb dX9_lowerCosts_49 rfl (lv_at hl 3 rfl) ?_
    refine g_get (cx := 297) K hS lF_X9_14 ((eX_297 G o) _) (by decide) rfl dX9_lowerCosts_50 ?_
    refine lv_iload_n hx hb dX9_lowerCosts_53 rfl (lv_at hl 2 rfl) ?_
    refine lv_aload_n hx hb dX9_lowerCosts_54 rfl (lv_at hl 3 rfl) ?_
    refine g_get (cx := 297) K hS lF_X9_14 ((eX_297 G o) _) (by decide) rfl dX9_lowerCosts_55 ?_
    refine lv_iload hx hb dX9_lowerCosts_58 (lv_at hl 1 rfl) ?_
    obtain ⟨q12, hq12, hf⟩ := Option.bind_eq_some_iff.mp hf
    refine g_Vi (cx := 298) (As := [.int q2.1]) K hS lV_X9_27 (c_X5_at 298 10 (gRow_298 G o) q2.1 q5.2 q12 hq12) ((eX_298 G o) _) (by decide) rfl rfl rfl (Nat.le_of_ble_eq_true rfl) ⟨⟨Nat.le_of_ble_eq_true rfl, Nat.le_of_ble_eq_true rfl⟩, rfl, rfl⟩ hl.1 ⟨Nat.zero_le _, Nat.zero_le _⟩ dX9_lowerCosts_60 (fun H locs hS => ?_)
    refine lv_iload hx hb dX9_lowerCosts_63 (lv_at hl 0 rfl) ?_
    refine lv_iadd hx hb dX9_lowerCosts_65 ?_
    obtain ⟨q13, hq13, hf⟩ := Option.bind_eq_some_iff.mp hf
    refine g_Vv (cx := 298) (As := [.int q1.1, .int (q12.1 + q3.1)]) K hS lV_X9_47 (c_X5_store 298 10 (gRow_298 G o) q1.1 (q12.1 + q3.1) q12.2 q13 hq13) ((eX_298 G o) _) (by decide) rfl rfl rfl (Nat.le_of_ble_eq_true rfl) ⟨⟨Nat.le_of_ble_eq_true rfl, Nat.le_of_ble_eq_true rfl⟩, rfl, rfl⟩ hl.1 ⟨Nat.zero_le _, Nat.zero_le _⟩ dX9_lowerCosts_66 (fun H locs hS => ?_)
    refine lv_iconst (v := 1) hx hb dX9_lowerCosts_69 (by decide) ?_
    exact g_zret K hS rfl hf dX9_lowerCosts_70
abbrev rmX9_weigh : Room := { frames := 3, cells := 0, slots := 0, locals := 67 }
def f_X9_weigh_L42 (w2 : Int32) (w5 : Int32) (K79 : Int32 → gS → Option (gS)) : Nat → Int32 → Int32 → gS → Option (gS)
  | 0, _, _, _ => none
  | n + 1, v4, v6, σ => if (σ 4 0) ≤ v6 then (K79 v4 σ) else (Option.bind (f_X10_holds w2 v6 σ) (fun q6 => if q6.1 = 0 then (f_X9_weigh_L42 w2 w5 K79 n v4 (v6 + 1) q6.2) else (Option.bind (f_X9_lowerCosts v6 q6.2) (fun q8 => if q8.1 = 0 then (f_X9_weigh_L42 w2 w5 K79 n v4 (v6 + 1) q8.2) else (f_X9_weigh_L42 w2 w5 K79 n 1 (v6 + 1) q8.2)))))
theorem f_X9_weigh_L42_s (w2 : Int32) (w5 : Int32) (K79 : Int32 → gS → Option (gS)) (n : Nat) (v4 : Int32) (v6 : Int32) (σ : gS) : f_X9_weigh_L42 w2 w5 K79 (n + 1) v4 v6 σ = (if (σ 4 0) ≤ v6 then (K79 v4 σ) else (Option.bind (f_X10_holds w2 v6 σ) (fun q6 => if q6.1 = 0 then (f_X9_weigh_L42 w2 w5 K79 n v4 (v6 + 1) q6.2) else (Option.bind (f_X9_lowerCosts v6 q6.2) (fun q8 => if q8.1 = 0 then (f_X9_weigh_L42 w2 w5 K79 n v4 (v6 + 1) q8.2) else (f_X9_weigh_L42 w2 w5 K79 n 1 (v6 + 1) q8.2)))))) := rfl
def f_X9_weigh_L24 (w2 : Int32) : Nat → Int32 → Int32 → gS → Option (gS)
  | 0, _, _, _ => none
  | n + 1, v4, v5, σ => if 10 ≤ v5 then (some σ) else (if v4 = 0 then (some σ) else (f_X9_weigh_L42 w2 v5 (fun (k10 : Int32) (s11 : gS) => f_X9_weigh_L24 w2 n k10 (v5 + 1) s11) gFu 0 0 σ))
theorem f_X9_weigh_L24_s (w2 : Int32) (n : Nat) (v4 : Int32) (v5 : Int32) (σ : gS) : f_X9_weigh_L24 w2 (n + 1) v4 v5 σ = (if 10 ≤ v5 then (some σ) else (if v4 = 0 then (some σ) else (f_X9_weigh_L42 w2 v5 (fun (k10 : Int32) (s11 : gS) => f_X9_weigh_L24 w2 n k10 (v5 + 1) s11) gFu 0 0 σ))) := rfl
def f_X9_weigh (p0 : Int32) (p1 : Int32) (σ : gS) : Option (gS) := Option.bind (f_X5_fill 298 10 1000000 σ) (fun q1 => Option.bind (f_X5_store 298 10 p1 0 q1) (fun q2 => f_X9_weigh_L24 p0 gFu 1 0 q2))
set_option maxHeartbeats 4000000 in
set_option maxRecDepth 100000 in
theorem w_X9_weigh_L42 (w2 : Int32) (w5 : Int32) (K79 : Int32 → gS → Option (gS)) {q : gS} (K : gK p s m args meth c G cX9_weigh 7 RX9 none) (hK79 : ∀ (k4 : Int32) (σ : gS), K79 k4 σ = some q → ∀ (H : Heap) (locs : List Loc) (ls : Array Slot), gSt G (entX G o) o 302 s σ H locs → lv_has ls 7 [(0, .ref (o + 297)), (1, .ref (o + 4)), (2, .int w2), (4, .int k4), (5, .int w5)] → W p l e rmX9_weigh s m args below meth c H locs 0 0 (MQ below (gQv G (entX G o) o 302 q) args s 0 0 (gA o 302)) (F0 m 79 ls [])) : ∀ (n : Nat) (v4 : Int32) (v6 : Int32) (σ : gS), f_X9_weigh_L42 w2 w5 K79 n v4 v6 σ = some q → ∀ (H : Heap) (locs : List Loc) (ls : Array Slot), gSt G (entX G o) o 302 s σ H locs → lv_has ls 7 [(0, .ref (o + 297)), (1, .ref (o + 4)), (2, .int w2), (4, .int v4), (5, .int w5), (6, .int v6)] → W p l e rmX9_weigh s m args below meth c H locs 0 0 (MQ below (gQv G (entX G o) o 302 q) args s 0 0 (gA o 302)) (F0 m 42 ls []) := by
  obtain ⟨hx, hb, hml, hown, hts, -⟩ := id K
  intro n
  induction n with
  | zero =>
    intro v4 v6 σ hf
    exact absurd (show (none : Option _) = some q from hf) (by simp)
  | succ n ih =>
    intro v4 v6 σ hf H locs ls hS hl
    rw [f_X9_weigh_L42_s] at hf
    refine lv_iload hx hb dX9_weigh_42 (lv_at hl 5 rfl) ?_
    refine lv_aload_n hx hb dX9_weigh_44 rfl (lv_at hl 1 rfl) ?_
    refine g_get (cx := 4) K hS lF_X9_62 ((eX_4 G o) _) (by decide) rfl dX9_weigh_45 ?_
    refine lv_icmp_ge (tgt := 79) hx hb dX9_weigh_48 (by decide) (fun c5 => ?_) (fun c5 => ?_)
    · have hf := gIf_t c5 hf
      exact hK79 v4 σ hf _ _ _ hS (lv_sub hl [0, 1, 2, 3, 4] rfl)
    · have hf := gIf_f c5 hf
      refine lv_iload_n hx hb dX9_weigh_51 rfl (lv_at hl 2 rfl) ?_
      refine lv_iload hx hb dX9_weigh_52 (lv_at hl 5 rfl) ?_
      obtain ⟨q6, hq6, hf⟩ := Option.bind_eq_some_iff.mp hf
      refine g_Ni (As := [.int w2, .int v6]) K hS lN_X9_65 (c_X10_holds w2 v6 σ q6 hq6) rfl rfl (Nat.le_of_ble_eq_true rfl) ⟨⟨Nat.le_of_ble_eq_true rfl, Nat.le_of_ble_eq_true rfl⟩, rfl, rfl⟩ hl.1 ⟨Nat.zero_le _, Nat.zero_le _⟩ dX9_weigh_54 (fun H locs hS => ?_)
      refine lv_if_eq (tgt := 73) hx hb dX9_weigh_57 (by decide) (fun c7 => ?_) (fun c7 => ?_)
      · have hf := gIf_t c7 hf
        refine lv_iinc (v := (v6 + 1)) (lv' := [(6, .int (v6 + 1)), (0, .ref (o + 297)), (1, .ref (o + 4)), (2, .int w2), (4, .int v4), (5, .int w5)]) hx hb dX9_weigh_73 hl (k := 5) rfl rfl (by decide) rfl (fun ls hl => ?_)
        refine lv_goto (tgt := 42) hx hb dX9_weigh_76 (by decide) ?_
        exact ih v4 (v6 + 1) q6.2 hf _ _ _ hS (lv_sub hl [1, 2, 3, 4, 5, 0] rfl)
      · have hf := gIf_f c7 hf
        refine lv_aload_n hx hb dX9_weigh_60 rfl (lv_at hl 0 rfl) ?_
        refine lv_aload_n hx hb dX9_weigh_61 rfl (lv_at hl 1 rfl) ?_
        refine lv_iload hx hb dX9_weigh_62 (lv_at hl 5 rfl) ?_
        obtain ⟨q8, hq8, hf⟩ := Option.bind_eq_some_iff.mp hf
        refine g_Vi (cx := 297) (As := [.ref (o + 4), .int v6]) K hS lV_X9_69 (c_X9_lowerCosts v6 q6.2 q8 hq8) ((eX_297 G o) _) (by decide) rfl rfl rfl (Nat.le_of_ble_eq_true rfl) ⟨⟨Nat.le_of_ble_eq_true rfl, Nat.le_of_ble_eq_true rfl⟩, rfl, rfl⟩ hl.1 ⟨Nat.zero_le _, Nat.zero_le _⟩ dX9_weigh_64 (fun H locs hS => ?_)
        refine lv_if_eq (tgt := 73) hx hb dX9_weigh_67 (by decide) (fun c9 => ?_) (fun c9 => ?_)
        · have hf := gIf_t c9 hf
          refine lv_iinc (v := (v6 + 1)) (lv' := [(6, .int (v6 + 1)), (0, .ref (o + 297)), (1, .ref (o + 4)), (2, .int w2), (4, .int v4), (5, .int w5)]) hx hb dX9_weigh_73 hl (k := 5) rfl rfl (by decide) rfl (fun ls hl => ?_)
          refine lv_goto (tgt := 42) hx hb dX9_weigh_76 (by decide) ?_
          exact ih v4 (v6 + 1) q8.2 hf _ _ _ hS (lv_sub hl [1, 2, 3, 4, 5, 0] rfl)
        · have hf := gIf_f c9 hf
          refine lv_iconst (v := 1) hx hb dX9_weigh_70 (by decide) ?_
          refine lv_istore (lv' := [(4, .int 1), (0, .ref (o + 297)), (1, .ref (o + 4)), (2, .int w2), (5, .int w5), (6, .int v6)]) hx hb dX9_weigh_71 hl (by decide) rfl (fun ls hl => ?_)
          refine lv_iinc (v := (v6 + 1)) (lv' := [(6, .int (v6 + 1)), (4, .int 1), (0, .ref (o + 297)), (1, .ref (o + 4)), (2, .int w2), (5, .int w5)]) hx hb dX9_weigh_73 hl (k := 5) rfl rfl (by decide) rfl (fun ls hl => ?_)
          refine lv_goto (tgt := 42) hx hb dX9_weigh_76 (by decide) ?_
          exact ih 1 (v6 + 1) q8.2 hf _ _ _ hS (lv_sub hl [2, 3, 4, 1, 5, 0] rfl)
set_option maxHeartbeats 4000000 in
set_option maxRecDepth 100000 in
theorem w_X9_weigh_L24 (w2 : Int32) {q : gS} (K : gK p s m args meth c G cX9_weigh 7 RX9 none) : ∀ (n : Nat) (v4 : Int32) (v5 : Int32) (σ : gS), f_X9_weigh_L24 w2 n v4 v5 σ = some q → ∀ (H : Heap) (locs : List Loc) (ls : Array Slot), gSt G (entX G o) o 302 s σ H locs → lv_has ls 7 [(0, .ref (o + 297)), (1, .ref (o + 4)), (2, .int w2), (4, .int v4), (5, .int v5)] → W p l e rmX9_weigh s m args below meth c H locs 0 0 (MQ below (gQv G (entX G o) o 302 q) args s 0 0 (gA o 302)) (F0 m 24 ls []) := by
  obtain ⟨hx, hb, hml, hown, hts, -⟩ := id K
  intro n
  induction n with
  | zero =>
    intro v4 v5 σ hf
    exact absurd (show (none : Option _) = some q from hf) (by simp)
  | succ n ih =>
    intro v4 v5 σ hf H locs ls hS hl
    rw [f_X9_weigh_L24_s] at hf
    refine lv_iload hx hb dX9_weigh_24 (lv_at hl 4 rfl) ?_
    refine lv_bipush (v := 10) hx hb dX9_weigh_26 (by decide) ?_
    refine lv_icmp_ge (tgt := 85) hx hb dX9_weigh_28 (by decide) (fun c3 => ?_) (fun c3 => ?_)
    · have hf := gIf_t c3 hf
      exact g_vret K hS hf dX9_weigh_85
    · have hf := gIf_f c3 hf
      refine lv_iload hx hb dX9_weigh_31 (lv_at hl 3 rfl) ?_
      refine lv_if_eq (tgt := 85) hx hb dX9_weigh_33 (by decide) (fun c4 => ?_) (fun c4 => ?_)
      · have hf := gIf_t c4 hf
        exact g_vret K hS hf dX9_weigh_85
      · have hf := gIf_f c4 hf
        refine lv_iconst (v := 0) hx hb dX9_weigh_36 (by decide) ?_
        refine lv_istore (lv' := [(4, .int 0), (0, .ref (o + 297)), (1, .ref (o + 4)), (2, .int w2), (5, .int v5)]) hx hb dX9_weigh_37 hl (by decide) rfl (fun ls hl => ?_)
        refine lv_iconst (v := 0) hx hb dX9_weigh_39 (by decide) ?_
        refine lv_istore (lv' := [(6, .int 0), (4, .int 0), (0, .ref (o + 297)), (1, .ref (o + 4)), (2, .int w2), (5, .int v5)]) hx hb dX9_weigh_40 hl (by decide) rfl (fun ls hl => ?_)
        refine w_X9_weigh_L42 w2 v5 _ K ?_ gFu 0 0 σ hf _ _ _ hS (lv_sub hl [2, 3, 4, 1, 5, 0] rfl)
        · intro k10 s11 hf H locs ls hS hl
          refine lv_iinc (v := (v5 + 1)) (lv' := [(5, .int (v5 + 1)), (0, .ref (o + 297)), (1, .ref (o + 4)), (2, .int w2), (4, .int k10)]) hx hb dX9_weigh_79 hl (k := 4) rfl rfl (by decide) rfl (fun ls hl => ?_)
          refine lv_goto (tgt := 24) hx hb dX9_weigh_82 (by decide) ?_
          exact ih k10 (v5 + 1) s11 hf _ _ _ hS (lv_sub hl [1, 2, 3, 4, 0] rfl)
set_option maxHeartbeats 4000000 in
set_option maxRecDepth 100000 in
theorem c_X9_weigh (p0 : Int32) (p1 : Int32) (σ : gS) (q : gS) (hf : f_X9_weigh p0 p1 σ = some q) : Met l yX9_weigh (gW yX9_weigh cX9_weigh 7 none) rmX9_weigh (gPc G (entX G o) o 302 [.ref (o + 297), .ref (o + 4), .int p0, .int p1] σ) (gQv G (entX G o) o 302 q) 0 0 (gA o 302) := by
  refine g_met (by decide) ⟨rfl, rfl⟩ (fun p e s m args below meth c ls K hS hl => ?_) (Nat.le_of_ble_eq_true rfl)
  have K : gK p s m args meth c G cX9_weigh 7 RX9 none := K
  have hl : lv_has ls 7 [(0, .ref (o + 297)), (1, .ref (o + 4)), (2, .int p0), (3, .int p1)] := hl
  obtain ⟨hx, hb, hml, hown, hts, -⟩ := id K
  unfold f_X9_weigh at hf
  refine lv_aload_n hx hb dX9_weigh_0 rfl (lv_at hl 0 rfl) ?_
  refine g_get (cx := 297) K hS lF_X9_14 ((eX_297 G o) _) (by decide) rfl dX9_weigh_1 ?_
  refine lv_ldc (v := 1000000) hx hb hown (hts _ (gmem 495 (by decide +kernel) rfl)) dX9_weigh_4 ?_
  obtain ⟨q1, hq1, hf⟩ := Option.bind_eq_some_iff.mp hf
  refine g_Vv (cx := 298) (As := [.int 1000000]) K hS lV_X9_59 (c_X5_fill 298 10 (gRow_298 G o) 1000000 σ q1 hq1) ((eX_298 G o) _) (by decide) rfl rfl rfl (Nat.le_of_ble_eq_true rfl) ⟨⟨Nat.le_of_ble_eq_true rfl, Nat.le_of_ble_eq_true rfl⟩, rfl, rfl⟩ hl.1 ⟨Nat.zero_le _, Nat.zero_le _⟩ dX9_weigh_6 (fun H locs hS => ?_)
  refine lv_aload_n hx hb dX9_weigh_9 rfl (lv_at hl 0 rfl) ?_
  refine g_get (cx := 297) K hS lF_X9_14 ((eX_297 G o) _) (by decide) rfl dX9_weigh_10 ?_
  refine lv_iload_n hx hb dX9_weigh_13 rfl (lv_at hl 3 rfl) ?_
  refine lv_iconst (v := 0) hx hb dX9_weigh_14 (by decide) ?_
  obtain ⟨q2, hq2, hf⟩ := Option.bind_eq_some_iff.mp hf
  refine g_Vv (cx := 298) (As := [.int p1, .int 0]) K hS lV_X9_47 (c_X5_store 298 10 (gRow_298 G o) p1 0 q1 q2 hq2) ((eX_298 G o) _) (by decide) rfl rfl rfl (Nat.le_of_ble_eq_true rfl) ⟨⟨Nat.le_of_ble_eq_true rfl, Nat.le_of_ble_eq_true rfl⟩, rfl, rfl⟩ hl.1 ⟨Nat.zero_le _, Nat.zero_le _⟩ dX9_weigh_15 (fun H locs hS => ?_)
  refine lv_iconst (v := 1) hx hb dX9_weigh_18 (by decide) ?_
  refine lv_istore (lv' := [(4, .int 1), (0, .ref (o + 297)), (1, .ref (o + 4)), (2, .int p0), (3, .int p1)]) hx hb dX9_weigh_19 hl (by decide) rfl (fun ls hl => ?_)
  refine lv_iconst (v := 0) hx hb dX9_weigh_21 (by decide) ?_
  refine lv_istore (lv' := [(5, .int 0), (4, .int 1), (0, .ref (o + 297)), (1, .ref (o + 4)), (2, .int p0), (3, .int p1)]) hx hb dX9_weigh_22 hl (by decide) rfl (fun ls hl => ?_)
  refine w_X9_weigh_L24 p0 K gFu 1 0 q2 hf _ _ _ hS (lv_sub hl [2, 3, 4, 1, 0] rfl)
abbrev rmX9_firstStep : Room := { frames := 2, cells := 0, slots := 0, locals := 44 }
def f_X9_firstStep_L14 (w3 : Int32) (w4 : Int32) : Nat → Int32 → gS → Option (Int32 × gS)
  | 0, _, _ => none
  | n + 1, v5, σ => if (σ 4 0) ≤ v5 then (some ((-6), σ)) else (Option.bind (f_X1_beyond v5 w3 σ) (fun q4 => Option.bind (f_X5_at 298 10 q4.1 q4.2) (fun q5 => Option.bind (f_X10_holds w4 v5 q5.2) (fun q6 => if q6.1 = 0 then (f_X9_firstStep_L14 w3 w4 n (v5 + 1) q6.2) else (Option.bind (f_X9_priceOf v5 q6.2) (fun q8 => Option.bind (f_X5_at 298 10 w3 q8.2) (fun q9 => if (q5.1 + q8.1) = q9.1 then (some (v5, q9.2)) else (f_X9_firstStep_L14 w3 w4 n (v5 + 1) q9.2))))))))
theorem f_X9_firstStep_L14_s (w3 : Int32) (w4 : Int32) (n : Nat) (v5 : Int32) (σ : gS) : f_X9_firstStep_L14 w3 w4 (n + 1) v5 σ = (if (σ 4 0) ≤ v5 then (some ((-6), σ)) else (Option.bind (f_X1_beyond v5 w3 σ) (fun q4 => Option.bind (f_X5_at 298 10 q4.1 q4.2) (fun q5 => Option.bind (f_X10_holds w4 v5 q5.2) (fun q6 => if q6.1 = 0 then (f_X9_firstStep_L14 w3 w4 n (v5 + 1) q6.2) else (Option.bind (f_X9_priceOf v5 q6.2) (fun q8 => Option.bind (f_X5_at 298 10 w3 q8.2) (fun q9 => if (q5.1 + q8.1) = q9.1 then (some (v5, q9.2)) else (f_X9_firstStep_L14 w3 w4 n (v5 + 1) q9.2))))))))) := rfl
def f_X9_firstStep (p0 : Int32) (p1 : Int32) (σ : gS) : Option (Int32 × gS) := Option.bind (f_X1_touching (1 <<< (p1 &&& 31)) σ) (fun q1 => gLet (p0 &&& q1.1) (fun x2 => f_X9_firstStep_L14 p1 x2 gFu 0 q1.2))
set_option maxHeartbeats 4000000 in
set_option maxRecDepth 100000 in
theorem w_X9_firstStep_L14 (w3 : Int32) (w4 : Int32) {q : Int32 × gS} (K : gK p s m args meth c G cX9_firstStep 7 RX9 (some .int)) : ∀ (n : Nat) (v5 : Int32) (σ : gS), f_X9_firstStep_L14 w3 w4 n v5 σ = some q → ∀ (H : Heap) (locs : List Loc) (ls : Array Slot), gSt G (entX G o) o 302 s σ H locs → lv_has ls 7 [(0, .ref (o + 297)), (1, .ref (o + 4)), (3, .int w3), (4, .int w4), (5, .int v5)] → W p l e rmX9_firstStep s m args below meth c H locs 0 0 (MQ below (gQi G (entX G o) o 302 q) args s 0 0 (gA o 302)) (F0 m 14 ls []) := by
  obtain ⟨hx, hb, hml, hown, hts, -⟩ := id K
  intro n
  induction n with
  | zero =>
    intro v5 σ hf
    exact absurd (show (none : Option _) = some q from hf) (by simp)
  | succ n ih =>
    intro v5 σ hf H locs ls hS hl
    rw [f_X9_firstStep_L14_s] at hf
    refine lv_iload hx hb dX9_firstStep_14 (lv_at hl 4 rfl) ?_
    refine lv_aload_n hx hb dX9_firstStep_16 rfl (lv_at hl 1 rfl) ?_
    refine g_get (cx := 4) K hS lF_X9_62 ((eX_4 G o) _) (by decide) rfl dX9_firstStep_17 ?_
    refine lv_icmp_ge (tgt := 78) hx hb dX9_firstStep_20 (by decide) (fun c3 => ?_) (fun c3 => ?_)
    · have hf := gIf_t c3 hf
      refine lv_bipush (v := (-6)) hx hb dX9_firstStep_78 (by decide) ?_
      exact g_iret K hS hf dX9_firstStep_80
    · have hf := gIf_f c3 hf
      refine lv_aload_n hx hb dX9_firstStep_23 rfl (lv_at hl 0 rfl) ?_
      refine g_get (cx := 297) K hS lF_X9_14 ((eX_297 G o) _) (by decide) rfl dX9_firstStep_24 ?_
      refine lv_aload_n hx hb dX9_firstStep_27 rfl (lv_at hl 1 rfl) ?_
      refine lv_iload hx hb dX9_firstStep_28 (lv_at hl 4 rfl) ?_
      refine lv_iload_n hx hb dX9_firstStep_30 rfl (lv_at hl 2 rfl) ?_
      obtain ⟨q4, hq4, hf⟩ := Option.bind_eq_some_iff.mp hf
      refine g_Vi (cx := 4) (As := [.int v5, .int w3]) K hS lV_X9_55 (c_X1_beyond v5 w3 σ q4 hq4) ((eX_4 G o) _) (by decide) rfl rfl rfl (Nat.le_of_ble_eq_true rfl) ⟨⟨Nat.le_of_ble_eq_true rfl, Nat.le_of_ble_eq_true rfl⟩, rfl, rfl⟩ hl.1 ⟨Nat.zero_le _, Nat.zero_le _⟩ dX9_firstStep_31 (fun H locs hS => ?_)
      obtain ⟨q5, hq5, hf⟩ := Option.bind_eq_some_iff.mp hf
      refine g_Vi (cx := 298) (As := [.int q4.1]) K hS lV_X9_27 (c_X5_at 298 10 (gRow_298 G o) q4.1 q4.2 q5 hq5) ((eX_298 G o) _) (by decide) rfl rfl rfl (Nat.le_of_ble_eq_true rfl) ⟨⟨Nat.le_of_ble_eq_true rfl, Nat.le_of_ble_eq_true rfl⟩, rfl, rfl⟩ hl.1 ⟨Nat.zero_le _, Nat.zero_le _⟩ dX9_firstStep_34 (fun H locs hS => ?_)
      refine lv_istore (lv' := [(6, .int q5.1), (0, .ref (o + 297)), (1, .ref (o + 4)), (3, .int w3), (4, .int w4), (5, .int v5)]) hx hb dX9_firstStep_37 hl (by decide) rfl (fun ls hl => ?_)
      refine lv_iload hx hb dX9_firstStep_39 (lv_at hl 4 rfl) ?_
      refine lv_iload hx hb dX9_firstStep_41 (lv_at hl 5 rfl) ?_
      obtain ⟨q6, hq6, hf⟩ := Option.bind_eq_some_iff.mp hf
      refine g_Ni (As := [.int w4, .int v5]) K hS lN_X9_65 (c_X10_holds w4 v5 q5.2 q6 hq6) rfl rfl (Nat.le_of_ble_eq_true rfl) ⟨⟨Nat.le_of_ble_eq_true rfl, Nat.le_of_ble_eq_true rfl⟩, rfl, rfl⟩ hl.1 ⟨Nat.zero_le _, Nat.zero_le _⟩ dX9_firstStep_43 (fun H locs hS => ?_)
      refine lv_if_eq (tgt := 72) hx hb dX9_firstStep_46 (by decide) (fun c7 => ?_) (fun c7 => ?_)
      · have hf := gIf_t c7 hf
        refine lv_iinc (v := (v5 + 1)) (lv' := [(5, .int (v5 + 1)), (6, .int q5.1), (0, .ref (o + 297)), (1, .ref (o + 4)), (3, .int w3), (4, .int w4)]) hx hb dX9_firstStep_72 hl (k := 5) rfl rfl (by decide) rfl (fun ls hl => ?_)
        refine lv_goto (tgt := 14) hx hb dX9_firstStep_75 (by decide) ?_
        exact ih (v5 + 1) q6.2 hf _ _ _ hS (lv_sub hl [2, 3, 4, 5, 0] rfl)
      · have hf := gIf_f c7 hf
        refine lv_iload hx hb dX9_firstStep_49 (lv_at hl 0 rfl) ?_
        refine lv_aload_n hx hb dX9_firstStep_51 rfl (lv_at hl 2 rfl) ?_
        refine lv_iload hx hb dX9_firstStep_52 (lv_at hl 5 rfl) ?_
        obtain ⟨q8, hq8, hf⟩ := Option.bind_eq_some_iff.mp hf
        refine g_Si (As := [.ref (o + 4), .int v5]) K hS lS_X9_79 (c_X9_priceOf v5 q6.2 q8 hq8) rfl rfl (Nat.le_of_ble_eq_true rfl) ⟨⟨Nat.le_of_ble_eq_true rfl, Nat.le_of_ble_eq_true rfl⟩, rfl, rfl⟩ hl.1 ⟨Nat.zero_le _, Nat.zero_le _⟩ dX9_firstStep_54 (fun H locs hS => ?_)
        refine lv_iadd hx hb dX9_firstStep_57 ?_
        refine lv_aload_n hx hb dX9_firstStep_58 rfl (lv_at hl 1 rfl) ?_
        refine g_get (cx := 297) K hS lF_X9_14 ((eX_297 G o) _) (by decide) rfl dX9_firstStep_59 ?_
        refine lv_iload_n hx hb dX9_firstStep_62 rfl (lv_at hl 3 rfl) ?_
        obtain ⟨q9, hq9, hf⟩ := Option.bind_eq_some_iff.mp hf
        refine g_Vi (cx := 298) (As := [.int w3]) K hS lV_X9_27 (c_X5_at 298 10 (gRow_298 G o) w3 q8.2 q9 hq9) ((eX_298 G o) _) (by decide) rfl rfl rfl (Nat.le_of_ble_eq_true rfl) ⟨⟨Nat.le_of_ble_eq_true rfl, Nat.le_of_ble_eq_true rfl⟩, rfl, rfl⟩ hl.1 ⟨Nat.zero_le _, Nat.zero_le _⟩ dX9_firstStep_63 (fun H locs hS => ?_)
        refine lv_icmp_ne (tgt := 72) hx hb dX9_firstStep_66 (by decide) (fun c10 => ?_) (fun c10 => ?_)
        · have hf := gIf_f c10 hf
          refine lv_iinc (v := (v5 + 1)) (lv' := [(5, .int (v5 + 1)), (6, .int q5.1), (0, .ref (o + 297)), (1, .ref (o + 4)), (3, .int w3), (4, .int w4)]) hx hb dX9_firstStep_72 hl (k := 5) rfl rfl (by decide) rfl (fun ls hl => ?_)
          refine lv_goto (tgt := 14) hx hb dX9_firstStep_75 (by decide) ?_
          exact ih (v5 + 1) q9.2 hf _ _ _ hS (lv_sub hl [2, 3, 4, 5, 0] rfl)
        · have hf := gIf_t c10 hf
          refine lv_iload hx hb dX9_firstStep_69 (lv_at hl 5 rfl) ?_
          exact g_iret K hS hf dX9_firstStep_71
set_option maxHeartbeats 4000000 in
set_option maxRecDepth 100000 in
theorem c_X9_firstStep (p0 : Int32) (p1 : Int32) (σ : gS) (q : Int32 × gS) (hf : f_X9_firstStep p0 p1 σ = some q) : Met l yX9_firstStep (gW yX9_firstStep cX9_firstStep 7 (some .int)) rmX9_firstStep (gPc G (entX G o) o 302 [.ref (o + 297), .ref (o + 4), .int p0, .int p1] σ) (gQi G (entX G o) o 302 q) 0 0 (gA o 302) := by
  refine g_met (by decide) ⟨rfl, rfl⟩ (fun p e s m args below meth c ls K hS hl => ?_) (Nat.le_of_ble_eq_true rfl)
  have K : gK p s m args meth c G cX9_firstStep 7 RX9 (some .int) := K
  have hl : lv_has ls 7 [(0, .ref (o + 297)), (1, .ref (o + 4)), (2, .int p0), (3, .int p1)] := hl
  obtain ⟨hx, hb, hml, hown, hts, -⟩ := id K
  unfold f_X9_firstStep at hf
  refine lv_iload_n hx hb dX9_firstStep_0 rfl (lv_at hl 2 rfl) ?_
  refine lv_aload_n hx hb dX9_firstStep_1 rfl (lv_at hl 1 rfl) ?_
  refine lv_iconst (v := 1) hx hb dX9_firstStep_2 (by decide) ?_
  refine lv_iload_n hx hb dX9_firstStep_3 rfl (lv_at hl 3 rfl) ?_
  refine lv_ishl hx hb dX9_firstStep_4 ?_
  obtain ⟨q1, hq1, hf⟩ := Option.bind_eq_some_iff.mp hf
  refine g_Vi (cx := 4) (As := [.int (1 <<< (p1 &&& 31))]) K hS lV_X9_83 (c_X1_touching (1 <<< (p1 &&& 31)) σ q1 hq1) ((eX_4 G o) _) (by decide) rfl rfl rfl (Nat.le_of_ble_eq_true rfl) ⟨⟨Nat.le_of_ble_eq_true rfl, Nat.le_of_ble_eq_true rfl⟩, rfl, rfl⟩ hl.1 ⟨Nat.zero_le _, Nat.zero_le _⟩ dX9_firstStep_5 (fun H locs hS => ?_)
  refine lv_iand hx hb dX9_firstStep_8 ?_
  obtain ⟨x2, hx2, hf⟩ := gLet_some hf
  refine g_top hx2 ?_
  refine lv_istore (lv' := [(4, .int x2), (0, .ref (o + 297)), (1, .ref (o + 4)), (2, .int p0), (3, .int p1)]) hx hb dX9_firstStep_9 hl (by decide) rfl (fun ls hl => ?_)
  refine lv_iconst (v := 0) hx hb dX9_firstStep_11 (by decide) ?_
  refine lv_istore (lv' := [(5, .int 0), (4, .int x2), (0, .ref (o + 297)), (1, .ref (o + 4)), (2, .int p0), (3, .int p1)]) hx hb dX9_firstStep_12 hl (by decide) rfl (fun ls hl => ?_)
  refine w_X9_firstStep_L14 p1 x2 K gFu 0 q1.2 hf _ _ _ hS (lv_sub hl [2, 3, 5, 1, 0] rfl)
abbrev rmX9_find : Room := { frames := 4, cells := 0, slots := 0, locals := 93 }
def f_X9_find_L46 (w2 : Int32) (w4 : Int32) : Nat → Int32 → Int32 → gS → Option (gS)
  | 0, _, _, _ => none
  | n + 1, v5, v6, σ => if 10 ≤ v6 then (some σ) else (if (σ 297 2) = 0 then (some σ) else (if v5 = w4 then (some σ) else (Option.bind (f_X9_firstStep w2 v5 σ) (fun q15 => Option.bind (f_X5_store 300 10 v6 q15.1 q15.2) (fun q16 => Option.bind (f_X5_at 13 20 q15.1 q16) (fun q17 => gLet (up2 q17.2 297 3 ((q16 297 3) + q17.1)) (fun s18 => gLet (up2 s18 297 4 ((s18 297 4) + 1)) (fun s20 => Option.bind (f_X1_beyond q15.1 v5 s20) (fun q22 => f_X9_find_L46 w2 w4 n q22.1 (v6 + 1) q22.2)))))))))
theorem f_X9_find_L46_s (w2 : Int32) (w4 : Int32) (n : Nat) (v5 : Int32) (v6 : Int32) (σ : gS) : f_X9_find_L46 w2 w4 (n + 1) v5 v6 σ = (if 10 ≤ v6 then (some σ) else (if (σ 297 2) = 0 then (some σ) else (if v5 = w4 then (some σ) else (Option.bind (f_X9_firstStep w2 v5 σ) (fun q15 => Option.bind (f_X5_store 300 10 v6 q15.1 q15.2) (fun q16 => Option.bind (f_X5_at 13 20 q15.1 q16) (fun q17 => gLet (up2 q17.2 297 3 ((q16 297 3) + q17.1)) (fun s18 => gLet (up2 s18 297 4 ((s18 297 4) + 1)) (fun s20 => Option.bind (f_X1_beyond q15.1 v5 s20) (fun q22 => f_X9_find_L46 w2 w4 n q22.1 (v6 + 1) q22.2)))))))))) := rfl
def f_X9_find (p0 : Int32) (p1 : Int32) (p2 : Int32) (σ : gS) : Option (gS) := Option.bind (f_X9_weigh p0 p2 σ) (fun q1 => Option.bind (f_X5_at 298 10 p1 q1) (fun q2 => gLet (fun (j3 : Int32) (s4 : gS) => gGd (gbo j3) (gLet (up2 s4 297 2 j3) (fun s6 => gLet (up2 s6 297 3 0) (fun s8 => gLet (up2 s8 297 4 0) (fun s10 => f_X9_find_L46 p0 p2 gFu p1 0 s10))))) (fun J5 => if 1000000 ≤ q2.1 then (J5 0 q2.2) else (J5 1 q2.2))))
set_option maxHeartbeats 4000000 in
set_option maxRecDepth 100000 in
theorem w_X9_find_L46 (w2 : Int32) (w4 : Int32) {q : gS} (K : gK p s m args meth c G cX9_find 8 RX9 none) : ∀ (n : Nat) (v5 : Int32) (v6 : Int32) (σ : gS), f_X9_find_L46 w2 w4 n v5 v6 σ = some q → ∀ (H : Heap) (locs : List Loc) (ls : Array Slot), gSt G (entX G o) o 302 s σ H locs → lv_has ls 8 [(0, .ref (o + 297)), (1, .ref (o + 4)), (2, .int w2), (4, .int w4), (5, .int v5), (6, .int v6)] → W p l e rmX9_find s m args below meth c H locs 0 0 (MQ below (gQv G (entX G o) o 302 q) args s 0 0 (gA o 302)) (F0 m 46 ls []) := by
  obtain ⟨hx, hb, hml, hown, hts, -⟩ := id K
  intro n
  induction n with
  | zero =>
    intro v5 v6 σ hf
    exact absurd (show (none : Option _) = some q from hf) (by simp)
  | succ n ih =>
    intro v5 v6 σ hf H locs ls hS hl
    rw [f_X9_find_L46_s] at hf
    refine lv_iload hx hb dX9_find_46 (lv_at hl 5 rfl) ?_
    refine lv_bipush (v := 10) hx hb dX9_find_48 (by decide) ?_
    refine lv_icmp_ge (tgt := 132) hx hb dX9_find_50 (by decide) (fun c12 => ?_) (fun c12 => ?_)
    · have hf := gIf_t c12 hf
      exact g_vret K hS hf dX9_find_132
    · have hf := gIf_f c12 hf
      refine lv_aload_n hx hb dX9_find_53 rfl (lv_at hl 0 rfl) ?_
      refine g_get (cx := 297) K hS lF_X9_32 ((eX_297 G o) _) (by decide) rfl dX9_find_54 ?_
      refine lv_if_eq (tgt := 132) hx hb dX9_find_57 (by decide) (fun c13 => ?_) (fun c13 => ?_)
      · have hf := gIf_t c13 hf
        exact g_vret K hS hf dX9_find_132
      · have hf := gIf_f c13 hf
        refine lv_iload hx hb dX9_find_60 (lv_at hl 4 rfl) ?_
        refine lv_iload hx hb dX9_find_62 (lv_at hl 3 rfl) ?_
        refine lv_icmp_eq (tgt := 132) hx hb dX9_find_64 (by decide) (fun c14 => ?_) (fun c14 => ?_)
        · have hf := gIf_t c14 hf
          exact g_vret K hS hf dX9_find_132
        · have hf := gIf_f c14 hf
          refine lv_aload_n hx hb dX9_find_67 rfl (lv_at hl 0 rfl) ?_
          refine lv_aload_n hx hb dX9_find_68 rfl (lv_at hl 1 rfl) ?_
          refine lv_iload_n hx hb dX9_find_69 rfl (lv_at hl 2 rfl) ?_
          refine lv_iload hx hb dX9_find_70 (lv_at hl 4 rfl) ?_
          obtain ⟨q15, hq15, hf⟩ := Option.bind_eq_some_iff.mp hf
          refine g_Vi (cx := 297) (As := [.ref (o + 4), .int w2, .int v5]) K hS lV_X9_43 (c_X9_firstStep w2 v5 σ q15 hq15) ((eX_297 G o) _) (by decide) rfl rfl rfl (Nat.le_of_ble_eq_true rfl) ⟨⟨Nat.le_of_ble_eq_true rfl, Nat.le_of_ble_eq_true rfl⟩, rfl, rfl⟩ hl.1 ⟨Nat.zero_le _, Nat.zero_le _⟩ dX9_find_72 (fun H locs hS => ?_)
          refine lv_istore (lv' := [(7, .int q15.1), (0, .ref (o + 297)), (1, .ref (o + 4)), (2, .int w2), (4, .int w4), (5, .int v5), (6, .int v6)]) hx hb dX9_find_75 hl (by decide) rfl (fun ls hl => ?_)
          refine lv_aload_n hx hb dX9_find_77 rfl (lv_at hl 1 rfl) ?_
          refine g_get (cx := 297) K hS lF_X9_20 ((eX_297 G o) _) (by decide) rfl dX9_find_78 ?_
          refine lv_iload hx hb dX9_find_81 (lv_at hl 6 rfl) ?_
          refine lv_iload hx hb dX9_find_83 (lv_at hl 0 rfl) ?_
          obtain ⟨q16, hq16, hf⟩ := Option.bind_eq_some_iff.mp hf
          refine g_Vv (cx := 300) (As := [.int v6, .int q15.1]) K hS lV_X9_47 (c_X5_store 300 10 (gRow_300 G o) v6 q15.1 q15.2 q16 hq16) ((eX_300 G o) _) (by decide) rfl rfl rfl (Nat.le_of_ble_eq_true rfl) ⟨⟨Nat.le_of_ble_eq_true rfl, Nat.le_of_ble_eq_true rfl⟩, rfl, rfl⟩ hl.1 ⟨Nat.zero_le _, Nat.zero_le _⟩ dX9_find_85 (fun H locs hS => ?_)
          refine lv_aload_n hx hb dX9_find_88 rfl (lv_at hl 1 rfl) ?_
          refine lv_dup hx hb dX9_find_89 rfl ?_
          refine g_get (cx := 297) K hS lF_X9_36 ((eX_297 G o) _) (by decide) rfl dX9_find_90 ?_
          refine lv_aload_n hx hb dX9_find_93 rfl (lv_at hl 2 rfl) ?_
          refine g_get (cx := 4) K hS lF_X9_51 ((eX_4 G o) _) (by decide) rfl dX9_find_94 ?_
          refine lv_iload hx hb dX9_find_97 (lv_at hl 0 rfl) ?_
          obtain ⟨q17, hq17, hf⟩ := Option.bind_eq_some_iff.mp hf
          refine g_Vi (cx := 13) (As := [.int q15.1]) K hS lV_X9_27 (c_X5_at 13 20 (gRow_13 G o) q15.1 q16 q17 hq17) ((eX_13 G o) _) (by decide) rfl rfl rfl (Nat.le_of_ble_eq_true rfl) ⟨⟨Nat.le_of_ble_eq_true rfl, Nat.le_of_ble_eq_true rfl⟩, rfl, rfl⟩ hl.1 ⟨Nat.zero_le _, Nat.zero_le _⟩ dX9_find_99 (fun H locs hS => ?_)
          refine lv_iadd hx hb dX9_find_102 ?_
          obtain ⟨s18, hs18, hf⟩ := gLet_some hf
          refine g_put (cx := 297) K hS lP_X9_36 (eX_297 G o) (by decide) rfl (Nat.le_of_ble_eq_true rfl) rfl rfl dX9_find_103 (fun H locs hS => ?_)
          rw [← hs18] at hS
          refine lv_aload_n hx hb dX9_find_106 rfl (lv_at hl 1 rfl) ?_
          refine lv_dup hx hb dX9_find_107 rfl ?_
          refine g_get (cx := 297) K hS lF_X9_40 ((eX_297 G o) _) (by decide) rfl dX9_find_108 ?_
          refine lv_iconst (v := 1) hx hb dX9_find_111 (by decide) ?_
          refine lv_iadd hx hb dX9_find_112 ?_
          obtain ⟨s20, hs20, hf⟩ := gLet_some hf
          refine g_put (cx := 297) K hS lP_X9_40 (eX_297 G o) (by decide) rfl (Nat.le_of_ble_eq_true rfl) rfl rfl dX9_find_113 (fun H locs hS => ?_)
          rw [← hs20] at hS
          refine lv_aload_n hx hb dX9_find_116 rfl (lv_at hl 2 rfl) ?_
          refine lv_iload hx hb dX9_find_117 (lv_at hl 0 rfl) ?_
          refine lv_iload hx hb dX9_find_119 (lv_at hl 5 rfl) ?_
          obtain ⟨q22, hq22, hf⟩ := Option.bind_eq_some_iff.mp hf
          refine g_Vi (cx := 4) (As := [.int q15.1, .int v5]) K hS lV_X9_55 (c_X1_beyond q15.1 v5 s20 q22 hq22) ((eX_4 G o) _) (by decide) rfl rfl rfl (Nat.le_of_ble_eq_true rfl) ⟨⟨Nat.le_of_ble_eq_true rfl, Nat.le_of_ble_eq_true rfl⟩, rfl, rfl⟩ hl.1 ⟨Nat.zero_le _, Nat.zero_le _⟩ dX9_find_121 (fun H locs hS => ?_)
          refine lv_istore (lv' := [(5, .int q22.1), (7, .int q15.1), (0, .ref (o + 297)), (1, .ref (o + 4)), (2, .int w2), (4, .int w4), (6, .int v6)]) hx hb dX9_find_124 hl (by decide) rfl (fun ls hl => ?_)
          refine lv_iinc (v := (v6 + 1)) (lv' := [(6, .int (v6 + 1)), (5, .int q22.1), (7, .int q15.1), (0, .ref (o + 297)), (1, .ref (o + 4)), (2, .int w2), (4, .int w4)]) hx hb dX9_find_126 hl (k := 6) rfl rfl (by decide) rfl (fun ls hl => ?_)
          refine lv_goto (tgt := 46) hx hb dX9_find_129 (by decide) ?_
          exact ih q22.1 (v6 + 1) q22.2 hf _ _ _ hS (lv_sub hl [3, 4, 5, 6, 1, 0] rfl)
set_option maxHeartbeats 4000000 in
set_option maxRecDepth 100000 in
theorem c_X9_find (p0 : Int32) (p1 : Int32) (p2 : Int32) (σ : gS) (q : gS) (hf : f_X9_find p0 p1 p2 σ = some q) : Met l yX9_find (gW yX9_find cX9_find 8 none) rmX9_find (gPc G (entX G o) o 302 [.ref (o + 297), .ref (o + 4), .int p0, .int p1, .int p2] σ) (gQv G (entX G o) o 302 q) 0 0 (gA o 302) := by
  refine g_met (by decide) ⟨rfl, rfl⟩ (fun p e s m args below meth c ls K hS hl => ?_) (Nat.le_of_ble_eq_true rfl)
  have K : gK p s m args meth c G cX9_find 8 RX9 none := K
  have hl : lv_has ls 8 [(0, .ref (o + 297)), (1, .ref (o + 4)), (2, .int p0), (3, .int p1), (4, .int p2)] := hl
  obtain ⟨hx, hb, hml, hown, hts, -⟩ := id K
  unfold f_X9_find at hf
  refine lv_aload_n hx hb dX9_find_0 rfl (lv_at hl 0 rfl) ?_
  refine lv_aload_n hx hb dX9_find_1 rfl (lv_at hl 1 rfl) ?_
  refine lv_iload_n hx hb dX9_find_2 rfl (lv_at hl 2 rfl) ?_
  refine lv_iload hx hb dX9_find_3 (lv_at hl 4 rfl) ?_
  obtain ⟨q1, hq1, hf⟩ := Option.bind_eq_some_iff.mp hf
  refine g_Vv (cx := 297) (As := [.ref (o + 4), .int p0, .int p2]) K hS lV_X9_23 (c_X9_weigh p0 p2 σ q1 hq1) ((eX_297 G o) _) (by decide) rfl rfl rfl (Nat.le_of_ble_eq_true rfl) ⟨⟨Nat.le_of_ble_eq_true rfl, Nat.le_of_ble_eq_true rfl⟩, rfl, rfl⟩ hl.1 ⟨Nat.zero_le _, Nat.zero_le _⟩ dX9_find_5 (fun H locs hS => ?_)
  refine lv_aload_n hx hb dX9_find_8 rfl (lv_at hl 0 rfl) ?_
  refine lv_aload_n hx hb dX9_find_9 rfl (lv_at hl 0 rfl) ?_
  refine g_get (cx := 297) K hS lF_X9_14 ((eX_297 G o) _) (by decide) rfl dX9_find_10 ?_
  refine lv_iload_n hx hb dX9_find_13 rfl (lv_at hl 3 rfl) ?_
  obtain ⟨q2, hq2, hf⟩ := Option.bind_eq_some_iff.mp hf
  refine g_Vi (cx := 298) (As := [.int p1]) K hS lV_X9_27 (c_X5_at 298 10 (gRow_298 G o) p1 q1 q2 hq2) ((eX_298 G o) _) (by decide) rfl rfl rfl (Nat.le_of_ble_eq_true rfl) ⟨⟨Nat.le_of_ble_eq_true rfl, Nat.le_of_ble_eq_true rfl⟩, rfl, rfl⟩ hl.1 ⟨Nat.zero_le _, Nat.zero_le _⟩ dX9_find_14 (fun H locs hS => ?_)
  refine lv_ldc (v := 1000000) hx hb hown (hts _ (gmem 495 (by decide +kernel) rfl)) dX9_find_17 ?_
  obtain ⟨J5, hJ5, hf⟩ := gLet_some hf
  have wJ5 : ∀ (j3 : Int32) (s4 : gS), J5 j3 s4 = some q → ∀ (H : Heap) (locs : List Loc) (ls : Array Slot), gSt G (entX G o) o 302 s s4 H locs → lv_has ls 8 [(0, .ref (o + 297)), (1, .ref (o + 4)), (2, .int p0), (3, .int p1), (4, .int p2)] → W p l e rmX9_find s m args below meth c H locs 0 0 (MQ below (gQv G (entX G o) o 302 q) args s 0 0 (gA o 302)) (F0 m 27 ls [.int j3, .ref (o + 297)]) := by
    intro j3 s4 hf H locs ls hS hl
    rw [hJ5] at hf
    obtain ⟨h7, hf⟩ := gGd_some hf
    obtain ⟨s6, hs6, hf⟩ := gLet_some hf
    refine g_put (cx := 297) K hS lP_X9_32 (eX_297 G o) (by decide) rfl (Nat.le_of_ble_eq_true rfl) (gbo_nar h7) (gbo_fit h7) dX9_find_27 (fun H locs hS => ?_)
    rw [← hs6] at hS
    refine lv_aload_n hx hb dX9_find_30 rfl (lv_at hl 0 rfl) ?_
    refine lv_iconst (v := 0) hx hb dX9_find_31 (by decide) ?_
    obtain ⟨s8, hs8, hf⟩ := gLet_some hf
    refine g_put (cx := 297) K hS lP_X9_36 (eX_297 G o) (by decide) rfl (Nat.le_of_ble_eq_true rfl) rfl rfl dX9_find_32 (fun H locs hS => ?_)
    rw [← hs8] at hS
    refine lv_aload_n hx hb dX9_find_35 rfl (lv_at hl 0 rfl) ?_
    refine lv_iconst (v := 0) hx hb dX9_find_36 (by decide) ?_
    obtain ⟨s10, hs10, hf⟩ := gLet_some hf
    refine g_put (cx := 297) K hS lP_X9_40 (eX_297 G o) (by decide) rfl (Nat.le_of_ble_eq_true rfl) rfl rfl dX9_find_37 (fun H locs hS => ?_)
    rw [← hs10] at hS
    refine lv_iload_n hx hb dX9_find_40 rfl (lv_at hl 3 rfl) ?_
    refine lv_istore (lv' := [(5, .int p1), (0, .ref (o + 297)), (1, .ref (o + 4)), (2, .int p0), (3, .int p1), (4, .int p2)]) hx hb dX9_find_41 hl (by decide) rfl (fun ls hl => ?_)
    refine lv_iconst (v := 0) hx hb dX9_find_43 (by decide) ?_
    refine lv_istore (lv' := [(6, .int 0), (5, .int p1), (0, .ref (o + 297)), (1, .ref (o + 4)), (2, .int p0), (3, .int p1), (4, .int p2)]) hx hb dX9_find_44 hl (by decide) rfl (fun ls hl => ?_)
    refine w_X9_find_L46 p0 p2 K gFu p1 0 s10 hf _ _ _ hS (lv_sub hl [2, 3, 4, 6, 1, 0] rfl)
  clear hJ5
  refine lv_icmp_ge (tgt := 26) hx hb dX9_find_19 (by decide) (fun c23 => ?_) (fun c23 => ?_)
  · have hf := gIf_t c23 hf
    refine lv_iconst (v := 0) hx hb dX9_find_26 (by decide) ?_
    exact wJ5 0 q2.2 hf _ _ _ hS (lv_sub hl [0, 1, 2, 3, 4] rfl)
  · have hf := gIf_f c23 hf
    refine lv_iconst (v := 1) hx hb dX9_find_22 (by decide) ?_
    refine lv_goto (tgt := 27) hx hb dX9_find_23 (by decide) ?_
    exact wJ5 1 q2.2 hf _ _ _ hS (lv_sub hl [0, 1, 2, 3, 4] rfl)
end
