section
variable {p : Program} {l : Launch} {e : Env} {s : State} {m : MethodId} {args : Array Value} {below : List Frame} {meth : Method} {c : Code} {G : gG} {o : Nat}
abbrev rmX10_isSetting : Room := { frames := 1, cells := 0, slots := 0, locals := 22 }
def f_X10_isSetting (p0 : Int32) (p1 : Int32) (σ : gS) : Option (Int32 × gS) := if p0 = 0 then (Option.bind (f_X10_isWithin p1 10 200 σ) (fun q5 => gGd (gbo q5.1) (some (q5.1, q5.2)))) else (if p0 = 1 then (Option.bind (f_X10_isWithin p1 0 60 σ) (fun q3 => if q3.1 = 0 then (some (0, q3.2)) else (some (1, q3.2)))) else (some (0, σ)))
set_option maxHeartbeats 4000000 in
set_option maxRecDepth 100000 in
theorem c_X10_isSetting (p0 : Int32) (p1 : Int32) (σ : gS) (q : Int32 × gS) (hf : f_X10_isSetting p0 p1 σ = some q) : Met l yX10_isSetting (gW yX10_isSetting cX10_isSetting 2 (some .boolean)) rmX10_isSetting (gPc G (entX G o) o 302 [.int p0, .int p1] σ) (gQi G (entX G o) o 302 q) 0 0 (gA o 302) := by
  refine g_met (by decide) ⟨rfl, rfl⟩ (fun p e s m args below meth c ls K hS hl => ?_) (Nat.le_of_ble_eq_true rfl)
  have K : gK p s m args meth c G cX10_isSetting 2 RX10 (some .boolean) := K
  have hl : lv_has ls 2 [(0, .int p0), (1, .int p1)] := hl
  obtain ⟨hx, hb, hml, hown, hts, -⟩ := id K
  unfold f_X10_isSetting at hf
  refine lv_iload_n hx hb dX10_isSetting_0 rfl (lv_at hl 0 rfl) ?_
  refine lv_if_ne (tgt := 14) hx hb dX10_isSetting_1 (by decide) (fun c1 => ?_) (fun c1 => ?_)
  · have hf := gIf_f c1 hf
    refine lv_iload_n hx hb dX10_isSetting_14 rfl (lv_at hl 0 rfl) ?_
    refine lv_iconst (v := 1) hx hb dX10_isSetting_15 (by decide) ?_
    refine lv_icmp_ne (tgt := 33) hx hb dX10_isSetting_16 (by decide) (fun c2 => ?_) (fun c2 => ?_)
    · have hf := gIf_f c2 hf
      refine lv_iconst (v := 0) hx hb dX10_isSetting_33 (by decide) ?_
      exact g_zret K hS rfl hf dX10_isSetting_34
    · have hf := gIf_t c2 hf
      refine lv_iload_n hx hb dX10_isSetting_19 rfl (lv_at hl 1 rfl) ?_
      refine lv_iconst (v := 0) hx hb dX10_isSetting_20 (by decide) ?_
      refine lv_bipush (v := 60) hx hb dX10_isSetting_21 (by decide) ?_
      obtain ⟨q3, hq3, hf⟩ := Option.bind_eq_some_iff.mp hf
      refine g_Si (As := [.int p1, .int 0, .int 60]) K hS lS_X10_72 (c_X10_isWithin p1 0 60 σ q3 hq3) rfl rfl (Nat.le_of_ble_eq_true rfl) ⟨⟨Nat.le_of_ble_eq_true rfl, Nat.le_of_ble_eq_true rfl⟩, rfl, rfl⟩ hl.1 ⟨Nat.zero_le _, Nat.zero_le _⟩ dX10_isSetting_23 (fun H locs hS => ?_)
      refine lv_if_eq (tgt := 33) hx hb dX10_isSetting_26 (by decide) (fun c4 => ?_) (fun c4 => ?_)
      · have hf := gIf_t c4 hf
        refine lv_iconst (v := 0) hx hb dX10_isSetting_33 (by decide) ?_
        exact g_zret K hS rfl hf dX10_isSetting_34
      · have hf := gIf_f c4 hf
        refine lv_iconst (v := 1) hx hb dX10_isSetting_29 (by decide) ?_
        refine lv_goto (tgt := 34) hx hb dX10_isSetting_30 (by decide) ?_
        exact g_zret K hS rfl hf dX10_isSetting_34
  · have hf := gIf_t c1 hf
    refine lv_iload_n hx hb dX10_isSetting_4 rfl (lv_at hl 1 rfl) ?_
    refine lv_bipush (v := 10) hx hb dX10_isSetting_5 (by decide) ?_
    refine lv_sipush (v := 200) hx hb dX10_isSetting_7 (by decide) ?_
    obtain ⟨q5, hq5, hf⟩ := Option.bind_eq_some_iff.mp hf
    refine g_Si (As := [.int p1, .int 10, .int 200]) K hS lS_X10_72 (c_X10_isWithin p1 10 200 σ q5 hq5) rfl rfl (Nat.le_of_ble_eq_true rfl) ⟨⟨Nat.le_of_ble_eq_true rfl, Nat.le_of_ble_eq_true rfl⟩, rfl, rfl⟩ hl.1 ⟨Nat.zero_le _, Nat.zero_le _⟩ dX10_isSetting_10 (fun H locs hS => ?_)
    obtain ⟨h6, hf⟩ := gGd_some hf
    exact g_zret K hS (gbo_nar h6) hf dX10_isSetting_13
abbrev rmX10_set : Room := { frames := 6, cells := 0, slots := 0, locals := 146 }
def f_X10_set (p0 : Int32) (p1 : Int32) (σ : gS) : Option (Int32 × gS) := Option.bind (f_X10_isSetting p0 p1 σ) (fun q1 => if q1.1 = 0 then (some ((-2), q1.2)) else (Option.bind (f_X3_remember q1.2) (fun q3 => Option.bind (f_X5_at 2 2 p0 q3) (fun q4 => Option.bind (f_X5_store 2 2 p0 p1 q4.2) (fun q5 => some (q4.1, q5))))))
set_option maxHeartbeats 4000000 in
set_option maxRecDepth 100000 in
theorem c_X10_set (p0 : Int32) (p1 : Int32) (σ : gS) (q : Int32 × gS) (hf : f_X10_set p0 p1 σ = some q) : Met l yX10_set (gW yX10_set cX10_set 4 (some .int)) rmX10_set (gPc G (entX G o) o 302 [.ref (o + 0), .int p0, .int p1] σ) (gQi G (entX G o) o 302 q) 0 0 (gA o 302) := by
  refine g_met (by decide) ⟨rfl, rfl⟩ (fun p e s m args below meth c ls K hS hl => ?_) (Nat.le_of_ble_eq_true rfl)
  have K : gK p s m args meth c G cX10_set 4 RX10 (some .int) := K
  have hl : lv_has ls 4 [(0, .ref (o + 0)), (1, .int p0), (2, .int p1)] := hl
  obtain ⟨hx, hb, hml, hown, hts, -⟩ := id K
  unfold f_X10_set at hf
  refine lv_iload_n hx hb dX10_set_0 rfl (lv_at hl 1 rfl) ?_
  refine lv_iload_n hx hb dX10_set_1 rfl (lv_at hl 2 rfl) ?_
  obtain ⟨q1, hq1, hf⟩ := Option.bind_eq_some_iff.mp hf
  refine g_Si (As := [.int p0, .int p1]) K hS lS_X10_46 (c_X10_isSetting p0 p1 σ q1 hq1) rfl rfl (Nat.le_of_ble_eq_true rfl) ⟨⟨Nat.le_of_ble_eq_true rfl, Nat.le_of_ble_eq_true rfl⟩, rfl, rfl⟩ hl.1 ⟨Nat.zero_le _, Nat.zero_le _⟩ dX10_set_2 (fun H locs hS => ?_)
  refine lv_if_ne (tgt := 11) hx hb dX10_set_5 (by decide) (fun c2 => ?_) (fun c2 => ?_)
  · have hf := gIf_f c2 hf
    refine lv_aload_n hx hb dX10_set_11 rfl (lv_at hl 0 rfl) ?_
    refine g_get (cx := 0) K hS lF_X10_26 ((eX_0 G o) _) (by decide) rfl dX10_set_12 ?_
    refine lv_aload_n hx hb dX10_set_15 rfl (lv_at hl 0 rfl) ?_
    refine g_get (cx := 0) K hS lF_X10_10 ((eX_0 G o) _) (by decide) rfl dX10_set_16 ?_
    obtain ⟨q3, hq3, hf⟩ := Option.bind_eq_some_iff.mp hf
    refine g_Vv (cx := 36) (As := [.ref (o + 1)]) K hS lV_X10_50 (c_X3_remember q1.2 q3 hq3) ((eX_36 G o) _) (by decide) rfl rfl rfl (Nat.le_of_ble_eq_true rfl) ⟨⟨Nat.le_of_ble_eq_true rfl, Nat.le_of_ble_eq_true rfl⟩, rfl, rfl⟩ hl.1 ⟨Nat.zero_le _, Nat.zero_le _⟩ dX10_set_19 (fun H locs hS => ?_)
    refine lv_aload_n hx hb dX10_set_22 rfl (lv_at hl 0 rfl) ?_
    refine g_get (cx := 0) K hS lF_X10_10 ((eX_0 G o) _) (by decide) rfl dX10_set_23 ?_
    refine g_get (cx := 1) K hS lF_X10_54 ((eX_1 G o) _) (by decide) rfl dX10_set_26 ?_
    refine lv_iload_n hx hb dX10_set_29 rfl (lv_at hl 1 rfl) ?_
    obtain ⟨q4, hq4, hf⟩ := Option.bind_eq_some_iff.mp hf
    refine g_Vi (cx := 2) (As := [.int p0]) K hS lV_X10_58 (c_X5_at 2 2 (gRow_2 G o) p0 q3 q4 hq4) ((eX_2 G o) _) (by decide) rfl rfl rfl (Nat.le_of_ble_eq_true rfl) ⟨⟨Nat.le_of_ble_eq_true rfl, Nat.le_of_ble_eq_true rfl⟩, rfl, rfl⟩ hl.1 ⟨Nat.zero_le _, Nat.zero_le _⟩ dX10_set_30 (fun H locs hS => ?_)
    refine lv_istore_n (lv' := [(3, .int q4.1), (0, .ref (o + 0)), (1, .int p0), (2, .int p1)]) hx hb dX10_set_33 rfl hl (by decide) rfl (fun ls hl => ?_)
    refine lv_aload_n hx hb dX10_set_34 rfl (lv_at hl 1 rfl) ?_
    refine g_get (cx := 0) K hS lF_X10_10 ((eX_0 G o) _) (by decide) rfl dX10_set_35 ?_
    refine g_get (cx := 1) K hS lF_X10_54 ((eX_1 G o) _) (by decide) rfl dX10_set_38 ?_
    refine lv_iload_n hx hb dX10_set_41 rfl (lv_at hl 2 rfl) ?_
    refine lv_iload_n hx hb dX10_set_42 rfl (lv_at hl 3 rfl) ?_
    obtain ⟨q5, hq5, hf⟩ := Option.bind_eq_some_iff.mp hf
    refine g_Vv (cx := 2) (As := [.int p0, .int p1]) K hS lV_X10_64 (c_X5_store 2 2 (gRow_2 G o) p0 p1 q4.2 q5 hq5) ((eX_2 G o) _) (by decide) rfl rfl rfl (Nat.le_of_ble_eq_true rfl) ⟨⟨Nat.le_of_ble_eq_true rfl, Nat.le_of_ble_eq_true rfl⟩, rfl, rfl⟩ hl.1 ⟨Nat.zero_le _, Nat.zero_le _⟩ dX10_set_43 (fun H locs hS => ?_)
    refine lv_iload_n hx hb dX10_set_46 rfl (lv_at hl 0 rfl) ?_
    exact g_iret K hS hf dX10_set_47
  · have hf := gIf_t c2 hf
    refine lv_bipush (v := (-2)) hx hb dX10_set_8 (by decide) ?_
    exact g_iret K hS hf dX10_set_10
abbrev rmX10_isRoom : Room := { frames := 1, cells := 0, slots := 0, locals := 22 }
def f_X10_isRoom (p0 : Int32) (σ : gS) : Option (Int32 × gS) := Option.bind (f_X10_isWithin p0 0 9 σ) (fun q1 => gGd (gbo q1.1) (some (q1.1, q1.2)))
set_option maxHeartbeats 4000000 in
set_option maxRecDepth 100000 in
theorem c_X10_isRoom (p0 : Int32) (σ : gS) (q : Int32 × gS) (hf : f_X10_isRoom p0 σ = some q) : Met l yX10_isRoom (gW yX10_isRoom cX10_isRoom 1 (some .boolean)) rmX10_isRoom (gPc G (entX G o) o 302 [.int p0] σ) (gQi G (entX G o) o 302 q) 0 0 (gA o 302) := by
  refine g_met (by decide) ⟨rfl, rfl⟩ (fun p e s m args below meth c ls K hS hl => ?_) (Nat.le_of_ble_eq_true rfl)
  have K : gK p s m args meth c G cX10_isRoom 1 RX10 (some .boolean) := K
  have hl : lv_has ls 1 [(0, .int p0)] := hl
  obtain ⟨hx, hb, hml, hown, hts, -⟩ := id K
  unfold f_X10_isRoom at hf
  refine lv_iload_n hx hb dX10_isRoom_0 rfl (lv_at hl 0 rfl) ?_
  refine lv_iconst (v := 0) hx hb dX10_isRoom_1 (by decide) ?_
  refine lv_bipush (v := 9) hx hb dX10_isRoom_2 (by decide) ?_
  obtain ⟨q1, hq1, hf⟩ := Option.bind_eq_some_iff.mp hf
  refine g_Si (As := [.int p0, .int 0, .int 9]) K hS lS_X10_72 (c_X10_isWithin p0 0 9 σ q1 hq1) rfl rfl (Nat.le_of_ble_eq_true rfl) ⟨⟨Nat.le_of_ble_eq_true rfl, Nat.le_of_ble_eq_true rfl⟩, rfl, rfl⟩ hl.1 ⟨Nat.zero_le _, Nat.zero_le _⟩ dX10_isRoom_4 (fun H locs hS => ?_)
  obtain ⟨h2, hf⟩ := gGd_some hf
  exact g_zret K hS (gbo_nar h2) hf dX10_isRoom_7
abbrev rmX10_lay : Room := { frames := 6, cells := 0, slots := 0, locals := 146 }
def f_X10_lay (p0 : Int32) (p1 : Int32) (p2 : Int32) (p3 : Int32) (σ : gS) : Option (Int32 × gS) := Option.bind (f_X10_isRoom p0 σ) (fun q1 => if q1.1 = 0 then (some ((-1), q1.2)) else (Option.bind (f_X10_isRoom p1 q1.2) (fun q3 => if q3.1 = 0 then (some ((-1), q3.2)) else (if p0 = p1 then (some ((-2), q3.2)) else (Option.bind (f_X10_isWithin p2 1 9 q3.2) (fun q6 => if q6.1 = 0 then (some ((-2), q6.2)) else (Option.bind (f_X10_isWithin p3 1 9 q6.2) (fun q8 => if q8.1 = 0 then (some ((-2), q8.2)) else (if (q8.2 4 0) < 20 then (Option.bind (f_X3_remember q8.2) (fun q11 => Option.bind (f_X1_append p0 p1 p2 p3 q11) (fun q12 => some (((q12 4 0) - 1), q12)))) else (some ((-4), q8.2)))))))))))
set_option maxHeartbeats 4000000 in
set_option maxRecDepth 100000 in
theorem c_X10_lay (p0 : Int32) (p1 : Int32) (p2 : Int32) (p3 : Int32) (σ : gS) (q : Int32 × gS) (hf : f_X10_lay p0 p1 p2 p3 σ = some q) : Met l yX10_lay (gW yX10_lay cX10_lay 5 (some .int)) rmX10_lay (gPc G (entX G o) o 302 [.ref (o + 0), .int p0, .int p1, .int p2, .int p3] σ) (gQi G (entX G o) o 302 q) 0 0 (gA o 302) := by
  refine g_met (by decide) ⟨rfl, rfl⟩ (fun p e s m args below meth c ls K hS hl => ?_) (Nat.le_of_ble_eq_true rfl)
  have K : gK p s m args meth c G cX10_lay 5 RX10 (some .int) := K
  have hl : lv_has ls 5 [(0, .ref (o + 0)), (1, .int p0), (2, .int p1), (3, .int p2), (4, .int p3)] := hl
  obtain ⟨hx, hb, hml, hown, hts, -⟩ := id K
  unfold f_X10_lay at hf
  refine lv_iload_n hx hb dX10_lay_0 rfl (lv_at hl 1 rfl) ?_
  obtain ⟨q1, hq1, hf⟩ := Option.bind_eq_some_iff.mp hf
  refine g_Si (As := [.int p0]) K hS lS_X10_68 (c_X10_isRoom p0 σ q1 hq1) rfl rfl (Nat.le_of_ble_eq_true rfl) ⟨⟨Nat.le_of_ble_eq_true rfl, Nat.le_of_ble_eq_true rfl⟩, rfl, rfl⟩ hl.1 ⟨Nat.zero_le _, Nat.zero_le _⟩ dX10_lay_1 (fun H locs hS => ?_)
  refine lv_if_eq (tgt := 14) hx hb dX10_lay_4 (by decide) (fun c2 => ?_) (fun c2 => ?_)
  · have hf := gIf_t c2 hf
    refine lv_iconst (v := (-1)) hx hb dX10_lay_14 (by decide) ?_
    exact g_iret K hS hf dX10_lay_15
  · have hf := gIf_f c2 hf
    refine lv_iload_n hx hb dX10_lay_7 rfl (lv_at hl 2 rfl) ?_
    obtain ⟨q3, hq3, hf⟩ := Option.bind_eq_some_iff.mp hf
    refine g_Si (As := [.int p1]) K hS lS_X10_68 (c_X10_isRoom p1 q1.2 q3 hq3) rfl rfl (Nat.le_of_ble_eq_true rfl) ⟨⟨Nat.le_of_ble_eq_true rfl, Nat.le_of_ble_eq_true rfl⟩, rfl, rfl⟩ hl.1 ⟨Nat.zero_le _, Nat.zero_le _⟩ dX10_lay_8 (fun H locs hS => ?_)
    refine lv_if_ne (tgt := 16) hx hb dX10_lay_11 (by decide) (fun c4 => ?_) (fun c4 => ?_)
    · have hf := gIf_f c4 hf
      refine lv_iload_n hx hb dX10_lay_16 rfl (lv_at hl 1 rfl) ?_
      refine lv_iload_n hx hb dX10_lay_17 rfl (lv_at hl 2 rfl) ?_
      refine lv_icmp_eq (tgt := 42) hx hb dX10_lay_18 (by decide) (fun c5 => ?_) (fun c5 => ?_)
      · have hf := gIf_t c5 hf
        refine lv_bipush (v := (-2)) hx hb dX10_lay_42 (by decide) ?_
        exact g_iret K hS hf dX10_lay_44
      · have hf := gIf_f c5 hf
        refine lv_iload_n hx hb dX10_lay_21 rfl (lv_at hl 3 rfl) ?_
        refine lv_iconst (v := 1) hx hb dX10_lay_22 (by decide) ?_
        refine lv_bipush (v := 9) hx hb dX10_lay_23 (by decide) ?_
        obtain ⟨q6, hq6, hf⟩ := Option.bind_eq_some_iff.mp hf
        refine g_Si (As := [.int p2, .int 1, .int 9]) K hS lS_X10_72 (c_X10_isWithin p2 1 9 q3.2 q6 hq6) rfl rfl (Nat.le_of_ble_eq_true rfl) ⟨⟨Nat.le_of_ble_eq_true rfl, Nat.le_of_ble_eq_true rfl⟩, rfl, rfl⟩ hl.1 ⟨Nat.zero_le _, Nat.zero_le _⟩ dX10_lay_25 (fun H locs hS => ?_)
        refine lv_if_eq (tgt := 42) hx hb dX10_lay_28 (by decide) (fun c7 => ?_) (fun c7 => ?_)
        · have hf := gIf_t c7 hf
          refine lv_bipush (v := (-2)) hx hb dX10_lay_42 (by decide) ?_
          exact g_iret K hS hf dX10_lay_44
        · have hf := gIf_f c7 hf
          refine lv_iload hx hb dX10_lay_31 (lv_at hl 4 rfl) ?_
          refine lv_iconst (v := 1) hx hb dX10_lay_33 (by decide) ?_
          refine lv_bipush (v := 9) hx hb dX10_lay_34 (by decide) ?_
          obtain ⟨q8, hq8, hf⟩ := Option.bind_eq_some_iff.mp hf
          refine g_Si (As := [.int p3, .int 1, .int 9]) K hS lS_X10_72 (c_X10_isWithin p3 1 9 q6.2 q8 hq8) rfl rfl (Nat.le_of_ble_eq_true rfl) ⟨⟨Nat.le_of_ble_eq_true rfl, Nat.le_of_ble_eq_true rfl⟩, rfl, rfl⟩ hl.1 ⟨Nat.zero_le _, Nat.zero_le _⟩ dX10_lay_36 (fun H locs hS => ?_)
          refine lv_if_ne (tgt := 45) hx hb dX10_lay_39 (by decide) (fun c9 => ?_) (fun c9 => ?_)
          · have hf := gIf_f c9 hf
            refine lv_aload_n hx hb dX10_lay_45 rfl (lv_at hl 0 rfl) ?_
            refine g_get (cx := 0) K hS lF_X10_10 ((eX_0 G o) _) (by decide) rfl dX10_lay_46 ?_
            refine g_get (cx := 1) K hS lF_X10_76 ((eX_1 G o) _) (by decide) rfl dX10_lay_49 ?_
            refine g_get (cx := 4) K hS lF_X10_80 ((eX_4 G o) _) (by decide) rfl dX10_lay_52 ?_
            refine lv_bipush (v := 20) hx hb dX10_lay_55 (by decide) ?_
            refine lv_icmp_lt (tgt := 63) hx hb dX10_lay_57 (by decide) (fun c10 => ?_) (fun c10 => ?_)
            · have hf := gIf_t c10 hf
              refine lv_aload_n hx hb dX10_lay_63 rfl (lv_at hl 0 rfl) ?_
              refine g_get (cx := 0) K hS lF_X10_26 ((eX_0 G o) _) (by decide) rfl dX10_lay_64 ?_
              refine lv_aload_n hx hb dX10_lay_67 rfl (lv_at hl 0 rfl) ?_
              refine g_get (cx := 0) K hS lF_X10_10 ((eX_0 G o) _) (by decide) rfl dX10_lay_68 ?_
              obtain ⟨q11, hq11, hf⟩ := Option.bind_eq_some_iff.mp hf
              refine g_Vv (cx := 36) (As := [.ref (o + 1)]) K hS lV_X10_50 (c_X3_remember q8.2 q11 hq11) ((eX_36 G o) _) (by decide) rfl rfl rfl (Nat.le_of_ble_eq_true rfl) ⟨⟨Nat.le_of_ble_eq_true rfl, Nat.le_of_ble_eq_true rfl⟩, rfl, rfl⟩ hl.1 ⟨Nat.zero_le _, Nat.zero_le _⟩ dX10_lay_71 (fun H locs hS => ?_)
              refine lv_aload_n hx hb dX10_lay_74 rfl (lv_at hl 0 rfl) ?_
              refine g_get (cx := 0) K hS lF_X10_10 ((eX_0 G o) _) (by decide) rfl dX10_lay_75 ?_
              refine g_get (cx := 1) K hS lF_X10_76 ((eX_1 G o) _) (by decide) rfl dX10_lay_78 ?_
              refine lv_iload_n hx hb dX10_lay_81 rfl (lv_at hl 1 rfl) ?_
              refine lv_iload_n hx hb dX10_lay_82 rfl (lv_at hl 2 rfl) ?_
              refine lv_iload_n hx hb dX10_lay_83 rfl (lv_at hl 3 rfl) ?_
              refine lv_iload hx hb dX10_lay_84 (lv_at hl 4 rfl) ?_
              obtain ⟨q12, hq12, hf⟩ := Option.bind_eq_some_iff.mp hf
              refine g_Vv (cx := 4) (As := [.int p0, .int p1, .int p2, .int p3]) K hS lV_X10_86 (c_X1_append p0 p1 p2 p3 q11 q12 hq12) ((eX_4 G o) _) (by decide) rfl rfl rfl (Nat.le_of_ble_eq_true rfl) ⟨⟨Nat.le_of_ble_eq_true rfl, Nat.le_of_ble_eq_true rfl⟩, rfl, rfl⟩ hl.1 ⟨Nat.zero_le _, Nat.zero_le _⟩ dX10_lay_86 (fun H locs hS => ?_)
              refine lv_aload_n hx hb dX10_lay_89 rfl (lv_at hl 0 rfl) ?_
              refine g_get (cx := 0) K hS lF_X10_10 ((eX_0 G o) _) (by decide) rfl dX10_lay_90 ?_
              refine g_get (cx := 1) K hS lF_X10_76 ((eX_1 G o) _) (by decide) rfl dX10_lay_93 ?_
              refine g_get (cx := 4) K hS lF_X10_80 ((eX_4 G o) _) (by decide) rfl dX10_lay_96 ?_
              refine lv_iconst (v := 1) hx hb dX10_lay_99 (by decide) ?_
              refine lv_isub hx hb dX10_lay_100 ?_
              exact g_iret K hS hf dX10_lay_101
            · have hf := gIf_f c10 hf
              refine lv_bipush (v := (-4)) hx hb dX10_lay_60 (by decide) ?_
              exact g_iret K hS hf dX10_lay_62
          · have hf := gIf_t c9 hf
            refine lv_bipush (v := (-2)) hx hb dX10_lay_42 (by decide) ?_
            exact g_iret K hS hf dX10_lay_44
    · have hf := gIf_t c4 hf
      refine lv_iconst (v := (-1)) hx hb dX10_lay_14 (by decide) ?_
      exact g_iret K hS hf dX10_lay_15
abbrev rmX10_takeUp : Room := { frames := 6, cells := 0, slots := 0, locals := 146 }
def f_X10_takeUp (p0 : Int32) (σ : gS) : Option (Int32 × gS) := Option.bind (f_X1_has p0 σ) (fun q1 => if q1.1 = 0 then (some ((-1), q1.2)) else (Option.bind (f_X3_remember q1.2) (fun q3 => Option.bind (f_X1_remove p0 q3) (fun q4 => Option.bind (f_X2_forgetBoard p0 q4) (fun q5 => some ((q5 4 0), q5))))))
set_option maxHeartbeats 4000000 in
set_option maxRecDepth 100000 in
theorem c_X10_takeUp (p0 : Int32) (σ : gS) (q : Int32 × gS) (hf : f_X10_takeUp p0 σ = some q) : Met l yX10_takeUp (gW yX10_takeUp cX10_takeUp 2 (some .int)) rmX10_takeUp (gPc G (entX G o) o 302 [.ref (o + 0), .int p0] σ) (gQi G (entX G o) o 302 q) 0 0 (gA o 302) := by
  refine g_met (by decide) ⟨rfl, rfl⟩ (fun p e s m args below meth c ls K hS hl => ?_) (Nat.le_of_ble_eq_true rfl)
  have K : gK p s m args meth c G cX10_takeUp 2 RX10 (some .int) := K
  have hl : lv_has ls 2 [(0, .ref (o + 0)), (1, .int p0)] := hl
  obtain ⟨hx, hb, hml, hown, hts, -⟩ := id K
  unfold f_X10_takeUp at hf
  refine lv_aload_n hx hb dX10_takeUp_0 rfl (lv_at hl 0 rfl) ?_
  refine g_get (cx := 0) K hS lF_X10_10 ((eX_0 G o) _) (by decide) rfl dX10_takeUp_1 ?_
  refine g_get (cx := 1) K hS lF_X10_76 ((eX_1 G o) _) (by decide) rfl dX10_takeUp_4 ?_
  refine lv_iload_n hx hb dX10_takeUp_7 rfl (lv_at hl 1 rfl) ?_
  obtain ⟨q1, hq1, hf⟩ := Option.bind_eq_some_iff.mp hf
  refine g_Vi (cx := 4) (As := [.int p0]) K hS lV_X10_104 (c_X1_has p0 σ q1 hq1) ((eX_4 G o) _) (by decide) rfl rfl rfl (Nat.le_of_ble_eq_true rfl) ⟨⟨Nat.le_of_ble_eq_true rfl, Nat.le_of_ble_eq_true rfl⟩, rfl, rfl⟩ hl.1 ⟨Nat.zero_le _, Nat.zero_le _⟩ dX10_takeUp_8 (fun H locs hS => ?_)
  refine lv_if_ne (tgt := 16) hx hb dX10_takeUp_11 (by decide) (fun c2 => ?_) (fun c2 => ?_)
  · have hf := gIf_f c2 hf
    refine lv_aload_n hx hb dX10_takeUp_16 rfl (lv_at hl 0 rfl) ?_
    refine g_get (cx := 0) K hS lF_X10_26 ((eX_0 G o) _) (by decide) rfl dX10_takeUp_17 ?_
    refine lv_aload_n hx hb dX10_takeUp_20 rfl (lv_at hl 0 rfl) ?_
    refine g_get (cx := 0) K hS lF_X10_10 ((eX_0 G o) _) (by decide) rfl dX10_takeUp_21 ?_
    obtain ⟨q3, hq3, hf⟩ := Option.bind_eq_some_iff.mp hf
    refine g_Vv (cx := 36) (As := [.ref (o + 1)]) K hS lV_X10_50 (c_X3_remember q1.2 q3 hq3) ((eX_36 G o) _) (by decide) rfl rfl rfl (Nat.le_of_ble_eq_true rfl) ⟨⟨Nat.le_of_ble_eq_true rfl, Nat.le_of_ble_eq_true rfl⟩, rfl, rfl⟩ hl.1 ⟨Nat.zero_le _, Nat.zero_le _⟩ dX10_takeUp_24 (fun H locs hS => ?_)
    refine lv_aload_n hx hb dX10_takeUp_27 rfl (lv_at hl 0 rfl) ?_
    refine g_get (cx := 0) K hS lF_X10_10 ((eX_0 G o) _) (by decide) rfl dX10_takeUp_28 ?_
    refine g_get (cx := 1) K hS lF_X10_76 ((eX_1 G o) _) (by decide) rfl dX10_takeUp_31 ?_
    refine lv_iload_n hx hb dX10_takeUp_34 rfl (lv_at hl 1 rfl) ?_
    obtain ⟨q4, hq4, hf⟩ := Option.bind_eq_some_iff.mp hf
    refine g_Vv (cx := 4) (As := [.int p0]) K hS lV_X10_107 (c_X1_remove p0 q3 q4 hq4) ((eX_4 G o) _) (by decide) rfl rfl rfl (Nat.le_of_ble_eq_true rfl) ⟨⟨Nat.le_of_ble_eq_true rfl, Nat.le_of_ble_eq_true rfl⟩, rfl, rfl⟩ hl.1 ⟨Nat.zero_le _, Nat.zero_le _⟩ dX10_takeUp_35 (fun H locs hS => ?_)
    refine lv_aload_n hx hb dX10_takeUp_38 rfl (lv_at hl 0 rfl) ?_
    refine g_get (cx := 0) K hS lF_X10_10 ((eX_0 G o) _) (by decide) rfl dX10_takeUp_39 ?_
    refine g_get (cx := 1) K hS lF_X10_110 ((eX_1 G o) _) (by decide) rfl dX10_takeUp_42 ?_
    refine lv_iload_n hx hb dX10_takeUp_45 rfl (lv_at hl 1 rfl) ?_
    obtain ⟨q5, hq5, hf⟩ := Option.bind_eq_some_iff.mp hf
    refine g_Vv (cx := 17) (As := [.int p0]) K hS lV_X10_114 (c_X2_forgetBoard p0 q4 q5 hq5) ((eX_17 G o) _) (by decide) rfl rfl rfl (Nat.le_of_ble_eq_true rfl) ⟨⟨Nat.le_of_ble_eq_true rfl, Nat.le_of_ble_eq_true rfl⟩, rfl, rfl⟩ hl.1 ⟨Nat.zero_le _, Nat.zero_le _⟩ dX10_takeUp_46 (fun H locs hS => ?_)
    refine lv_aload_n hx hb dX10_takeUp_49 rfl (lv_at hl 0 rfl) ?_
    refine g_get (cx := 0) K hS lF_X10_10 ((eX_0 G o) _) (by decide) rfl dX10_takeUp_50 ?_
    refine g_get (cx := 1) K hS lF_X10_76 ((eX_1 G o) _) (by decide) rfl dX10_takeUp_53 ?_
    refine g_get (cx := 4) K hS lF_X10_80 ((eX_4 G o) _) (by decide) rfl dX10_takeUp_56 ?_
    exact g_iret K hS hf dX10_takeUp_59
  · have hf := gIf_t c2 hf
    refine lv_iconst (v := (-1)) hx hb dX10_takeUp_14 (by decide) ?_
    exact g_iret K hS hf dX10_takeUp_15
abbrev rmX10_sleeper : Room := { frames := 6, cells := 0, slots := 0, locals := 146 }
def f_X10_sleeper (p0 : Int32) (p1 : Int32) (σ : gS) : Option (Int32 × gS) := Option.bind (f_X10_isRoom p0 σ) (fun q1 => if q1.1 = 0 then (some ((-1), q1.2)) else (Option.bind (f_X10_isWithin p1 1 9 q1.2) (fun q3 => if q3.1 = 0 then (some ((-2), q3.2)) else (if (q3.2 24 0) < 5 then (Option.bind (f_X3_remember q3.2) (fun q6 => Option.bind (f_X7_append p0 p1 q6) (fun q7 => some (((q7 24 0) - 1), q7)))) else (some ((-4), q3.2))))))
set_option maxHeartbeats 4000000 in
set_option maxRecDepth 100000 in
theorem c_X10_sleeper (p0 : Int32) (p1 : Int32) (σ : gS) (q : Int32 × gS) (hf : f_X10_sleeper p0 p1 σ = some q) : Met l yX10_sleeper (gW yX10_sleeper cX10_sleeper 3 (some .int)) rmX10_sleeper (gPc G (entX G o) o 302 [.ref (o + 0), .int p0, .int p1] σ) (gQi G (entX G o) o 302 q) 0 0 (gA o 302) := by
  refine g_met (by decide) ⟨rfl, rfl⟩ (fun p e s m args below meth c ls K hS hl => ?_) (Nat.le_of_ble_eq_true rfl)
  have K : gK p s m args meth c G cX10_sleeper 3 RX10 (some .int) := K
  have hl : lv_has ls 3 [(0, .ref (o + 0)), (1, .int p0), (2, .int p1)] := hl
  obtain ⟨hx, hb, hml, hown, hts, -⟩ := id K
  unfold f_X10_sleeper at hf
  refine lv_iload_n hx hb dX10_sleeper_0 rfl (lv_at hl 1 rfl) ?_
  obtain ⟨q1, hq1, hf⟩ := Option.bind_eq_some_iff.mp hf
  refine g_Si (As := [.int p0]) K hS lS_X10_68 (c_X10_isRoom p0 σ q1 hq1) rfl rfl (Nat.le_of_ble_eq_true rfl) ⟨⟨Nat.le_of_ble_eq_true rfl, Nat.le_of_ble_eq_true rfl⟩, rfl, rfl⟩ hl.1 ⟨Nat.zero_le _, Nat.zero_le _⟩ dX10_sleeper_1 (fun H locs hS => ?_)
  refine lv_if_ne (tgt := 9) hx hb dX10_sleeper_4 (by decide) (fun c2 => ?_) (fun c2 => ?_)
  · have hf := gIf_f c2 hf
    refine lv_iload_n hx hb dX10_sleeper_9 rfl (lv_at hl 2 rfl) ?_
    refine lv_iconst (v := 1) hx hb dX10_sleeper_10 (by decide) ?_
    refine lv_bipush (v := 9) hx hb dX10_sleeper_11 (by decide) ?_
    obtain ⟨q3, hq3, hf⟩ := Option.bind_eq_some_iff.mp hf
    refine g_Si (As := [.int p1, .int 1, .int 9]) K hS lS_X10_72 (c_X10_isWithin p1 1 9 q1.2 q3 hq3) rfl rfl (Nat.le_of_ble_eq_true rfl) ⟨⟨Nat.le_of_ble_eq_true rfl, Nat.le_of_ble_eq_true rfl⟩, rfl, rfl⟩ hl.1 ⟨Nat.zero_le _, Nat.zero_le _⟩ dX10_sleeper_13 (fun H locs hS => ?_)
    refine lv_if_ne (tgt := 22) hx hb dX10_sleeper_16 (by decide) (fun c4 => ?_) (fun c4 => ?_)
    · have hf := gIf_f c4 hf
      refine lv_aload_n hx hb dX10_sleeper_22 rfl (lv_at hl 0 rfl) ?_
      refine g_get (cx := 0) K hS lF_X10_10 ((eX_0 G o) _) (by decide) rfl dX10_sleeper_23 ?_
      refine g_get (cx := 1) K hS lF_X10_119 ((eX_1 G o) _) (by decide) rfl dX10_sleeper_26 ?_
      refine g_get (cx := 24) K hS lF_X10_123 ((eX_24 G o) _) (by decide) rfl dX10_sleeper_29 ?_
      refine lv_iconst (v := 5) hx hb dX10_sleeper_32 (by decide) ?_
      refine lv_icmp_lt (tgt := 39) hx hb dX10_sleeper_33 (by decide) (fun c5 => ?_) (fun c5 => ?_)
      · have hf := gIf_t c5 hf
        refine lv_aload_n hx hb dX10_sleeper_39 rfl (lv_at hl 0 rfl) ?_
        refine g_get (cx := 0) K hS lF_X10_26 ((eX_0 G o) _) (by decide) rfl dX10_sleeper_40 ?_
        refine lv_aload_n hx hb dX10_sleeper_43 rfl (lv_at hl 0 rfl) ?_
        refine g_get (cx := 0) K hS lF_X10_10 ((eX_0 G o) _) (by decide) rfl dX10_sleeper_44 ?_
        obtain ⟨q6, hq6, hf⟩ := Option.bind_eq_some_iff.mp hf
        refine g_Vv (cx := 36) (As := [.ref (o + 1)]) K hS lV_X10_50 (c_X3_remember q3.2 q6 hq6) ((eX_36 G o) _) (by decide) rfl rfl rfl (Nat.le_of_ble_eq_true rfl) ⟨⟨Nat.le_of_ble_eq_true rfl, Nat.le_of_ble_eq_true rfl⟩, rfl, rfl⟩ hl.1 ⟨Nat.zero_le _, Nat.zero_le _⟩ dX10_sleeper_47 (fun H locs hS => ?_)
        refine lv_aload_n hx hb dX10_sleeper_50 rfl (lv_at hl 0 rfl) ?_
        refine g_get (cx := 0) K hS lF_X10_10 ((eX_0 G o) _) (by decide) rfl dX10_sleeper_51 ?_
        refine g_get (cx := 1) K hS lF_X10_119 ((eX_1 G o) _) (by decide) rfl dX10_sleeper_54 ?_
        refine lv_iload_n hx hb dX10_sleeper_57 rfl (lv_at hl 1 rfl) ?_
        refine lv_iload_n hx hb dX10_sleeper_58 rfl (lv_at hl 2 rfl) ?_
        obtain ⟨q7, hq7, hf⟩ := Option.bind_eq_some_iff.mp hf
        refine g_Vv (cx := 24) (As := [.int p0, .int p1]) K hS lV_X10_128 (c_X7_append p0 p1 q6 q7 hq7) ((eX_24 G o) _) (by decide) rfl rfl rfl (Nat.le_of_ble_eq_true rfl) ⟨⟨Nat.le_of_ble_eq_true rfl, Nat.le_of_ble_eq_true rfl⟩, rfl, rfl⟩ hl.1 ⟨Nat.zero_le _, Nat.zero_le _⟩ dX10_sleeper_59 (fun H locs hS => ?_)
        refine lv_aload_n hx hb dX10_sleeper_62 rfl (lv_at hl 0 rfl) ?_
        refine g_get (cx := 0) K hS lF_X10_10 ((eX_0 G o) _) (by decide) rfl dX10_sleeper_63 ?_
        refine g_get (cx := 1) K hS lF_X10_119 ((eX_1 G o) _) (by decide) rfl dX10_sleeper_66 ?_
        refine g_get (cx := 24) K hS lF_X10_123 ((eX_24 G o) _) (by decide) rfl dX10_sleeper_69 ?_
        refine lv_iconst (v := 1) hx hb dX10_sleeper_72 (by decide) ?_
        refine lv_isub hx hb dX10_sleeper_73 ?_
        exact g_iret K hS hf dX10_sleeper_74
      · have hf := gIf_f c5 hf
        refine lv_bipush (v := (-4)) hx hb dX10_sleeper_36 (by decide) ?_
        exact g_iret K hS hf dX10_sleeper_38
    · have hf := gIf_t c4 hf
      refine lv_bipush (v := (-2)) hx hb dX10_sleeper_19 (by decide) ?_
      exact g_iret K hS hf dX10_sleeper_21
  · have hf := gIf_t c2 hf
    refine lv_iconst (v := (-1)) hx hb dX10_sleeper_7 (by decide) ?_
    exact g_iret K hS hf dX10_sleeper_8
abbrev rmX10_isGhost : Room := { frames := 1, cells := 0, slots := 0, locals := 22 }
def f_X10_isGhost (p0 : Int32) (σ : gS) : Option (Int32 × gS) := Option.bind (f_X10_isWithin p0 0 3 σ) (fun q1 => gGd (gbo q1.1) (some (q1.1, q1.2)))
set_option maxHeartbeats 4000000 in
set_option maxRecDepth 100000 in
theorem c_X10_isGhost (p0 : Int32) (σ : gS) (q : Int32 × gS) (hf : f_X10_isGhost p0 σ = some q) : Met l yX10_isGhost (gW yX10_isGhost cX10_isGhost 1 (some .boolean)) rmX10_isGhost (gPc G (entX G o) o 302 [.int p0] σ) (gQi G (entX G o) o 302 q) 0 0 (gA o 302) := by
  refine g_met (by decide) ⟨rfl, rfl⟩ (fun p e s m args below meth c ls K hS hl => ?_) (Nat.le_of_ble_eq_true rfl)
  have K : gK p s m args meth c G cX10_isGhost 1 RX10 (some .boolean) := K
  have hl : lv_has ls 1 [(0, .int p0)] := hl
  obtain ⟨hx, hb, hml, hown, hts, -⟩ := id K
  unfold f_X10_isGhost at hf
  refine lv_iload_n hx hb dX10_isGhost_0 rfl (lv_at hl 0 rfl) ?_
  refine lv_iconst (v := 0) hx hb dX10_isGhost_1 (by decide) ?_
  refine lv_iconst (v := 3) hx hb dX10_isGhost_2 (by decide) ?_
  obtain ⟨q1, hq1, hf⟩ := Option.bind_eq_some_iff.mp hf
  refine g_Si (As := [.int p0, .int 0, .int 3]) K hS lS_X10_72 (c_X10_isWithin p0 0 3 σ q1 hq1) rfl rfl (Nat.le_of_ble_eq_true rfl) ⟨⟨Nat.le_of_ble_eq_true rfl, Nat.le_of_ble_eq_true rfl⟩, rfl, rfl⟩ hl.1 ⟨Nat.zero_le _, Nat.zero_le _⟩ dX10_isGhost_3 (fun H locs hS => ?_)
  obtain ⟨h2, hf⟩ := gGd_some hf
  exact g_zret K hS (gbo_nar h2) hf dX10_isGhost_6
abbrev rmX10_put : Room := { frames := 6, cells := 0, slots := 0, locals := 146 }
def f_X10_put (p0 : Int32) (p1 : Int32) (σ : gS) : Option (Int32 × gS) := Option.bind (f_X10_isGhost p0 σ) (fun q1 => if q1.1 = 0 then (some ((-1), q1.2)) else (Option.bind (f_X10_isRoom p1 q1.2) (fun q3 => if q3.1 = 0 then (some ((-1), q3.2)) else (Option.bind (f_X3_remember q3.2) (fun q5 => Option.bind (f_X5_at 18 4 p0 q5) (fun q6 => Option.bind (f_X5_store 18 4 p0 p1 q6.2) (fun q7 => some (q6.1, q7))))))))
set_option maxHeartbeats 4000000 in
set_option maxRecDepth 100000 in
theorem c_X10_put (p0 : Int32) (p1 : Int32) (σ : gS) (q : Int32 × gS) (hf : f_X10_put p0 p1 σ = some q) : Met l yX10_put (gW yX10_put cX10_put 4 (some .int)) rmX10_put (gPc G (entX G o) o 302 [.ref (o + 0), .int p0, .int p1] σ) (gQi G (entX G o) o 302 q) 0 0 (gA o 302) := by
  refine g_met (by decide) ⟨rfl, rfl⟩ (fun p e s m args below meth c ls K hS hl => ?_) (Nat.le_of_ble_eq_true rfl)
  have K : gK p s m args meth c G cX10_put 4 RX10 (some .int) := K
  have hl : lv_has ls 4 [(0, .ref (o + 0)), (1, .int p0), (2, .int p1)] := hl
  obtain ⟨hx, hb, hml, hown, hts, -⟩ := id K
  unfold f_X10_put at hf
  refine lv_iload_n hx hb dX10_put_0 rfl (lv_at hl 1 rfl) ?_
  obtain ⟨q1, hq1, hf⟩ := Option.bind_eq_some_iff.mp hf
  refine g_Si (As := [.int p0]) K hS lS_X10_130 (c_X10_isGhost p0 σ q1 hq1) rfl rfl (Nat.le_of_ble_eq_true rfl) ⟨⟨Nat.le_of_ble_eq_true rfl, Nat.le_of_ble_eq_true rfl⟩, rfl, rfl⟩ hl.1 ⟨Nat.zero_le _, Nat.zero_le _⟩ dX10_put_1 (fun H locs hS => ?_)
  refine lv_if_eq (tgt := 14) hx hb dX10_put_4 (by decide) (fun c2 => ?_) (fun c2 => ?_)
  · have hf := gIf_t c2 hf
    refine lv_iconst (v := (-1)) hx hb dX10_put_14 (by decide) ?_
    exact g_iret K hS hf dX10_put_15
  · have hf := gIf_f c2 hf
    refine lv_iload_n hx hb dX10_put_7 rfl (lv_at hl 2 rfl) ?_
    obtain ⟨q3, hq3, hf⟩ := Option.bind_eq_some_iff.mp hf
    refine g_Si (As := [.int p1]) K hS lS_X10_68 (c_X10_isRoom p1 q1.2 q3 hq3) rfl rfl (Nat.le_of_ble_eq_true rfl) ⟨⟨Nat.le_of_ble_eq_true rfl, Nat.le_of_ble_eq_true rfl⟩, rfl, rfl⟩ hl.1 ⟨Nat.zero_le _, Nat.zero_le _⟩ dX10_put_8 (fun H locs hS => ?_)
    refine lv_if_ne (tgt := 16) hx hb dX10_put_11 (by decide) (fun c4 => ?_) (fun c4 => ?_)
    · have hf := gIf_f c4 hf
      refine lv_aload_n hx hb dX10_put_16 rfl (lv_at hl 0 rfl) ?_
      refine g_get (cx := 0) K hS lF_X10_26 ((eX_0 G o) _) (by decide) rfl dX10_put_17 ?_
      refine lv_aload_n hx hb dX10_put_20 rfl (lv_at hl 0 rfl) ?_
      refine g_get (cx := 0) K hS lF_X10_10 ((eX_0 G o) _) (by decide) rfl dX10_put_21 ?_
      obtain ⟨q5, hq5, hf⟩ := Option.bind_eq_some_iff.mp hf
      refine g_Vv (cx := 36) (As := [.ref (o + 1)]) K hS lV_X10_50 (c_X3_remember q3.2 q5 hq5) ((eX_36 G o) _) (by decide) rfl rfl rfl (Nat.le_of_ble_eq_true rfl) ⟨⟨Nat.le_of_ble_eq_true rfl, Nat.le_of_ble_eq_true rfl⟩, rfl, rfl⟩ hl.1 ⟨Nat.zero_le _, Nat.zero_le _⟩ dX10_put_24 (fun H locs hS => ?_)
      refine lv_aload_n hx hb dX10_put_27 rfl (lv_at hl 0 rfl) ?_
      refine g_get (cx := 0) K hS lF_X10_10 ((eX_0 G o) _) (by decide) rfl dX10_put_28 ?_
      refine g_get (cx := 1) K hS lF_X10_110 ((eX_1 G o) _) (by decide) rfl dX10_put_31 ?_
      refine g_get (cx := 17) K hS lF_X10_133 ((eX_17 G o) _) (by decide) rfl dX10_put_34 ?_
      refine lv_iload_n hx hb dX10_put_37 rfl (lv_at hl 1 rfl) ?_
      obtain ⟨q6, hq6, hf⟩ := Option.bind_eq_some_iff.mp hf
      refine g_Vi (cx := 18) (As := [.int p0]) K hS lV_X10_58 (c_X5_at 18 4 (gRow_18 G o) p0 q5 q6 hq6) ((eX_18 G o) _) (by decide) rfl rfl rfl (Nat.le_of_ble_eq_true rfl) ⟨⟨Nat.le_of_ble_eq_true rfl, Nat.le_of_ble_eq_true rfl⟩, rfl, rfl⟩ hl.1 ⟨Nat.zero_le _, Nat.zero_le _⟩ dX10_put_38 (fun H locs hS => ?_)
      refine lv_istore_n (lv' := [(3, .int q6.1), (0, .ref (o + 0)), (1, .int p0), (2, .int p1)]) hx hb dX10_put_41 rfl hl (by decide) rfl (fun ls hl => ?_)
      refine lv_aload_n hx hb dX10_put_42 rfl (lv_at hl 1 rfl) ?_
      refine g_get (cx := 0) K hS lF_X10_10 ((eX_0 G o) _) (by decide) rfl dX10_put_43 ?_
      refine g_get (cx := 1) K hS lF_X10_110 ((eX_1 G o) _) (by decide) rfl dX10_put_46 ?_
      refine g_get (cx := 17) K hS lF_X10_133 ((eX_17 G o) _) (by decide) rfl dX10_put_49 ?_
      refine lv_iload_n hx hb dX10_put_52 rfl (lv_at hl 2 rfl) ?_
      refine lv_iload_n hx hb dX10_put_53 rfl (lv_at hl 3 rfl) ?_
      obtain ⟨q7, hq7, hf⟩ := Option.bind_eq_some_iff.mp hf
      refine g_Vv (cx := 18) (As := [.int p0, .int p1]) K hS lV_X10_64 (c_X5_store 18 4 (gRow_18 G o) p0 p1 q6.2 q7 hq7) ((eX_18 G o) _) (by decide) rfl rfl rfl (Nat.le_of_ble_eq_true rfl) ⟨⟨Nat.le_of_ble_eq_true rfl, Nat.le_of_ble_eq_true rfl⟩, rfl, rfl⟩ hl.1 ⟨Nat.zero_le _, Nat.zero_le _⟩ dX10_put_54 (fun H locs hS => ?_)
      refine lv_iload_n hx hb dX10_put_57 rfl (lv_at hl 0 rfl) ?_
      exact g_iret K hS hf dX10_put_58
    · have hf := gIf_t c4 hf
      refine lv_iconst (v := (-1)) hx hb dX10_put_14 (by decide) ?_
      exact g_iret K hS hf dX10_put_15
abbrev rmX10_glide : Room := { frames := 6, cells := 0, slots := 0, locals := 146 }
def f_X10_glide (p0 : Int32) (p1 : Int32) (σ : gS) : Option (Int32 × gS) := Option.bind (f_X10_isGhost p0 σ) (fun q1 => if q1.1 = 0 then (some ((-1), q1.2)) else (Option.bind (f_X1_has p1 q1.2) (fun q3 => if q3.1 = 0 then (some ((-1), q3.2)) else (Option.bind (f_X0_freeAtRoomOf p0 q3.2) (fun q5 => Option.bind (f_X10_holds q5.1 p1 q5.2) (fun q6 => if q6.1 = 0 then (some ((-5), q6.2)) else (Option.bind (f_X3_remember q6.2) (fun q8 => Option.bind (f_X0_letGlide p0 p1 q8) (fun q9 => some (q9.1, q9.2))))))))))
set_option maxHeartbeats 4000000 in
set_option maxRecDepth 100000 in
theorem c_X10_glide (p0 : Int32) (p1 : Int32) (σ : gS) (q : Int32 × gS) (hf : f_X10_glide p0 p1 σ = some q) : Met l yX10_glide (gW yX10_glide cX10_glide 3 (some .int)) rmX10_glide (gPc G (entX G o) o 302 [.ref (o + 0), .int p0, .int p1] σ) (gQi G (entX G o) o 302 q) 0 0 (gA o 302) := by
  refine g_met (by decide) ⟨rfl, rfl⟩ (fun p e s m args below meth c ls K hS hl => ?_) (Nat.le_of_ble_eq_true rfl)
  have K : gK p s m args meth c G cX10_glide 3 RX10 (some .int) := K
  have hl : lv_has ls 3 [(0, .ref (o + 0)), (1, .int p0), (2, .int p1)] := hl
  obtain ⟨hx, hb, hml, hown, hts, -⟩ := id K
  unfold f_X10_glide at hf
  refine lv_iload_n hx hb dX10_glide_0 rfl (lv_at hl 1 rfl) ?_
  obtain ⟨q1, hq1, hf⟩ := Option.bind_eq_some_iff.mp hf
  refine g_Si (As := [.int p0]) K hS lS_X10_130 (c_X10_isGhost p0 σ q1 hq1) rfl rfl (Nat.le_of_ble_eq_true rfl) ⟨⟨Nat.le_of_ble_eq_true rfl, Nat.le_of_ble_eq_true rfl⟩, rfl, rfl⟩ hl.1 ⟨Nat.zero_le _, Nat.zero_le _⟩ dX10_glide_1 (fun H locs hS => ?_)
  refine lv_if_eq (tgt := 21) hx hb dX10_glide_4 (by decide) (fun c2 => ?_) (fun c2 => ?_)
  · have hf := gIf_t c2 hf
    refine lv_iconst (v := (-1)) hx hb dX10_glide_21 (by decide) ?_
    exact g_iret K hS hf dX10_glide_22
  · have hf := gIf_f c2 hf
    refine lv_aload_n hx hb dX10_glide_7 rfl (lv_at hl 0 rfl) ?_
    refine g_get (cx := 0) K hS lF_X10_10 ((eX_0 G o) _) (by decide) rfl dX10_glide_8 ?_
    refine g_get (cx := 1) K hS lF_X10_76 ((eX_1 G o) _) (by decide) rfl dX10_glide_11 ?_
    refine lv_iload_n hx hb dX10_glide_14 rfl (lv_at hl 2 rfl) ?_
    obtain ⟨q3, hq3, hf⟩ := Option.bind_eq_some_iff.mp hf
    refine g_Vi (cx := 4) (As := [.int p1]) K hS lV_X10_104 (c_X1_has p1 q1.2 q3 hq3) ((eX_4 G o) _) (by decide) rfl rfl rfl (Nat.le_of_ble_eq_true rfl) ⟨⟨Nat.le_of_ble_eq_true rfl, Nat.le_of_ble_eq_true rfl⟩, rfl, rfl⟩ hl.1 ⟨Nat.zero_le _, Nat.zero_le _⟩ dX10_glide_15 (fun H locs hS => ?_)
    refine lv_if_ne (tgt := 23) hx hb dX10_glide_18 (by decide) (fun c4 => ?_) (fun c4 => ?_)
    · have hf := gIf_f c4 hf
      refine lv_aload_n hx hb dX10_glide_23 rfl (lv_at hl 0 rfl) ?_
      refine g_get (cx := 0) K hS lF_X10_10 ((eX_0 G o) _) (by decide) rfl dX10_glide_24 ?_
      refine lv_iload_n hx hb dX10_glide_27 rfl (lv_at hl 1 rfl) ?_
      obtain ⟨q5, hq5, hf⟩ := Option.bind_eq_some_iff.mp hf
      refine g_Vi (cx := 1) (As := [.int p0]) K hS lV_X10_136 (c_X0_freeAtRoomOf p0 q3.2 q5 hq5) ((eX_1 G o) _) (by decide) rfl rfl rfl (Nat.le_of_ble_eq_true rfl) ⟨⟨Nat.le_of_ble_eq_true rfl, Nat.le_of_ble_eq_true rfl⟩, rfl, rfl⟩ hl.1 ⟨Nat.zero_le _, Nat.zero_le _⟩ dX10_glide_28 (fun H locs hS => ?_)
      refine lv_iload_n hx hb dX10_glide_31 rfl (lv_at hl 2 rfl) ?_
      obtain ⟨q6, hq6, hf⟩ := Option.bind_eq_some_iff.mp hf
      refine g_Si (As := [.int q5.1, .int p1]) K hS lS_X10_139 (c_X10_holds q5.1 p1 q5.2 q6 hq6) rfl rfl (Nat.le_of_ble_eq_true rfl) ⟨⟨Nat.le_of_ble_eq_true rfl, Nat.le_of_ble_eq_true rfl⟩, rfl, rfl⟩ hl.1 ⟨Nat.zero_le _, Nat.zero_le _⟩ dX10_glide_32 (fun H locs hS => ?_)
      refine lv_if_ne (tgt := 41) hx hb dX10_glide_35 (by decide) (fun c7 => ?_) (fun c7 => ?_)
      · have hf := gIf_f c7 hf
        refine lv_aload_n hx hb dX10_glide_41 rfl (lv_at hl 0 rfl) ?_
        refine g_get (cx := 0) K hS lF_X10_26 ((eX_0 G o) _) (by decide) rfl dX10_glide_42 ?_
        refine lv_aload_n hx hb dX10_glide_45 rfl (lv_at hl 0 rfl) ?_
        refine g_get (cx := 0) K hS lF_X10_10 ((eX_0 G o) _) (by decide) rfl dX10_glide_46 ?_
        obtain ⟨q8, hq8, hf⟩ := Option.bind_eq_some_iff.mp hf
        refine g_Vv (cx := 36) (As := [.ref (o + 1)]) K hS lV_X10_50 (c_X3_remember q6.2 q8 hq8) ((eX_36 G o) _) (by decide) rfl rfl rfl (Nat.le_of_ble_eq_true rfl) ⟨⟨Nat.le_of_ble_eq_true rfl, Nat.le_of_ble_eq_true rfl⟩, rfl, rfl⟩ hl.1 ⟨Nat.zero_le _, Nat.zero_le _⟩ dX10_glide_49 (fun H locs hS => ?_)
        refine lv_aload_n hx hb dX10_glide_52 rfl (lv_at hl 0 rfl) ?_
        refine g_get (cx := 0) K hS lF_X10_10 ((eX_0 G o) _) (by decide) rfl dX10_glide_53 ?_
        refine lv_iload_n hx hb dX10_glide_56 rfl (lv_at hl 1 rfl) ?_
        refine lv_iload_n hx hb dX10_glide_57 rfl (lv_at hl 2 rfl) ?_
        obtain ⟨q9, hq9, hf⟩ := Option.bind_eq_some_iff.mp hf
        refine g_Vi (cx := 1) (As := [.int p0, .int p1]) K hS lV_X10_142 (c_X0_letGlide p0 p1 q8 q9 hq9) ((eX_1 G o) _) (by decide) rfl rfl rfl (Nat.le_of_ble_eq_true rfl) ⟨⟨Nat.le_of_ble_eq_true rfl, Nat.le_of_ble_eq_true rfl⟩, rfl, rfl⟩ hl.1 ⟨Nat.zero_le _, Nat.zero_le _⟩ dX10_glide_58 (fun H locs hS => ?_)
        exact g_iret K hS hf dX10_glide_61
      · have hf := gIf_t c7 hf
        refine lv_bipush (v := (-5)) hx hb dX10_glide_38 (by decide) ?_
        exact g_iret K hS hf dX10_glide_40
    · have hf := gIf_t c4 hf
      refine lv_iconst (v := (-1)) hx hb dX10_glide_21 (by decide) ?_
      exact g_iret K hS hf dX10_glide_22
abbrev rmX10_findWay : Room := { frames := 5, cells := 0, slots := 0, locals := 120 }
def f_X10_findWay (p0 : Int32) (p1 : Int32) (σ : gS) : Option (gS) := Option.bind (f_X0_freeTo p0 σ) (fun q1 => Option.bind (f_X5_at 18 4 p0 q1.2) (fun q2 => Option.bind (f_X9_find q1.1 q2.1 p1 q2.2) (fun q3 => some q3)))
set_option maxHeartbeats 4000000 in
set_option maxRecDepth 100000 in
theorem c_X10_findWay (p0 : Int32) (p1 : Int32) (σ : gS) (q : gS) (hf : f_X10_findWay p0 p1 σ = some q) : Met l yX10_findWay (gW yX10_findWay cX10_findWay 3 none) rmX10_findWay (gPc G (entX G o) o 302 [.ref (o + 0), .int p0, .int p1] σ) (gQv G (entX G o) o 302 q) 0 0 (gA o 302) := by
  refine g_met (by decide) ⟨rfl, rfl⟩ (fun p e s m args below meth c ls K hS hl => ?_) (Nat.le_of_ble_eq_true rfl)
  have K : gK p s m args meth c G cX10_findWay 3 RX10 none := K
  have hl : lv_has ls 3 [(0, .ref (o + 0)), (1, .int p0), (2, .int p1)] := hl
  obtain ⟨hx, hb, hml, hown, hts, -⟩ := id K
  unfold f_X10_findWay at hf
  refine lv_aload_n hx hb dX10_findWay_0 rfl (lv_at hl 0 rfl) ?_
  refine g_get (cx := 0) K hS lF_X10_42 ((eX_0 G o) _) (by decide) rfl dX10_findWay_1 ?_
  refine lv_aload_n hx hb dX10_findWay_4 rfl (lv_at hl 0 rfl) ?_
  refine g_get (cx := 0) K hS lF_X10_10 ((eX_0 G o) _) (by decide) rfl dX10_findWay_5 ?_
  refine g_get (cx := 1) K hS lF_X10_76 ((eX_1 G o) _) (by decide) rfl dX10_findWay_8 ?_
  refine lv_aload_n hx hb dX10_findWay_11 rfl (lv_at hl 0 rfl) ?_
  refine g_get (cx := 0) K hS lF_X10_10 ((eX_0 G o) _) (by decide) rfl dX10_findWay_12 ?_
  refine lv_iload_n hx hb dX10_findWay_15 rfl (lv_at hl 1 rfl) ?_
  obtain ⟨q1, hq1, hf⟩ := Option.bind_eq_some_iff.mp hf
  refine g_Vi (cx := 1) (As := [.int p0]) K hS lV_X10_187 (c_X0_freeTo p0 σ q1 hq1) ((eX_1 G o) _) (by decide) rfl rfl rfl (Nat.le_of_ble_eq_true rfl) ⟨⟨Nat.le_of_ble_eq_true rfl, Nat.le_of_ble_eq_true rfl⟩, rfl, rfl⟩ hl.1 ⟨Nat.zero_le _, Nat.zero_le _⟩ dX10_findWay_16 (fun H locs hS => ?_)
  refine lv_aload_n hx hb dX10_findWay_19 rfl (lv_at hl 0 rfl) ?_
  refine g_get (cx := 0) K hS lF_X10_10 ((eX_0 G o) _) (by decide) rfl dX10_findWay_20 ?_
  refine g_get (cx := 1) K hS lF_X10_110 ((eX_1 G o) _) (by decide) rfl dX10_findWay_23 ?_
  refine g_get (cx := 17) K hS lF_X10_133 ((eX_17 G o) _) (by decide) rfl dX10_findWay_26 ?_
  refine lv_iload_n hx hb dX10_findWay_29 rfl (lv_at hl 1 rfl) ?_
  obtain ⟨q2, hq2, hf⟩ := Option.bind_eq_some_iff.mp hf
  refine g_Vi (cx := 18) (As := [.int p0]) K hS lV_X10_58 (c_X5_at 18 4 (gRow_18 G o) p0 q1.2 q2 hq2) ((eX_18 G o) _) (by decide) rfl rfl rfl (Nat.le_of_ble_eq_true rfl) ⟨⟨Nat.le_of_ble_eq_true rfl, Nat.le_of_ble_eq_true rfl⟩, rfl, rfl⟩ hl.1 ⟨Nat.zero_le _, Nat.zero_le _⟩ dX10_findWay_30 (fun H locs hS => ?_)
  refine lv_iload_n hx hb dX10_findWay_33 rfl (lv_at hl 2 rfl) ?_
  obtain ⟨q3, hq3, hf⟩ := Option.bind_eq_some_iff.mp hf
  refine g_Vv (cx := 297) (As := [.ref (o + 4), .int q1.1, .int q2.1, .int p1]) K hS lV_X10_274 (c_X9_find q1.1 q2.1 p1 q2.2 q3 hq3) ((eX_297 G o) _) (by decide) rfl rfl rfl (Nat.le_of_ble_eq_true rfl) ⟨⟨Nat.le_of_ble_eq_true rfl, Nat.le_of_ble_eq_true rfl⟩, rfl, rfl⟩ hl.1 ⟨Nat.zero_le _, Nat.zero_le _⟩ dX10_findWay_34 (fun H locs hS => ?_)
  exact g_vret K hS hf dX10_findWay_37
abbrev rmX10_go : Room := { frames := 6, cells := 0, slots := 0, locals := 146 }
def f_X10_go_L48 (w1 : Int32) (K108 : gS → Option (Int32 × gS)) (K88 : gS → Option (Int32 × gS)) : Nat → Int32 → gS → Option (Int32 × gS)
  | 0, _, _ => none
  | n + 1, v3, σ => if (σ 297 4) ≤ v3 then (K108 σ) else (Option.bind (f_X5_at 300 10 v3 σ) (fun q9 => Option.bind (f_X0_freeAtRoomOf w1 q9.2) (fun q10 => Option.bind (f_X10_holds q10.1 q9.1 q10.2) (fun q11 => if q11.1 = 0 then (K88 q11.2) else (Option.bind (f_X0_letGlide w1 q9.1 q11.2) (fun q13 => f_X10_go_L48 w1 K108 K88 n (v3 + 1) q13.2))))))
theorem f_X10_go_L48_s (w1 : Int32) (K108 : gS → Option (Int32 × gS)) (K88 : gS → Option (Int32 × gS)) (n : Nat) (v3 : Int32) (σ : gS) : f_X10_go_L48 w1 K108 K88 (n + 1) v3 σ = (if (σ 297 4) ≤ v3 then (K108 σ) else (Option.bind (f_X5_at 300 10 v3 σ) (fun q9 => Option.bind (f_X0_freeAtRoomOf w1 q9.2) (fun q10 => Option.bind (f_X10_holds q10.1 q9.1 q10.2) (fun q11 => if q11.1 = 0 then (K88 q11.2) else (Option.bind (f_X0_letGlide w1 q9.1 q11.2) (fun q13 => f_X10_go_L48 w1 K108 K88 n (v3 + 1) q13.2))))))) := rfl
def f_X10_go (p0 : Int32) (p1 : Int32) (σ : gS) : Option (Int32 × gS) := Option.bind (f_X10_isGhost p0 σ) (fun q1 => if q1.1 = 0 then (some ((-1), q1.2)) else (Option.bind (f_X10_isRoom p1 q1.2) (fun q3 => if q3.1 = 0 then (some ((-1), q3.2)) else (Option.bind (f_X10_findWay p0 p1 q3.2) (fun q5 => if (q5 297 2) = 0 then (some ((-5), q5)) else (Option.bind (f_X3_remember q5) (fun q7 => f_X10_go_L48 p0 (fun (s14 : gS) => Option.bind (f_X5_at 18 4 p0 s14) (fun q15 => some (q15.1, q15.2))) (fun (s16 : gS) => Option.bind (f_X5_at 18 4 p0 s16) (fun q17 => some (q17.1, q17.2))) gFu 0 q7)))))))
set_option maxHeartbeats 4000000 in
set_option maxRecDepth 100000 in
theorem w_X10_go_L48 (w1 : Int32) (K108 : gS → Option (Int32 × gS)) (K88 : gS → Option (Int32 × gS)) {q : Int32 × gS} (K : gK p s m args meth c G cX10_go 5 RX10 (some .int)) (hK108 : ∀ (σ : gS), K108 σ = some q → ∀ (H : Heap) (locs : List Loc) (ls : Array Slot), gSt G (entX G o) o 302 s σ H locs → lv_has ls 5 [(0, .ref (o + 0)), (1, .int w1)] → W p l e rmX10_go s m args below meth c H locs 0 0 (MQ below (gQi G (entX G o) o 302 q) args s 0 0 (gA o 302)) (F0 m 108 ls [])) (hK88 : ∀ (σ : gS), K88 σ = some q → ∀ (H : Heap) (locs : List Loc) (ls : Array Slot), gSt G (entX G o) o 302 s σ H locs → lv_has ls 5 [(0, .ref (o + 0)), (1, .int w1)] → W p l e rmX10_go s m args below meth c H locs 0 0 (MQ below (gQi G (entX G o) o 302 q) args s 0 0 (gA o 302)) (F0 m 88 ls [])) : ∀ (n : Nat) (v3 : Int32) (σ : gS), f_X10_go_L48 w1 K108 K88 n v3 σ = some q → ∀ (H : Heap) (locs : List Loc) (ls : Array Slot), gSt G (entX G o) o 302 s σ H locs → lv_has ls 5 [(0, .ref (o + 0)), (1, .int w1), (3, .int v3)] → W p l e rmX10_go s m args below meth c H locs 0 0 (MQ below (gQi G (entX G o) o 302 q) args s 0 0 (gA o 302)) (F0 m 48 ls []) := by
  obtain ⟨hx, hb, hml, hown, hts, -⟩ := id K
  intro n
  induction n with
  | zero =>
    intro v3 σ hf
    exact absurd (show (none : Option _) = some q from hf) (by simp)
  | succ n ih =>
    intro v3 σ hf H locs ls hS hl
    rw [f_X10_go_L48_s] at hf
    refine lv_iload_n hx hb dX10_go_48 rfl (lv_at hl 2 rfl) ?_
    refine lv_aload_n hx hb dX10_go_49 rfl (lv_at hl 0 rfl) ?_
    refine g_get (cx := 0) K hS lF_X10_42 ((eX_0 G o) _) (by decide) rfl dX10_go_50 ?_
    refine g_get (cx := 297) K hS lF_X10_153 ((eX_297 G o) _) (by decide) rfl dX10_go_53 ?_
    refine lv_icmp_ge (tgt := 108) hx hb dX10_go_56 (by decide) (fun c8 => ?_) (fun c8 => ?_)
    · have hf := gIf_t c8 hf
      exact hK108 σ hf _ _ _ hS (lv_sub hl [0, 1] rfl)
    · have hf := gIf_f c8 hf
      refine lv_aload_n hx hb dX10_go_59 rfl (lv_at hl 0 rfl) ?_
      refine g_get (cx := 0) K hS lF_X10_42 ((eX_0 G o) _) (by decide) rfl dX10_go_60 ?_
      refine g_get (cx := 297) K hS lF_X10_154 ((eX_297 G o) _) (by decide) rfl dX10_go_63 ?_
      refine lv_iload_n hx hb dX10_go_66 rfl (lv_at hl 2 rfl) ?_
      obtain ⟨q9, hq9, hf⟩ := Option.bind_eq_some_iff.mp hf
      refine g_Vi (cx := 300) (As := [.int v3]) K hS lV_X10_58 (c_X5_at 300 10 (gRow_300 G o) v3 σ q9 hq9) ((eX_300 G o) _) (by decide) rfl rfl rfl (Nat.le_of_ble_eq_true rfl) ⟨⟨Nat.le_of_ble_eq_true rfl, Nat.le_of_ble_eq_true rfl⟩, rfl, rfl⟩ hl.1 ⟨Nat.zero_le _, Nat.zero_le _⟩ dX10_go_67 (fun H locs hS => ?_)
      refine lv_istore (lv' := [(4, .int q9.1), (0, .ref (o + 0)), (1, .int w1), (3, .int v3)]) hx hb dX10_go_70 hl (by decide) rfl (fun ls hl => ?_)
      refine lv_aload_n hx hb dX10_go_72 rfl (lv_at hl 1 rfl) ?_
      refine g_get (cx := 0) K hS lF_X10_10 ((eX_0 G o) _) (by decide) rfl dX10_go_73 ?_
      refine lv_iload_n hx hb dX10_go_76 rfl (lv_at hl 2 rfl) ?_
      obtain ⟨q10, hq10, hf⟩ := Option.bind_eq_some_iff.mp hf
      refine g_Vi (cx := 1) (As := [.int w1]) K hS lV_X10_136 (c_X0_freeAtRoomOf w1 q9.2 q10 hq10) ((eX_1 G o) _) (by decide) rfl rfl rfl (Nat.le_of_ble_eq_true rfl) ⟨⟨Nat.le_of_ble_eq_true rfl, Nat.le_of_ble_eq_true rfl⟩, rfl, rfl⟩ hl.1 ⟨Nat.zero_le _, Nat.zero_le _⟩ dX10_go_77 (fun H locs hS => ?_)
      refine lv_iload hx hb dX10_go_80 (lv_at hl 0 rfl) ?_
      obtain ⟨q11, hq11, hf⟩ := Option.bind_eq_some_iff.mp hf
      refine g_Si (As := [.int q10.1, .int q9.1]) K hS lS_X10_139 (c_X10_holds q10.1 q9.1 q10.2 q11 hq11) rfl rfl (Nat.le_of_ble_eq_true rfl) ⟨⟨Nat.le_of_ble_eq_true rfl, Nat.le_of_ble_eq_true rfl⟩, rfl, rfl⟩ hl.1 ⟨Nat.zero_le _, Nat.zero_le _⟩ dX10_go_82 (fun H locs hS => ?_)
      refine lv_if_ne (tgt := 91) hx hb dX10_go_85 (by decide) (fun c12 => ?_) (fun c12 => ?_)
      · have hf := gIf_f c12 hf
        refine lv_aload_n hx hb dX10_go_91 rfl (lv_at hl 1 rfl) ?_
        refine g_get (cx := 0) K hS lF_X10_10 ((eX_0 G o) _) (by decide) rfl dX10_go_92 ?_
        refine lv_iload_n hx hb dX10_go_95 rfl (lv_at hl 2 rfl) ?_
        refine lv_iload hx hb dX10_go_96 (lv_at hl 0 rfl) ?_
        obtain ⟨q13, hq13, hf⟩ := Option.bind_eq_some_iff.mp hf
        refine g_Vi (cx := 1) (As := [.int w1, .int q9.1]) K hS lV_X10_142 (c_X0_letGlide w1 q9.1 q11.2 q13 hq13) ((eX_1 G o) _) (by decide) rfl rfl rfl (Nat.le_of_ble_eq_true rfl) ⟨⟨Nat.le_of_ble_eq_true rfl, Nat.le_of_ble_eq_true rfl⟩, rfl, rfl⟩ hl.1 ⟨Nat.zero_le _, Nat.zero_le _⟩ dX10_go_98 (fun H locs hS => ?_)
        refine lv_pop hx hb dX10_go_101 rfl ?_
        refine lv_iinc (v := (v3 + 1)) (lv' := [(3, .int (v3 + 1)), (4, .int q9.1), (0, .ref (o + 0)), (1, .int w1)]) hx hb dX10_go_102 hl (k := 3) rfl rfl (by decide) rfl (fun ls hl => ?_)
        refine lv_goto (tgt := 48) hx hb dX10_go_105 (by decide) ?_
        exact ih (v3 + 1) q13.2 hf _ _ _ hS (lv_sub hl [2, 3, 0] rfl)
      · have hf := gIf_t c12 hf
        exact hK88 q11.2 hf _ _ _ hS (lv_sub hl [1, 2] rfl)
set_option maxHeartbeats 4000000 in
set_option maxRecDepth 100000 in
theorem c_X10_go (p0 : Int32) (p1 : Int32) (σ : gS) (q : Int32 × gS) (hf : f_X10_go p0 p1 σ = some q) : Met l yX10_go (gW yX10_go cX10_go 5 (some .int)) rmX10_go (gPc G (entX G o) o 302 [.ref (o + 0), .int p0, .int p1] σ) (gQi G (entX G o) o 302 q) 0 0 (gA o 302) := by
  refine g_met (by decide) ⟨rfl, rfl⟩ (fun p e s m args below meth c ls K hS hl => ?_) (Nat.le_of_ble_eq_true rfl)
  have K : gK p s m args meth c G cX10_go 5 RX10 (some .int) := K
  have hl : lv_has ls 5 [(0, .ref (o + 0)), (1, .int p0), (2, .int p1)] := hl
  obtain ⟨hx, hb, hml, hown, hts, -⟩ := id K
  unfold f_X10_go at hf
  refine lv_iload_n hx hb dX10_go_0 rfl (lv_at hl 1 rfl) ?_
  obtain ⟨q1, hq1, hf⟩ := Option.bind_eq_some_iff.mp hf
  refine g_Si (As := [.int p0]) K hS lS_X10_130 (c_X10_isGhost p0 σ q1 hq1) rfl rfl (Nat.le_of_ble_eq_true rfl) ⟨⟨Nat.le_of_ble_eq_true rfl, Nat.le_of_ble_eq_true rfl⟩, rfl, rfl⟩ hl.1 ⟨Nat.zero_le _, Nat.zero_le _⟩ dX10_go_1 (fun H locs hS => ?_)
  refine lv_if_eq (tgt := 14) hx hb dX10_go_4 (by decide) (fun c2 => ?_) (fun c2 => ?_)
  · have hf := gIf_t c2 hf
    refine lv_iconst (v := (-1)) hx hb dX10_go_14 (by decide) ?_
    exact g_iret K hS hf dX10_go_15
  · have hf := gIf_f c2 hf
    refine lv_iload_n hx hb dX10_go_7 rfl (lv_at hl 2 rfl) ?_
    obtain ⟨q3, hq3, hf⟩ := Option.bind_eq_some_iff.mp hf
    refine g_Si (As := [.int p1]) K hS lS_X10_68 (c_X10_isRoom p1 q1.2 q3 hq3) rfl rfl (Nat.le_of_ble_eq_true rfl) ⟨⟨Nat.le_of_ble_eq_true rfl, Nat.le_of_ble_eq_true rfl⟩, rfl, rfl⟩ hl.1 ⟨Nat.zero_le _, Nat.zero_le _⟩ dX10_go_8 (fun H locs hS => ?_)
    refine lv_if_ne (tgt := 16) hx hb dX10_go_11 (by decide) (fun c4 => ?_) (fun c4 => ?_)
    · have hf := gIf_f c4 hf
      refine lv_aload_n hx hb dX10_go_16 rfl (lv_at hl 0 rfl) ?_
      refine lv_iload_n hx hb dX10_go_17 rfl (lv_at hl 1 rfl) ?_
      refine lv_iload_n hx hb dX10_go_18 rfl (lv_at hl 2 rfl) ?_
      obtain ⟨q5, hq5, hf⟩ := Option.bind_eq_some_iff.mp hf
      refine g_Vv (cx := 0) (As := [.int p0, .int p1]) K hS lV_X10_146 (c_X10_findWay p0 p1 q3.2 q5 hq5) ((eX_0 G o) _) (by decide) rfl rfl rfl (Nat.le_of_ble_eq_true rfl) ⟨⟨Nat.le_of_ble_eq_true rfl, Nat.le_of_ble_eq_true rfl⟩, rfl, rfl⟩ hl.1 ⟨Nat.zero_le _, Nat.zero_le _⟩ dX10_go_19 (fun H locs hS => ?_)
      refine lv_aload_n hx hb dX10_go_22 rfl (lv_at hl 0 rfl) ?_
      refine g_get (cx := 0) K hS lF_X10_42 ((eX_0 G o) _) (by decide) rfl dX10_go_23 ?_
      refine g_get (cx := 297) K hS lF_X10_149 ((eX_297 G o) _) (by decide) rfl dX10_go_26 ?_
      refine lv_if_ne (tgt := 35) hx hb dX10_go_29 (by decide) (fun c6 => ?_) (fun c6 => ?_)
      · have hf := gIf_f c6 hf
        refine lv_aload_n hx hb dX10_go_35 rfl (lv_at hl 0 rfl) ?_
        refine g_get (cx := 0) K hS lF_X10_26 ((eX_0 G o) _) (by decide) rfl dX10_go_36 ?_
        refine lv_aload_n hx hb dX10_go_39 rfl (lv_at hl 0 rfl) ?_
        refine g_get (cx := 0) K hS lF_X10_10 ((eX_0 G o) _) (by decide) rfl dX10_go_40 ?_
        obtain ⟨q7, hq7, hf⟩ := Option.bind_eq_some_iff.mp hf
        refine g_Vv (cx := 36) (As := [.ref (o + 1)]) K hS lV_X10_50 (c_X3_remember q5 q7 hq7) ((eX_36 G o) _) (by decide) rfl rfl rfl (Nat.le_of_ble_eq_true rfl) ⟨⟨Nat.le_of_ble_eq_true rfl, Nat.le_of_ble_eq_true rfl⟩, rfl, rfl⟩ hl.1 ⟨Nat.zero_le _, Nat.zero_le _⟩ dX10_go_43 (fun H locs hS => ?_)
        refine lv_iconst (v := 0) hx hb dX10_go_46 (by decide) ?_
        refine lv_istore_n (lv' := [(3, .int 0), (0, .ref (o + 0)), (1, .int p0), (2, .int p1)]) hx hb dX10_go_47 rfl hl (by decide) rfl (fun ls hl => ?_)
        refine w_X10_go_L48 p0 _ _ K ?_ ?_ gFu 0 q7 hf _ _ _ hS (lv_sub hl [1, 2, 0] rfl)
        · intro  s14 hf H locs ls hS hl
          refine lv_aload_n hx hb dX10_go_108 rfl (lv_at hl 0 rfl) ?_
          refine g_get (cx := 0) K hS lF_X10_10 ((eX_0 G o) _) (by decide) rfl dX10_go_109 ?_
          refine g_get (cx := 1) K hS lF_X10_110 ((eX_1 G o) _) (by decide) rfl dX10_go_112 ?_
          refine g_get (cx := 17) K hS lF_X10_133 ((eX_17 G o) _) (by decide) rfl dX10_go_115 ?_
          refine lv_iload_n hx hb dX10_go_118 rfl (lv_at hl 1 rfl) ?_
          obtain ⟨q15, hq15, hf⟩ := Option.bind_eq_some_iff.mp hf
          refine g_Vi (cx := 18) (As := [.int p0]) K hS lV_X10_58 (c_X5_at 18 4 (gRow_18 G o) p0 s14 q15 hq15) ((eX_18 G o) _) (by decide) rfl rfl rfl (Nat.le_of_ble_eq_true rfl) ⟨⟨Nat.le_of_ble_eq_true rfl, Nat.le_of_ble_eq_true rfl⟩, rfl, rfl⟩ hl.1 ⟨Nat.zero_le _, Nat.zero_le _⟩ dX10_go_119 (fun H locs hS => ?_)
          exact g_iret K hS hf dX10_go_122
        · intro  s16 hf H locs ls hS hl
          refine lv_goto (tgt := 108) hx hb dX10_go_88 (by decide) ?_
          refine lv_aload_n hx hb dX10_go_108 rfl (lv_at hl 0 rfl) ?_
          refine g_get (cx := 0) K hS lF_X10_10 ((eX_0 G o) _) (by decide) rfl dX10_go_109 ?_
          refine g_get (cx := 1) K hS lF_X10_110 ((eX_1 G o) _) (by decide) rfl dX10_go_112 ?_
          refine g_get (cx := 17) K hS lF_X10_133 ((eX_17 G o) _) (by decide) rfl dX10_go_115 ?_
          refine lv_iload_n hx hb dX10_go_118 rfl (lv_at hl 1 rfl) ?_
          obtain ⟨q17, hq17, hf⟩ := Option.bind_eq_some_iff.mp hf
          refine g_Vi (cx := 18) (As := [.int p0]) K hS lV_X10_58 (c_X5_at 18 4 (gRow_18 G o) p0 s16 q17 hq17) ((eX_18 G o) _) (by decide) rfl rfl rfl (Nat.le_of_ble_eq_true rfl) ⟨⟨Nat.le_of_ble_eq_true rfl, Nat.le_of_ble_eq_true rfl⟩, rfl, rfl⟩ hl.1 ⟨Nat.zero_le _, Nat.zero_le _⟩ dX10_go_119 (fun H locs hS => ?_)
          exact g_iret K hS hf dX10_go_122
      · have hf := gIf_t c6 hf
        refine lv_bipush (v := (-5)) hx hb dX10_go_32 (by decide) ?_
        exact g_iret K hS hf dX10_go_34
    · have hf := gIf_t c4 hf
      refine lv_iconst (v := (-1)) hx hb dX10_go_14 (by decide) ?_
      exact g_iret K hS hf dX10_go_15
abbrev rmX10_pass : Room := { frames := 6, cells := 0, slots := 0, locals := 146 }
def f_X10_pass (p0 : Int32) (σ : gS) : Option (Int32 × gS) := Option.bind (f_X10_isWithin p0 1 200 σ) (fun q1 => if q1.1 = 0 then (some ((-2), q1.2)) else (if ((q1.2 1 0) + p0) ≤ 99999 then (Option.bind (f_X3_remember q1.2) (fun q4 => Option.bind (f_X0_letPass p0 q4) (fun q5 => some (q5.1, q5.2)))) else (some ((-4), q1.2))))
set_option maxHeartbeats 4000000 in
set_option maxRecDepth 100000 in
theorem c_X10_pass (p0 : Int32) (σ : gS) (q : Int32 × gS) (hf : f_X10_pass p0 σ = some q) : Met l yX10_pass (gW yX10_pass cX10_pass 2 (some .int)) rmX10_pass (gPc G (entX G o) o 302 [.ref (o + 0), .int p0] σ) (gQi G (entX G o) o 302 q) 0 0 (gA o 302) := by
  refine g_met (by decide) ⟨rfl, rfl⟩ (fun p e s m args below meth c ls K hS hl => ?_) (Nat.le_of_ble_eq_true rfl)
  have K : gK p s m args meth c G cX10_pass 2 RX10 (some .int) := K
  have hl : lv_has ls 2 [(0, .ref (o + 0)), (1, .int p0)] := hl
  obtain ⟨hx, hb, hml, hown, hts, -⟩ := id K
  unfold f_X10_pass at hf
  refine lv_iload_n hx hb dX10_pass_0 rfl (lv_at hl 1 rfl) ?_
  refine lv_iconst (v := 1) hx hb dX10_pass_1 (by decide) ?_
  refine lv_sipush (v := 200) hx hb dX10_pass_2 (by decide) ?_
  obtain ⟨q1, hq1, hf⟩ := Option.bind_eq_some_iff.mp hf
  refine g_Si (As := [.int p0, .int 1, .int 200]) K hS lS_X10_72 (c_X10_isWithin p0 1 200 σ q1 hq1) rfl rfl (Nat.le_of_ble_eq_true rfl) ⟨⟨Nat.le_of_ble_eq_true rfl, Nat.le_of_ble_eq_true rfl⟩, rfl, rfl⟩ hl.1 ⟨Nat.zero_le _, Nat.zero_le _⟩ dX10_pass_5 (fun H locs hS => ?_)
  refine lv_if_ne (tgt := 14) hx hb dX10_pass_8 (by decide) (fun c2 => ?_) (fun c2 => ?_)
  · have hf := gIf_f c2 hf
    refine lv_aload_n hx hb dX10_pass_14 rfl (lv_at hl 0 rfl) ?_
    refine g_get (cx := 0) K hS lF_X10_10 ((eX_0 G o) _) (by decide) rfl dX10_pass_15 ?_
    refine g_get (cx := 1) K hS lF_X10_157 ((eX_1 G o) _) (by decide) rfl dX10_pass_18 ?_
    refine lv_iload_n hx hb dX10_pass_21 rfl (lv_at hl 1 rfl) ?_
    refine lv_iadd hx hb dX10_pass_22 ?_
    refine lv_ldc (v := 99999) hx hb hown (hts _ (gmem 517 (by decide +kernel) rfl)) dX10_pass_23 ?_
    refine lv_icmp_le (tgt := 31) hx hb dX10_pass_25 (by decide) (fun c3 => ?_) (fun c3 => ?_)
    · have hf := gIf_t c3 hf
      refine lv_aload_n hx hb dX10_pass_31 rfl (lv_at hl 0 rfl) ?_
      refine g_get (cx := 0) K hS lF_X10_26 ((eX_0 G o) _) (by decide) rfl dX10_pass_32 ?_
      refine lv_aload_n hx hb dX10_pass_35 rfl (lv_at hl 0 rfl) ?_
      refine g_get (cx := 0) K hS lF_X10_10 ((eX_0 G o) _) (by decide) rfl dX10_pass_36 ?_
      obtain ⟨q4, hq4, hf⟩ := Option.bind_eq_some_iff.mp hf
      refine g_Vv (cx := 36) (As := [.ref (o + 1)]) K hS lV_X10_50 (c_X3_remember q1.2 q4 hq4) ((eX_36 G o) _) (by decide) rfl rfl rfl (Nat.le_of_ble_eq_true rfl) ⟨⟨Nat.le_of_ble_eq_true rfl, Nat.le_of_ble_eq_true rfl⟩, rfl, rfl⟩ hl.1 ⟨Nat.zero_le _, Nat.zero_le _⟩ dX10_pass_39 (fun H locs hS => ?_)
      refine lv_aload_n hx hb dX10_pass_42 rfl (lv_at hl 0 rfl) ?_
      refine g_get (cx := 0) K hS lF_X10_10 ((eX_0 G o) _) (by decide) rfl dX10_pass_43 ?_
      refine lv_iload_n hx hb dX10_pass_46 rfl (lv_at hl 1 rfl) ?_
      obtain ⟨q5, hq5, hf⟩ := Option.bind_eq_some_iff.mp hf
      refine g_Vi (cx := 1) (As := [.int p0]) K hS lV_X10_161 (c_X0_letPass p0 q4 q5 hq5) ((eX_1 G o) _) (by decide) rfl rfl rfl (Nat.le_of_ble_eq_true rfl) ⟨⟨Nat.le_of_ble_eq_true rfl, Nat.le_of_ble_eq_true rfl⟩, rfl, rfl⟩ hl.1 ⟨Nat.zero_le _, Nat.zero_le _⟩ dX10_pass_47 (fun H locs hS => ?_)
      exact g_iret K hS hf dX10_pass_50
    · have hf := gIf_f c3 hf
      refine lv_bipush (v := (-4)) hx hb dX10_pass_28 (by decide) ?_
      exact g_iret K hS hf dX10_pass_30
  · have hf := gIf_t c2 hf
    refine lv_bipush (v := (-2)) hx hb dX10_pass_11 (by decide) ?_
    exact g_iret K hS hf dX10_pass_13
abbrev rmX10_board : Room := { frames := 4, cells := 0, slots := 0, locals := 88 }
def f_X10_board (p0 : Int32) (p1 : Int32) (σ : gS) : Option (Int32 × gS) := Option.bind (f_X1_has p0 σ) (fun q1 => if q1.1 = 0 then (some ((-1), q1.2)) else (if p1 = 0 then (Option.bind (f_X5_at 5 20 p0 q1.2) (fun q4 => some (q4.1, q4.2))) else (if p1 = 1 then (Option.bind (f_X5_at 7 20 p0 q1.2) (fun q6 => some (q6.1, q6.2))) else (if p1 = 2 then (Option.bind (f_X5_at 11 20 p0 q1.2) (fun q8 => some (q8.1, q8.2))) else (if p1 = 3 then (Option.bind (f_X5_at 13 20 p0 q1.2) (fun q10 => some (q10.1, q10.2))) else (if p1 = 4 then (Option.bind (f_X2_whoCrossed p0 q1.2) (fun q12 => some (q12.1, q12.2))) else (if p1 = 5 then (Option.bind (f_X0_ghostsFreeFor p0 q1.2) (fun q14 => some (q14.1, q14.2))) else (if p1 = 6 then (Option.bind (f_X5_at 15 20 p0 q1.2) (fun q16 => some (q16.1, q16.2))) else (some ((-2), q1.2))))))))))
set_option maxHeartbeats 4000000 in
set_option maxRecDepth 100000 in
theorem c_X10_board (p0 : Int32) (p1 : Int32) (σ : gS) (q : Int32 × gS) (hf : f_X10_board p0 p1 σ = some q) : Met l yX10_board (gW yX10_board cX10_board 3 (some .int)) rmX10_board (gPc G (entX G o) o 302 [.ref (o + 0), .int p0, .int p1] σ) (gQi G (entX G o) o 302 q) 0 0 (gA o 302) := by
  refine g_met (by decide) ⟨rfl, rfl⟩ (fun p e s m args below meth c ls K hS hl => ?_) (Nat.le_of_ble_eq_true rfl)
  have K : gK p s m args meth c G cX10_board 3 RX10 (some .int) := K
  have hl : lv_has ls 3 [(0, .ref (o + 0)), (1, .int p0), (2, .int p1)] := hl
  obtain ⟨hx, hb, hml, hown, hts, -⟩ := id K
  unfold f_X10_board at hf
  refine lv_aload_n hx hb dX10_board_0 rfl (lv_at hl 0 rfl) ?_
  refine g_get (cx := 0) K hS lF_X10_10 ((eX_0 G o) _) (by decide) rfl dX10_board_1 ?_
  refine g_get (cx := 1) K hS lF_X10_76 ((eX_1 G o) _) (by decide) rfl dX10_board_4 ?_
  refine lv_iload_n hx hb dX10_board_7 rfl (lv_at hl 1 rfl) ?_
  obtain ⟨q1, hq1, hf⟩ := Option.bind_eq_some_iff.mp hf
  refine g_Vi (cx := 4) (As := [.int p0]) K hS lV_X10_104 (c_X1_has p0 σ q1 hq1) ((eX_4 G o) _) (by decide) rfl rfl rfl (Nat.le_of_ble_eq_true rfl) ⟨⟨Nat.le_of_ble_eq_true rfl, Nat.le_of_ble_eq_true rfl⟩, rfl, rfl⟩ hl.1 ⟨Nat.zero_le _, Nat.zero_le _⟩ dX10_board_8 (fun H locs hS => ?_)
  refine lv_if_ne (tgt := 16) hx hb dX10_board_11 (by decide) (fun c2 => ?_) (fun c2 => ?_)
  · have hf := gIf_f c2 hf
    refine lv_iload_n hx hb dX10_board_16 rfl (lv_at hl 2 rfl) ?_
    by_cases c3 : p1 = 0
    · have hf := gIf_t c3 hf
      refine g_tab c3 (off := 43) (tgt := 60) hx hb dX10_board_17 (by decide) (by decide) (by decide) (by decide) ?_
      refine lv_aload_n hx hb dX10_board_60 rfl (lv_at hl 0 rfl) ?_
      refine g_get (cx := 0) K hS lF_X10_10 ((eX_0 G o) _) (by decide) rfl dX10_board_61 ?_
      refine g_get (cx := 1) K hS lF_X10_76 ((eX_1 G o) _) (by decide) rfl dX10_board_64 ?_
      refine g_get (cx := 4) K hS lF_X10_164 ((eX_4 G o) _) (by decide) rfl dX10_board_67 ?_
      refine lv_iload_n hx hb dX10_board_70 rfl (lv_at hl 1 rfl) ?_
      obtain ⟨q4, hq4, hf⟩ := Option.bind_eq_some_iff.mp hf
      refine g_Vi (cx := 5) (As := [.int p0]) K hS lV_X10_58 (c_X5_at 5 20 (gRow_5 G o) p0 q1.2 q4 hq4) ((eX_5 G o) _) (by decide) rfl rfl rfl (Nat.le_of_ble_eq_true rfl) ⟨⟨Nat.le_of_ble_eq_true rfl, Nat.le_of_ble_eq_true rfl⟩, rfl, rfl⟩ hl.1 ⟨Nat.zero_le _, Nat.zero_le _⟩ dX10_board_71 (fun H locs hS => ?_)
      exact g_iret K hS hf dX10_board_74
    have hf := gIf_f c3 hf
    by_cases c5 : p1 = 1
    · have hf := gIf_t c5 hf
      refine g_tab c5 (off := 58) (tgt := 75) hx hb dX10_board_17 (by decide) (by decide) (by decide) (by decide) ?_
      refine lv_aload_n hx hb dX10_board_75 rfl (lv_at hl 0 rfl) ?_
      refine g_get (cx := 0) K hS lF_X10_10 ((eX_0 G o) _) (by decide) rfl dX10_board_76 ?_
      refine g_get (cx := 1) K hS lF_X10_76 ((eX_1 G o) _) (by decide) rfl dX10_board_79 ?_
      refine g_get (cx := 4) K hS lF_X10_167 ((eX_4 G o) _) (by decide) rfl dX10_board_82 ?_
      refine lv_iload_n hx hb dX10_board_85 rfl (lv_at hl 1 rfl) ?_
      obtain ⟨q6, hq6, hf⟩ := Option.bind_eq_some_iff.mp hf
      refine g_Vi (cx := 7) (As := [.int p0]) K hS lV_X10_58 (c_X5_at 7 20 (gRow_7 G o) p0 q1.2 q6 hq6) ((eX_7 G o) _) (by decide) rfl rfl rfl (Nat.le_of_ble_eq_true rfl) ⟨⟨Nat.le_of_ble_eq_true rfl, Nat.le_of_ble_eq_true rfl⟩, rfl, rfl⟩ hl.1 ⟨Nat.zero_le _, Nat.zero_le _⟩ dX10_board_86 (fun H locs hS => ?_)
      exact g_iret K hS hf dX10_board_89
    have hf := gIf_f c5 hf
    by_cases c7 : p1 = 2
    · have hf := gIf_t c7 hf
      refine g_tab c7 (off := 73) (tgt := 90) hx hb dX10_board_17 (by decide) (by decide) (by decide) (by decide) ?_
      refine lv_aload_n hx hb dX10_board_90 rfl (lv_at hl 0 rfl) ?_
      refine g_get (cx := 0) K hS lF_X10_10 ((eX_0 G o) _) (by decide) rfl dX10_board_91 ?_
      refine g_get (cx := 1) K hS lF_X10_76 ((eX_1 G o) _) (by decide) rfl dX10_board_94 ?_
      refine g_get (cx := 4) K hS lF_X10_170 ((eX_4 G o) _) (by decide) rfl dX10_board_97 ?_
      refine lv_iload_n hx hb dX10_board_100 rfl (lv_at hl 1 rfl) ?_
      obtain ⟨q8, hq8, hf⟩ := Option.bind_eq_some_iff.mp hf
      refine g_Vi (cx := 11) (As := [.int p0]) K hS lV_X10_58 (c_X5_at 11 20 (gRow_11 G o) p0 q1.2 q8 hq8) ((eX_11 G o) _) (by decide) rfl rfl rfl (Nat.le_of_ble_eq_true rfl) ⟨⟨Nat.le_of_ble_eq_true rfl, Nat.le_of_ble_eq_true rfl⟩, rfl, rfl⟩ hl.1 ⟨Nat.zero_le _, Nat.zero_le _⟩ dX10_board_101 (fun H locs hS => ?_)
      exact g_iret K hS hf dX10_board_104
    have hf := gIf_f c7 hf
    by_cases c9 : p1 = 3
    · have hf := gIf_t c9 hf
      refine g_tab c9 (off := 88) (tgt := 105) hx hb dX10_board_17 (by decide) (by decide) (by decide) (by decide) ?_
      refine lv_aload_n hx hb dX10_board_105 rfl (lv_at hl 0 rfl) ?_
      refine g_get (cx := 0) K hS lF_X10_10 ((eX_0 G o) _) (by decide) rfl dX10_board_106 ?_
      refine g_get (cx := 1) K hS lF_X10_76 ((eX_1 G o) _) (by decide) rfl dX10_board_109 ?_
      refine g_get (cx := 4) K hS lF_X10_173 ((eX_4 G o) _) (by decide) rfl dX10_board_112 ?_
      refine lv_iload_n hx hb dX10_board_115 rfl (lv_at hl 1 rfl) ?_
      obtain ⟨q10, hq10, hf⟩ := Option.bind_eq_some_iff.mp hf
      refine g_Vi (cx := 13) (As := [.int p0]) K hS lV_X10_58 (c_X5_at 13 20 (gRow_13 G o) p0 q1.2 q10 hq10) ((eX_13 G o) _) (by decide) rfl rfl rfl (Nat.le_of_ble_eq_true rfl) ⟨⟨Nat.le_of_ble_eq_true rfl, Nat.le_of_ble_eq_true rfl⟩, rfl, rfl⟩ hl.1 ⟨Nat.zero_le _, Nat.zero_le _⟩ dX10_board_116 (fun H locs hS => ?_)
      exact g_iret K hS hf dX10_board_119
    have hf := gIf_f c9 hf
    by_cases c11 : p1 = 4
    · have hf := gIf_t c11 hf
      refine g_tab c11 (off := 103) (tgt := 120) hx hb dX10_board_17 (by decide) (by decide) (by decide) (by decide) ?_
      refine lv_aload_n hx hb dX10_board_120 rfl (lv_at hl 0 rfl) ?_
      refine g_get (cx := 0) K hS lF_X10_10 ((eX_0 G o) _) (by decide) rfl dX10_board_121 ?_
      refine g_get (cx := 1) K hS lF_X10_110 ((eX_1 G o) _) (by decide) rfl dX10_board_124 ?_
      refine lv_iload_n hx hb dX10_board_127 rfl (lv_at hl 1 rfl) ?_
      obtain ⟨q12, hq12, hf⟩ := Option.bind_eq_some_iff.mp hf
      refine g_Vi (cx := 17) (As := [.int p0]) K hS lV_X10_175 (c_X2_whoCrossed p0 q1.2 q12 hq12) ((eX_17 G o) _) (by decide) rfl rfl rfl (Nat.le_of_ble_eq_true rfl) ⟨⟨Nat.le_of_ble_eq_true rfl, Nat.le_of_ble_eq_true rfl⟩, rfl, rfl⟩ hl.1 ⟨Nat.zero_le _, Nat.zero_le _⟩ dX10_board_128 (fun H locs hS => ?_)
      exact g_iret K hS hf dX10_board_131
    have hf := gIf_f c11 hf
    by_cases c13 : p1 = 5
    · have hf := gIf_t c13 hf
      refine g_tab c13 (off := 115) (tgt := 132) hx hb dX10_board_17 (by decide) (by decide) (by decide) (by decide) ?_
      refine lv_aload_n hx hb dX10_board_132 rfl (lv_at hl 0 rfl) ?_
      refine g_get (cx := 0) K hS lF_X10_10 ((eX_0 G o) _) (by decide) rfl dX10_board_133 ?_
      refine lv_iload_n hx hb dX10_board_136 rfl (lv_at hl 1 rfl) ?_
      obtain ⟨q14, hq14, hf⟩ := Option.bind_eq_some_iff.mp hf
      refine g_Vi (cx := 1) (As := [.int p0]) K hS lV_X10_178 (c_X0_ghostsFreeFor p0 q1.2 q14 hq14) ((eX_1 G o) _) (by decide) rfl rfl rfl (Nat.le_of_ble_eq_true rfl) ⟨⟨Nat.le_of_ble_eq_true rfl, Nat.le_of_ble_eq_true rfl⟩, rfl, rfl⟩ hl.1 ⟨Nat.zero_le _, Nat.zero_le _⟩ dX10_board_137 (fun H locs hS => ?_)
      exact g_iret K hS hf dX10_board_140
    have hf := gIf_f c13 hf
    by_cases c15 : p1 = 6
    · have hf := gIf_t c15 hf
      refine g_tab c15 (off := 124) (tgt := 141) hx hb dX10_board_17 (by decide) (by decide) (by decide) (by decide) ?_
      refine lv_aload_n hx hb dX10_board_141 rfl (lv_at hl 0 rfl) ?_
      refine g_get (cx := 0) K hS lF_X10_10 ((eX_0 G o) _) (by decide) rfl dX10_board_142 ?_
      refine g_get (cx := 1) K hS lF_X10_76 ((eX_1 G o) _) (by decide) rfl dX10_board_145 ?_
      refine g_get (cx := 4) K hS lF_X10_181 ((eX_4 G o) _) (by decide) rfl dX10_board_148 ?_
      refine lv_iload_n hx hb dX10_board_151 rfl (lv_at hl 1 rfl) ?_
      obtain ⟨q16, hq16, hf⟩ := Option.bind_eq_some_iff.mp hf
      refine g_Vi (cx := 15) (As := [.int p0]) K hS lV_X10_58 (c_X5_at 15 20 (gRow_15 G o) p0 q1.2 q16 hq16) ((eX_15 G o) _) (by decide) rfl rfl rfl (Nat.le_of_ble_eq_true rfl) ⟨⟨Nat.le_of_ble_eq_true rfl, Nat.le_of_ble_eq_true rfl⟩, rfl, rfl⟩ hl.1 ⟨Nat.zero_le _, Nat.zero_le _⟩ dX10_board_152 (fun H locs hS => ?_)
      exact g_iret K hS hf dX10_board_155
    have hf := gIf_f c15 hf
    refine lv_tableOut (tgt := 156) hx hb dX10_board_17 (g_tabOut 6 (fun k hk => by
      rcases (show k = 0 ∨ k = 1 ∨ k = 2 ∨ k = 3 ∨ k = 4 ∨ k = 5 ∨ k = 6 by omega) with rfl | rfl | rfl | rfl | rfl | rfl | rfl
      · exact c3
      · exact c5
      · exact c7
      · exact c9
      · exact c11
      · exact c13
      · exact c15
      )) (by decide) ?_
    refine lv_bipush (v := (-2)) hx hb dX10_board_156 (by decide) ?_
    exact g_iret K hS hf dX10_board_158
  · have hf := gIf_t c2 hf
    refine lv_iconst (v := (-1)) hx hb dX10_board_14 (by decide) ?_
    exact g_iret K hS hf dX10_board_15
abbrev rmX10_ghost : Room := { frames := 4, cells := 0, slots := 0, locals := 86 }
def f_X10_ghost (p0 : Int32) (p1 : Int32) (σ : gS) : Option (Int32 × gS) := Option.bind (f_X10_isGhost p0 σ) (fun q1 => if q1.1 = 0 then (some ((-1), q1.2)) else (if p1 = 0 then (Option.bind (f_X5_at 18 4 p0 q1.2) (fun q4 => some (q4.1, q4.2))) else (if p1 = 1 then (Option.bind (f_X5_at 20 4 p0 q1.2) (fun q6 => some (q6.1, q6.2))) else (if p1 = 2 then (Option.bind (f_X0_freeAtRoomOf p0 q1.2) (fun q8 => some (q8.1, q8.2))) else (if p1 = 3 then (Option.bind (f_X5_at 18 4 p0 q1.2) (fun q10 => Option.bind (f_X0_freeTo p0 q10.2) (fun q11 => Option.bind (f_X1_roomsFrom q10.1 q11.1 q11.2) (fun q12 => some (q12.1, q12.2))))) else (if p1 = 4 then (Option.bind (f_X5_at 22 4 p0 q1.2) (fun q14 => some (q14.1, q14.2))) else (some ((-2), q1.2))))))))
set_option maxHeartbeats 4000000 in
set_option maxRecDepth 100000 in
theorem c_X10_ghost (p0 : Int32) (p1 : Int32) (σ : gS) (q : Int32 × gS) (hf : f_X10_ghost p0 p1 σ = some q) : Met l yX10_ghost (gW yX10_ghost cX10_ghost 3 (some .int)) rmX10_ghost (gPc G (entX G o) o 302 [.ref (o + 0), .int p0, .int p1] σ) (gQi G (entX G o) o 302 q) 0 0 (gA o 302) := by
  refine g_met (by decide) ⟨rfl, rfl⟩ (fun p e s m args below meth c ls K hS hl => ?_) (Nat.le_of_ble_eq_true rfl)
  have K : gK p s m args meth c G cX10_ghost 3 RX10 (some .int) := K
  have hl : lv_has ls 3 [(0, .ref (o + 0)), (1, .int p0), (2, .int p1)] := hl
  obtain ⟨hx, hb, hml, hown, hts, -⟩ := id K
  unfold f_X10_ghost at hf
  refine lv_iload_n hx hb dX10_ghost_0 rfl (lv_at hl 1 rfl) ?_
  obtain ⟨q1, hq1, hf⟩ := Option.bind_eq_some_iff.mp hf
  refine g_Si (As := [.int p0]) K hS lS_X10_130 (c_X10_isGhost p0 σ q1 hq1) rfl rfl (Nat.le_of_ble_eq_true rfl) ⟨⟨Nat.le_of_ble_eq_true rfl, Nat.le_of_ble_eq_true rfl⟩, rfl, rfl⟩ hl.1 ⟨Nat.zero_le _, Nat.zero_le _⟩ dX10_ghost_1 (fun H locs hS => ?_)
  refine lv_if_ne (tgt := 9) hx hb dX10_ghost_4 (by decide) (fun c2 => ?_) (fun c2 => ?_)
  · have hf := gIf_f c2 hf
    refine lv_iload_n hx hb dX10_ghost_9 rfl (lv_at hl 2 rfl) ?_
    by_cases c3 : p1 = 0
    · have hf := gIf_t c3 hf
      refine g_tab c3 (off := 34) (tgt := 44) hx hb dX10_ghost_10 (by decide) (by decide) (by decide) (by decide) ?_
      refine lv_aload_n hx hb dX10_ghost_44 rfl (lv_at hl 0 rfl) ?_
      refine g_get (cx := 0) K hS lF_X10_10 ((eX_0 G o) _) (by decide) rfl dX10_ghost_45 ?_
      refine g_get (cx := 1) K hS lF_X10_110 ((eX_1 G o) _) (by decide) rfl dX10_ghost_48 ?_
      refine g_get (cx := 17) K hS lF_X10_133 ((eX_17 G o) _) (by decide) rfl dX10_ghost_51 ?_
      refine lv_iload_n hx hb dX10_ghost_54 rfl (lv_at hl 1 rfl) ?_
      obtain ⟨q4, hq4, hf⟩ := Option.bind_eq_some_iff.mp hf
      refine g_Vi (cx := 18) (As := [.int p0]) K hS lV_X10_58 (c_X5_at 18 4 (gRow_18 G o) p0 q1.2 q4 hq4) ((eX_18 G o) _) (by decide) rfl rfl rfl (Nat.le_of_ble_eq_true rfl) ⟨⟨Nat.le_of_ble_eq_true rfl, Nat.le_of_ble_eq_true rfl⟩, rfl, rfl⟩ hl.1 ⟨Nat.zero_le _, Nat.zero_le _⟩ dX10_ghost_55 (fun H locs hS => ?_)
      exact g_iret K hS hf dX10_ghost_58
    have hf := gIf_f c3 hf
    by_cases c5 : p1 = 1
    · have hf := gIf_t c5 hf
      refine g_tab c5 (off := 49) (tgt := 59) hx hb dX10_ghost_10 (by decide) (by decide) (by decide) (by decide) ?_
      refine lv_aload_n hx hb dX10_ghost_59 rfl (lv_at hl 0 rfl) ?_
      refine g_get (cx := 0) K hS lF_X10_10 ((eX_0 G o) _) (by decide) rfl dX10_ghost_60 ?_
      refine g_get (cx := 1) K hS lF_X10_110 ((eX_1 G o) _) (by decide) rfl dX10_ghost_63 ?_
      refine g_get (cx := 17) K hS lF_X10_184 ((eX_17 G o) _) (by decide) rfl dX10_ghost_66 ?_
      refine lv_iload_n hx hb dX10_ghost_69 rfl (lv_at hl 1 rfl) ?_
      obtain ⟨q6, hq6, hf⟩ := Option.bind_eq_some_iff.mp hf
      refine g_Vi (cx := 20) (As := [.int p0]) K hS lV_X10_58 (c_X5_at 20 4 (gRow_20 G o) p0 q1.2 q6 hq6) ((eX_20 G o) _) (by decide) rfl rfl rfl (Nat.le_of_ble_eq_true rfl) ⟨⟨Nat.le_of_ble_eq_true rfl, Nat.le_of_ble_eq_true rfl⟩, rfl, rfl⟩ hl.1 ⟨Nat.zero_le _, Nat.zero_le _⟩ dX10_ghost_70 (fun H locs hS => ?_)
      exact g_iret K hS hf dX10_ghost_73
    have hf := gIf_f c5 hf
    by_cases c7 : p1 = 2
    · have hf := gIf_t c7 hf
      refine g_tab c7 (off := 64) (tgt := 74) hx hb dX10_ghost_10 (by decide) (by decide) (by decide) (by decide) ?_
      refine lv_aload_n hx hb dX10_ghost_74 rfl (lv_at hl 0 rfl) ?_
      refine g_get (cx := 0) K hS lF_X10_10 ((eX_0 G o) _) (by decide) rfl dX10_ghost_75 ?_
      refine lv_iload_n hx hb dX10_ghost_78 rfl (lv_at hl 1 rfl) ?_
      obtain ⟨q8, hq8, hf⟩ := Option.bind_eq_some_iff.mp hf
      refine g_Vi (cx := 1) (As := [.int p0]) K hS lV_X10_136 (c_X0_freeAtRoomOf p0 q1.2 q8 hq8) ((eX_1 G o) _) (by decide) rfl rfl rfl (Nat.le_of_ble_eq_true rfl) ⟨⟨Nat.le_of_ble_eq_true rfl, Nat.le_of_ble_eq_true rfl⟩, rfl, rfl⟩ hl.1 ⟨Nat.zero_le _, Nat.zero_le _⟩ dX10_ghost_79 (fun H locs hS => ?_)
      exact g_iret K hS hf dX10_ghost_82
    have hf := gIf_f c7 hf
    by_cases c9 : p1 = 3
    · have hf := gIf_t c9 hf
      refine g_tab c9 (off := 73) (tgt := 83) hx hb dX10_ghost_10 (by decide) (by decide) (by decide) (by decide) ?_
      refine lv_aload_n hx hb dX10_ghost_83 rfl (lv_at hl 0 rfl) ?_
      refine g_get (cx := 0) K hS lF_X10_10 ((eX_0 G o) _) (by decide) rfl dX10_ghost_84 ?_
      refine g_get (cx := 1) K hS lF_X10_76 ((eX_1 G o) _) (by decide) rfl dX10_ghost_87 ?_
      refine lv_aload_n hx hb dX10_ghost_90 rfl (lv_at hl 0 rfl) ?_
      refine g_get (cx := 0) K hS lF_X10_10 ((eX_0 G o) _) (by decide) rfl dX10_ghost_91 ?_
      refine g_get (cx := 1) K hS lF_X10_110 ((eX_1 G o) _) (by decide) rfl dX10_ghost_94 ?_
      refine g_get (cx := 17) K hS lF_X10_133 ((eX_17 G o) _) (by decide) rfl dX10_ghost_97 ?_
      refine lv_iload_n hx hb dX10_ghost_100 rfl (lv_at hl 1 rfl) ?_
      obtain ⟨q10, hq10, hf⟩ := Option.bind_eq_some_iff.mp hf
      refine g_Vi (cx := 18) (As := [.int p0]) K hS lV_X10_58 (c_X5_at 18 4 (gRow_18 G o) p0 q1.2 q10 hq10) ((eX_18 G o) _) (by decide) rfl rfl rfl (Nat.le_of_ble_eq_true rfl) ⟨⟨Nat.le_of_ble_eq_true rfl, Nat.le_of_ble_eq_true rfl⟩, rfl, rfl⟩ hl.1 ⟨Nat.zero_le _, Nat.zero_le _⟩ dX10_ghost_101 (fun H locs hS => ?_)
      refine lv_aload_n hx hb dX10_ghost_104 rfl (lv_at hl 0 rfl) ?_
      refine g_get (cx := 0) K hS lF_X10_10 ((eX_0 G o) _) (by decide) rfl dX10_ghost_105 ?_
      refine lv_iload_n hx hb dX10_ghost_108 rfl (lv_at hl 1 rfl) ?_
      obtain ⟨q11, hq11, hf⟩ := Option.bind_eq_some_iff.mp hf
      refine g_Vi (cx := 1) (As := [.int p0]) K hS lV_X10_187 (c_X0_freeTo p0 q10.2 q11 hq11) ((eX_1 G o) _) (by decide) rfl rfl rfl (Nat.le_of_ble_eq_true rfl) ⟨⟨Nat.le_of_ble_eq_true rfl, Nat.le_of_ble_eq_true rfl⟩, rfl, rfl⟩ hl.1 ⟨Nat.zero_le _, Nat.zero_le _⟩ dX10_ghost_109 (fun H locs hS => ?_)
      obtain ⟨q12, hq12, hf⟩ := Option.bind_eq_some_iff.mp hf
      refine g_Vi (cx := 4) (As := [.int q10.1, .int q11.1]) K hS lV_X10_190 (c_X1_roomsFrom q10.1 q11.1 q11.2 q12 hq12) ((eX_4 G o) _) (by decide) rfl rfl rfl (Nat.le_of_ble_eq_true rfl) ⟨⟨Nat.le_of_ble_eq_true rfl, Nat.le_of_ble_eq_true rfl⟩, rfl, rfl⟩ hl.1 ⟨Nat.zero_le _, Nat.zero_le _⟩ dX10_ghost_112 (fun H locs hS => ?_)
      exact g_iret K hS hf dX10_ghost_115
    have hf := gIf_f c9 hf
    by_cases c13 : p1 = 4
    · have hf := gIf_t c13 hf
      refine g_tab c13 (off := 106) (tgt := 116) hx hb dX10_ghost_10 (by decide) (by decide) (by decide) (by decide) ?_
      refine lv_aload_n hx hb dX10_ghost_116 rfl (lv_at hl 0 rfl) ?_
      refine g_get (cx := 0) K hS lF_X10_10 ((eX_0 G o) _) (by decide) rfl dX10_ghost_117 ?_
      refine g_get (cx := 1) K hS lF_X10_110 ((eX_1 G o) _) (by decide) rfl dX10_ghost_120 ?_
      refine g_get (cx := 17) K hS lF_X10_193 ((eX_17 G o) _) (by decide) rfl dX10_ghost_123 ?_
      refine lv_iload_n hx hb dX10_ghost_126 rfl (lv_at hl 1 rfl) ?_
      obtain ⟨q14, hq14, hf⟩ := Option.bind_eq_some_iff.mp hf
      refine g_Vi (cx := 22) (As := [.int p0]) K hS lV_X10_58 (c_X5_at 22 4 (gRow_22 G o) p0 q1.2 q14 hq14) ((eX_22 G o) _) (by decide) rfl rfl rfl (Nat.le_of_ble_eq_true rfl) ⟨⟨Nat.le_of_ble_eq_true rfl, Nat.le_of_ble_eq_true rfl⟩, rfl, rfl⟩ hl.1 ⟨Nat.zero_le _, Nat.zero_le _⟩ dX10_ghost_127 (fun H locs hS => ?_)
      exact g_iret K hS hf dX10_ghost_130
    have hf := gIf_f c13 hf
    refine lv_tableOut (tgt := 131) hx hb dX10_ghost_10 (g_tabOut 4 (fun k hk => by
      rcases (show k = 0 ∨ k = 1 ∨ k = 2 ∨ k = 3 ∨ k = 4 by omega) with rfl | rfl | rfl | rfl | rfl
      · exact c3
      · exact c5
      · exact c7
      · exact c9
      · exact c13
      )) (by decide) ?_
    refine lv_bipush (v := (-2)) hx hb dX10_ghost_131 (by decide) ?_
    exact g_iret K hS hf dX10_ghost_133
  · have hf := gIf_t c2 hf
    refine lv_iconst (v := (-1)) hx hb dX10_ghost_7 (by decide) ?_
    exact g_iret K hS hf dX10_ghost_8
abbrev rmX10_sleeperOf : Room := { frames := 5, cells := 0, slots := 0, locals := 117 }
def f_X10_sleeperOf (p0 : Int32) (p1 : Int32) (σ : gS) : Option (Int32 × gS) := Option.bind (f_X7_has p0 σ) (fun q1 => if q1.1 = 0 then (some ((-1), q1.2)) else (if p1 = 0 then (Option.bind (f_X5_at 25 5 p0 q1.2) (fun q4 => some (q4.1, q4.2))) else (if p1 = 1 then (Option.bind (f_X5_at 27 5 p0 q1.2) (fun q6 => some (q6.1, q6.2))) else (if p1 = 2 then (Option.bind (f_X5_at 29 5 p0 q1.2) (fun q8 => some (q8.1, q8.2))) else (if p1 = 3 then (Option.bind (f_X5_at 31 5 p0 q1.2) (fun q10 => some (q10.1, q10.2))) else (if p1 = 4 then (Option.bind (f_X0_boardsThatWake p0 q1.2) (fun q12 => some (q12.1, q12.2))) else (some ((-2), q1.2))))))))
set_option maxHeartbeats 4000000 in
set_option maxRecDepth 100000 in
theorem c_X10_sleeperOf (p0 : Int32) (p1 : Int32) (σ : gS) (q : Int32 × gS) (hf : f_X10_sleeperOf p0 p1 σ = some q) : Met l yX10_sleeperOf (gW yX10_sleeperOf cX10_sleeperOf 3 (some .int)) rmX10_sleeperOf (gPc G (entX G o) o 302 [.ref (o + 0), .int p0, .int p1] σ) (gQi G (entX G o) o 302 q) 0 0 (gA o 302) := by
  refine g_met (by decide) ⟨rfl, rfl⟩ (fun p e s m args below meth c ls K hS hl => ?_) (Nat.le_of_ble_eq_true rfl)
  have K : gK p s m args meth c G cX10_sleeperOf 3 RX10 (some .int) := K
  have hl : lv_has ls 3 [(0, .ref (o + 0)), (1, .int p0), (2, .int p1)] := hl
  obtain ⟨hx, hb, hml, hown, hts, -⟩ := id K
  unfold f_X10_sleeperOf at hf
  refine lv_aload_n hx hb dX10_sleeperOf_0 rfl (lv_at hl 0 rfl) ?_
  refine g_get (cx := 0) K hS lF_X10_10 ((eX_0 G o) _) (by decide) rfl dX10_sleeperOf_1 ?_
  refine g_get (cx := 1) K hS lF_X10_119 ((eX_1 G o) _) (by decide) rfl dX10_sleeperOf_4 ?_
  refine lv_iload_n hx hb dX10_sleeperOf_7 rfl (lv_at hl 1 rfl) ?_
  obtain ⟨q1, hq1, hf⟩ := Option.bind_eq_some_iff.mp hf
  refine g_Vi (cx := 24) (As := [.int p0]) K hS lV_X10_196 (c_X7_has p0 σ q1 hq1) ((eX_24 G o) _) (by decide) rfl rfl rfl (Nat.le_of_ble_eq_true rfl) ⟨⟨Nat.le_of_ble_eq_true rfl, Nat.le_of_ble_eq_true rfl⟩, rfl, rfl⟩ hl.1 ⟨Nat.zero_le _, Nat.zero_le _⟩ dX10_sleeperOf_8 (fun H locs hS => ?_)
  refine lv_if_ne (tgt := 16) hx hb dX10_sleeperOf_11 (by decide) (fun c2 => ?_) (fun c2 => ?_)
  · have hf := gIf_f c2 hf
    refine lv_iload_n hx hb dX10_sleeperOf_16 rfl (lv_at hl 2 rfl) ?_
    by_cases c3 : p1 = 0
    · have hf := gIf_t c3 hf
      refine g_tab c3 (off := 35) (tgt := 52) hx hb dX10_sleeperOf_17 (by decide) (by decide) (by decide) (by decide) ?_
      refine lv_aload_n hx hb dX10_sleeperOf_52 rfl (lv_at hl 0 rfl) ?_
      refine g_get (cx := 0) K hS lF_X10_10 ((eX_0 G o) _) (by decide) rfl dX10_sleeperOf_53 ?_
      refine g_get (cx := 1) K hS lF_X10_119 ((eX_1 G o) _) (by decide) rfl dX10_sleeperOf_56 ?_
      refine g_get (cx := 24) K hS lF_X10_197 ((eX_24 G o) _) (by decide) rfl dX10_sleeperOf_59 ?_
      refine lv_iload_n hx hb dX10_sleeperOf_62 rfl (lv_at hl 1 rfl) ?_
      obtain ⟨q4, hq4, hf⟩ := Option.bind_eq_some_iff.mp hf
      refine g_Vi (cx := 25) (As := [.int p0]) K hS lV_X10_58 (c_X5_at 25 5 (gRow_25 G o) p0 q1.2 q4 hq4) ((eX_25 G o) _) (by decide) rfl rfl rfl (Nat.le_of_ble_eq_true rfl) ⟨⟨Nat.le_of_ble_eq_true rfl, Nat.le_of_ble_eq_true rfl⟩, rfl, rfl⟩ hl.1 ⟨Nat.zero_le _, Nat.zero_le _⟩ dX10_sleeperOf_63 (fun H locs hS => ?_)
      exact g_iret K hS hf dX10_sleeperOf_66
    have hf := gIf_f c3 hf
    by_cases c5 : p1 = 1
    · have hf := gIf_t c5 hf
      refine g_tab c5 (off := 50) (tgt := 67) hx hb dX10_sleeperOf_17 (by decide) (by decide) (by decide) (by decide) ?_
      refine lv_aload_n hx hb dX10_sleeperOf_67 rfl (lv_at hl 0 rfl) ?_
      refine g_get (cx := 0) K hS lF_X10_10 ((eX_0 G o) _) (by decide) rfl dX10_sleeperOf_68 ?_
      refine g_get (cx := 1) K hS lF_X10_119 ((eX_1 G o) _) (by decide) rfl dX10_sleeperOf_71 ?_
      refine g_get (cx := 24) K hS lF_X10_198 ((eX_24 G o) _) (by decide) rfl dX10_sleeperOf_74 ?_
      refine lv_iload_n hx hb dX10_sleeperOf_77 rfl (lv_at hl 1 rfl) ?_
      obtain ⟨q6, hq6, hf⟩ := Option.bind_eq_some_iff.mp hf
      refine g_Vi (cx := 27) (As := [.int p0]) K hS lV_X10_58 (c_X5_at 27 5 (gRow_27 G o) p0 q1.2 q6 hq6) ((eX_27 G o) _) (by decide) rfl rfl rfl (Nat.le_of_ble_eq_true rfl) ⟨⟨Nat.le_of_ble_eq_true rfl, Nat.le_of_ble_eq_true rfl⟩, rfl, rfl⟩ hl.1 ⟨Nat.zero_le _, Nat.zero_le _⟩ dX10_sleeperOf_78 (fun H locs hS => ?_)
      exact g_iret K hS hf dX10_sleeperOf_81
    have hf := gIf_f c5 hf
    by_cases c7 : p1 = 2
    · have hf := gIf_t c7 hf
      refine g_tab c7 (off := 65) (tgt := 82) hx hb dX10_sleeperOf_17 (by decide) (by decide) (by decide) (by decide) ?_
      refine lv_aload_n hx hb dX10_sleeperOf_82 rfl (lv_at hl 0 rfl) ?_
      refine g_get (cx := 0) K hS lF_X10_10 ((eX_0 G o) _) (by decide) rfl dX10_sleeperOf_83 ?_
      refine g_get (cx := 1) K hS lF_X10_119 ((eX_1 G o) _) (by decide) rfl dX10_sleeperOf_86 ?_
      refine g_get (cx := 24) K hS lF_X10_201 ((eX_24 G o) _) (by decide) rfl dX10_sleeperOf_89 ?_
      refine lv_iload_n hx hb dX10_sleeperOf_92 rfl (lv_at hl 1 rfl) ?_
      obtain ⟨q8, hq8, hf⟩ := Option.bind_eq_some_iff.mp hf
      refine g_Vi (cx := 29) (As := [.int p0]) K hS lV_X10_58 (c_X5_at 29 5 (gRow_29 G o) p0 q1.2 q8 hq8) ((eX_29 G o) _) (by decide) rfl rfl rfl (Nat.le_of_ble_eq_true rfl) ⟨⟨Nat.le_of_ble_eq_true rfl, Nat.le_of_ble_eq_true rfl⟩, rfl, rfl⟩ hl.1 ⟨Nat.zero_le _, Nat.zero_le _⟩ dX10_sleeperOf_93 (fun H locs hS => ?_)
      exact g_iret K hS hf dX10_sleeperOf_96
    have hf := gIf_f c7 hf
    by_cases c9 : p1 = 3
    · have hf := gIf_t c9 hf
      refine g_tab c9 (off := 80) (tgt := 97) hx hb dX10_sleeperOf_17 (by decide) (by decide) (by decide) (by decide) ?_
      refine lv_aload_n hx hb dX10_sleeperOf_97 rfl (lv_at hl 0 rfl) ?_
      refine g_get (cx := 0) K hS lF_X10_10 ((eX_0 G o) _) (by decide) rfl dX10_sleeperOf_98 ?_
      refine g_get (cx := 1) K hS lF_X10_119 ((eX_1 G o) _) (by decide) rfl dX10_sleeperOf_101 ?_
      refine g_get (cx := 24) K hS lF_X10_204 ((eX_24 G o) _) (by decide) rfl dX10_sleeperOf_104 ?_
      refine lv_iload_n hx hb dX10_sleeperOf_107 rfl (lv_at hl 1 rfl) ?_
      obtain ⟨q10, hq10, hf⟩ := Option.bind_eq_some_iff.mp hf
      refine g_Vi (cx := 31) (As := [.int p0]) K hS lV_X10_58 (c_X5_at 31 5 (gRow_31 G o) p0 q1.2 q10 hq10) ((eX_31 G o) _) (by decide) rfl rfl rfl (Nat.le_of_ble_eq_true rfl) ⟨⟨Nat.le_of_ble_eq_true rfl, Nat.le_of_ble_eq_true rfl⟩, rfl, rfl⟩ hl.1 ⟨Nat.zero_le _, Nat.zero_le _⟩ dX10_sleeperOf_108 (fun H locs hS => ?_)
      exact g_iret K hS hf dX10_sleeperOf_111
    have hf := gIf_f c9 hf
    by_cases c11 : p1 = 4
    · have hf := gIf_t c11 hf
      refine g_tab c11 (off := 95) (tgt := 112) hx hb dX10_sleeperOf_17 (by decide) (by decide) (by decide) (by decide) ?_
      refine lv_aload_n hx hb dX10_sleeperOf_112 rfl (lv_at hl 0 rfl) ?_
      refine g_get (cx := 0) K hS lF_X10_10 ((eX_0 G o) _) (by decide) rfl dX10_sleeperOf_113 ?_
      refine lv_iload_n hx hb dX10_sleeperOf_116 rfl (lv_at hl 1 rfl) ?_
      obtain ⟨q12, hq12, hf⟩ := Option.bind_eq_some_iff.mp hf
      refine g_Vi (cx := 1) (As := [.int p0]) K hS lV_X10_207 (c_X0_boardsThatWake p0 q1.2 q12 hq12) ((eX_1 G o) _) (by decide) rfl rfl rfl (Nat.le_of_ble_eq_true rfl) ⟨⟨Nat.le_of_ble_eq_true rfl, Nat.le_of_ble_eq_true rfl⟩, rfl, rfl⟩ hl.1 ⟨Nat.zero_le _, Nat.zero_le _⟩ dX10_sleeperOf_117 (fun H locs hS => ?_)
      exact g_iret K hS hf dX10_sleeperOf_120
    have hf := gIf_f c11 hf
    refine lv_tableOut (tgt := 121) hx hb dX10_sleeperOf_17 (g_tabOut 4 (fun k hk => by
      rcases (show k = 0 ∨ k = 1 ∨ k = 2 ∨ k = 3 ∨ k = 4 by omega) with rfl | rfl | rfl | rfl | rfl
      · exact c3
      · exact c5
      · exact c7
      · exact c9
      · exact c11
      )) (by decide) ?_
    refine lv_bipush (v := (-2)) hx hb dX10_sleeperOf_121 (by decide) ?_
    exact g_iret K hS hf dX10_sleeperOf_123
  · have hf := gIf_t c2 hf
    refine lv_iconst (v := (-1)) hx hb dX10_sleeperOf_14 (by decide) ?_
    exact g_iret K hS hf dX10_sleeperOf_15
abbrev rmX10_loudness : Room := { frames := 4, cells := 0, slots := 0, locals := 93 }
def f_X10_loudness (p0 : Int32) (p1 : Int32) (σ : gS) : Option (Int32 × gS) := Option.bind (f_X1_has p0 σ) (fun q1 => if q1.1 = 0 then (some ((-1), q1.2)) else (Option.bind (f_X7_has p1 q1.2) (fun q3 => if q3.1 = 0 then (some ((-1), q3.2)) else (Option.bind (f_X5_at 25 5 p1 q3.2) (fun q5 => Option.bind (f_X1_loudnessIn q5.1 p0 q5.2) (fun q6 => some (q6.1, q6.2)))))))
set_option maxHeartbeats 4000000 in
set_option maxRecDepth 100000 in
theorem c_X10_loudness (p0 : Int32) (p1 : Int32) (σ : gS) (q : Int32 × gS) (hf : f_X10_loudness p0 p1 σ = some q) : Met l yX10_loudness (gW yX10_loudness cX10_loudness 3 (some .int)) rmX10_loudness (gPc G (entX G o) o 302 [.ref (o + 0), .int p0, .int p1] σ) (gQi G (entX G o) o 302 q) 0 0 (gA o 302) := by
  refine g_met (by decide) ⟨rfl, rfl⟩ (fun p e s m args below meth c ls K hS hl => ?_) (Nat.le_of_ble_eq_true rfl)
  have K : gK p s m args meth c G cX10_loudness 3 RX10 (some .int) := K
  have hl : lv_has ls 3 [(0, .ref (o + 0)), (1, .int p0), (2, .int p1)] := hl
  obtain ⟨hx, hb, hml, hown, hts, -⟩ := id K
  unfold f_X10_loudness at hf
  refine lv_aload_n hx hb dX10_loudness_0 rfl (lv_at hl 0 rfl) ?_
  refine g_get (cx := 0) K hS lF_X10_10 ((eX_0 G o) _) (by decide) rfl dX10_loudness_1 ?_
  refine g_get (cx := 1) K hS lF_X10_76 ((eX_1 G o) _) (by decide) rfl dX10_loudness_4 ?_
  refine lv_iload_n hx hb dX10_loudness_7 rfl (lv_at hl 1 rfl) ?_
  obtain ⟨q1, hq1, hf⟩ := Option.bind_eq_some_iff.mp hf
  refine g_Vi (cx := 4) (As := [.int p0]) K hS lV_X10_104 (c_X1_has p0 σ q1 hq1) ((eX_4 G o) _) (by decide) rfl rfl rfl (Nat.le_of_ble_eq_true rfl) ⟨⟨Nat.le_of_ble_eq_true rfl, Nat.le_of_ble_eq_true rfl⟩, rfl, rfl⟩ hl.1 ⟨Nat.zero_le _, Nat.zero_le _⟩ dX10_loudness_8 (fun H locs hS => ?_)
  refine lv_if_eq (tgt := 28) hx hb dX10_loudness_11 (by decide) (fun c2 => ?_) (fun c2 => ?_)
  · have hf := gIf_t c2 hf
    refine lv_iconst (v := (-1)) hx hb dX10_loudness_28 (by decide) ?_
    exact g_iret K hS hf dX10_loudness_29
  · have hf := gIf_f c2 hf
    refine lv_aload_n hx hb dX10_loudness_14 rfl (lv_at hl 0 rfl) ?_
    refine g_get (cx := 0) K hS lF_X10_10 ((eX_0 G o) _) (by decide) rfl dX10_loudness_15 ?_
    refine g_get (cx := 1) K hS lF_X10_119 ((eX_1 G o) _) (by decide) rfl dX10_loudness_18 ?_
    refine lv_iload_n hx hb dX10_loudness_21 rfl (lv_at hl 2 rfl) ?_
    obtain ⟨q3, hq3, hf⟩ := Option.bind_eq_some_iff.mp hf
    refine g_Vi (cx := 24) (As := [.int p1]) K hS lV_X10_196 (c_X7_has p1 q1.2 q3 hq3) ((eX_24 G o) _) (by decide) rfl rfl rfl (Nat.le_of_ble_eq_true rfl) ⟨⟨Nat.le_of_ble_eq_true rfl, Nat.le_of_ble_eq_true rfl⟩, rfl, rfl⟩ hl.1 ⟨Nat.zero_le _, Nat.zero_le _⟩ dX10_loudness_22 (fun H locs hS => ?_)
    refine lv_if_ne (tgt := 30) hx hb dX10_loudness_25 (by decide) (fun c4 => ?_) (fun c4 => ?_)
    · have hf := gIf_f c4 hf
      refine lv_aload_n hx hb dX10_loudness_30 rfl (lv_at hl 0 rfl) ?_
      refine g_get (cx := 0) K hS lF_X10_10 ((eX_0 G o) _) (by decide) rfl dX10_loudness_31 ?_
      refine g_get (cx := 1) K hS lF_X10_76 ((eX_1 G o) _) (by decide) rfl dX10_loudness_34 ?_
      refine lv_aload_n hx hb dX10_loudness_37 rfl (lv_at hl 0 rfl) ?_
      refine g_get (cx := 0) K hS lF_X10_10 ((eX_0 G o) _) (by decide) rfl dX10_loudness_38 ?_
      refine g_get (cx := 1) K hS lF_X10_119 ((eX_1 G o) _) (by decide) rfl dX10_loudness_41 ?_
      refine g_get (cx := 24) K hS lF_X10_197 ((eX_24 G o) _) (by decide) rfl dX10_loudness_44 ?_
      refine lv_iload_n hx hb dX10_loudness_47 rfl (lv_at hl 2 rfl) ?_
      obtain ⟨q5, hq5, hf⟩ := Option.bind_eq_some_iff.mp hf
      refine g_Vi (cx := 25) (As := [.int p1]) K hS lV_X10_58 (c_X5_at 25 5 (gRow_25 G o) p1 q3.2 q5 hq5) ((eX_25 G o) _) (by decide) rfl rfl rfl (Nat.le_of_ble_eq_true rfl) ⟨⟨Nat.le_of_ble_eq_true rfl, Nat.le_of_ble_eq_true rfl⟩, rfl, rfl⟩ hl.1 ⟨Nat.zero_le _, Nat.zero_le _⟩ dX10_loudness_48 (fun H locs hS => ?_)
      refine lv_iload_n hx hb dX10_loudness_51 rfl (lv_at hl 1 rfl) ?_
      obtain ⟨q6, hq6, hf⟩ := Option.bind_eq_some_iff.mp hf
      refine g_Vi (cx := 4) (As := [.int q5.1, .int p0]) K hS lV_X10_210 (c_X1_loudnessIn q5.1 p0 q5.2 q6 hq6) ((eX_4 G o) _) (by decide) rfl rfl rfl (Nat.le_of_ble_eq_true rfl) ⟨⟨Nat.le_of_ble_eq_true rfl, Nat.le_of_ble_eq_true rfl⟩, rfl, rfl⟩ hl.1 ⟨Nat.zero_le _, Nat.zero_le _⟩ dX10_loudness_52 (fun H locs hS => ?_)
      exact g_iret K hS hf dX10_loudness_55
    · have hf := gIf_t c4 hf
      refine lv_iconst (v := (-1)) hx hb dX10_loudness_28 (by decide) ?_
      exact g_iret K hS hf dX10_loudness_29
abbrev rmX10_far : Room := { frames := 3, cells := 0, slots := 0, locals := 70 }
def f_X10_far (p0 : Int32) (p1 : Int32) (σ : gS) : Option (Int32 × gS) := Option.bind (f_X10_isRoom p0 σ) (fun q1 => if q1.1 = 0 then (some ((-1), q1.2)) else (Option.bind (f_X10_isRoom p1 q1.2) (fun q3 => if q3.1 = 0 then (some ((-1), q3.2)) else (Option.bind (f_X1_fewestTo p0 (1 <<< (p1 &&& 31)) q3.2) (fun q5 => some (q5.1, q5.2))))))
set_option maxHeartbeats 4000000 in
set_option maxRecDepth 100000 in
theorem c_X10_far (p0 : Int32) (p1 : Int32) (σ : gS) (q : Int32 × gS) (hf : f_X10_far p0 p1 σ = some q) : Met l yX10_far (gW yX10_far cX10_far 3 (some .int)) rmX10_far (gPc G (entX G o) o 302 [.ref (o + 0), .int p0, .int p1] σ) (gQi G (entX G o) o 302 q) 0 0 (gA o 302) := by
  refine g_met (by decide) ⟨rfl, rfl⟩ (fun p e s m args below meth c ls K hS hl => ?_) (Nat.le_of_ble_eq_true rfl)
  have K : gK p s m args meth c G cX10_far 3 RX10 (some .int) := K
  have hl : lv_has ls 3 [(0, .ref (o + 0)), (1, .int p0), (2, .int p1)] := hl
  obtain ⟨hx, hb, hml, hown, hts, -⟩ := id K
  unfold f_X10_far at hf
  refine lv_iload_n hx hb dX10_far_0 rfl (lv_at hl 1 rfl) ?_
  obtain ⟨q1, hq1, hf⟩ := Option.bind_eq_some_iff.mp hf
  refine g_Si (As := [.int p0]) K hS lS_X10_68 (c_X10_isRoom p0 σ q1 hq1) rfl rfl (Nat.le_of_ble_eq_true rfl) ⟨⟨Nat.le_of_ble_eq_true rfl, Nat.le_of_ble_eq_true rfl⟩, rfl, rfl⟩ hl.1 ⟨Nat.zero_le _, Nat.zero_le _⟩ dX10_far_1 (fun H locs hS => ?_)
  refine lv_if_eq (tgt := 14) hx hb dX10_far_4 (by decide) (fun c2 => ?_) (fun c2 => ?_)
  · have hf := gIf_t c2 hf
    refine lv_iconst (v := (-1)) hx hb dX10_far_14 (by decide) ?_
    exact g_iret K hS hf dX10_far_15
  · have hf := gIf_f c2 hf
    refine lv_iload_n hx hb dX10_far_7 rfl (lv_at hl 2 rfl) ?_
    obtain ⟨q3, hq3, hf⟩ := Option.bind_eq_some_iff.mp hf
    refine g_Si (As := [.int p1]) K hS lS_X10_68 (c_X10_isRoom p1 q1.2 q3 hq3) rfl rfl (Nat.le_of_ble_eq_true rfl) ⟨⟨Nat.le_of_ble_eq_true rfl, Nat.le_of_ble_eq_true rfl⟩, rfl, rfl⟩ hl.1 ⟨Nat.zero_le _, Nat.zero_le _⟩ dX10_far_8 (fun H locs hS => ?_)
    refine lv_if_ne (tgt := 16) hx hb dX10_far_11 (by decide) (fun c4 => ?_) (fun c4 => ?_)
    · have hf := gIf_f c4 hf
      refine lv_aload_n hx hb dX10_far_16 rfl (lv_at hl 0 rfl) ?_
      refine g_get (cx := 0) K hS lF_X10_10 ((eX_0 G o) _) (by decide) rfl dX10_far_17 ?_
      refine g_get (cx := 1) K hS lF_X10_76 ((eX_1 G o) _) (by decide) rfl dX10_far_20 ?_
      refine lv_iload_n hx hb dX10_far_23 rfl (lv_at hl 1 rfl) ?_
      refine lv_iconst (v := 1) hx hb dX10_far_24 (by decide) ?_
      refine lv_iload_n hx hb dX10_far_25 rfl (lv_at hl 2 rfl) ?_
      refine lv_ishl hx hb dX10_far_26 ?_
      obtain ⟨q5, hq5, hf⟩ := Option.bind_eq_some_iff.mp hf
      refine g_Vi (cx := 4) (As := [.int p0, .int (1 <<< (p1 &&& 31))]) K hS lV_X10_213 (c_X1_fewestTo p0 (1 <<< (p1 &&& 31)) q3.2 q5 hq5) ((eX_4 G o) _) (by decide) rfl rfl rfl (Nat.le_of_ble_eq_true rfl) ⟨⟨Nat.le_of_ble_eq_true rfl, Nat.le_of_ble_eq_true rfl⟩, rfl, rfl⟩ hl.1 ⟨Nat.zero_le _, Nat.zero_le _⟩ dX10_far_27 (fun H locs hS => ?_)
      exact g_iret K hS hf dX10_far_30
    · have hf := gIf_t c4 hf
      refine lv_iconst (v := (-1)) hx hb dX10_far_14 (by decide) ?_
      exact g_iret K hS hf dX10_far_15
abbrev rmX10_count : Room := { frames := 3, cells := 0, slots := 0, locals := 61 }
def f_X10_count (p0 : Int32) (σ : gS) : Option (Int32 × gS) := if p0 = 0 then (Option.bind (f_X5_at 2 2 0 σ) (fun q2 => some (q2.1, q2.2))) else (if p0 = 1 then (Option.bind (f_X5_at 2 2 1 σ) (fun q4 => some (q4.1, q4.2))) else (if p0 = 2 then (some ((σ 1 0), σ)) else (if p0 = 3 then (some ((σ 4 0), σ)) else (if p0 = 4 then (some ((σ 24 0), σ)) else (if p0 = 5 then (Option.bind (f_X7_whoAreAwake σ) (fun q9 => some (q9.1, q9.2))) else (if p0 = 6 then (Option.bind (f_X7_watchedRooms σ) (fun q11 => some (q11.1, q11.2))) else (if p0 = 7 then (some ((σ 1 1), σ)) else (if p0 = 8 then (Option.bind (f_X0_minutesToBell σ) (fun q14 => some (q14.1, q14.2))) else (if p0 = 9 then (some ((σ 33 0), σ)) else (if p0 = 10 then (some ((σ 36 2), σ)) else (some ((-2), σ))))))))))))
set_option maxHeartbeats 4000000 in
set_option maxRecDepth 100000 in
theorem c_X10_count (p0 : Int32) (σ : gS) (q : Int32 × gS) (hf : f_X10_count p0 σ = some q) : Met l yX10_count (gW yX10_count cX10_count 2 (some .int)) rmX10_count (gPc G (entX G o) o 302 [.ref (o + 0), .int p0] σ) (gQi G (entX G o) o 302 q) 0 0 (gA o 302) := by
  refine g_met (by decide) ⟨rfl, rfl⟩ (fun p e s m args below meth c ls K hS hl => ?_) (Nat.le_of_ble_eq_true rfl)
  have K : gK p s m args meth c G cX10_count 2 RX10 (some .int) := K
  have hl : lv_has ls 2 [(0, .ref (o + 0)), (1, .int p0)] := hl
  obtain ⟨hx, hb, hml, hown, hts, -⟩ := id K
  unfold f_X10_count at hf
  refine lv_iload_n hx hb dX10_count_0 rfl (lv_at hl 1 rfl) ?_
  by_cases c1 : p0 = 0
  · have hf := gIf_t c1 hf
    refine g_tab c1 (off := 59) (tgt := 60) hx hb dX10_count_1 (by decide) (by decide) (by decide) (by decide) ?_
    refine lv_aload_n hx hb dX10_count_60 rfl (lv_at hl 0 rfl) ?_
    refine g_get (cx := 0) K hS lF_X10_10 ((eX_0 G o) _) (by decide) rfl dX10_count_61 ?_
    refine g_get (cx := 1) K hS lF_X10_54 ((eX_1 G o) _) (by decide) rfl dX10_count_64 ?_
    refine lv_iconst (v := 0) hx hb dX10_count_67 (by decide) ?_
    obtain ⟨q2, hq2, hf⟩ := Option.bind_eq_some_iff.mp hf
    refine g_Vi (cx := 2) (As := [.int 0]) K hS lV_X10_58 (c_X5_at 2 2 (gRow_2 G o) 0 σ q2 hq2) ((eX_2 G o) _) (by decide) rfl rfl rfl (Nat.le_of_ble_eq_true rfl) ⟨⟨Nat.le_of_ble_eq_true rfl, Nat.le_of_ble_eq_true rfl⟩, rfl, rfl⟩ hl.1 ⟨Nat.zero_le _, Nat.zero_le _⟩ dX10_count_68 (fun H locs hS => ?_)
    exact g_iret K hS hf dX10_count_71
  have hf := gIf_f c1 hf
  by_cases c3 : p0 = 1
  · have hf := gIf_t c3 hf
    refine g_tab c3 (off := 71) (tgt := 72) hx hb dX10_count_1 (by decide) (by decide) (by decide) (by decide) ?_
    refine lv_aload_n hx hb dX10_count_72 rfl (lv_at hl 0 rfl) ?_
    refine g_get (cx := 0) K hS lF_X10_10 ((eX_0 G o) _) (by decide) rfl dX10_count_73 ?_
    refine g_get (cx := 1) K hS lF_X10_54 ((eX_1 G o) _) (by decide) rfl dX10_count_76 ?_
    refine lv_iconst (v := 1) hx hb dX10_count_79 (by decide) ?_
    obtain ⟨q4, hq4, hf⟩ := Option.bind_eq_some_iff.mp hf
    refine g_Vi (cx := 2) (As := [.int 1]) K hS lV_X10_58 (c_X5_at 2 2 (gRow_2 G o) 1 σ q4 hq4) ((eX_2 G o) _) (by decide) rfl rfl rfl (Nat.le_of_ble_eq_true rfl) ⟨⟨Nat.le_of_ble_eq_true rfl, Nat.le_of_ble_eq_true rfl⟩, rfl, rfl⟩ hl.1 ⟨Nat.zero_le _, Nat.zero_le _⟩ dX10_count_80 (fun H locs hS => ?_)
    exact g_iret K hS hf dX10_count_83
  have hf := gIf_f c3 hf
  by_cases c5 : p0 = 2
  · have hf := gIf_t c5 hf
    refine g_tab c5 (off := 83) (tgt := 84) hx hb dX10_count_1 (by decide) (by decide) (by decide) (by decide) ?_
    refine lv_aload_n hx hb dX10_count_84 rfl (lv_at hl 0 rfl) ?_
    refine g_get (cx := 0) K hS lF_X10_10 ((eX_0 G o) _) (by decide) rfl dX10_count_85 ?_
    refine g_get (cx := 1) K hS lF_X10_157 ((eX_1 G o) _) (by decide) rfl dX10_count_88 ?_
    exact g_iret K hS hf dX10_count_91
  have hf := gIf_f c5 hf
  by_cases c6 : p0 = 3
  · have hf := gIf_t c6 hf
    refine g_tab c6 (off := 91) (tgt := 92) hx hb dX10_count_1 (by decide) (by decide) (by decide) (by decide) ?_
    refine lv_aload_n hx hb dX10_count_92 rfl (lv_at hl 0 rfl) ?_
    refine g_get (cx := 0) K hS lF_X10_10 ((eX_0 G o) _) (by decide) rfl dX10_count_93 ?_
    refine g_get (cx := 1) K hS lF_X10_76 ((eX_1 G o) _) (by decide) rfl dX10_count_96 ?_
    refine g_get (cx := 4) K hS lF_X10_80 ((eX_4 G o) _) (by decide) rfl dX10_count_99 ?_
    exact g_iret K hS hf dX10_count_102
  have hf := gIf_f c6 hf
  by_cases c7 : p0 = 4
  · have hf := gIf_t c7 hf
    refine g_tab c7 (off := 102) (tgt := 103) hx hb dX10_count_1 (by decide) (by decide) (by decide) (by decide) ?_
    refine lv_aload_n hx hb dX10_count_103 rfl (lv_at hl 0 rfl) ?_
    refine g_get (cx := 0) K hS lF_X10_10 ((eX_0 G o) _) (by decide) rfl dX10_count_104 ?_
    refine g_get (cx := 1) K hS lF_X10_119 ((eX_1 G o) _) (by decide) rfl dX10_count_107 ?_
    refine g_get (cx := 24) K hS lF_X10_123 ((eX_24 G o) _) (by decide) rfl dX10_count_110 ?_
    exact g_iret K hS hf dX10_count_113
  have hf := gIf_f c7 hf
  by_cases c8 : p0 = 5
  · have hf := gIf_t c8 hf
    refine g_tab c8 (off := 113) (tgt := 114) hx hb dX10_count_1 (by decide) (by decide) (by decide) (by decide) ?_
    refine lv_aload_n hx hb dX10_count_114 rfl (lv_at hl 0 rfl) ?_
    refine g_get (cx := 0) K hS lF_X10_10 ((eX_0 G o) _) (by decide) rfl dX10_count_115 ?_
    refine g_get (cx := 1) K hS lF_X10_119 ((eX_1 G o) _) (by decide) rfl dX10_count_118 ?_
    obtain ⟨q9, hq9, hf⟩ := Option.bind_eq_some_iff.mp hf
    refine g_Vi (cx := 24) (As := []) K hS lV_X10_216 (c_X7_whoAreAwake σ q9 hq9) ((eX_24 G o) _) (by decide) rfl rfl rfl (Nat.le_of_ble_eq_true rfl) ⟨⟨Nat.le_of_ble_eq_true rfl, Nat.le_of_ble_eq_true rfl⟩, rfl, rfl⟩ hl.1 ⟨Nat.zero_le _, Nat.zero_le _⟩ dX10_count_121 (fun H locs hS => ?_)
    exact g_iret K hS hf dX10_count_124
  have hf := gIf_f c8 hf
  by_cases c10 : p0 = 6
  · have hf := gIf_t c10 hf
    refine g_tab c10 (off := 124) (tgt := 125) hx hb dX10_count_1 (by decide) (by decide) (by decide) (by decide) ?_
    refine lv_aload_n hx hb dX10_count_125 rfl (lv_at hl 0 rfl) ?_
    refine g_get (cx := 0) K hS lF_X10_10 ((eX_0 G o) _) (by decide) rfl dX10_count_126 ?_
    refine g_get (cx := 1) K hS lF_X10_119 ((eX_1 G o) _) (by decide) rfl dX10_count_129 ?_
    obtain ⟨q11, hq11, hf⟩ := Option.bind_eq_some_iff.mp hf
    refine g_Vi (cx := 24) (As := []) K hS lV_X10_219 (c_X7_watchedRooms σ q11 hq11) ((eX_24 G o) _) (by decide) rfl rfl rfl (Nat.le_of_ble_eq_true rfl) ⟨⟨Nat.le_of_ble_eq_true rfl, Nat.le_of_ble_eq_true rfl⟩, rfl, rfl⟩ hl.1 ⟨Nat.zero_le _, Nat.zero_le _⟩ dX10_count_132 (fun H locs hS => ?_)
    exact g_iret K hS hf dX10_count_135
  have hf := gIf_f c10 hf
  by_cases c12 : p0 = 7
  · have hf := gIf_t c12 hf
    refine g_tab c12 (off := 135) (tgt := 136) hx hb dX10_count_1 (by decide) (by decide) (by decide) (by decide) ?_
    refine lv_aload_n hx hb dX10_count_136 rfl (lv_at hl 0 rfl) ?_
    refine g_get (cx := 0) K hS lF_X10_10 ((eX_0 G o) _) (by decide) rfl dX10_count_137 ?_
    refine g_get (cx := 1) K hS lF_X10_222 ((eX_1 G o) _) (by decide) rfl dX10_count_140 ?_
    exact g_iret K hS hf dX10_count_143
  have hf := gIf_f c12 hf
  by_cases c13 : p0 = 8
  · have hf := gIf_t c13 hf
    refine g_tab c13 (off := 143) (tgt := 144) hx hb dX10_count_1 (by decide) (by decide) (by decide) (by decide) ?_
    refine lv_aload_n hx hb dX10_count_144 rfl (lv_at hl 0 rfl) ?_
    refine g_get (cx := 0) K hS lF_X10_10 ((eX_0 G o) _) (by decide) rfl dX10_count_145 ?_
    obtain ⟨q14, hq14, hf⟩ := Option.bind_eq_some_iff.mp hf
    refine g_Vi (cx := 1) (As := []) K hS lV_X10_225 (c_X0_minutesToBell σ q14 hq14) ((eX_1 G o) _) (by decide) rfl rfl rfl (Nat.le_of_ble_eq_true rfl) ⟨⟨Nat.le_of_ble_eq_true rfl, Nat.le_of_ble_eq_true rfl⟩, rfl, rfl⟩ hl.1 ⟨Nat.zero_le _, Nat.zero_le _⟩ dX10_count_148 (fun H locs hS => ?_)
    exact g_iret K hS hf dX10_count_151
  have hf := gIf_f c13 hf
  by_cases c15 : p0 = 9
  · have hf := gIf_t c15 hf
    refine g_tab c15 (off := 151) (tgt := 152) hx hb dX10_count_1 (by decide) (by decide) (by decide) (by decide) ?_
    refine lv_aload_n hx hb dX10_count_152 rfl (lv_at hl 0 rfl) ?_
    refine g_get (cx := 0) K hS lF_X10_19 ((eX_0 G o) _) (by decide) rfl dX10_count_153 ?_
    refine g_get (cx := 33) K hS lF_X10_101 ((eX_33 G o) _) (by decide) rfl dX10_count_156 ?_
    exact g_iret K hS hf dX10_count_159
  have hf := gIf_f c15 hf
  by_cases c16 : p0 = 10
  · have hf := gIf_t c16 hf
    refine g_tab c16 (off := 159) (tgt := 160) hx hb dX10_count_1 (by decide) (by decide) (by decide) (by decide) ?_
    refine lv_aload_n hx hb dX10_count_160 rfl (lv_at hl 0 rfl) ?_
    refine g_get (cx := 0) K hS lF_X10_26 ((eX_0 G o) _) (by decide) rfl dX10_count_161 ?_
    refine g_get (cx := 36) K hS lF_X10_228 ((eX_36 G o) _) (by decide) rfl dX10_count_164 ?_
    exact g_iret K hS hf dX10_count_167
  have hf := gIf_f c16 hf
  refine lv_tableOut (tgt := 168) hx hb dX10_count_1 (g_tabOut 10 (fun k hk => by
    rcases (show k = 0 ∨ k = 1 ∨ k = 2 ∨ k = 3 ∨ k = 4 ∨ k = 5 ∨ k = 6 ∨ k = 7 ∨ k = 8 ∨ k = 9 ∨ k = 10 by omega) with rfl | rfl | rfl | rfl | rfl | rfl | rfl | rfl | rfl | rfl | rfl
    · exact c1
    · exact c3
    · exact c5
    · exact c6
    · exact c7
    · exact c8
    · exact c10
    · exact c12
    · exact c13
    · exact c15
    · exact c16
    )) (by decide) ?_
  refine lv_bipush (v := (-2)) hx hb dX10_count_168 (by decide) ?_
  exact g_iret K hS hf dX10_count_170
abbrev rmX10_soonest : Room := { frames := 6, cells := 0, slots := 0, locals := 142 }
def f_X10_soonest (p0 : Int32) (p1 : Int32) (p2 : Int32) (σ : gS) : Option (Int32 × gS) := Option.bind (f_X10_isGhost p0 σ) (fun q1 => if q1.1 = 0 then (some ((-1), q1.2)) else (Option.bind (f_X10_isRoom p1 q1.2) (fun q3 => if q3.1 = 0 then (some ((-1), q3.2)) else (if 0 ≤ p2 then (Option.bind (f_X10_findWay p0 p1 q3.2) (fun q6 => if (q6 297 2) = 0 then (some ((-6), q6)) else (if p2 = 0 then (some ((q6 297 3), q6)) else (if p2 = 1 then (some ((q6 297 4), q6)) else (if (q6 297 4) ≤ (p2 - 2) then (some ((-6), q6)) else (Option.bind (f_X5_at 300 10 (p2 - 2) q6) (fun q11 => some (q11.1, q11.2)))))))) else (some ((-2), q3.2))))))
set_option maxHeartbeats 4000000 in
set_option maxRecDepth 100000 in
theorem c_X10_soonest (p0 : Int32) (p1 : Int32) (p2 : Int32) (σ : gS) (q : Int32 × gS) (hf : f_X10_soonest p0 p1 p2 σ = some q) : Met l yX10_soonest (gW yX10_soonest cX10_soonest 4 (some .int)) rmX10_soonest (gPc G (entX G o) o 302 [.ref (o + 0), .int p0, .int p1, .int p2] σ) (gQi G (entX G o) o 302 q) 0 0 (gA o 302) := by
  refine g_met (by decide) ⟨rfl, rfl⟩ (fun p e s m args below meth c ls K hS hl => ?_) (Nat.le_of_ble_eq_true rfl)
  have K : gK p s m args meth c G cX10_soonest 4 RX10 (some .int) := K
  have hl : lv_has ls 4 [(0, .ref (o + 0)), (1, .int p0), (2, .int p1), (3, .int p2)] := hl
  obtain ⟨hx, hb, hml, hown, hts, -⟩ := id K
  unfold f_X10_soonest at hf
  refine lv_iload_n hx hb dX10_soonest_0 rfl (lv_at hl 1 rfl) ?_
  obtain ⟨q1, hq1, hf⟩ := Option.bind_eq_some_iff.mp hf
  refine g_Si (As := [.int p0]) K hS lS_X10_130 (c_X10_isGhost p0 σ q1 hq1) rfl rfl (Nat.le_of_ble_eq_true rfl) ⟨⟨Nat.le_of_ble_eq_true rfl, Nat.le_of_ble_eq_true rfl⟩, rfl, rfl⟩ hl.1 ⟨Nat.zero_le _, Nat.zero_le _⟩ dX10_soonest_1 (fun H locs hS => ?_)
  refine lv_if_eq (tgt := 14) hx hb dX10_soonest_4 (by decide) (fun c2 => ?_) (fun c2 => ?_)
  · have hf := gIf_t c2 hf
    refine lv_iconst (v := (-1)) hx hb dX10_soonest_14 (by decide) ?_
    exact g_iret K hS hf dX10_soonest_15
  · have hf := gIf_f c2 hf
    refine lv_iload_n hx hb dX10_soonest_7 rfl (lv_at hl 2 rfl) ?_
    obtain ⟨q3, hq3, hf⟩ := Option.bind_eq_some_iff.mp hf
    refine g_Si (As := [.int p1]) K hS lS_X10_68 (c_X10_isRoom p1 q1.2 q3 hq3) rfl rfl (Nat.le_of_ble_eq_true rfl) ⟨⟨Nat.le_of_ble_eq_true rfl, Nat.le_of_ble_eq_true rfl⟩, rfl, rfl⟩ hl.1 ⟨Nat.zero_le _, Nat.zero_le _⟩ dX10_soonest_8 (fun H locs hS => ?_)
    refine lv_if_ne (tgt := 16) hx hb dX10_soonest_11 (by decide) (fun c4 => ?_) (fun c4 => ?_)
    · have hf := gIf_f c4 hf
      refine lv_iload_n hx hb dX10_soonest_16 rfl (lv_at hl 3 rfl) ?_
      refine lv_if_ge (tgt := 23) hx hb dX10_soonest_17 (by decide) (fun c5 => ?_) (fun c5 => ?_)
      · have hf := gIf_t c5 hf
        refine lv_aload_n hx hb dX10_soonest_23 rfl (lv_at hl 0 rfl) ?_
        refine lv_iload_n hx hb dX10_soonest_24 rfl (lv_at hl 1 rfl) ?_
        refine lv_iload_n hx hb dX10_soonest_25 rfl (lv_at hl 2 rfl) ?_
        obtain ⟨q6, hq6, hf⟩ := Option.bind_eq_some_iff.mp hf
        refine g_Vv (cx := 0) (As := [.int p0, .int p1]) K hS lV_X10_146 (c_X10_findWay p0 p1 q3.2 q6 hq6) ((eX_0 G o) _) (by decide) rfl rfl rfl (Nat.le_of_ble_eq_true rfl) ⟨⟨Nat.le_of_ble_eq_true rfl, Nat.le_of_ble_eq_true rfl⟩, rfl, rfl⟩ hl.1 ⟨Nat.zero_le _, Nat.zero_le _⟩ dX10_soonest_26 (fun H locs hS => ?_)
        refine lv_aload_n hx hb dX10_soonest_29 rfl (lv_at hl 0 rfl) ?_
        refine g_get (cx := 0) K hS lF_X10_42 ((eX_0 G o) _) (by decide) rfl dX10_soonest_30 ?_
        refine g_get (cx := 297) K hS lF_X10_149 ((eX_297 G o) _) (by decide) rfl dX10_soonest_33 ?_
        refine lv_if_ne (tgt := 42) hx hb dX10_soonest_36 (by decide) (fun c7 => ?_) (fun c7 => ?_)
        · have hf := gIf_f c7 hf
          refine lv_iload_n hx hb dX10_soonest_42 rfl (lv_at hl 3 rfl) ?_
          refine lv_if_ne (tgt := 54) hx hb dX10_soonest_43 (by decide) (fun c8 => ?_) (fun c8 => ?_)
          · have hf := gIf_f c8 hf
            refine lv_iload_n hx hb dX10_soonest_54 rfl (lv_at hl 3 rfl) ?_
            refine lv_iconst (v := 1) hx hb dX10_soonest_55 (by decide) ?_
            refine lv_icmp_ne (tgt := 67) hx hb dX10_soonest_56 (by decide) (fun c9 => ?_) (fun c9 => ?_)
            · have hf := gIf_f c9 hf
              refine lv_iload_n hx hb dX10_soonest_67 rfl (lv_at hl 3 rfl) ?_
              refine lv_iconst (v := 2) hx hb dX10_soonest_68 (by decide) ?_
              refine lv_isub hx hb dX10_soonest_69 ?_
              refine lv_aload_n hx hb dX10_soonest_70 rfl (lv_at hl 0 rfl) ?_
              refine g_get (cx := 0) K hS lF_X10_42 ((eX_0 G o) _) (by decide) rfl dX10_soonest_71 ?_
              refine g_get (cx := 297) K hS lF_X10_153 ((eX_297 G o) _) (by decide) rfl dX10_soonest_74 ?_
              refine lv_icmp_ge (tgt := 96) hx hb dX10_soonest_77 (by decide) (fun c10 => ?_) (fun c10 => ?_)
              · have hf := gIf_t c10 hf
                refine lv_bipush (v := (-6)) hx hb dX10_soonest_96 (by decide) ?_
                exact g_iret K hS hf dX10_soonest_98
              · have hf := gIf_f c10 hf
                refine lv_aload_n hx hb dX10_soonest_80 rfl (lv_at hl 0 rfl) ?_
                refine g_get (cx := 0) K hS lF_X10_42 ((eX_0 G o) _) (by decide) rfl dX10_soonest_81 ?_
                refine g_get (cx := 297) K hS lF_X10_154 ((eX_297 G o) _) (by decide) rfl dX10_soonest_84 ?_
                refine lv_iload_n hx hb dX10_soonest_87 rfl (lv_at hl 3 rfl) ?_
                refine lv_iconst (v := 2) hx hb dX10_soonest_88 (by decide) ?_
                refine lv_isub hx hb dX10_soonest_89 ?_
                obtain ⟨q11, hq11, hf⟩ := Option.bind_eq_some_iff.mp hf
                refine g_Vi (cx := 300) (As := [.int (p2 - 2)]) K hS lV_X10_58 (c_X5_at 300 10 (gRow_300 G o) (p2 - 2) q6 q11 hq11) ((eX_300 G o) _) (by decide) rfl rfl rfl (Nat.le_of_ble_eq_true rfl) ⟨⟨Nat.le_of_ble_eq_true rfl, Nat.le_of_ble_eq_true rfl⟩, rfl, rfl⟩ hl.1 ⟨Nat.zero_le _, Nat.zero_le _⟩ dX10_soonest_90 (fun H locs hS => ?_)
                refine lv_goto (tgt := 98) hx hb dX10_soonest_93 (by decide) ?_
                exact g_iret K hS hf dX10_soonest_98
            · have hf := gIf_t c9 hf
              refine lv_aload_n hx hb dX10_soonest_59 rfl (lv_at hl 0 rfl) ?_
              refine g_get (cx := 0) K hS lF_X10_42 ((eX_0 G o) _) (by decide) rfl dX10_soonest_60 ?_
              refine g_get (cx := 297) K hS lF_X10_153 ((eX_297 G o) _) (by decide) rfl dX10_soonest_63 ?_
              exact g_iret K hS hf dX10_soonest_66
          · have hf := gIf_t c8 hf
            refine lv_aload_n hx hb dX10_soonest_46 rfl (lv_at hl 0 rfl) ?_
            refine g_get (cx := 0) K hS lF_X10_42 ((eX_0 G o) _) (by decide) rfl dX10_soonest_47 ?_
            refine g_get (cx := 297) K hS lF_X10_231 ((eX_297 G o) _) (by decide) rfl dX10_soonest_50 ?_
            exact g_iret K hS hf dX10_soonest_53
        · have hf := gIf_t c7 hf
          refine lv_bipush (v := (-6)) hx hb dX10_soonest_39 (by decide) ?_
          exact g_iret K hS hf dX10_soonest_41
      · have hf := gIf_f c5 hf
        refine lv_bipush (v := (-2)) hx hb dX10_soonest_20 (by decide) ?_
        exact g_iret K hS hf dX10_soonest_22
    · have hf := gIf_t c4 hf
      refine lv_iconst (v := (-1)) hx hb dX10_soonest_14 (by decide) ?_
      exact g_iret K hS hf dX10_soonest_15
abbrev rmX10_quietest : Room := { frames := 3, cells := 0, slots := 0, locals := 70 }
def f_X10_quietest_L44 (w2 : Int32) (w3 : Int32) (w4 : Int32) : Nat → Int32 → gS → Option (Int32 × gS)
  | 0, _, _ => none
  | n + 1, v5, σ => if 9 < v5 then (some ((-6), σ)) else (Option.bind (f_X1_atMostAsLoud v5 σ) (fun q8 => Option.bind (f_X1_roomsFrom w3 (w4 &&& q8.1) q8.2) (fun q9 => Option.bind (f_X10_holds q9.1 w2 q9.2) (fun q10 => if q10.1 = 0 then (f_X10_quietest_L44 w2 w3 w4 n (v5 + 1) q10.2) else (some (v5, q10.2))))))
theorem f_X10_quietest_L44_s (w2 : Int32) (w3 : Int32) (w4 : Int32) (n : Nat) (v5 : Int32) (σ : gS) : f_X10_quietest_L44 w2 w3 w4 (n + 1) v5 σ = (if 9 < v5 then (some ((-6), σ)) else (Option.bind (f_X1_atMostAsLoud v5 σ) (fun q8 => Option.bind (f_X1_roomsFrom w3 (w4 &&& q8.1) q8.2) (fun q9 => Option.bind (f_X10_holds q9.1 w2 q9.2) (fun q10 => if q10.1 = 0 then (f_X10_quietest_L44 w2 w3 w4 n (v5 + 1) q10.2) else (some (v5, q10.2))))))) := rfl
def f_X10_quietest (p0 : Int32) (p1 : Int32) (σ : gS) : Option (Int32 × gS) := Option.bind (f_X10_isGhost p0 σ) (fun q1 => if q1.1 = 0 then (some ((-1), q1.2)) else (Option.bind (f_X10_isRoom p1 q1.2) (fun q3 => if q3.1 = 0 then (some ((-1), q3.2)) else (Option.bind (f_X5_at 18 4 p0 q3.2) (fun q5 => Option.bind (f_X0_freeTo p0 q5.2) (fun q6 => f_X10_quietest_L44 p1 q5.1 q6.1 gFu 0 q6.2))))))
set_option maxHeartbeats 4000000 in
set_option maxRecDepth 100000 in
theorem w_X10_quietest_L44 (w2 : Int32) (w3 : Int32) (w4 : Int32) {q : Int32 × gS} (K : gK p s m args meth c G cX10_quietest 6 RX10 (some .int)) : ∀ (n : Nat) (v5 : Int32) (σ : gS), f_X10_quietest_L44 w2 w3 w4 n v5 σ = some q → ∀ (H : Heap) (locs : List Loc) (ls : Array Slot), gSt G (entX G o) o 302 s σ H locs → lv_has ls 6 [(0, .ref (o + 0)), (2, .int w2), (3, .int w3), (4, .int w4), (5, .int v5)] → W p l e rmX10_quietest s m args below meth c H locs 0 0 (MQ below (gQi G (entX G o) o 302 q) args s 0 0 (gA o 302)) (F0 m 44 ls []) := by
  obtain ⟨hx, hb, hml, hown, hts, -⟩ := id K
  intro n
  induction n with
  | zero =>
    intro v5 σ hf
    exact absurd (show (none : Option _) = some q from hf) (by simp)
  | succ n ih =>
    intro v5 σ hf H locs ls hS hl
    rw [f_X10_quietest_L44_s] at hf
    refine lv_iload hx hb dX10_quietest_44 (lv_at hl 4 rfl) ?_
    refine lv_bipush (v := 9) hx hb dX10_quietest_46 (by decide) ?_
    refine lv_icmp_gt (tgt := 93) hx hb dX10_quietest_48 (by decide) (fun c7 => ?_) (fun c7 => ?_)
    · have hf := gIf_t c7 hf
      refine lv_bipush (v := (-6)) hx hb dX10_quietest_93 (by decide) ?_
      exact g_iret K hS hf dX10_quietest_95
    · have hf := gIf_f c7 hf
      refine lv_aload_n hx hb dX10_quietest_51 rfl (lv_at hl 0 rfl) ?_
      refine g_get (cx := 0) K hS lF_X10_10 ((eX_0 G o) _) (by decide) rfl dX10_quietest_52 ?_
      refine g_get (cx := 1) K hS lF_X10_76 ((eX_1 G o) _) (by decide) rfl dX10_quietest_55 ?_
      refine lv_iload_n hx hb dX10_quietest_58 rfl (lv_at hl 2 rfl) ?_
      refine lv_iload hx hb dX10_quietest_59 (lv_at hl 3 rfl) ?_
      refine lv_aload_n hx hb dX10_quietest_61 rfl (lv_at hl 0 rfl) ?_
      refine g_get (cx := 0) K hS lF_X10_10 ((eX_0 G o) _) (by decide) rfl dX10_quietest_62 ?_
      refine g_get (cx := 1) K hS lF_X10_76 ((eX_1 G o) _) (by decide) rfl dX10_quietest_65 ?_
      refine lv_iload hx hb dX10_quietest_68 (lv_at hl 4 rfl) ?_
      obtain ⟨q8, hq8, hf⟩ := Option.bind_eq_some_iff.mp hf
      refine g_Vi (cx := 4) (As := [.int v5]) K hS lV_X10_232 (c_X1_atMostAsLoud v5 σ q8 hq8) ((eX_4 G o) _) (by decide) rfl rfl rfl (Nat.le_of_ble_eq_true rfl) ⟨⟨Nat.le_of_ble_eq_true rfl, Nat.le_of_ble_eq_true rfl⟩, rfl, rfl⟩ hl.1 ⟨Nat.zero_le _, Nat.zero_le _⟩ dX10_quietest_70 (fun H locs hS => ?_)
      refine lv_iand hx hb dX10_quietest_73 ?_
      obtain ⟨q9, hq9, hf⟩ := Option.bind_eq_some_iff.mp hf
      refine g_Vi (cx := 4) (As := [.int w3, .int (w4 &&& q8.1)]) K hS lV_X10_190 (c_X1_roomsFrom w3 (w4 &&& q8.1) q8.2 q9 hq9) ((eX_4 G o) _) (by decide) rfl rfl rfl (Nat.le_of_ble_eq_true rfl) ⟨⟨Nat.le_of_ble_eq_true rfl, Nat.le_of_ble_eq_true rfl⟩, rfl, rfl⟩ hl.1 ⟨Nat.zero_le _, Nat.zero_le _⟩ dX10_quietest_74 (fun H locs hS => ?_)
      refine lv_iload_n hx hb dX10_quietest_77 rfl (lv_at hl 1 rfl) ?_
      obtain ⟨q10, hq10, hf⟩ := Option.bind_eq_some_iff.mp hf
      refine g_Si (As := [.int q9.1, .int w2]) K hS lS_X10_139 (c_X10_holds q9.1 w2 q9.2 q10 hq10) rfl rfl (Nat.le_of_ble_eq_true rfl) ⟨⟨Nat.le_of_ble_eq_true rfl, Nat.le_of_ble_eq_true rfl⟩, rfl, rfl⟩ hl.1 ⟨Nat.zero_le _, Nat.zero_le _⟩ dX10_quietest_78 (fun H locs hS => ?_)
      refine lv_if_eq (tgt := 87) hx hb dX10_quietest_81 (by decide) (fun c11 => ?_) (fun c11 => ?_)
      · have hf := gIf_t c11 hf
        refine lv_iinc (v := (v5 + 1)) (lv' := [(5, .int (v5 + 1)), (0, .ref (o + 0)), (2, .int w2), (3, .int w3), (4, .int w4)]) hx hb dX10_quietest_87 hl (k := 4) rfl rfl (by decide) rfl (fun ls hl => ?_)
        refine lv_goto (tgt := 44) hx hb dX10_quietest_90 (by decide) ?_
        exact ih (v5 + 1) q10.2 hf _ _ _ hS (lv_sub hl [1, 2, 3, 4, 0] rfl)
      · have hf := gIf_f c11 hf
        refine lv_iload hx hb dX10_quietest_84 (lv_at hl 4 rfl) ?_
        exact g_iret K hS hf dX10_quietest_86
set_option maxHeartbeats 4000000 in
set_option maxRecDepth 100000 in
theorem c_X10_quietest (p0 : Int32) (p1 : Int32) (σ : gS) (q : Int32 × gS) (hf : f_X10_quietest p0 p1 σ = some q) : Met l yX10_quietest (gW yX10_quietest cX10_quietest 6 (some .int)) rmX10_quietest (gPc G (entX G o) o 302 [.ref (o + 0), .int p0, .int p1] σ) (gQi G (entX G o) o 302 q) 0 0 (gA o 302) := by
  refine g_met (by decide) ⟨rfl, rfl⟩ (fun p e s m args below meth c ls K hS hl => ?_) (Nat.le_of_ble_eq_true rfl)
  have K : gK p s m args meth c G cX10_quietest 6 RX10 (some .int) := K
  have hl : lv_has ls 6 [(0, .ref (o + 0)), (1, .int p0), (2, .int p1)] := hl
  obtain ⟨hx, hb, hml, hown, hts, -⟩ := id K
  unfold f_X10_quietest at hf
  refine lv_iload_n hx hb dX10_quietest_0 rfl (lv_at hl 1 rfl) ?_
  obtain ⟨q1, hq1, hf⟩ := Option.bind_eq_some_iff.mp hf
  refine g_Si (As := [.int p0]) K hS lS_X10_130 (c_X10_isGhost p0 σ q1 hq1) rfl rfl (Nat.le_of_ble_eq_true rfl) ⟨⟨Nat.le_of_ble_eq_true rfl, Nat.le_of_ble_eq_true rfl⟩, rfl, rfl⟩ hl.1 ⟨Nat.zero_le _, Nat.zero_le _⟩ dX10_quietest_1 (fun H locs hS => ?_)
  refine lv_if_eq (tgt := 14) hx hb dX10_quietest_4 (by decide) (fun c2 => ?_) (fun c2 => ?_)
  · have hf := gIf_t c2 hf
    refine lv_iconst (v := (-1)) hx hb dX10_quietest_14 (by decide) ?_
    exact g_iret K hS hf dX10_quietest_15
  · have hf := gIf_f c2 hf
    refine lv_iload_n hx hb dX10_quietest_7 rfl (lv_at hl 2 rfl) ?_
    obtain ⟨q3, hq3, hf⟩ := Option.bind_eq_some_iff.mp hf
    refine g_Si (As := [.int p1]) K hS lS_X10_68 (c_X10_isRoom p1 q1.2 q3 hq3) rfl rfl (Nat.le_of_ble_eq_true rfl) ⟨⟨Nat.le_of_ble_eq_true rfl, Nat.le_of_ble_eq_true rfl⟩, rfl, rfl⟩ hl.1 ⟨Nat.zero_le _, Nat.zero_le _⟩ dX10_quietest_8 (fun H locs hS => ?_)
    refine lv_if_ne (tgt := 16) hx hb dX10_quietest_11 (by decide) (fun c4 => ?_) (fun c4 => ?_)
    · have hf := gIf_f c4 hf
      refine lv_aload_n hx hb dX10_quietest_16 rfl (lv_at hl 0 rfl) ?_
      refine g_get (cx := 0) K hS lF_X10_10 ((eX_0 G o) _) (by decide) rfl dX10_quietest_17 ?_
      refine g_get (cx := 1) K hS lF_X10_110 ((eX_1 G o) _) (by decide) rfl dX10_quietest_20 ?_
      refine g_get (cx := 17) K hS lF_X10_133 ((eX_17 G o) _) (by decide) rfl dX10_quietest_23 ?_
      refine lv_iload_n hx hb dX10_quietest_26 rfl (lv_at hl 1 rfl) ?_
      obtain ⟨q5, hq5, hf⟩ := Option.bind_eq_some_iff.mp hf
      refine g_Vi (cx := 18) (As := [.int p0]) K hS lV_X10_58 (c_X5_at 18 4 (gRow_18 G o) p0 q3.2 q5 hq5) ((eX_18 G o) _) (by decide) rfl rfl rfl (Nat.le_of_ble_eq_true rfl) ⟨⟨Nat.le_of_ble_eq_true rfl, Nat.le_of_ble_eq_true rfl⟩, rfl, rfl⟩ hl.1 ⟨Nat.zero_le _, Nat.zero_le _⟩ dX10_quietest_27 (fun H locs hS => ?_)
      refine lv_istore_n (lv' := [(3, .int q5.1), (0, .ref (o + 0)), (1, .int p0), (2, .int p1)]) hx hb dX10_quietest_30 rfl hl (by decide) rfl (fun ls hl => ?_)
      refine lv_aload_n hx hb dX10_quietest_31 rfl (lv_at hl 1 rfl) ?_
      refine g_get (cx := 0) K hS lF_X10_10 ((eX_0 G o) _) (by decide) rfl dX10_quietest_32 ?_
      refine lv_iload_n hx hb dX10_quietest_35 rfl (lv_at hl 2 rfl) ?_
      obtain ⟨q6, hq6, hf⟩ := Option.bind_eq_some_iff.mp hf
      refine g_Vi (cx := 1) (As := [.int p0]) K hS lV_X10_187 (c_X0_freeTo p0 q5.2 q6 hq6) ((eX_1 G o) _) (by decide) rfl rfl rfl (Nat.le_of_ble_eq_true rfl) ⟨⟨Nat.le_of_ble_eq_true rfl, Nat.le_of_ble_eq_true rfl⟩, rfl, rfl⟩ hl.1 ⟨Nat.zero_le _, Nat.zero_le _⟩ dX10_quietest_36 (fun H locs hS => ?_)
      refine lv_istore (lv' := [(4, .int q6.1), (3, .int q5.1), (0, .ref (o + 0)), (1, .int p0), (2, .int p1)]) hx hb dX10_quietest_39 hl (by decide) rfl (fun ls hl => ?_)
      refine lv_iconst (v := 0) hx hb dX10_quietest_41 (by decide) ?_
      refine lv_istore (lv' := [(5, .int 0), (4, .int q6.1), (3, .int q5.1), (0, .ref (o + 0)), (1, .int p0), (2, .int p1)]) hx hb dX10_quietest_42 hl (by decide) rfl (fun ls hl => ?_)
      refine w_X10_quietest_L44 p1 q5.1 q6.1 K gFu 0 q6.2 hf _ _ _ hS (lv_sub hl [3, 5, 2, 1, 0] rfl)
    · have hf := gIf_t c4 hf
      refine lv_iconst (v := (-1)) hx hb dX10_quietest_14 (by decide) ?_
      exact g_iret K hS hf dX10_quietest_15
abbrev rmX10_reason : Room := { frames := 4, cells := 0, slots := 0, locals := 95 }
def f_X10_reason (p0 : Int32) (σ : gS) : Option (Int32 × gS) := Option.bind (f_X10_isGhost p0 σ) (fun q1 => if q1.1 = 0 then (some ((-1), q1.2)) else (Option.bind (f_X0_leftTo p0 q1.2) (fun q3 => Option.bind (f_X5_at 18 4 p0 q3.2) (fun q4 => Option.bind (f_X8_whyNot q3.1 q4.1 q4.2) (fun q5 => some (q5.1, q5.2))))))
set_option maxHeartbeats 4000000 in
set_option maxRecDepth 100000 in
theorem c_X10_reason (p0 : Int32) (σ : gS) (q : Int32 × gS) (hf : f_X10_reason p0 σ = some q) : Met l yX10_reason (gW yX10_reason cX10_reason 2 (some .int)) rmX10_reason (gPc G (entX G o) o 302 [.ref (o + 0), .int p0] σ) (gQi G (entX G o) o 302 q) 0 0 (gA o 302) := by
  refine g_met (by decide) ⟨rfl, rfl⟩ (fun p e s m args below meth c ls K hS hl => ?_) (Nat.le_of_ble_eq_true rfl)
  have K : gK p s m args meth c G cX10_reason 2 RX10 (some .int) := K
  have hl : lv_has ls 2 [(0, .ref (o + 0)), (1, .int p0)] := hl
  obtain ⟨hx, hb, hml, hown, hts, -⟩ := id K
  unfold f_X10_reason at hf
  refine lv_iload_n hx hb dX10_reason_0 rfl (lv_at hl 1 rfl) ?_
  obtain ⟨q1, hq1, hf⟩ := Option.bind_eq_some_iff.mp hf
  refine g_Si (As := [.int p0]) K hS lS_X10_130 (c_X10_isGhost p0 σ q1 hq1) rfl rfl (Nat.le_of_ble_eq_true rfl) ⟨⟨Nat.le_of_ble_eq_true rfl, Nat.le_of_ble_eq_true rfl⟩, rfl, rfl⟩ hl.1 ⟨Nat.zero_le _, Nat.zero_le _⟩ dX10_reason_1 (fun H locs hS => ?_)
  refine lv_if_ne (tgt := 9) hx hb dX10_reason_4 (by decide) (fun c2 => ?_) (fun c2 => ?_)
  · have hf := gIf_f c2 hf
    refine lv_aload_n hx hb dX10_reason_9 rfl (lv_at hl 0 rfl) ?_
    refine g_get (cx := 0) K hS lF_X10_10 ((eX_0 G o) _) (by decide) rfl dX10_reason_10 ?_
    refine g_get (cx := 1) K hS lF_X10_76 ((eX_1 G o) _) (by decide) rfl dX10_reason_13 ?_
    refine lv_aload_n hx hb dX10_reason_16 rfl (lv_at hl 0 rfl) ?_
    refine g_get (cx := 0) K hS lF_X10_10 ((eX_0 G o) _) (by decide) rfl dX10_reason_17 ?_
    refine lv_iload_n hx hb dX10_reason_20 rfl (lv_at hl 1 rfl) ?_
    obtain ⟨q3, hq3, hf⟩ := Option.bind_eq_some_iff.mp hf
    refine g_Vi (cx := 1) (As := [.int p0]) K hS lV_X10_235 (c_X0_leftTo p0 q1.2 q3 hq3) ((eX_1 G o) _) (by decide) rfl rfl rfl (Nat.le_of_ble_eq_true rfl) ⟨⟨Nat.le_of_ble_eq_true rfl, Nat.le_of_ble_eq_true rfl⟩, rfl, rfl⟩ hl.1 ⟨Nat.zero_le _, Nat.zero_le _⟩ dX10_reason_21 (fun H locs hS => ?_)
    refine lv_aload_n hx hb dX10_reason_24 rfl (lv_at hl 0 rfl) ?_
    refine g_get (cx := 0) K hS lF_X10_10 ((eX_0 G o) _) (by decide) rfl dX10_reason_25 ?_
    refine g_get (cx := 1) K hS lF_X10_110 ((eX_1 G o) _) (by decide) rfl dX10_reason_28 ?_
    refine g_get (cx := 17) K hS lF_X10_133 ((eX_17 G o) _) (by decide) rfl dX10_reason_31 ?_
    refine lv_iload_n hx hb dX10_reason_34 rfl (lv_at hl 1 rfl) ?_
    obtain ⟨q4, hq4, hf⟩ := Option.bind_eq_some_iff.mp hf
    refine g_Vi (cx := 18) (As := [.int p0]) K hS lV_X10_58 (c_X5_at 18 4 (gRow_18 G o) p0 q3.2 q4 hq4) ((eX_18 G o) _) (by decide) rfl rfl rfl (Nat.le_of_ble_eq_true rfl) ⟨⟨Nat.le_of_ble_eq_true rfl, Nat.le_of_ble_eq_true rfl⟩, rfl, rfl⟩ hl.1 ⟨Nat.zero_le _, Nat.zero_le _⟩ dX10_reason_35 (fun H locs hS => ?_)
    obtain ⟨q5, hq5, hf⟩ := Option.bind_eq_some_iff.mp hf
    refine g_Si (As := [.ref (o + 4), .int q3.1, .int q4.1]) K hS lS_X10_238 (c_X8_whyNot q3.1 q4.1 q4.2 q5 hq5) rfl rfl (Nat.le_of_ble_eq_true rfl) ⟨⟨Nat.le_of_ble_eq_true rfl, Nat.le_of_ble_eq_true rfl⟩, rfl, rfl⟩ hl.1 ⟨Nat.zero_le _, Nat.zero_le _⟩ dX10_reason_38 (fun H locs hS => ?_)
    exact g_iret K hS hf dX10_reason_41
  · have hf := gIf_t c2 hf
    refine lv_iconst (v := (-1)) hx hb dX10_reason_7 (by decide) ?_
    exact g_iret K hS hf dX10_reason_8
abbrev rmX10_trail : Room := { frames := 6, cells := 0, slots := 0, locals := 147 }
def f_X10_trail (p0 : Int32) (p1 : Int32) (σ : gS) : Option (Int32 × gS) := Option.bind (f_X10_isGhost p0 σ) (fun q1 => if q1.1 = 0 then (some ((-1), q1.2)) else (if 0 ≤ p1 then (Option.bind (f_X0_leftTo p0 q1.2) (fun q4 => Option.bind (f_X5_at 18 4 p0 q4.2) (fun q5 => Option.bind (f_X8_whyNot q4.1 q5.1 q5.2) (fun q6 => if q6.1 = 0 then (Option.bind (f_X8_boardAt q4.1 q5.1 p1 q6.2) (fun q8 => some (q8.1, q8.2))) else (some ((-5), q6.2)))))) else (some ((-1), q1.2))))
set_option maxHeartbeats 4000000 in
set_option maxRecDepth 100000 in
theorem c_X10_trail (p0 : Int32) (p1 : Int32) (σ : gS) (q : Int32 × gS) (hf : f_X10_trail p0 p1 σ = some q) : Met l yX10_trail (gW yX10_trail cX10_trail 5 (some .int)) rmX10_trail (gPc G (entX G o) o 302 [.ref (o + 0), .int p0, .int p1] σ) (gQi G (entX G o) o 302 q) 0 0 (gA o 302) := by
  refine g_met (by decide) ⟨rfl, rfl⟩ (fun p e s m args below meth c ls K hS hl => ?_) (Nat.le_of_ble_eq_true rfl)
  have K : gK p s m args meth c G cX10_trail 5 RX10 (some .int) := K
  have hl : lv_has ls 5 [(0, .ref (o + 0)), (1, .int p0), (2, .int p1)] := hl
  obtain ⟨hx, hb, hml, hown, hts, -⟩ := id K
  unfold f_X10_trail at hf
  refine lv_iload_n hx hb dX10_trail_0 rfl (lv_at hl 1 rfl) ?_
  obtain ⟨q1, hq1, hf⟩ := Option.bind_eq_some_iff.mp hf
  refine g_Si (As := [.int p0]) K hS lS_X10_130 (c_X10_isGhost p0 σ q1 hq1) rfl rfl (Nat.le_of_ble_eq_true rfl) ⟨⟨Nat.le_of_ble_eq_true rfl, Nat.le_of_ble_eq_true rfl⟩, rfl, rfl⟩ hl.1 ⟨Nat.zero_le _, Nat.zero_le _⟩ dX10_trail_1 (fun H locs hS => ?_)
  refine lv_if_eq (tgt := 11) hx hb dX10_trail_4 (by decide) (fun c2 => ?_) (fun c2 => ?_)
  · have hf := gIf_t c2 hf
    refine lv_iconst (v := (-1)) hx hb dX10_trail_11 (by decide) ?_
    exact g_iret K hS hf dX10_trail_12
  · have hf := gIf_f c2 hf
    refine lv_iload_n hx hb dX10_trail_7 rfl (lv_at hl 2 rfl) ?_
    refine lv_if_ge (tgt := 13) hx hb dX10_trail_8 (by decide) (fun c3 => ?_) (fun c3 => ?_)
    · have hf := gIf_t c3 hf
      refine lv_aload_n hx hb dX10_trail_13 rfl (lv_at hl 0 rfl) ?_
      refine g_get (cx := 0) K hS lF_X10_10 ((eX_0 G o) _) (by decide) rfl dX10_trail_14 ?_
      refine lv_iload_n hx hb dX10_trail_17 rfl (lv_at hl 1 rfl) ?_
      obtain ⟨q4, hq4, hf⟩ := Option.bind_eq_some_iff.mp hf
      refine g_Vi (cx := 1) (As := [.int p0]) K hS lV_X10_235 (c_X0_leftTo p0 q1.2 q4 hq4) ((eX_1 G o) _) (by decide) rfl rfl rfl (Nat.le_of_ble_eq_true rfl) ⟨⟨Nat.le_of_ble_eq_true rfl, Nat.le_of_ble_eq_true rfl⟩, rfl, rfl⟩ hl.1 ⟨Nat.zero_le _, Nat.zero_le _⟩ dX10_trail_18 (fun H locs hS => ?_)
      refine lv_istore_n (lv' := [(3, .int q4.1), (0, .ref (o + 0)), (1, .int p0), (2, .int p1)]) hx hb dX10_trail_21 rfl hl (by decide) rfl (fun ls hl => ?_)
      refine lv_aload_n hx hb dX10_trail_22 rfl (lv_at hl 1 rfl) ?_
      refine g_get (cx := 0) K hS lF_X10_10 ((eX_0 G o) _) (by decide) rfl dX10_trail_23 ?_
      refine g_get (cx := 1) K hS lF_X10_110 ((eX_1 G o) _) (by decide) rfl dX10_trail_26 ?_
      refine g_get (cx := 17) K hS lF_X10_133 ((eX_17 G o) _) (by decide) rfl dX10_trail_29 ?_
      refine lv_iload_n hx hb dX10_trail_32 rfl (lv_at hl 2 rfl) ?_
      obtain ⟨q5, hq5, hf⟩ := Option.bind_eq_some_iff.mp hf
      refine g_Vi (cx := 18) (As := [.int p0]) K hS lV_X10_58 (c_X5_at 18 4 (gRow_18 G o) p0 q4.2 q5 hq5) ((eX_18 G o) _) (by decide) rfl rfl rfl (Nat.le_of_ble_eq_true rfl) ⟨⟨Nat.le_of_ble_eq_true rfl, Nat.le_of_ble_eq_true rfl⟩, rfl, rfl⟩ hl.1 ⟨Nat.zero_le _, Nat.zero_le _⟩ dX10_trail_33 (fun H locs hS => ?_)
      refine lv_istore (lv' := [(4, .int q5.1), (3, .int q4.1), (0, .ref (o + 0)), (1, .int p0), (2, .int p1)]) hx hb dX10_trail_36 hl (by decide) rfl (fun ls hl => ?_)
      refine lv_aload_n hx hb dX10_trail_38 rfl (lv_at hl 2 rfl) ?_
      refine g_get (cx := 0) K hS lF_X10_10 ((eX_0 G o) _) (by decide) rfl dX10_trail_39 ?_
      refine g_get (cx := 1) K hS lF_X10_76 ((eX_1 G o) _) (by decide) rfl dX10_trail_42 ?_
      refine lv_iload_n hx hb dX10_trail_45 rfl (lv_at hl 1 rfl) ?_
      refine lv_iload hx hb dX10_trail_46 (lv_at hl 0 rfl) ?_
      obtain ⟨q6, hq6, hf⟩ := Option.bind_eq_some_iff.mp hf
      refine g_Si (As := [.ref (o + 4), .int q4.1, .int q5.1]) K hS lS_X10_238 (c_X8_whyNot q4.1 q5.1 q5.2 q6 hq6) rfl rfl (Nat.le_of_ble_eq_true rfl) ⟨⟨Nat.le_of_ble_eq_true rfl, Nat.le_of_ble_eq_true rfl⟩, rfl, rfl⟩ hl.1 ⟨Nat.zero_le _, Nat.zero_le _⟩ dX10_trail_48 (fun H locs hS => ?_)
      refine lv_if_eq (tgt := 57) hx hb dX10_trail_51 (by decide) (fun c7 => ?_) (fun c7 => ?_)
      · have hf := gIf_t c7 hf
        refine lv_aload_n hx hb dX10_trail_57 rfl (lv_at hl 2 rfl) ?_
        refine g_get (cx := 0) K hS lF_X10_10 ((eX_0 G o) _) (by decide) rfl dX10_trail_58 ?_
        refine g_get (cx := 1) K hS lF_X10_76 ((eX_1 G o) _) (by decide) rfl dX10_trail_61 ?_
        refine lv_iload_n hx hb dX10_trail_64 rfl (lv_at hl 1 rfl) ?_
        refine lv_iload hx hb dX10_trail_65 (lv_at hl 0 rfl) ?_
        refine lv_iload_n hx hb dX10_trail_67 rfl (lv_at hl 4 rfl) ?_
        obtain ⟨q8, hq8, hf⟩ := Option.bind_eq_some_iff.mp hf
        refine g_Si (As := [.ref (o + 4), .int q4.1, .int q5.1, .int p1]) K hS lS_X10_244 (c_X8_boardAt q4.1 q5.1 p1 q6.2 q8 hq8) rfl rfl (Nat.le_of_ble_eq_true rfl) ⟨⟨Nat.le_of_ble_eq_true rfl, Nat.le_of_ble_eq_true rfl⟩, rfl, rfl⟩ hl.1 ⟨Nat.zero_le _, Nat.zero_le _⟩ dX10_trail_68 (fun H locs hS => ?_)
        exact g_iret K hS hf dX10_trail_71
      · have hf := gIf_f c7 hf
        refine lv_bipush (v := (-5)) hx hb dX10_trail_54 (by decide) ?_
        exact g_iret K hS hf dX10_trail_56
    · have hf := gIf_f c3 hf
      refine lv_iconst (v := (-1)) hx hb dX10_trail_11 (by decide) ?_
      exact g_iret K hS hf dX10_trail_12
abbrev rmX10_worstGap : Room := { frames := 4, cells := 0, slots := 0, locals := 94 }
def f_X10_worstGap_L20 (w1 : Int32) (K67 : Int32 → Int32 → gS → Option (Int32 × gS)) : Nat → Int32 → Int32 → Int32 → gS → Option (Int32 × gS)
  | 0, _, _, _, _ => none
  | n + 1, v2, v3, v4, σ => if (σ 4 0) ≤ v4 then (K67 v2 v3 σ) else (Option.bind (f_X1_pairsApartWithout v4 σ) (fun q3 => if q3.1 ≤ v3 then (f_X10_worstGap_L20 w1 K67 n v2 v3 (v4 + 1) q3.2) else (f_X10_worstGap_L20 w1 K67 n v4 q3.1 (v4 + 1) q3.2)))
theorem f_X10_worstGap_L20_s (w1 : Int32) (K67 : Int32 → Int32 → gS → Option (Int32 × gS)) (n : Nat) (v2 : Int32) (v3 : Int32) (v4 : Int32) (σ : gS) : f_X10_worstGap_L20 w1 K67 (n + 1) v2 v3 v4 σ = (if (σ 4 0) ≤ v4 then (K67 v2 v3 σ) else (Option.bind (f_X1_pairsApartWithout v4 σ) (fun q3 => if q3.1 ≤ v3 then (f_X10_worstGap_L20 w1 K67 n v2 v3 (v4 + 1) q3.2) else (f_X10_worstGap_L20 w1 K67 n v4 q3.1 (v4 + 1) q3.2)))) := rfl
def f_X10_worstGap (p0 : Int32) (σ : gS) : Option (Int32 × gS) := if p0 = 0 then (f_X10_worstGap_L20 p0 (fun (k5 : Int32) (k6 : Int32) (s7 : gS) => if k6 = 0 then (some ((-6), s7)) else (if p0 = 0 then (some (k5, s7)) else (some (k6, s7)))) gFu (-6) 0 0 σ) else (if p0 = 1 then (f_X10_worstGap_L20 p0 (fun (k11 : Int32) (k12 : Int32) (s13 : gS) => if k12 = 0 then (some ((-6), s13)) else (if p0 = 0 then (some (k11, s13)) else (some (k12, s13)))) gFu (-6) 0 0 σ) else (some ((-2), σ)))
set_option maxHeartbeats 4000000 in
set_option maxRecDepth 100000 in
theorem w_X10_worstGap_L20 (w1 : Int32) (K67 : Int32 → Int32 → gS → Option (Int32 × gS)) {q : Int32 × gS} (K : gK p s m args meth c G cX10_worstGap 6 RX10 (some .int)) (hK67 : ∀ (k2 : Int32) (k3 : Int32) (σ : gS), K67 k2 k3 σ = some q → ∀ (H : Heap) (locs : List Loc) (ls : Array Slot), gSt G (entX G o) o 302 s σ H locs → lv_has ls 6 [(1, .int w1), (2, .int k2), (3, .int k3)] → W p l e rmX10_worstGap s m args below meth c H locs 0 0 (MQ below (gQi G (entX G o) o 302 q) args s 0 0 (gA o 302)) (F0 m 67 ls [])) : ∀ (n : Nat) (v2 : Int32) (v3 : Int32) (v4 : Int32) (σ : gS), f_X10_worstGap_L20 w1 K67 n v2 v3 v4 σ = some q → ∀ (H : Heap) (locs : List Loc) (ls : Array Slot), gSt G (entX G o) o 302 s σ H locs → lv_has ls 6 [(0, .ref (o + 0)), (1, .int w1), (2, .int v2), (3, .int v3), (4, .int v4)] → W p l e rmX10_worstGap s m args below meth c H locs 0 0 (MQ below (gQi G (entX G o) o 302 q) args s 0 0 (gA o 302)) (F0 m 20 ls []) := by
  obtain ⟨hx, hb, hml, hown, hts, -⟩ := id K
  intro n
  induction n with
  | zero =>
    intro v2 v3 v4 σ hf
    exact absurd (show (none : Option _) = some q from hf) (by simp)
  | succ n ih =>
    intro v2 v3 v4 σ hf H locs ls hS hl
    rw [f_X10_worstGap_L20_s] at hf
    refine lv_iload hx hb dX10_worstGap_20 (lv_at hl 4 rfl) ?_
    refine lv_aload_n hx hb dX10_worstGap_22 rfl (lv_at hl 0 rfl) ?_
    refine g_get (cx := 0) K hS lF_X10_10 ((eX_0 G o) _) (by decide) rfl dX10_worstGap_23 ?_
    refine g_get (cx := 1) K hS lF_X10_76 ((eX_1 G o) _) (by decide) rfl dX10_worstGap_26 ?_
    refine g_get (cx := 4) K hS lF_X10_80 ((eX_4 G o) _) (by decide) rfl dX10_worstGap_29 ?_
    refine lv_icmp_ge (tgt := 67) hx hb dX10_worstGap_32 (by decide) (fun c2 => ?_) (fun c2 => ?_)
    · have hf := gIf_t c2 hf
      exact hK67 v2 v3 σ hf _ _ _ hS (lv_sub hl [1, 2, 3] rfl)
    · have hf := gIf_f c2 hf
      refine lv_aload_n hx hb dX10_worstGap_35 rfl (lv_at hl 0 rfl) ?_
      refine g_get (cx := 0) K hS lF_X10_10 ((eX_0 G o) _) (by decide) rfl dX10_worstGap_36 ?_
      refine g_get (cx := 1) K hS lF_X10_76 ((eX_1 G o) _) (by decide) rfl dX10_worstGap_39 ?_
      refine lv_iload hx hb dX10_worstGap_42 (lv_at hl 4 rfl) ?_
      obtain ⟨q3, hq3, hf⟩ := Option.bind_eq_some_iff.mp hf
      refine g_Vi (cx := 4) (As := [.int v4]) K hS lV_X10_248 (c_X1_pairsApartWithout v4 σ q3 hq3) ((eX_4 G o) _) (by decide) rfl rfl rfl (Nat.le_of_ble_eq_true rfl) ⟨⟨Nat.le_of_ble_eq_true rfl, Nat.le_of_ble_eq_true rfl⟩, rfl, rfl⟩ hl.1 ⟨Nat.zero_le _, Nat.zero_le _⟩ dX10_worstGap_44 (fun H locs hS => ?_)
      refine lv_istore (lv' := [(5, .int q3.1), (0, .ref (o + 0)), (1, .int w1), (2, .int v2), (3, .int v3), (4, .int v4)]) hx hb dX10_worstGap_47 hl (by decide) rfl (fun ls hl => ?_)
      refine lv_iload hx hb dX10_worstGap_49 (lv_at hl 0 rfl) ?_
      refine lv_iload_n hx hb dX10_worstGap_51 rfl (lv_at hl 4 rfl) ?_
      refine lv_icmp_le (tgt := 61) hx hb dX10_worstGap_52 (by decide) (fun c4 => ?_) (fun c4 => ?_)
      · have hf := gIf_t c4 hf
        refine lv_iinc (v := (v4 + 1)) (lv' := [(4, .int (v4 + 1)), (5, .int q3.1), (0, .ref (o + 0)), (1, .int w1), (2, .int v2), (3, .int v3)]) hx hb dX10_worstGap_61 hl (k := 5) rfl rfl (by decide) rfl (fun ls hl => ?_)
        refine lv_goto (tgt := 20) hx hb dX10_worstGap_64 (by decide) ?_
        exact ih v2 v3 (v4 + 1) q3.2 hf _ _ _ hS (lv_sub hl [2, 3, 4, 5, 0] rfl)
      · have hf := gIf_f c4 hf
        refine lv_iload hx hb dX10_worstGap_55 (lv_at hl 0 rfl) ?_
        refine lv_istore_n (lv' := [(3, .int q3.1), (5, .int q3.1), (0, .ref (o + 0)), (1, .int w1), (2, .int v2), (4, .int v4)]) hx hb dX10_worstGap_57 rfl hl (by decide) rfl (fun ls hl => ?_)
        refine lv_iload hx hb dX10_worstGap_58 (lv_at hl 5 rfl) ?_
        refine lv_istore_n (lv' := [(2, .int v4), (3, .int q3.1), (5, .int q3.1), (0, .ref (o + 0)), (1, .int w1), (4, .int v4)]) hx hb dX10_worstGap_60 rfl hl (by decide) rfl (fun ls hl => ?_)
        refine lv_iinc (v := (v4 + 1)) (lv' := [(4, .int (v4 + 1)), (2, .int v4), (3, .int q3.1), (5, .int q3.1), (0, .ref (o + 0)), (1, .int w1)]) hx hb dX10_worstGap_61 hl (k := 5) rfl rfl (by decide) rfl (fun ls hl => ?_)
        refine lv_goto (tgt := 20) hx hb dX10_worstGap_64 (by decide) ?_
        exact ih v4 q3.1 (v4 + 1) q3.2 hf _ _ _ hS (lv_sub hl [4, 5, 1, 2, 0] rfl)
set_option maxHeartbeats 4000000 in
set_option maxRecDepth 100000 in
theorem c_X10_worstGap (p0 : Int32) (σ : gS) (q : Int32 × gS) (hf : f_X10_worstGap p0 σ = some q) : Met l yX10_worstGap (gW yX10_worstGap cX10_worstGap 6 (some .int)) rmX10_worstGap (gPc G (entX G o) o 302 [.ref (o + 0), .int p0] σ) (gQi G (entX G o) o 302 q) 0 0 (gA o 302) := by
  refine g_met (by decide) ⟨rfl, rfl⟩ (fun p e s m args below meth c ls K hS hl => ?_) (Nat.le_of_ble_eq_true rfl)
  have K : gK p s m args meth c G cX10_worstGap 6 RX10 (some .int) := K
  have hl : lv_has ls 6 [(0, .ref (o + 0)), (1, .int p0)] := hl
  obtain ⟨hx, hb, hml, hown, hts, -⟩ := id K
  unfold f_X10_worstGap at hf
  refine lv_iload_n hx hb dX10_worstGap_0 rfl (lv_at hl 1 rfl) ?_
  refine lv_if_eq (tgt := 12) hx hb dX10_worstGap_1 (by decide) (fun c1 => ?_) (fun c1 => ?_)
  · have hf := gIf_t c1 hf
    refine lv_bipush (v := (-6)) hx hb dX10_worstGap_12 (by decide) ?_
    refine lv_istore_n (lv' := [(2, .int (-6)), (0, .ref (o + 0)), (1, .int p0)]) hx hb dX10_worstGap_14 rfl hl (by decide) rfl (fun ls hl => ?_)
    refine lv_iconst (v := 0) hx hb dX10_worstGap_15 (by decide) ?_
    refine lv_istore_n (lv' := [(3, .int 0), (2, .int (-6)), (0, .ref (o + 0)), (1, .int p0)]) hx hb dX10_worstGap_16 rfl hl (by decide) rfl (fun ls hl => ?_)
    refine lv_iconst (v := 0) hx hb dX10_worstGap_17 (by decide) ?_
    refine lv_istore (lv' := [(4, .int 0), (3, .int 0), (2, .int (-6)), (0, .ref (o + 0)), (1, .int p0)]) hx hb dX10_worstGap_18 hl (by decide) rfl (fun ls hl => ?_)
    refine w_X10_worstGap_L20 p0 _ K ?_ gFu (-6) 0 0 σ hf _ _ _ hS (lv_sub hl [3, 4, 2, 1, 0] rfl)
    · intro k5 k6 s7 hf H locs ls hS hl
      refine lv_iload_n hx hb dX10_worstGap_67 rfl (lv_at hl 2 rfl) ?_
      refine lv_if_ne (tgt := 74) hx hb dX10_worstGap_68 (by decide) (fun c8 => ?_) (fun c8 => ?_)
      · have hf := gIf_f c8 hf
        refine lv_iload_n hx hb dX10_worstGap_74 rfl (lv_at hl 0 rfl) ?_
        refine lv_if_ne (tgt := 82) hx hb dX10_worstGap_75 (by decide) (fun c9 => ?_) (fun c9 => ?_)
        · have hf := gIf_f c9 hf
          refine lv_iload_n hx hb dX10_worstGap_82 rfl (lv_at hl 2 rfl) ?_
          exact g_iret K hS hf dX10_worstGap_83
        · have hf := gIf_t c9 hf
          refine lv_iload_n hx hb dX10_worstGap_78 rfl (lv_at hl 1 rfl) ?_
          refine lv_goto (tgt := 83) hx hb dX10_worstGap_79 (by decide) ?_
          exact g_iret K hS hf dX10_worstGap_83
      · have hf := gIf_t c8 hf
        refine lv_bipush (v := (-6)) hx hb dX10_worstGap_71 (by decide) ?_
        exact g_iret K hS hf dX10_worstGap_73
  · have hf := gIf_f c1 hf
    refine lv_iload_n hx hb dX10_worstGap_4 rfl (lv_at hl 1 rfl) ?_
    refine lv_iconst (v := 1) hx hb dX10_worstGap_5 (by decide) ?_
    refine lv_icmp_eq (tgt := 12) hx hb dX10_worstGap_6 (by decide) (fun c10 => ?_) (fun c10 => ?_)
    · have hf := gIf_t c10 hf
      refine lv_bipush (v := (-6)) hx hb dX10_worstGap_12 (by decide) ?_
      refine lv_istore_n (lv' := [(2, .int (-6)), (0, .ref (o + 0)), (1, .int p0)]) hx hb dX10_worstGap_14 rfl hl (by decide) rfl (fun ls hl => ?_)
      refine lv_iconst (v := 0) hx hb dX10_worstGap_15 (by decide) ?_
      refine lv_istore_n (lv' := [(3, .int 0), (2, .int (-6)), (0, .ref (o + 0)), (1, .int p0)]) hx hb dX10_worstGap_16 rfl hl (by decide) rfl (fun ls hl => ?_)
      refine lv_iconst (v := 0) hx hb dX10_worstGap_17 (by decide) ?_
      refine lv_istore (lv' := [(4, .int 0), (3, .int 0), (2, .int (-6)), (0, .ref (o + 0)), (1, .int p0)]) hx hb dX10_worstGap_18 hl (by decide) rfl (fun ls hl => ?_)
      refine w_X10_worstGap_L20 p0 _ K ?_ gFu (-6) 0 0 σ hf _ _ _ hS (lv_sub hl [3, 4, 2, 1, 0] rfl)
      · intro k11 k12 s13 hf H locs ls hS hl
        refine lv_iload_n hx hb dX10_worstGap_67 rfl (lv_at hl 2 rfl) ?_
        refine lv_if_ne (tgt := 74) hx hb dX10_worstGap_68 (by decide) (fun c14 => ?_) (fun c14 => ?_)
        · have hf := gIf_f c14 hf
          refine lv_iload_n hx hb dX10_worstGap_74 rfl (lv_at hl 0 rfl) ?_
          refine lv_if_ne (tgt := 82) hx hb dX10_worstGap_75 (by decide) (fun c15 => ?_) (fun c15 => ?_)
          · have hf := gIf_f c15 hf
            refine lv_iload_n hx hb dX10_worstGap_82 rfl (lv_at hl 2 rfl) ?_
            exact g_iret K hS hf dX10_worstGap_83
          · have hf := gIf_t c15 hf
            refine lv_iload_n hx hb dX10_worstGap_78 rfl (lv_at hl 1 rfl) ?_
            refine lv_goto (tgt := 83) hx hb dX10_worstGap_79 (by decide) ?_
            exact g_iret K hS hf dX10_worstGap_83
        · have hf := gIf_t c14 hf
          refine lv_bipush (v := (-6)) hx hb dX10_worstGap_71 (by decide) ?_
          exact g_iret K hS hf dX10_worstGap_73
    · have hf := gIf_f c10 hf
      refine lv_bipush (v := (-2)) hx hb dX10_worstGap_9 (by decide) ?_
      exact g_iret K hS hf dX10_worstGap_11
end
