section
variable {p : Program} {l : Launch} {e : Env} {s : State} {m : MethodId} {args : Array Value} {below : List Frame} {meth : Method} {c : Code} {G : gG} {o : Nat}
abbrev rmX11_in : Room := { frames := 0, cells := 0, slots := 0, locals := 0 }
def f_X11_in (p0 : Int32) (p1 : Int32) (p2 : Int32) (σ : gS) : Option (Int32 × gS) := if p0 < p1 then (some (0, σ)) else (if p2 < p0 then (some (0, σ)) else (some (1, σ)))
set_option maxHeartbeats 4000000 in
set_option maxRecDepth 100000 in
theorem c_X11_in (p0 : Int32) (p1 : Int32) (p2 : Int32) (σ : gS) (q : Int32 × gS) (hf : f_X11_in p0 p1 p2 σ = some q) : Met l yX11_in (gW yX11_in cX11_in 3 (some .boolean)) rmX11_in (gPc G (entM G o) o 9 [.int p0, .int p1, .int p2] σ) (gQi G (entM G o) o 9 q) 0 0 (gA o 9) := by
  refine g_met (by decide) ⟨rfl, rfl⟩ (fun p e s m args below meth c ls K hS hl => ?_) (Nat.le_of_ble_eq_true rfl)
  have K : gK p s m args meth c G cX11_in 3 RX11 (some .boolean) := K
  have hl : lv_has ls 3 [(0, .int p0), (1, .int p1), (2, .int p2)] := hl
  obtain ⟨hx, hb, hml, hown, hts, -⟩ := id K
  unfold f_X11_in at hf
  refine lv_iload_n hx hb dX11_in_0 rfl (lv_at hl 0 rfl) ?_
  refine lv_iload_n hx hb dX11_in_1 rfl (lv_at hl 1 rfl) ?_
  refine lv_icmp_lt (tgt := 14) hx hb dX11_in_2 (by decide) (fun c1 => ?_) (fun c1 => ?_)
  · have hf := gIf_t c1 hf
    refine lv_iconst (v := 0) hx hb dX11_in_14 (by decide) ?_
    exact g_zret K hS rfl hf dX11_in_15
  · have hf := gIf_f c1 hf
    refine lv_iload_n hx hb dX11_in_5 rfl (lv_at hl 0 rfl) ?_
    refine lv_iload_n hx hb dX11_in_6 rfl (lv_at hl 2 rfl) ?_
    refine lv_icmp_gt (tgt := 14) hx hb dX11_in_7 (by decide) (fun c2 => ?_) (fun c2 => ?_)
    · have hf := gIf_t c2 hf
      refine lv_iconst (v := 0) hx hb dX11_in_14 (by decide) ?_
      exact g_zret K hS rfl hf dX11_in_15
    · have hf := gIf_f c2 hf
      refine lv_iconst (v := 1) hx hb dX11_in_10 (by decide) ?_
      refine lv_goto (tgt := 15) hx hb dX11_in_11 (by decide) ?_
      exact g_zret K hS rfl hf dX11_in_15
abbrev rmX11_isRoom : Room := { frames := 1, cells := 0, slots := 0, locals := 22 }
def f_X11_isRoom (p0 : Int32) (σ : gS) : Option (Int32 × gS) := Option.bind (f_X11_in p0 0 9 σ) (fun q1 => gGd (gbo q1.1) (some (q1.1, q1.2)))
set_option maxHeartbeats 4000000 in
set_option maxRecDepth 100000 in
theorem c_X11_isRoom (p0 : Int32) (σ : gS) (q : Int32 × gS) (hf : f_X11_isRoom p0 σ = some q) : Met l yX11_isRoom (gW yX11_isRoom cX11_isRoom 1 (some .boolean)) rmX11_isRoom (gPc G (entM G o) o 9 [.int p0] σ) (gQi G (entM G o) o 9 q) 0 0 (gA o 9) := by
  refine g_met (by decide) ⟨rfl, rfl⟩ (fun p e s m args below meth c ls K hS hl => ?_) (Nat.le_of_ble_eq_true rfl)
  have K : gK p s m args meth c G cX11_isRoom 1 RX11 (some .boolean) := K
  have hl : lv_has ls 1 [(0, .int p0)] := hl
  obtain ⟨hx, hb, hml, hown, hts, -⟩ := id K
  unfold f_X11_isRoom at hf
  refine lv_iload_n hx hb dX11_isRoom_0 rfl (lv_at hl 0 rfl) ?_
  refine lv_iconst (v := 0) hx hb dX11_isRoom_1 (by decide) ?_
  refine lv_bipush (v := 9) hx hb dX11_isRoom_2 (by decide) ?_
  obtain ⟨q1, hq1, hf⟩ := Option.bind_eq_some_iff.mp hf
  refine g_Si (As := [.int p0, .int 0, .int 9]) K hS lS_X11_36 (c_X11_in p0 0 9 σ q1 hq1) rfl rfl (Nat.le_of_ble_eq_true rfl) ⟨⟨Nat.le_of_ble_eq_true rfl, Nat.le_of_ble_eq_true rfl⟩, rfl, rfl⟩ hl.1 ⟨Nat.zero_le _, Nat.zero_le _⟩ dX11_isRoom_4 (fun H locs hS => ?_)
  obtain ⟨h2, hf⟩ := gGd_some hf
  exact g_zret K hS (gbo_nar h2) hf dX11_isRoom_7
abbrev rmX11_isGhost : Room := { frames := 1, cells := 0, slots := 0, locals := 22 }
def f_X11_isGhost (p0 : Int32) (σ : gS) : Option (Int32 × gS) := Option.bind (f_X11_in p0 0 3 σ) (fun q1 => gGd (gbo q1.1) (some (q1.1, q1.2)))
set_option maxHeartbeats 4000000 in
set_option maxRecDepth 100000 in
theorem c_X11_isGhost (p0 : Int32) (σ : gS) (q : Int32 × gS) (hf : f_X11_isGhost p0 σ = some q) : Met l yX11_isGhost (gW yX11_isGhost cX11_isGhost 1 (some .boolean)) rmX11_isGhost (gPc G (entM G o) o 9 [.int p0] σ) (gQi G (entM G o) o 9 q) 0 0 (gA o 9) := by
  refine g_met (by decide) ⟨rfl, rfl⟩ (fun p e s m args below meth c ls K hS hl => ?_) (Nat.le_of_ble_eq_true rfl)
  have K : gK p s m args meth c G cX11_isGhost 1 RX11 (some .boolean) := K
  have hl : lv_has ls 1 [(0, .int p0)] := hl
  obtain ⟨hx, hb, hml, hown, hts, -⟩ := id K
  unfold f_X11_isGhost at hf
  refine lv_iload_n hx hb dX11_isGhost_0 rfl (lv_at hl 0 rfl) ?_
  refine lv_iconst (v := 0) hx hb dX11_isGhost_1 (by decide) ?_
  refine lv_iconst (v := 3) hx hb dX11_isGhost_2 (by decide) ?_
  obtain ⟨q1, hq1, hf⟩ := Option.bind_eq_some_iff.mp hf
  refine g_Si (As := [.int p0, .int 0, .int 3]) K hS lS_X11_36 (c_X11_in p0 0 3 σ q1 hq1) rfl rfl (Nat.le_of_ble_eq_true rfl) ⟨⟨Nat.le_of_ble_eq_true rfl, Nat.le_of_ble_eq_true rfl⟩, rfl, rfl⟩ hl.1 ⟨Nat.zero_le _, Nat.zero_le _⟩ dX11_isGhost_3 (fun H locs hS => ?_)
  obtain ⟨h2, hf⟩ := gGd_some hf
  exact g_zret K hS (gbo_nar h2) hf dX11_isGhost_6
abbrev rmX11_isBoard : Room := { frames := 0, cells := 0, slots := 0, locals := 0 }
def f_X11_isBoard (p0 : Int32) (σ : gS) : Option (Int32 × gS) := if p0 < 0 then (some (0, σ)) else (if (σ 1 4) ≤ p0 then (some (0, σ)) else (some (1, σ)))
set_option maxHeartbeats 4000000 in
set_option maxRecDepth 100000 in
theorem c_X11_isBoard (p0 : Int32) (σ : gS) (q : Int32 × gS) (hf : f_X11_isBoard p0 σ = some q) : Met l yX11_isBoard (gW yX11_isBoard cX11_isBoard 2 (some .boolean)) rmX11_isBoard (gPc G (entM G o) o 9 [.ref (o + 0), .int p0] σ) (gQi G (entM G o) o 9 q) 0 0 (gA o 9) := by
  refine g_met (by decide) ⟨rfl, rfl⟩ (fun p e s m args below meth c ls K hS hl => ?_) (Nat.le_of_ble_eq_true rfl)
  have K : gK p s m args meth c G cX11_isBoard 2 RX11 (some .boolean) := K
  have hl : lv_has ls 2 [(0, .ref (o + 0)), (1, .int p0)] := hl
  obtain ⟨hx, hb, hml, hown, hts, -⟩ := id K
  unfold f_X11_isBoard at hf
  refine lv_iload_n hx hb dX11_isBoard_0 rfl (lv_at hl 1 rfl) ?_
  refine lv_if_lt (tgt := 18) hx hb dX11_isBoard_1 (by decide) (fun c1 => ?_) (fun c1 => ?_)
  · have hf := gIf_t c1 hf
    refine lv_iconst (v := 0) hx hb dX11_isBoard_18 (by decide) ?_
    exact g_zret K hS rfl hf dX11_isBoard_19
  · have hf := gIf_f c1 hf
    refine lv_iload_n hx hb dX11_isBoard_4 rfl (lv_at hl 1 rfl) ?_
    refine lv_aload_n hx hb dX11_isBoard_5 rfl (lv_at hl 0 rfl) ?_
    refine g_get (cx := 0) K hS lF_X11_7 ((eM_0 G o) _) (by decide) rfl dX11_isBoard_6 ?_
    refine lv_iconst (v := 4) hx hb dX11_isBoard_9 (by decide) ?_
    refine g_iald (cx := 1) (j := 4) K hS (eM_1 G o) (by decide) (by decide) (by decide) dX11_isBoard_10 ?_
    refine lv_icmp_ge (tgt := 18) hx hb dX11_isBoard_11 (by decide) (fun c2 => ?_) (fun c2 => ?_)
    · have hf := gIf_t c2 hf
      refine lv_iconst (v := 0) hx hb dX11_isBoard_18 (by decide) ?_
      exact g_zret K hS rfl hf dX11_isBoard_19
    · have hf := gIf_f c2 hf
      refine lv_iconst (v := 1) hx hb dX11_isBoard_14 (by decide) ?_
      refine lv_goto (tgt := 19) hx hb dX11_isBoard_15 (by decide) ?_
      exact g_zret K hS rfl hf dX11_isBoard_19
abbrev rmX11_isSleeper : Room := { frames := 0, cells := 0, slots := 0, locals := 0 }
def f_X11_isSleeper (p0 : Int32) (σ : gS) : Option (Int32 × gS) := if p0 < 0 then (some (0, σ)) else (if (σ 1 5) ≤ p0 then (some (0, σ)) else (some (1, σ)))
set_option maxHeartbeats 4000000 in
set_option maxRecDepth 100000 in
theorem c_X11_isSleeper (p0 : Int32) (σ : gS) (q : Int32 × gS) (hf : f_X11_isSleeper p0 σ = some q) : Met l yX11_isSleeper (gW yX11_isSleeper cX11_isSleeper 2 (some .boolean)) rmX11_isSleeper (gPc G (entM G o) o 9 [.ref (o + 0), .int p0] σ) (gQi G (entM G o) o 9 q) 0 0 (gA o 9) := by
  refine g_met (by decide) ⟨rfl, rfl⟩ (fun p e s m args below meth c ls K hS hl => ?_) (Nat.le_of_ble_eq_true rfl)
  have K : gK p s m args meth c G cX11_isSleeper 2 RX11 (some .boolean) := K
  have hl : lv_has ls 2 [(0, .ref (o + 0)), (1, .int p0)] := hl
  obtain ⟨hx, hb, hml, hown, hts, -⟩ := id K
  unfold f_X11_isSleeper at hf
  refine lv_iload_n hx hb dX11_isSleeper_0 rfl (lv_at hl 1 rfl) ?_
  refine lv_if_lt (tgt := 18) hx hb dX11_isSleeper_1 (by decide) (fun c1 => ?_) (fun c1 => ?_)
  · have hf := gIf_t c1 hf
    refine lv_iconst (v := 0) hx hb dX11_isSleeper_18 (by decide) ?_
    exact g_zret K hS rfl hf dX11_isSleeper_19
  · have hf := gIf_f c1 hf
    refine lv_iload_n hx hb dX11_isSleeper_4 rfl (lv_at hl 1 rfl) ?_
    refine lv_aload_n hx hb dX11_isSleeper_5 rfl (lv_at hl 0 rfl) ?_
    refine g_get (cx := 0) K hS lF_X11_7 ((eM_0 G o) _) (by decide) rfl dX11_isSleeper_6 ?_
    refine lv_iconst (v := 5) hx hb dX11_isSleeper_9 (by decide) ?_
    refine g_iald (cx := 1) (j := 5) K hS (eM_1 G o) (by decide) (by decide) (by decide) dX11_isSleeper_10 ?_
    refine lv_icmp_ge (tgt := 18) hx hb dX11_isSleeper_11 (by decide) (fun c2 => ?_) (fun c2 => ?_)
    · have hf := gIf_t c2 hf
      refine lv_iconst (v := 0) hx hb dX11_isSleeper_18 (by decide) ?_
      exact g_zret K hS rfl hf dX11_isSleeper_19
    · have hf := gIf_f c2 hf
      refine lv_iconst (v := 1) hx hb dX11_isSleeper_14 (by decide) ?_
      refine lv_goto (tgt := 19) hx hb dX11_isSleeper_15 (by decide) ?_
      exact g_zret K hS rfl hf dX11_isSleeper_19
abbrev rmX11_ofBoard : Room := { frames := 0, cells := 0, slots := 0, locals := 0 }
def f_X11_ofBoard (p0 : Int32) (p1 : Int32) (σ : gS) : Option (Int32 × gS) := gGd (gin ((6 + (5 * p0)) + p1) 138) (some ((σ 1 (gil ((6 + (5 * p0)) + p1))), σ))
set_option maxHeartbeats 4000000 in
set_option maxRecDepth 100000 in
theorem c_X11_ofBoard (p0 : Int32) (p1 : Int32) (σ : gS) (q : Int32 × gS) (hf : f_X11_ofBoard p0 p1 σ = some q) : Met l yX11_ofBoard (gW yX11_ofBoard cX11_ofBoard 3 (some .int)) rmX11_ofBoard (gPc G (entM G o) o 9 [.ref (o + 0), .int p0, .int p1] σ) (gQi G (entM G o) o 9 q) 0 0 (gA o 9) := by
  refine g_met (by decide) ⟨rfl, rfl⟩ (fun p e s m args below meth c ls K hS hl => ?_) (Nat.le_of_ble_eq_true rfl)
  have K : gK p s m args meth c G cX11_ofBoard 3 RX11 (some .int) := K
  have hl : lv_has ls 3 [(0, .ref (o + 0)), (1, .int p0), (2, .int p1)] := hl
  obtain ⟨hx, hb, hml, hown, hts, -⟩ := id K
  unfold f_X11_ofBoard at hf
  refine lv_aload_n hx hb dX11_ofBoard_0 rfl (lv_at hl 0 rfl) ?_
  refine g_get (cx := 0) K hS lF_X11_7 ((eM_0 G o) _) (by decide) rfl dX11_ofBoard_1 ?_
  refine lv_bipush (v := 6) hx hb dX11_ofBoard_4 (by decide) ?_
  refine lv_iconst (v := 5) hx hb dX11_ofBoard_6 (by decide) ?_
  refine lv_iload_n hx hb dX11_ofBoard_7 rfl (lv_at hl 1 rfl) ?_
  refine lv_imul hx hb dX11_ofBoard_8 ?_
  refine lv_iadd hx hb dX11_ofBoard_9 ?_
  refine lv_iload_n hx hb dX11_ofBoard_10 rfl (lv_at hl 2 rfl) ?_
  refine lv_iadd hx hb dX11_ofBoard_11 ?_
  obtain ⟨h1, hf⟩ := gGd_some hf
  refine g_iald (cx := 1) K hS (eM_1 G o) (by decide) h1 rfl dX11_ofBoard_12 ?_
  exact g_iret K hS hf dX11_ofBoard_13
abbrev rmX11_ofGhost : Room := { frames := 0, cells := 0, slots := 0, locals := 0 }
def f_X11_ofGhost (p0 : Int32) (p1 : Int32) (σ : gS) : Option (Int32 × gS) := gGd (gin ((106 + (3 * p0)) + p1) 138) (some ((σ 1 (gil ((106 + (3 * p0)) + p1))), σ))
set_option maxHeartbeats 4000000 in
set_option maxRecDepth 100000 in
theorem c_X11_ofGhost (p0 : Int32) (p1 : Int32) (σ : gS) (q : Int32 × gS) (hf : f_X11_ofGhost p0 p1 σ = some q) : Met l yX11_ofGhost (gW yX11_ofGhost cX11_ofGhost 3 (some .int)) rmX11_ofGhost (gPc G (entM G o) o 9 [.ref (o + 0), .int p0, .int p1] σ) (gQi G (entM G o) o 9 q) 0 0 (gA o 9) := by
  refine g_met (by decide) ⟨rfl, rfl⟩ (fun p e s m args below meth c ls K hS hl => ?_) (Nat.le_of_ble_eq_true rfl)
  have K : gK p s m args meth c G cX11_ofGhost 3 RX11 (some .int) := K
  have hl : lv_has ls 3 [(0, .ref (o + 0)), (1, .int p0), (2, .int p1)] := hl
  obtain ⟨hx, hb, hml, hown, hts, -⟩ := id K
  unfold f_X11_ofGhost at hf
  refine lv_aload_n hx hb dX11_ofGhost_0 rfl (lv_at hl 0 rfl) ?_
  refine g_get (cx := 0) K hS lF_X11_7 ((eM_0 G o) _) (by decide) rfl dX11_ofGhost_1 ?_
  refine lv_bipush (v := 106) hx hb dX11_ofGhost_4 (by decide) ?_
  refine lv_iconst (v := 3) hx hb dX11_ofGhost_6 (by decide) ?_
  refine lv_iload_n hx hb dX11_ofGhost_7 rfl (lv_at hl 1 rfl) ?_
  refine lv_imul hx hb dX11_ofGhost_8 ?_
  refine lv_iadd hx hb dX11_ofGhost_9 ?_
  refine lv_iload_n hx hb dX11_ofGhost_10 rfl (lv_at hl 2 rfl) ?_
  refine lv_iadd hx hb dX11_ofGhost_11 ?_
  obtain ⟨h1, hf⟩ := gGd_some hf
  refine g_iald (cx := 1) K hS (eM_1 G o) (by decide) h1 rfl dX11_ofGhost_12 ?_
  exact g_iret K hS hf dX11_ofGhost_13
abbrev rmX11_ofSleeper : Room := { frames := 0, cells := 0, slots := 0, locals := 0 }
def f_X11_ofSleeper (p0 : Int32) (p1 : Int32) (σ : gS) : Option (Int32 × gS) := gGd (gin ((118 + (4 * p0)) + p1) 138) (some ((σ 1 (gil ((118 + (4 * p0)) + p1))), σ))
set_option maxHeartbeats 4000000 in
set_option maxRecDepth 100000 in
theorem c_X11_ofSleeper (p0 : Int32) (p1 : Int32) (σ : gS) (q : Int32 × gS) (hf : f_X11_ofSleeper p0 p1 σ = some q) : Met l yX11_ofSleeper (gW yX11_ofSleeper cX11_ofSleeper 3 (some .int)) rmX11_ofSleeper (gPc G (entM G o) o 9 [.ref (o + 0), .int p0, .int p1] σ) (gQi G (entM G o) o 9 q) 0 0 (gA o 9) := by
  refine g_met (by decide) ⟨rfl, rfl⟩ (fun p e s m args below meth c ls K hS hl => ?_) (Nat.le_of_ble_eq_true rfl)
  have K : gK p s m args meth c G cX11_ofSleeper 3 RX11 (some .int) := K
  have hl : lv_has ls 3 [(0, .ref (o + 0)), (1, .int p0), (2, .int p1)] := hl
  obtain ⟨hx, hb, hml, hown, hts, -⟩ := id K
  unfold f_X11_ofSleeper at hf
  refine lv_aload_n hx hb dX11_ofSleeper_0 rfl (lv_at hl 0 rfl) ?_
  refine g_get (cx := 0) K hS lF_X11_7 ((eM_0 G o) _) (by decide) rfl dX11_ofSleeper_1 ?_
  refine lv_bipush (v := 118) hx hb dX11_ofSleeper_4 (by decide) ?_
  refine lv_iconst (v := 4) hx hb dX11_ofSleeper_6 (by decide) ?_
  refine lv_iload_n hx hb dX11_ofSleeper_7 rfl (lv_at hl 1 rfl) ?_
  refine lv_imul hx hb dX11_ofSleeper_8 ?_
  refine lv_iadd hx hb dX11_ofSleeper_9 ?_
  refine lv_iload_n hx hb dX11_ofSleeper_10 rfl (lv_at hl 2 rfl) ?_
  refine lv_iadd hx hb dX11_ofSleeper_11 ?_
  obtain ⟨h1, hf⟩ := gGd_some hf
  refine g_iald (cx := 1) K hS (eM_1 G o) (by decide) h1 rfl dX11_ofSleeper_12 ?_
  exact g_iret K hS hf dX11_ofSleeper_13
abbrev rmX11_roomOf : Room := { frames := 1, cells := 0, slots := 0, locals := 22 }
def f_X11_roomOf (p0 : Int32) (σ : gS) : Option (Int32 × gS) := Option.bind (f_X11_ofGhost p0 0 σ) (fun q1 => some (q1.1, q1.2))
set_option maxHeartbeats 4000000 in
set_option maxRecDepth 100000 in
theorem c_X11_roomOf (p0 : Int32) (σ : gS) (q : Int32 × gS) (hf : f_X11_roomOf p0 σ = some q) : Met l yX11_roomOf (gW yX11_roomOf cX11_roomOf 2 (some .int)) rmX11_roomOf (gPc G (entM G o) o 9 [.ref (o + 0), .int p0] σ) (gQi G (entM G o) o 9 q) 0 0 (gA o 9) := by
  refine g_met (by decide) ⟨rfl, rfl⟩ (fun p e s m args below meth c ls K hS hl => ?_) (Nat.le_of_ble_eq_true rfl)
  have K : gK p s m args meth c G cX11_roomOf 2 RX11 (some .int) := K
  have hl : lv_has ls 2 [(0, .ref (o + 0)), (1, .int p0)] := hl
  obtain ⟨hx, hb, hml, hown, hts, -⟩ := id K
  unfold f_X11_roomOf at hf
  refine lv_aload_n hx hb dX11_roomOf_0 rfl (lv_at hl 0 rfl) ?_
  refine lv_iload_n hx hb dX11_roomOf_1 rfl (lv_at hl 1 rfl) ?_
  refine lv_iconst (v := 0) hx hb dX11_roomOf_2 (by decide) ?_
  obtain ⟨q1, hq1, hf⟩ := Option.bind_eq_some_iff.mp hf
  refine g_Vi (cx := 0) (As := [.int p0, .int 0]) K hS lV_X11_40 (c_X11_ofGhost p0 0 σ q1 hq1) ((eM_0 G o) _) (by decide) rfl rfl rfl (Nat.le_of_ble_eq_true rfl) ⟨⟨Nat.le_of_ble_eq_true rfl, Nat.le_of_ble_eq_true rfl⟩, rfl, rfl⟩ hl.1 ⟨Nat.zero_le _, Nat.zero_le _⟩ dX11_roomOf_3 (fun H locs hS => ?_)
  exact g_iret K hS hf dX11_roomOf_6
abbrev rmX11_hasCrossed : Room := { frames := 1, cells := 0, slots := 0, locals := 22 }
def f_X11_hasCrossed (p0 : Int32) (p1 : Int32) (σ : gS) : Option (Int32 × gS) := Option.bind (f_X11_ofGhost p0 1 σ) (fun q1 => if ((q1.1 >>> (p1 &&& 31)) &&& 1) = 1 then (some (1, q1.2)) else (some (0, q1.2)))
set_option maxHeartbeats 4000000 in
set_option maxRecDepth 100000 in
theorem c_X11_hasCrossed (p0 : Int32) (p1 : Int32) (σ : gS) (q : Int32 × gS) (hf : f_X11_hasCrossed p0 p1 σ = some q) : Met l yX11_hasCrossed (gW yX11_hasCrossed cX11_hasCrossed 3 (some .boolean)) rmX11_hasCrossed (gPc G (entM G o) o 9 [.ref (o + 0), .int p0, .int p1] σ) (gQi G (entM G o) o 9 q) 0 0 (gA o 9) := by
  refine g_met (by decide) ⟨rfl, rfl⟩ (fun p e s m args below meth c ls K hS hl => ?_) (Nat.le_of_ble_eq_true rfl)
  have K : gK p s m args meth c G cX11_hasCrossed 3 RX11 (some .boolean) := K
  have hl : lv_has ls 3 [(0, .ref (o + 0)), (1, .int p0), (2, .int p1)] := hl
  obtain ⟨hx, hb, hml, hown, hts, -⟩ := id K
  unfold f_X11_hasCrossed at hf
  refine lv_aload_n hx hb dX11_hasCrossed_0 rfl (lv_at hl 0 rfl) ?_
  refine lv_iload_n hx hb dX11_hasCrossed_1 rfl (lv_at hl 1 rfl) ?_
  refine lv_iconst (v := 1) hx hb dX11_hasCrossed_2 (by decide) ?_
  obtain ⟨q1, hq1, hf⟩ := Option.bind_eq_some_iff.mp hf
  refine g_Vi (cx := 0) (As := [.int p0, .int 1]) K hS lV_X11_40 (c_X11_ofGhost p0 1 σ q1 hq1) ((eM_0 G o) _) (by decide) rfl rfl rfl (Nat.le_of_ble_eq_true rfl) ⟨⟨Nat.le_of_ble_eq_true rfl, Nat.le_of_ble_eq_true rfl⟩, rfl, rfl⟩ hl.1 ⟨Nat.zero_le _, Nat.zero_le _⟩ dX11_hasCrossed_3 (fun H locs hS => ?_)
  refine lv_iload_n hx hb dX11_hasCrossed_6 rfl (lv_at hl 2 rfl) ?_
  refine lv_ishr hx hb dX11_hasCrossed_7 ?_
  refine lv_iconst (v := 1) hx hb dX11_hasCrossed_8 (by decide) ?_
  refine lv_iand hx hb dX11_hasCrossed_9 ?_
  refine lv_iconst (v := 1) hx hb dX11_hasCrossed_10 (by decide) ?_
  refine lv_icmp_ne (tgt := 18) hx hb dX11_hasCrossed_11 (by decide) (fun c2 => ?_) (fun c2 => ?_)
  · have hf := gIf_f c2 hf
    refine lv_iconst (v := 0) hx hb dX11_hasCrossed_18 (by decide) ?_
    exact g_zret K hS rfl hf dX11_hasCrossed_19
  · have hf := gIf_t c2 hf
    refine lv_iconst (v := 1) hx hb dX11_hasCrossed_14 (by decide) ?_
    refine lv_goto (tgt := 19) hx hb dX11_hasCrossed_15 (by decide) ?_
    exact g_zret K hS rfl hf dX11_hasCrossed_19
abbrev rmX11_record : Room := { frames := 0, cells := 0, slots := 0, locals := 0 }
def f_X11_record_L52 (K86 : gS → Option (gS)) : Nat → Int32 → gS → Option (gS)
  | 0, _, _ => none
  | n + 1, v1, σ => if 138 ≤ v1 then (K86 σ) else (gGd (gin v1 138) (gGd (gin (((σ 0 2) * 138) + v1) 828) (gLet (up2 σ 2 (gil (((σ 0 2) * 138) + v1)) (σ 1 (gil v1))) (fun s4 => f_X11_record_L52 K86 n (v1 + 1) s4))))
theorem f_X11_record_L52_s (K86 : gS → Option (gS)) (n : Nat) (v1 : Int32) (σ : gS) : f_X11_record_L52 K86 (n + 1) v1 σ = (if 138 ≤ v1 then (K86 σ) else (gGd (gin v1 138) (gGd (gin (((σ 0 2) * 138) + v1) 828) (gLet (up2 σ 2 (gil (((σ 0 2) * 138) + v1)) (σ 1 (gil v1))) (fun s4 => f_X11_record_L52 K86 n (v1 + 1) s4))))) := rfl
def f_X11_record_L11 (K40 : gS → Option (gS)) : Nat → Int32 → gS → Option (gS)
  | 0, _, _ => none
  | n + 1, v1, σ => if 690 ≤ v1 then (K40 σ) else (gGd (gin (v1 + 138) 828) (gGd (gin v1 828) (gLet (up2 σ 2 (gil v1) (σ 2 (gil (v1 + 138)))) (fun s11 => f_X11_record_L11 K40 n (v1 + 1) s11))))
theorem f_X11_record_L11_s (K40 : gS → Option (gS)) (n : Nat) (v1 : Int32) (σ : gS) : f_X11_record_L11 K40 (n + 1) v1 σ = (if 690 ≤ v1 then (K40 σ) else (gGd (gin (v1 + 138) 828) (gGd (gin v1 828) (gLet (up2 σ 2 (gil v1) (σ 2 (gil (v1 + 138)))) (fun s11 => f_X11_record_L11 K40 n (v1 + 1) s11))))) := rfl
def f_X11_record (σ : gS) : Option (gS) := if (σ 0 2) = 6 then (f_X11_record_L11 (fun (s13 : gS) => gLet (up2 s13 0 2 ((s13 0 2) - 1)) (fun s14 => f_X11_record_L52 (fun (s16 : gS) => gLet (up2 s16 0 2 ((s16 0 2) + 1)) (fun s17 => some s17)) gFu 0 s14)) gFu 0 σ) else (f_X11_record_L52 (fun (s6 : gS) => gLet (up2 s6 0 2 ((s6 0 2) + 1)) (fun s7 => some s7)) gFu 0 σ)
set_option maxHeartbeats 4000000 in
set_option maxRecDepth 100000 in
theorem w_X11_record_L52 (K86 : gS → Option (gS)) {q : gS} (K : gK p s m args meth c G cX11_record 2 RX11 none) (hK86 : ∀ (σ : gS), K86 σ = some q → ∀ (H : Heap) (locs : List Loc) (ls : Array Slot), gSt G (entM G o) o 9 s σ H locs → lv_has ls 2 [(0, .ref (o + 0))] → W p l e rmX11_record s m args below meth c H locs 0 0 (MQ below (gQv G (entM G o) o 9 q) args s 0 0 (gA o 9)) (F0 m 86 ls [])) : ∀ (n : Nat) (v1 : Int32) (σ : gS), f_X11_record_L52 K86 n v1 σ = some q → ∀ (H : Heap) (locs : List Loc) (ls : Array Slot), gSt G (entM G o) o 9 s σ H locs → lv_has ls 2 [(0, .ref (o + 0)), (1, .int v1)] → W p l e rmX11_record s m args below meth c H locs 0 0 (MQ below (gQv G (entM G o) o 9 q) args s 0 0 (gA o 9)) (F0 m 52 ls []) := by
  obtain ⟨hx, hb, hml, hown, hts, -⟩ := id K
  intro n
  induction n with
  | zero =>
    intro v1 σ hf
    exact absurd (show (none : Option _) = some q from hf) (by simp)
  | succ n ih =>
    intro v1 σ hf H locs ls hS hl
    rw [f_X11_record_L52_s] at hf
    refine lv_iload_n hx hb dX11_record_52 rfl (lv_at hl 1 rfl) ?_
    refine lv_sipush (v := 138) hx hb dX11_record_53 (by decide) ?_
    refine lv_icmp_ge (tgt := 86) hx hb dX11_record_56 (by decide) (fun c2 => ?_) (fun c2 => ?_)
    · have hf := gIf_t c2 hf
      exact hK86 σ hf _ _ _ hS (lv_sub hl [0] rfl)
    · have hf := gIf_f c2 hf
      refine lv_aload_n hx hb dX11_record_59 rfl (lv_at hl 0 rfl) ?_
      refine g_get (cx := 0) K hS lF_X11_13 ((eM_0 G o) _) (by decide) rfl dX11_record_60 ?_
      refine lv_aload_n hx hb dX11_record_63 rfl (lv_at hl 0 rfl) ?_
      refine g_get (cx := 0) K hS lF_X11_44 ((eM_0 G o) _) (by decide) rfl dX11_record_64 ?_
      refine lv_sipush (v := 138) hx hb dX11_record_67 (by decide) ?_
      refine lv_imul hx hb dX11_record_70 ?_
      refine lv_iload_n hx hb dX11_record_71 rfl (lv_at hl 1 rfl) ?_
      refine lv_iadd hx hb dX11_record_72 ?_
      refine lv_aload_n hx hb dX11_record_73 rfl (lv_at hl 0 rfl) ?_
      refine g_get (cx := 0) K hS lF_X11_7 ((eM_0 G o) _) (by decide) rfl dX11_record_74 ?_
      refine lv_iload_n hx hb dX11_record_77 rfl (lv_at hl 1 rfl) ?_
      obtain ⟨h3, hf⟩ := gGd_some hf
      refine g_iald (cx := 1) K hS (eM_1 G o) (by decide) h3 rfl dX11_record_78 ?_
      obtain ⟨h5, hf⟩ := gGd_some hf
      obtain ⟨s4, hs4, hf⟩ := gLet_some hf
      refine g_iast (cx := 2) K hS (eM_2 G o) (by decide) h5 rfl dX11_record_79 (fun H locs hS => ?_)
      rw [← hs4] at hS
      refine lv_iinc (v := (v1 + 1)) (lv' := [(1, .int (v1 + 1)), (0, .ref (o + 0))]) hx hb dX11_record_80 hl (k := 1) rfl rfl (by decide) rfl (fun ls hl => ?_)
      refine lv_goto (tgt := 52) hx hb dX11_record_83 (by decide) ?_
      exact ih (v1 + 1) s4 hf _ _ _ hS (lv_sub hl [1, 0] rfl)
set_option maxHeartbeats 4000000 in
set_option maxRecDepth 100000 in
theorem w_X11_record_L11 (K40 : gS → Option (gS)) {q : gS} (K : gK p s m args meth c G cX11_record 2 RX11 none) (hK40 : ∀ (σ : gS), K40 σ = some q → ∀ (H : Heap) (locs : List Loc) (ls : Array Slot), gSt G (entM G o) o 9 s σ H locs → lv_has ls 2 [(0, .ref (o + 0))] → W p l e rmX11_record s m args below meth c H locs 0 0 (MQ below (gQv G (entM G o) o 9 q) args s 0 0 (gA o 9)) (F0 m 40 ls [])) : ∀ (n : Nat) (v1 : Int32) (σ : gS), f_X11_record_L11 K40 n v1 σ = some q → ∀ (H : Heap) (locs : List Loc) (ls : Array Slot), gSt G (entM G o) o 9 s σ H locs → lv_has ls 2 [(0, .ref (o + 0)), (1, .int v1)] → W p l e rmX11_record s m args below meth c H locs 0 0 (MQ below (gQv G (entM G o) o 9 q) args s 0 0 (gA o 9)) (F0 m 11 ls []) := by
  obtain ⟨hx, hb, hml, hown, hts, -⟩ := id K
  intro n
  induction n with
  | zero =>
    intro v1 σ hf
    exact absurd (show (none : Option _) = some q from hf) (by simp)
  | succ n ih =>
    intro v1 σ hf H locs ls hS hl
    rw [f_X11_record_L11_s] at hf
    refine lv_iload_n hx hb dX11_record_11 rfl (lv_at hl 1 rfl) ?_
    refine lv_sipush (v := 690) hx hb dX11_record_12 (by decide) ?_
    refine lv_icmp_ge (tgt := 40) hx hb dX11_record_15 (by decide) (fun c9 => ?_) (fun c9 => ?_)
    · have hf := gIf_t c9 hf
      exact hK40 σ hf _ _ _ hS (lv_sub hl [0] rfl)
    · have hf := gIf_f c9 hf
      refine lv_aload_n hx hb dX11_record_18 rfl (lv_at hl 0 rfl) ?_
      refine g_get (cx := 0) K hS lF_X11_13 ((eM_0 G o) _) (by decide) rfl dX11_record_19 ?_
      refine lv_iload_n hx hb dX11_record_22 rfl (lv_at hl 1 rfl) ?_
      refine lv_aload_n hx hb dX11_record_23 rfl (lv_at hl 0 rfl) ?_
      refine g_get (cx := 0) K hS lF_X11_13 ((eM_0 G o) _) (by decide) rfl dX11_record_24 ?_
      refine lv_iload_n hx hb dX11_record_27 rfl (lv_at hl 1 rfl) ?_
      refine lv_sipush (v := 138) hx hb dX11_record_28 (by decide) ?_
      refine lv_iadd hx hb dX11_record_31 ?_
      obtain ⟨h10, hf⟩ := gGd_some hf
      refine g_iald (cx := 2) K hS (eM_2 G o) (by decide) h10 rfl dX11_record_32 ?_
      obtain ⟨h12, hf⟩ := gGd_some hf
      obtain ⟨s11, hs11, hf⟩ := gLet_some hf
      refine g_iast (cx := 2) K hS (eM_2 G o) (by decide) h12 rfl dX11_record_33 (fun H locs hS => ?_)
      rw [← hs11] at hS
      refine lv_iinc (v := (v1 + 1)) (lv' := [(1, .int (v1 + 1)), (0, .ref (o + 0))]) hx hb dX11_record_34 hl (k := 1) rfl rfl (by decide) rfl (fun ls hl => ?_)
      refine lv_goto (tgt := 11) hx hb dX11_record_37 (by decide) ?_
      exact ih (v1 + 1) s11 hf _ _ _ hS (lv_sub hl [1, 0] rfl)
set_option maxHeartbeats 4000000 in
set_option maxRecDepth 100000 in
theorem c_X11_record (σ : gS) (q : gS) (hf : f_X11_record σ = some q) : Met l yX11_record (gW yX11_record cX11_record 2 none) rmX11_record (gPc G (entM G o) o 9 [.ref (o + 0)] σ) (gQv G (entM G o) o 9 q) 0 0 (gA o 9) := by
  refine g_met (by decide) ⟨rfl, rfl⟩ (fun p e s m args below meth c ls K hS hl => ?_) (Nat.le_of_ble_eq_true rfl)
  have K : gK p s m args meth c G cX11_record 2 RX11 none := K
  have hl : lv_has ls 2 [(0, .ref (o + 0))] := hl
  obtain ⟨hx, hb, hml, hown, hts, -⟩ := id K
  unfold f_X11_record at hf
  refine lv_aload_n hx hb dX11_record_0 rfl (lv_at hl 0 rfl) ?_
  refine g_get (cx := 0) K hS lF_X11_44 ((eM_0 G o) _) (by decide) rfl dX11_record_1 ?_
  refine lv_bipush (v := 6) hx hb dX11_record_4 (by decide) ?_
  refine lv_icmp_ne (tgt := 50) hx hb dX11_record_6 (by decide) (fun c1 => ?_) (fun c1 => ?_)
  · have hf := gIf_f c1 hf
    refine lv_iconst (v := 0) hx hb dX11_record_50 (by decide) ?_
    refine lv_istore_n (lv' := [(1, .int 0), (0, .ref (o + 0))]) hx hb dX11_record_51 rfl hl (by decide) rfl (fun ls hl => ?_)
    refine w_X11_record_L52 _ K ?_ gFu 0 σ hf _ _ _ hS (lv_sub hl [1, 0] rfl)
    · intro  s6 hf H locs ls hS hl
      refine lv_aload_n hx hb dX11_record_86 rfl (lv_at hl 0 rfl) ?_
      refine lv_dup hx hb dX11_record_87 rfl ?_
      refine g_get (cx := 0) K hS lF_X11_44 ((eM_0 G o) _) (by decide) rfl dX11_record_88 ?_
      refine lv_iconst (v := 1) hx hb dX11_record_91 (by decide) ?_
      refine lv_iadd hx hb dX11_record_92 ?_
      obtain ⟨s7, hs7, hf⟩ := gLet_some hf
      refine g_put (cx := 0) K hS lP_X11_44 (eM_0 G o) (by decide) rfl (Nat.le_of_ble_eq_true rfl) rfl rfl dX11_record_93 (fun H locs hS => ?_)
      rw [← hs7] at hS
      exact g_vret K hS hf dX11_record_96
  · have hf := gIf_t c1 hf
    refine lv_iconst (v := 0) hx hb dX11_record_9 (by decide) ?_
    refine lv_istore_n (lv' := [(1, .int 0), (0, .ref (o + 0))]) hx hb dX11_record_10 rfl hl (by decide) rfl (fun ls hl => ?_)
    refine w_X11_record_L11 _ K ?_ gFu 0 σ hf _ _ _ hS (lv_sub hl [1, 0] rfl)
    · intro  s13 hf H locs ls hS hl
      refine lv_aload_n hx hb dX11_record_40 rfl (lv_at hl 0 rfl) ?_
      refine lv_dup hx hb dX11_record_41 rfl ?_
      refine g_get (cx := 0) K hS lF_X11_44 ((eM_0 G o) _) (by decide) rfl dX11_record_42 ?_
      refine lv_iconst (v := 1) hx hb dX11_record_45 (by decide) ?_
      refine lv_isub hx hb dX11_record_46 ?_
      obtain ⟨s14, hs14, hf⟩ := gLet_some hf
      refine g_put (cx := 0) K hS lP_X11_44 (eM_0 G o) (by decide) rfl (Nat.le_of_ble_eq_true rfl) rfl rfl dX11_record_47 (fun H locs hS => ?_)
      rw [← hs14] at hS
      refine lv_iconst (v := 0) hx hb dX11_record_50 (by decide) ?_
      refine lv_istore_n (lv' := [(1, .int 0), (0, .ref (o + 0))]) hx hb dX11_record_51 rfl hl (by decide) rfl (fun ls hl => ?_)
      refine w_X11_record_L52 _ K ?_ gFu 0 s14 hf _ _ _ hS (lv_sub hl [1, 0] rfl)
      · intro  s16 hf H locs ls hS hl
        refine lv_aload_n hx hb dX11_record_86 rfl (lv_at hl 0 rfl) ?_
        refine lv_dup hx hb dX11_record_87 rfl ?_
        refine g_get (cx := 0) K hS lF_X11_44 ((eM_0 G o) _) (by decide) rfl dX11_record_88 ?_
        refine lv_iconst (v := 1) hx hb dX11_record_91 (by decide) ?_
        refine lv_iadd hx hb dX11_record_92 ?_
        obtain ⟨s17, hs17, hf⟩ := gLet_some hf
        refine g_put (cx := 0) K hS lP_X11_44 (eM_0 G o) (by decide) rfl (Nat.le_of_ble_eq_true rfl) rfl rfl dX11_record_93 (fun H locs hS => ?_)
        rw [← hs17] at hS
        exact g_vret K hS hf dX11_record_96
abbrev rmX11_undo : Room := { frames := 0, cells := 0, slots := 0, locals := 0 }
def f_X11_undo_L22 : Nat → Int32 → gS → Option (Int32 × gS)
  | 0, _, _ => none
  | n + 1, v1, σ => if 138 ≤ v1 then (some ((σ 0 2), σ)) else (gGd (gin (((σ 0 2) * 138) + v1) 828) (gGd (gin v1 138) (gLet (up2 σ 1 (gil v1) (σ 2 (gil (((σ 0 2) * 138) + v1)))) (fun s6 => f_X11_undo_L22 n (v1 + 1) s6))))
theorem f_X11_undo_L22_s (n : Nat) (v1 : Int32) (σ : gS) : f_X11_undo_L22 (n + 1) v1 σ = (if 138 ≤ v1 then (some ((σ 0 2), σ)) else (gGd (gin (((σ 0 2) * 138) + v1) 828) (gGd (gin v1 138) (gLet (up2 σ 1 (gil v1) (σ 2 (gil (((σ 0 2) * 138) + v1)))) (fun s6 => f_X11_undo_L22 n (v1 + 1) s6))))) := rfl
def f_X11_undo (σ : gS) : Option (Int32 × gS) := if (σ 0 2) = 0 then (some ((-5), σ)) else (gLet (up2 σ 0 2 ((σ 0 2) - 1)) (fun s2 => f_X11_undo_L22 gFu 0 s2))
set_option maxHeartbeats 4000000 in
set_option maxRecDepth 100000 in
theorem w_X11_undo_L22 {q : Int32 × gS} (K : gK p s m args meth c G cX11_undo 2 RX11 (some .int)) : ∀ (n : Nat) (v1 : Int32) (σ : gS), f_X11_undo_L22 n v1 σ = some q → ∀ (H : Heap) (locs : List Loc) (ls : Array Slot), gSt G (entM G o) o 9 s σ H locs → lv_has ls 2 [(0, .ref (o + 0)), (1, .int v1)] → W p l e rmX11_undo s m args below meth c H locs 0 0 (MQ below (gQi G (entM G o) o 9 q) args s 0 0 (gA o 9)) (F0 m 22 ls []) := by
  obtain ⟨hx, hb, hml, hown, hts, -⟩ := id K
  intro n
  induction n with
  | zero =>
    intro v1 σ hf
    exact absurd (show (none : Option _) = some q from hf) (by simp)
  | succ n ih =>
    intro v1 σ hf H locs ls hS hl
    rw [f_X11_undo_L22_s] at hf
    refine lv_iload_n hx hb dX11_undo_22 rfl (lv_at hl 1 rfl) ?_
    refine lv_sipush (v := 138) hx hb dX11_undo_23 (by decide) ?_
    refine lv_icmp_ge (tgt := 56) hx hb dX11_undo_26 (by decide) (fun c4 => ?_) (fun c4 => ?_)
    · have hf := gIf_t c4 hf
      refine lv_aload_n hx hb dX11_undo_56 rfl (lv_at hl 0 rfl) ?_
      refine g_get (cx := 0) K hS lF_X11_44 ((eM_0 G o) _) (by decide) rfl dX11_undo_57 ?_
      exact g_iret K hS hf dX11_undo_60
    · have hf := gIf_f c4 hf
      refine lv_aload_n hx hb dX11_undo_29 rfl (lv_at hl 0 rfl) ?_
      refine g_get (cx := 0) K hS lF_X11_7 ((eM_0 G o) _) (by decide) rfl dX11_undo_30 ?_
      refine lv_iload_n hx hb dX11_undo_33 rfl (lv_at hl 1 rfl) ?_
      refine lv_aload_n hx hb dX11_undo_34 rfl (lv_at hl 0 rfl) ?_
      refine g_get (cx := 0) K hS lF_X11_13 ((eM_0 G o) _) (by decide) rfl dX11_undo_35 ?_
      refine lv_aload_n hx hb dX11_undo_38 rfl (lv_at hl 0 rfl) ?_
      refine g_get (cx := 0) K hS lF_X11_44 ((eM_0 G o) _) (by decide) rfl dX11_undo_39 ?_
      refine lv_sipush (v := 138) hx hb dX11_undo_42 (by decide) ?_
      refine lv_imul hx hb dX11_undo_45 ?_
      refine lv_iload_n hx hb dX11_undo_46 rfl (lv_at hl 1 rfl) ?_
      refine lv_iadd hx hb dX11_undo_47 ?_
      obtain ⟨h5, hf⟩ := gGd_some hf
      refine g_iald (cx := 2) K hS (eM_2 G o) (by decide) h5 rfl dX11_undo_48 ?_
      obtain ⟨h7, hf⟩ := gGd_some hf
      obtain ⟨s6, hs6, hf⟩ := gLet_some hf
      refine g_iast (cx := 1) K hS (eM_1 G o) (by decide) h7 rfl dX11_undo_49 (fun H locs hS => ?_)
      rw [← hs6] at hS
      refine lv_iinc (v := (v1 + 1)) (lv' := [(1, .int (v1 + 1)), (0, .ref (o + 0))]) hx hb dX11_undo_50 hl (k := 1) rfl rfl (by decide) rfl (fun ls hl => ?_)
      refine lv_goto (tgt := 22) hx hb dX11_undo_53 (by decide) ?_
      exact ih (v1 + 1) s6 hf _ _ _ hS (lv_sub hl [1, 0] rfl)
set_option maxHeartbeats 4000000 in
set_option maxRecDepth 100000 in
theorem c_X11_undo (σ : gS) (q : Int32 × gS) (hf : f_X11_undo σ = some q) : Met l yX11_undo (gW yX11_undo cX11_undo 2 (some .int)) rmX11_undo (gPc G (entM G o) o 9 [.ref (o + 0)] σ) (gQi G (entM G o) o 9 q) 0 0 (gA o 9) := by
  refine g_met (by decide) ⟨rfl, rfl⟩ (fun p e s m args below meth c ls K hS hl => ?_) (Nat.le_of_ble_eq_true rfl)
  have K : gK p s m args meth c G cX11_undo 2 RX11 (some .int) := K
  have hl : lv_has ls 2 [(0, .ref (o + 0))] := hl
  obtain ⟨hx, hb, hml, hown, hts, -⟩ := id K
  unfold f_X11_undo at hf
  refine lv_aload_n hx hb dX11_undo_0 rfl (lv_at hl 0 rfl) ?_
  refine g_get (cx := 0) K hS lF_X11_44 ((eM_0 G o) _) (by decide) rfl dX11_undo_1 ?_
  refine lv_if_ne (tgt := 10) hx hb dX11_undo_4 (by decide) (fun c1 => ?_) (fun c1 => ?_)
  · have hf := gIf_f c1 hf
    refine lv_aload_n hx hb dX11_undo_10 rfl (lv_at hl 0 rfl) ?_
    refine lv_dup hx hb dX11_undo_11 rfl ?_
    refine g_get (cx := 0) K hS lF_X11_44 ((eM_0 G o) _) (by decide) rfl dX11_undo_12 ?_
    refine lv_iconst (v := 1) hx hb dX11_undo_15 (by decide) ?_
    refine lv_isub hx hb dX11_undo_16 ?_
    obtain ⟨s2, hs2, hf⟩ := gLet_some hf
    refine g_put (cx := 0) K hS lP_X11_44 (eM_0 G o) (by decide) rfl (Nat.le_of_ble_eq_true rfl) rfl rfl dX11_undo_17 (fun H locs hS => ?_)
    rw [← hs2] at hS
    refine lv_iconst (v := 0) hx hb dX11_undo_20 (by decide) ?_
    refine lv_istore_n (lv' := [(1, .int 0), (0, .ref (o + 0))]) hx hb dX11_undo_21 rfl hl (by decide) rfl (fun ls hl => ?_)
    refine w_X11_undo_L22 K gFu 0 s2 hf _ _ _ hS (lv_sub hl [1, 0] rfl)
  · have hf := gIf_t c1 hf
    refine lv_bipush (v := (-5)) hx hb dX11_undo_7 (by decide) ?_
    exact g_iret K hS hf dX11_undo_9
abbrev rmX11_save : Room := { frames := 1, cells := 0, slots := 0, locals := 22 }
def f_X11_save_L21 (w1 : Int32) (K52 : gS → Option (Int32 × gS)) : Nat → Int32 → gS → Option (Int32 × gS)
  | 0, _, _ => none
  | n + 1, v2, σ => if 138 ≤ v2 then (K52 σ) else (gGd (gin v2 138) (gGd (gin ((w1 * 138) + v2) 276) (gLet (up2 σ 3 (gil ((w1 * 138) + v2)) (σ 1 (gil v2))) (fun s6 => f_X11_save_L21 w1 K52 n (v2 + 1) s6))))
theorem f_X11_save_L21_s (w1 : Int32) (K52 : gS → Option (Int32 × gS)) (n : Nat) (v2 : Int32) (σ : gS) : f_X11_save_L21 w1 K52 (n + 1) v2 σ = (if 138 ≤ v2 then (K52 σ) else (gGd (gin v2 138) (gGd (gin ((w1 * 138) + v2) 276) (gLet (up2 σ 3 (gil ((w1 * 138) + v2)) (σ 1 (gil v2))) (fun s6 => f_X11_save_L21 w1 K52 n (v2 + 1) s6))))) := rfl
def f_X11_save (p0 : Int32) (σ : gS) : Option (Int32 × gS) := Option.bind (f_X11_in p0 0 1 σ) (fun q1 => if q1.1 = 0 then (some ((-2), q1.2)) else (gGd (gin p0 2) (gLet (up2 q1.2 4 (gil p0) (vp_nar .boolean 1)) (fun s3 => f_X11_save_L21 p0 (fun (s8 : gS) => some ((s8 1 4), s8)) gFu 0 s3))))
set_option maxHeartbeats 4000000 in
set_option maxRecDepth 100000 in
theorem w_X11_save_L21 (w1 : Int32) (K52 : gS → Option (Int32 × gS)) {q : Int32 × gS} (K : gK p s m args meth c G cX11_save 3 RX11 (some .int)) (hK52 : ∀ (σ : gS), K52 σ = some q → ∀ (H : Heap) (locs : List Loc) (ls : Array Slot), gSt G (entM G o) o 9 s σ H locs → lv_has ls 3 [(0, .ref (o + 0))] → W p l e rmX11_save s m args below meth c H locs 0 0 (MQ below (gQi G (entM G o) o 9 q) args s 0 0 (gA o 9)) (F0 m 52 ls [])) : ∀ (n : Nat) (v2 : Int32) (σ : gS), f_X11_save_L21 w1 K52 n v2 σ = some q → ∀ (H : Heap) (locs : List Loc) (ls : Array Slot), gSt G (entM G o) o 9 s σ H locs → lv_has ls 3 [(0, .ref (o + 0)), (1, .int w1), (2, .int v2)] → W p l e rmX11_save s m args below meth c H locs 0 0 (MQ below (gQi G (entM G o) o 9 q) args s 0 0 (gA o 9)) (F0 m 21 ls []) := by
  obtain ⟨hx, hb, hml, hown, hts, -⟩ := id K
  intro n
  induction n with
  | zero =>
    intro v2 σ hf
    exact absurd (show (none : Option _) = some q from hf) (by simp)
  | succ n ih =>
    intro v2 σ hf H locs ls hS hl
    rw [f_X11_save_L21_s] at hf
    refine lv_iload_n hx hb dX11_save_21 rfl (lv_at hl 2 rfl) ?_
    refine lv_sipush (v := 138) hx hb dX11_save_22 (by decide) ?_
    refine lv_icmp_ge (tgt := 52) hx hb dX11_save_25 (by decide) (fun c4 => ?_) (fun c4 => ?_)
    · have hf := gIf_t c4 hf
      exact hK52 σ hf _ _ _ hS (lv_sub hl [0] rfl)
    · have hf := gIf_f c4 hf
      refine lv_aload_n hx hb dX11_save_28 rfl (lv_at hl 0 rfl) ?_
      refine g_get (cx := 0) K hS lF_X11_16 ((eM_0 G o) _) (by decide) rfl dX11_save_29 ?_
      refine lv_iload_n hx hb dX11_save_32 rfl (lv_at hl 1 rfl) ?_
      refine lv_sipush (v := 138) hx hb dX11_save_33 (by decide) ?_
      refine lv_imul hx hb dX11_save_36 ?_
      refine lv_iload_n hx hb dX11_save_37 rfl (lv_at hl 2 rfl) ?_
      refine lv_iadd hx hb dX11_save_38 ?_
      refine lv_aload_n hx hb dX11_save_39 rfl (lv_at hl 0 rfl) ?_
      refine g_get (cx := 0) K hS lF_X11_7 ((eM_0 G o) _) (by decide) rfl dX11_save_40 ?_
      refine lv_iload_n hx hb dX11_save_43 rfl (lv_at hl 2 rfl) ?_
      obtain ⟨h5, hf⟩ := gGd_some hf
      refine g_iald (cx := 1) K hS (eM_1 G o) (by decide) h5 rfl dX11_save_44 ?_
      obtain ⟨h7, hf⟩ := gGd_some hf
      obtain ⟨s6, hs6, hf⟩ := gLet_some hf
      refine g_iast (cx := 3) K hS (eM_3 G o) (by decide) h7 rfl dX11_save_45 (fun H locs hS => ?_)
      rw [← hs6] at hS
      refine lv_iinc (v := (v2 + 1)) (lv' := [(2, .int (v2 + 1)), (0, .ref (o + 0)), (1, .int w1)]) hx hb dX11_save_46 hl (k := 2) rfl rfl (by decide) rfl (fun ls hl => ?_)
      refine lv_goto (tgt := 21) hx hb dX11_save_49 (by decide) ?_
      exact ih (v2 + 1) s6 hf _ _ _ hS (lv_sub hl [1, 2, 0] rfl)
set_option maxHeartbeats 4000000 in
set_option maxRecDepth 100000 in
theorem c_X11_save (p0 : Int32) (σ : gS) (q : Int32 × gS) (hf : f_X11_save p0 σ = some q) : Met l yX11_save (gW yX11_save cX11_save 3 (some .int)) rmX11_save (gPc G (entM G o) o 9 [.ref (o + 0), .int p0] σ) (gQi G (entM G o) o 9 q) 0 0 (gA o 9) := by
  refine g_met (by decide) ⟨rfl, rfl⟩ (fun p e s m args below meth c ls K hS hl => ?_) (Nat.le_of_ble_eq_true rfl)
  have K : gK p s m args meth c G cX11_save 3 RX11 (some .int) := K
  have hl : lv_has ls 3 [(0, .ref (o + 0)), (1, .int p0)] := hl
  obtain ⟨hx, hb, hml, hown, hts, -⟩ := id K
  unfold f_X11_save at hf
  refine lv_iload_n hx hb dX11_save_0 rfl (lv_at hl 1 rfl) ?_
  refine lv_iconst (v := 0) hx hb dX11_save_1 (by decide) ?_
  refine lv_iconst (v := 1) hx hb dX11_save_2 (by decide) ?_
  obtain ⟨q1, hq1, hf⟩ := Option.bind_eq_some_iff.mp hf
  refine g_Si (As := [.int p0, .int 0, .int 1]) K hS lS_X11_36 (c_X11_in p0 0 1 σ q1 hq1) rfl rfl (Nat.le_of_ble_eq_true rfl) ⟨⟨Nat.le_of_ble_eq_true rfl, Nat.le_of_ble_eq_true rfl⟩, rfl, rfl⟩ hl.1 ⟨Nat.zero_le _, Nat.zero_le _⟩ dX11_save_3 (fun H locs hS => ?_)
  refine lv_if_ne (tgt := 12) hx hb dX11_save_6 (by decide) (fun c2 => ?_) (fun c2 => ?_)
  · have hf := gIf_f c2 hf
    refine lv_aload_n hx hb dX11_save_12 rfl (lv_at hl 0 rfl) ?_
    refine g_get (cx := 0) K hS lF_X11_19 ((eM_0 G o) _) (by decide) rfl dX11_save_13 ?_
    refine lv_iload_n hx hb dX11_save_16 rfl (lv_at hl 1 rfl) ?_
    refine lv_iconst (v := 1) hx hb dX11_save_17 (by decide) ?_
    obtain ⟨h9, hf⟩ := gGd_some hf
    obtain ⟨s3, hs3, hf⟩ := gLet_some hf
    refine g_zast (cx := 4) K hS (eM_4 G o) (by decide) h9 rfl dX11_save_18 (fun H locs hS => ?_)
    rw [← hs3] at hS
    refine lv_iconst (v := 0) hx hb dX11_save_19 (by decide) ?_
    refine lv_istore_n (lv' := [(2, .int 0), (0, .ref (o + 0)), (1, .int p0)]) hx hb dX11_save_20 rfl hl (by decide) rfl (fun ls hl => ?_)
    refine w_X11_save_L21 p0 _ K ?_ gFu 0 s3 hf _ _ _ hS (lv_sub hl [1, 2, 0] rfl)
    · intro  s8 hf H locs ls hS hl
      refine lv_aload_n hx hb dX11_save_52 rfl (lv_at hl 0 rfl) ?_
      refine g_get (cx := 0) K hS lF_X11_7 ((eM_0 G o) _) (by decide) rfl dX11_save_53 ?_
      refine lv_iconst (v := 4) hx hb dX11_save_56 (by decide) ?_
      refine g_iald (cx := 1) (j := 4) K hS (eM_1 G o) (by decide) (by decide) (by decide) dX11_save_57 ?_
      exact g_iret K hS hf dX11_save_58
  · have hf := gIf_t c2 hf
    refine lv_bipush (v := (-2)) hx hb dX11_save_9 (by decide) ?_
    exact g_iret K hS hf dX11_save_11
abbrev rmX11_restore : Room := { frames := 1, cells := 0, slots := 0, locals := 22 }
def f_X11_restore_L30 (w1 : Int32) (K61 : gS → Option (Int32 × gS)) : Nat → Int32 → gS → Option (Int32 × gS)
  | 0, _, _ => none
  | n + 1, v2, σ => if 138 ≤ v2 then (K61 σ) else (gGd (gin ((w1 * 138) + v2) 276) (gGd (gin v2 138) (gLet (up2 σ 1 (gil v2) (σ 3 (gil ((w1 * 138) + v2)))) (fun s8 => f_X11_restore_L30 w1 K61 n (v2 + 1) s8))))
theorem f_X11_restore_L30_s (w1 : Int32) (K61 : gS → Option (Int32 × gS)) (n : Nat) (v2 : Int32) (σ : gS) : f_X11_restore_L30 w1 K61 (n + 1) v2 σ = (if 138 ≤ v2 then (K61 σ) else (gGd (gin ((w1 * 138) + v2) 276) (gGd (gin v2 138) (gLet (up2 σ 1 (gil v2) (σ 3 (gil ((w1 * 138) + v2)))) (fun s8 => f_X11_restore_L30 w1 K61 n (v2 + 1) s8))))) := rfl
def f_X11_restore (p0 : Int32) (σ : gS) : Option (Int32 × gS) := Option.bind (f_X11_in p0 0 1 σ) (fun q1 => if q1.1 = 0 then (some ((-2), q1.2)) else (gGd (gin p0 2) (if (q1.2 4 (gil p0)) = 0 then (some ((-5), q1.2)) else (Option.bind (f_X11_record q1.2) (fun q5 => f_X11_restore_L30 p0 (fun (s10 : gS) => some ((s10 1 4), s10)) gFu 0 q5)))))
set_option maxHeartbeats 4000000 in
set_option maxRecDepth 100000 in
theorem w_X11_restore_L30 (w1 : Int32) (K61 : gS → Option (Int32 × gS)) {q : Int32 × gS} (K : gK p s m args meth c G cX11_restore 3 RX11 (some .int)) (hK61 : ∀ (σ : gS), K61 σ = some q → ∀ (H : Heap) (locs : List Loc) (ls : Array Slot), gSt G (entM G o) o 9 s σ H locs → lv_has ls 3 [(0, .ref (o + 0))] → W p l e rmX11_restore s m args below meth c H locs 0 0 (MQ below (gQi G (entM G o) o 9 q) args s 0 0 (gA o 9)) (F0 m 61 ls [])) : ∀ (n : Nat) (v2 : Int32) (σ : gS), f_X11_restore_L30 w1 K61 n v2 σ = some q → ∀ (H : Heap) (locs : List Loc) (ls : Array Slot), gSt G (entM G o) o 9 s σ H locs → lv_has ls 3 [(0, .ref (o + 0)), (1, .int w1), (2, .int v2)] → W p l e rmX11_restore s m args below meth c H locs 0 0 (MQ below (gQi G (entM G o) o 9 q) args s 0 0 (gA o 9)) (F0 m 30 ls []) := by
  obtain ⟨hx, hb, hml, hown, hts, -⟩ := id K
  intro n
  induction n with
  | zero =>
    intro v2 σ hf
    exact absurd (show (none : Option _) = some q from hf) (by simp)
  | succ n ih =>
    intro v2 σ hf H locs ls hS hl
    rw [f_X11_restore_L30_s] at hf
    refine lv_iload_n hx hb dX11_restore_30 rfl (lv_at hl 2 rfl) ?_
    refine lv_sipush (v := 138) hx hb dX11_restore_31 (by decide) ?_
    refine lv_icmp_ge (tgt := 61) hx hb dX11_restore_34 (by decide) (fun c6 => ?_) (fun c6 => ?_)
    · have hf := gIf_t c6 hf
      exact hK61 σ hf _ _ _ hS (lv_sub hl [0] rfl)
    · have hf := gIf_f c6 hf
      refine lv_aload_n hx hb dX11_restore_37 rfl (lv_at hl 0 rfl) ?_
      refine g_get (cx := 0) K hS lF_X11_7 ((eM_0 G o) _) (by decide) rfl dX11_restore_38 ?_
      refine lv_iload_n hx hb dX11_restore_41 rfl (lv_at hl 2 rfl) ?_
      refine lv_aload_n hx hb dX11_restore_42 rfl (lv_at hl 0 rfl) ?_
      refine g_get (cx := 0) K hS lF_X11_16 ((eM_0 G o) _) (by decide) rfl dX11_restore_43 ?_
      refine lv_iload_n hx hb dX11_restore_46 rfl (lv_at hl 1 rfl) ?_
      refine lv_sipush (v := 138) hx hb dX11_restore_47 (by decide) ?_
      refine lv_imul hx hb dX11_restore_50 ?_
      refine lv_iload_n hx hb dX11_restore_51 rfl (lv_at hl 2 rfl) ?_
      refine lv_iadd hx hb dX11_restore_52 ?_
      obtain ⟨h7, hf⟩ := gGd_some hf
      refine g_iald (cx := 3) K hS (eM_3 G o) (by decide) h7 rfl dX11_restore_53 ?_
      obtain ⟨h9, hf⟩ := gGd_some hf
      obtain ⟨s8, hs8, hf⟩ := gLet_some hf
      refine g_iast (cx := 1) K hS (eM_1 G o) (by decide) h9 rfl dX11_restore_54 (fun H locs hS => ?_)
      rw [← hs8] at hS
      refine lv_iinc (v := (v2 + 1)) (lv' := [(2, .int (v2 + 1)), (0, .ref (o + 0)), (1, .int w1)]) hx hb dX11_restore_55 hl (k := 2) rfl rfl (by decide) rfl (fun ls hl => ?_)
      refine lv_goto (tgt := 30) hx hb dX11_restore_58 (by decide) ?_
      exact ih (v2 + 1) s8 hf _ _ _ hS (lv_sub hl [1, 2, 0] rfl)
set_option maxHeartbeats 4000000 in
set_option maxRecDepth 100000 in
theorem c_X11_restore (p0 : Int32) (σ : gS) (q : Int32 × gS) (hf : f_X11_restore p0 σ = some q) : Met l yX11_restore (gW yX11_restore cX11_restore 3 (some .int)) rmX11_restore (gPc G (entM G o) o 9 [.ref (o + 0), .int p0] σ) (gQi G (entM G o) o 9 q) 0 0 (gA o 9) := by
  refine g_met (by decide) ⟨rfl, rfl⟩ (fun p e s m args below meth c ls K hS hl => ?_) (Nat.le_of_ble_eq_true rfl)
  have K : gK p s m args meth c G cX11_restore 3 RX11 (some .int) := K
  have hl : lv_has ls 3 [(0, .ref (o + 0)), (1, .int p0)] := hl
  obtain ⟨hx, hb, hml, hown, hts, -⟩ := id K
  unfold f_X11_restore at hf
  refine lv_iload_n hx hb dX11_restore_0 rfl (lv_at hl 1 rfl) ?_
  refine lv_iconst (v := 0) hx hb dX11_restore_1 (by decide) ?_
  refine lv_iconst (v := 1) hx hb dX11_restore_2 (by decide) ?_
  obtain ⟨q1, hq1, hf⟩ := Option.bind_eq_some_iff.mp hf
  refine g_Si (As := [.int p0, .int 0, .int 1]) K hS lS_X11_36 (c_X11_in p0 0 1 σ q1 hq1) rfl rfl (Nat.le_of_ble_eq_true rfl) ⟨⟨Nat.le_of_ble_eq_true rfl, Nat.le_of_ble_eq_true rfl⟩, rfl, rfl⟩ hl.1 ⟨Nat.zero_le _, Nat.zero_le _⟩ dX11_restore_3 (fun H locs hS => ?_)
  refine lv_if_ne (tgt := 12) hx hb dX11_restore_6 (by decide) (fun c2 => ?_) (fun c2 => ?_)
  · have hf := gIf_f c2 hf
    refine lv_aload_n hx hb dX11_restore_12 rfl (lv_at hl 0 rfl) ?_
    refine g_get (cx := 0) K hS lF_X11_19 ((eM_0 G o) _) (by decide) rfl dX11_restore_13 ?_
    refine lv_iload_n hx hb dX11_restore_16 rfl (lv_at hl 1 rfl) ?_
    obtain ⟨h3, hf⟩ := gGd_some hf
    refine g_zald (cx := 4) K hS (eM_4 G o) (by decide) h3 rfl dX11_restore_17 ?_
    refine lv_if_ne (tgt := 24) hx hb dX11_restore_18 (by decide) (fun c4 => ?_) (fun c4 => ?_)
    · have hf := gIf_f c4 hf
      refine lv_aload_n hx hb dX11_restore_24 rfl (lv_at hl 0 rfl) ?_
      obtain ⟨q5, hq5, hf⟩ := Option.bind_eq_some_iff.mp hf
      refine g_Vv (cx := 0) (As := []) K hS lV_X11_48 (c_X11_record q1.2 q5 hq5) ((eM_0 G o) _) (by decide) rfl rfl rfl (Nat.le_of_ble_eq_true rfl) ⟨⟨Nat.le_of_ble_eq_true rfl, Nat.le_of_ble_eq_true rfl⟩, rfl, rfl⟩ hl.1 ⟨Nat.zero_le _, Nat.zero_le _⟩ dX11_restore_25 (fun H locs hS => ?_)
      refine lv_iconst (v := 0) hx hb dX11_restore_28 (by decide) ?_
      refine lv_istore_n (lv' := [(2, .int 0), (0, .ref (o + 0)), (1, .int p0)]) hx hb dX11_restore_29 rfl hl (by decide) rfl (fun ls hl => ?_)
      refine w_X11_restore_L30 p0 _ K ?_ gFu 0 q5 hf _ _ _ hS (lv_sub hl [1, 2, 0] rfl)
      · intro  s10 hf H locs ls hS hl
        refine lv_aload_n hx hb dX11_restore_61 rfl (lv_at hl 0 rfl) ?_
        refine g_get (cx := 0) K hS lF_X11_7 ((eM_0 G o) _) (by decide) rfl dX11_restore_62 ?_
        refine lv_iconst (v := 4) hx hb dX11_restore_65 (by decide) ?_
        refine g_iald (cx := 1) (j := 4) K hS (eM_1 G o) (by decide) (by decide) (by decide) dX11_restore_66 ?_
        exact g_iret K hS hf dX11_restore_67
    · have hf := gIf_t c4 hf
      refine lv_bipush (v := (-5)) hx hb dX11_restore_21 (by decide) ?_
      exact g_iret K hS hf dX11_restore_23
  · have hf := gIf_t c2 hf
    refine lv_bipush (v := (-2)) hx hb dX11_restore_9 (by decide) ?_
    exact g_iret K hS hf dX11_restore_11
abbrev rmX11_set : Room := { frames := 1, cells := 0, slots := 0, locals := 22 }
def f_X11_set (p0 : Int32) (p1 : Int32) (σ : gS) : Option (Int32 × gS) := Option.bind (f_X11_in p0 0 1 σ) (fun q1 => if q1.1 = 0 then (some ((-2), q1.2)) else (gLet (fun (j3 : Int32) (j4 : Int32) (s5 : gS) => gLet (fun (j7 : Int32) (j8 : Int32) (j9 : Int32) (s10 : gS) => Option.bind (f_X11_in j7 j8 j9 s10) (fun q12 => if q12.1 = 0 then (some ((-2), q12.2)) else (Option.bind (f_X11_record q12.2) (fun q14 => gGd (gin p0 138) (gLet (q14 1 (gil p0)) (fun x16 => gGd (gin p0 138) (gLet (up2 q14 1 (gil p0) p1) (fun s17 => some (x16, s17))))))))) (fun J11 => if p0 = 0 then (J11 j3 j4 200 s5) else (J11 j3 j4 60 s5))) (fun J6 => if p0 = 0 then (J6 p1 10 q1.2) else (J6 p1 0 q1.2))))
set_option maxHeartbeats 4000000 in
set_option maxRecDepth 100000 in
theorem c_X11_set (p0 : Int32) (p1 : Int32) (σ : gS) (q : Int32 × gS) (hf : f_X11_set p0 p1 σ = some q) : Met l yX11_set (gW yX11_set cX11_set 4 (some .int)) rmX11_set (gPc G (entM G o) o 9 [.ref (o + 0), .int p0, .int p1] σ) (gQi G (entM G o) o 9 q) 0 0 (gA o 9) := by
  refine g_met (by decide) ⟨rfl, rfl⟩ (fun p e s m args below meth c ls K hS hl => ?_) (Nat.le_of_ble_eq_true rfl)
  have K : gK p s m args meth c G cX11_set 4 RX11 (some .int) := K
  have hl : lv_has ls 4 [(0, .ref (o + 0)), (1, .int p0), (2, .int p1)] := hl
  obtain ⟨hx, hb, hml, hown, hts, -⟩ := id K
  unfold f_X11_set at hf
  refine lv_iload_n hx hb dX11_set_0 rfl (lv_at hl 1 rfl) ?_
  refine lv_iconst (v := 0) hx hb dX11_set_1 (by decide) ?_
  refine lv_iconst (v := 1) hx hb dX11_set_2 (by decide) ?_
  obtain ⟨q1, hq1, hf⟩ := Option.bind_eq_some_iff.mp hf
  refine g_Si (As := [.int p0, .int 0, .int 1]) K hS lS_X11_36 (c_X11_in p0 0 1 σ q1 hq1) rfl rfl (Nat.le_of_ble_eq_true rfl) ⟨⟨Nat.le_of_ble_eq_true rfl, Nat.le_of_ble_eq_true rfl⟩, rfl, rfl⟩ hl.1 ⟨Nat.zero_le _, Nat.zero_le _⟩ dX11_set_3 (fun H locs hS => ?_)
  refine lv_if_eq (tgt := 38) hx hb dX11_set_6 (by decide) (fun c2 => ?_) (fun c2 => ?_)
  · have hf := gIf_t c2 hf
    refine lv_bipush (v := (-2)) hx hb dX11_set_38 (by decide) ?_
    exact g_iret K hS hf dX11_set_40
  · have hf := gIf_f c2 hf
    refine lv_iload_n hx hb dX11_set_9 rfl (lv_at hl 2 rfl) ?_
    refine lv_iload_n hx hb dX11_set_10 rfl (lv_at hl 1 rfl) ?_
    obtain ⟨J6, hJ6, hf⟩ := gLet_some hf
    have wJ6 : ∀ (j3 : Int32) (j4 : Int32) (s5 : gS), J6 j3 j4 s5 = some q → ∀ (H : Heap) (locs : List Loc) (ls : Array Slot), gSt G (entM G o) o 9 s s5 H locs → lv_has ls 4 [(0, .ref (o + 0)), (1, .int p0), (2, .int p1)] → W p l e rmX11_set s m args below meth c H locs 0 0 (MQ below (gQi G (entM G o) o 9 q) args s 0 0 (gA o 9)) (F0 m 20 ls [.int j4, .int j3]) := by
      intro j3 j4 s5 hf H locs ls hS hl
      rw [hJ6] at hf
      refine lv_iload_n hx hb dX11_set_20 rfl (lv_at hl 1 rfl) ?_
      obtain ⟨J11, hJ11, hf⟩ := gLet_some hf
      have wJ11 : ∀ (j7 : Int32) (j8 : Int32) (j9 : Int32) (s10 : gS), J11 j7 j8 j9 s10 = some q → ∀ (H : Heap) (locs : List Loc) (ls : Array Slot), gSt G (entM G o) o 9 s s10 H locs → lv_has ls 4 [(0, .ref (o + 0)), (1, .int p0), (2, .int p1)] → W p l e rmX11_set s m args below meth c H locs 0 0 (MQ below (gQi G (entM G o) o 9 q) args s 0 0 (gA o 9)) (F0 m 32 ls [.int j9, .int j8, .int j7]) := by
        intro j7 j8 j9 s10 hf H locs ls hS hl
        rw [hJ11] at hf
        obtain ⟨q12, hq12, hf⟩ := Option.bind_eq_some_iff.mp hf
        refine g_Si (As := [.int j7, .int j8, .int j9]) K hS lS_X11_36 (c_X11_in j7 j8 j9 s10 q12 hq12) rfl rfl (Nat.le_of_ble_eq_true rfl) ⟨⟨Nat.le_of_ble_eq_true rfl, Nat.le_of_ble_eq_true rfl⟩, rfl, rfl⟩ hl.1 ⟨Nat.zero_le _, Nat.zero_le _⟩ dX11_set_32 (fun H locs hS => ?_)
        refine lv_if_ne (tgt := 41) hx hb dX11_set_35 (by decide) (fun c13 => ?_) (fun c13 => ?_)
        · have hf := gIf_f c13 hf
          refine lv_aload_n hx hb dX11_set_41 rfl (lv_at hl 0 rfl) ?_
          obtain ⟨q14, hq14, hf⟩ := Option.bind_eq_some_iff.mp hf
          refine g_Vv (cx := 0) (As := []) K hS lV_X11_48 (c_X11_record q12.2 q14 hq14) ((eM_0 G o) _) (by decide) rfl rfl rfl (Nat.le_of_ble_eq_true rfl) ⟨⟨Nat.le_of_ble_eq_true rfl, Nat.le_of_ble_eq_true rfl⟩, rfl, rfl⟩ hl.1 ⟨Nat.zero_le _, Nat.zero_le _⟩ dX11_set_42 (fun H locs hS => ?_)
          refine lv_aload_n hx hb dX11_set_45 rfl (lv_at hl 0 rfl) ?_
          refine g_get (cx := 0) K hS lF_X11_7 ((eM_0 G o) _) (by decide) rfl dX11_set_46 ?_
          refine lv_iload_n hx hb dX11_set_49 rfl (lv_at hl 1 rfl) ?_
          obtain ⟨h15, hf⟩ := gGd_some hf
          refine g_iald (cx := 1) K hS (eM_1 G o) (by decide) h15 rfl dX11_set_50 ?_
          obtain ⟨x16, hx16, hf⟩ := gLet_some hf
          refine g_top hx16 ?_
          refine lv_istore_n (lv' := [(3, .int x16), (0, .ref (o + 0)), (1, .int p0), (2, .int p1)]) hx hb dX11_set_51 rfl hl (by decide) rfl (fun ls hl => ?_)
          refine lv_aload_n hx hb dX11_set_52 rfl (lv_at hl 1 rfl) ?_
          refine g_get (cx := 0) K hS lF_X11_7 ((eM_0 G o) _) (by decide) rfl dX11_set_53 ?_
          refine lv_iload_n hx hb dX11_set_56 rfl (lv_at hl 2 rfl) ?_
          refine lv_iload_n hx hb dX11_set_57 rfl (lv_at hl 3 rfl) ?_
          obtain ⟨h18, hf⟩ := gGd_some hf
          obtain ⟨s17, hs17, hf⟩ := gLet_some hf
          refine g_iast (cx := 1) K hS (eM_1 G o) (by decide) h18 rfl dX11_set_58 (fun H locs hS => ?_)
          rw [← hs17] at hS
          refine lv_iload_n hx hb dX11_set_59 rfl (lv_at hl 0 rfl) ?_
          exact g_iret K hS hf dX11_set_60
        · have hf := gIf_t c13 hf
          refine lv_bipush (v := (-2)) hx hb dX11_set_38 (by decide) ?_
          exact g_iret K hS hf dX11_set_40
      clear hJ11
      refine lv_if_ne (tgt := 30) hx hb dX11_set_21 (by decide) (fun c19 => ?_) (fun c19 => ?_)
      · have hf := gIf_f c19 hf
        refine lv_bipush (v := 60) hx hb dX11_set_30 (by decide) ?_
        exact wJ11 j3 j4 60 s5 hf _ _ _ hS (lv_sub hl [0, 1, 2] rfl)
      · have hf := gIf_t c19 hf
        refine lv_sipush (v := 200) hx hb dX11_set_24 (by decide) ?_
        refine lv_goto (tgt := 32) hx hb dX11_set_27 (by decide) ?_
        exact wJ11 j3 j4 200 s5 hf _ _ _ hS (lv_sub hl [0, 1, 2] rfl)
    clear hJ6
    refine lv_if_ne (tgt := 19) hx hb dX11_set_11 (by decide) (fun c20 => ?_) (fun c20 => ?_)
    · have hf := gIf_f c20 hf
      refine lv_iconst (v := 0) hx hb dX11_set_19 (by decide) ?_
      exact wJ6 p1 0 q1.2 hf _ _ _ hS (lv_sub hl [0, 1, 2] rfl)
    · have hf := gIf_t c20 hf
      refine lv_bipush (v := 10) hx hb dX11_set_14 (by decide) ?_
      refine lv_goto (tgt := 20) hx hb dX11_set_16 (by decide) ?_
      exact wJ6 p1 10 q1.2 hf _ _ _ hS (lv_sub hl [0, 1, 2] rfl)
abbrev rmX11_whyNotLay : Room := { frames := 2, cells := 0, slots := 0, locals := 42 }
def f_X11_whyNotLay (p0 : Int32) (p1 : Int32) (p2 : Int32) (p3 : Int32) (σ : gS) : Option (Int32 × gS) := Option.bind (f_X11_isRoom p0 σ) (fun q1 => if q1.1 = 0 then (some ((-1), q1.2)) else (Option.bind (f_X11_isRoom p1 q1.2) (fun q3 => if q3.1 = 0 then (some ((-1), q3.2)) else (if p0 = p1 then (some ((-2), q3.2)) else (Option.bind (f_X11_in p2 1 9 q3.2) (fun q6 => if q6.1 = 0 then (some ((-2), q6.2)) else (Option.bind (f_X11_in p3 1 9 q6.2) (fun q8 => if q8.1 = 0 then (some ((-2), q8.2)) else (if (q8.2 1 4) = 20 then (some ((-4), q8.2)) else (some (0, q8.2)))))))))))
set_option maxHeartbeats 4000000 in
set_option maxRecDepth 100000 in
theorem c_X11_whyNotLay (p0 : Int32) (p1 : Int32) (p2 : Int32) (p3 : Int32) (σ : gS) (q : Int32 × gS) (hf : f_X11_whyNotLay p0 p1 p2 p3 σ = some q) : Met l yX11_whyNotLay (gW yX11_whyNotLay cX11_whyNotLay 5 (some .int)) rmX11_whyNotLay (gPc G (entM G o) o 9 [.ref (o + 0), .int p0, .int p1, .int p2, .int p3] σ) (gQi G (entM G o) o 9 q) 0 0 (gA o 9) := by
  refine g_met (by decide) ⟨rfl, rfl⟩ (fun p e s m args below meth c ls K hS hl => ?_) (Nat.le_of_ble_eq_true rfl)
  have K : gK p s m args meth c G cX11_whyNotLay 5 RX11 (some .int) := K
  have hl : lv_has ls 5 [(0, .ref (o + 0)), (1, .int p0), (2, .int p1), (3, .int p2), (4, .int p3)] := hl
  obtain ⟨hx, hb, hml, hown, hts, -⟩ := id K
  unfold f_X11_whyNotLay at hf
  refine lv_iload_n hx hb dX11_whyNotLay_0 rfl (lv_at hl 1 rfl) ?_
  obtain ⟨q1, hq1, hf⟩ := Option.bind_eq_some_iff.mp hf
  refine g_Si (As := [.int p0]) K hS lS_X11_51 (c_X11_isRoom p0 σ q1 hq1) rfl rfl (Nat.le_of_ble_eq_true rfl) ⟨⟨Nat.le_of_ble_eq_true rfl, Nat.le_of_ble_eq_true rfl⟩, rfl, rfl⟩ hl.1 ⟨Nat.zero_le _, Nat.zero_le _⟩ dX11_whyNotLay_1 (fun H locs hS => ?_)
  refine lv_if_eq (tgt := 14) hx hb dX11_whyNotLay_4 (by decide) (fun c2 => ?_) (fun c2 => ?_)
  · have hf := gIf_t c2 hf
    refine lv_iconst (v := (-1)) hx hb dX11_whyNotLay_14 (by decide) ?_
    exact g_iret K hS hf dX11_whyNotLay_15
  · have hf := gIf_f c2 hf
    refine lv_iload_n hx hb dX11_whyNotLay_7 rfl (lv_at hl 2 rfl) ?_
    obtain ⟨q3, hq3, hf⟩ := Option.bind_eq_some_iff.mp hf
    refine g_Si (As := [.int p1]) K hS lS_X11_51 (c_X11_isRoom p1 q1.2 q3 hq3) rfl rfl (Nat.le_of_ble_eq_true rfl) ⟨⟨Nat.le_of_ble_eq_true rfl, Nat.le_of_ble_eq_true rfl⟩, rfl, rfl⟩ hl.1 ⟨Nat.zero_le _, Nat.zero_le _⟩ dX11_whyNotLay_8 (fun H locs hS => ?_)
    refine lv_if_ne (tgt := 16) hx hb dX11_whyNotLay_11 (by decide) (fun c4 => ?_) (fun c4 => ?_)
    · have hf := gIf_f c4 hf
      refine lv_iload_n hx hb dX11_whyNotLay_16 rfl (lv_at hl 1 rfl) ?_
      refine lv_iload_n hx hb dX11_whyNotLay_17 rfl (lv_at hl 2 rfl) ?_
      refine lv_icmp_eq (tgt := 42) hx hb dX11_whyNotLay_18 (by decide) (fun c5 => ?_) (fun c5 => ?_)
      · have hf := gIf_t c5 hf
        refine lv_bipush (v := (-2)) hx hb dX11_whyNotLay_42 (by decide) ?_
        refine lv_goto (tgt := 64) hx hb dX11_whyNotLay_44 (by decide) ?_
        exact g_iret K hS hf dX11_whyNotLay_64
      · have hf := gIf_f c5 hf
        refine lv_iload_n hx hb dX11_whyNotLay_21 rfl (lv_at hl 3 rfl) ?_
        refine lv_iconst (v := 1) hx hb dX11_whyNotLay_22 (by decide) ?_
        refine lv_bipush (v := 9) hx hb dX11_whyNotLay_23 (by decide) ?_
        obtain ⟨q6, hq6, hf⟩ := Option.bind_eq_some_iff.mp hf
        refine g_Si (As := [.int p2, .int 1, .int 9]) K hS lS_X11_36 (c_X11_in p2 1 9 q3.2 q6 hq6) rfl rfl (Nat.le_of_ble_eq_true rfl) ⟨⟨Nat.le_of_ble_eq_true rfl, Nat.le_of_ble_eq_true rfl⟩, rfl, rfl⟩ hl.1 ⟨Nat.zero_le _, Nat.zero_le _⟩ dX11_whyNotLay_25 (fun H locs hS => ?_)
        refine lv_if_eq (tgt := 42) hx hb dX11_whyNotLay_28 (by decide) (fun c7 => ?_) (fun c7 => ?_)
        · have hf := gIf_t c7 hf
          refine lv_bipush (v := (-2)) hx hb dX11_whyNotLay_42 (by decide) ?_
          refine lv_goto (tgt := 64) hx hb dX11_whyNotLay_44 (by decide) ?_
          exact g_iret K hS hf dX11_whyNotLay_64
        · have hf := gIf_f c7 hf
          refine lv_iload hx hb dX11_whyNotLay_31 (lv_at hl 4 rfl) ?_
          refine lv_iconst (v := 1) hx hb dX11_whyNotLay_33 (by decide) ?_
          refine lv_bipush (v := 9) hx hb dX11_whyNotLay_34 (by decide) ?_
          obtain ⟨q8, hq8, hf⟩ := Option.bind_eq_some_iff.mp hf
          refine g_Si (As := [.int p3, .int 1, .int 9]) K hS lS_X11_36 (c_X11_in p3 1 9 q6.2 q8 hq8) rfl rfl (Nat.le_of_ble_eq_true rfl) ⟨⟨Nat.le_of_ble_eq_true rfl, Nat.le_of_ble_eq_true rfl⟩, rfl, rfl⟩ hl.1 ⟨Nat.zero_le _, Nat.zero_le _⟩ dX11_whyNotLay_36 (fun H locs hS => ?_)
          refine lv_if_ne (tgt := 47) hx hb dX11_whyNotLay_39 (by decide) (fun c9 => ?_) (fun c9 => ?_)
          · have hf := gIf_f c9 hf
            refine lv_aload_n hx hb dX11_whyNotLay_47 rfl (lv_at hl 0 rfl) ?_
            refine g_get (cx := 0) K hS lF_X11_7 ((eM_0 G o) _) (by decide) rfl dX11_whyNotLay_48 ?_
            refine lv_iconst (v := 4) hx hb dX11_whyNotLay_51 (by decide) ?_
            refine g_iald (cx := 1) (j := 4) K hS (eM_1 G o) (by decide) (by decide) (by decide) dX11_whyNotLay_52 ?_
            refine lv_bipush (v := 20) hx hb dX11_whyNotLay_53 (by decide) ?_
            refine lv_icmp_ne (tgt := 63) hx hb dX11_whyNotLay_55 (by decide) (fun c10 => ?_) (fun c10 => ?_)
            · have hf := gIf_f c10 hf
              refine lv_iconst (v := 0) hx hb dX11_whyNotLay_63 (by decide) ?_
              exact g_iret K hS hf dX11_whyNotLay_64
            · have hf := gIf_t c10 hf
              refine lv_bipush (v := (-4)) hx hb dX11_whyNotLay_58 (by decide) ?_
              refine lv_goto (tgt := 64) hx hb dX11_whyNotLay_60 (by decide) ?_
              exact g_iret K hS hf dX11_whyNotLay_64
          · have hf := gIf_t c9 hf
            refine lv_bipush (v := (-2)) hx hb dX11_whyNotLay_42 (by decide) ?_
            refine lv_goto (tgt := 64) hx hb dX11_whyNotLay_44 (by decide) ?_
            exact g_iret K hS hf dX11_whyNotLay_64
    · have hf := gIf_t c4 hf
      refine lv_iconst (v := (-1)) hx hb dX11_whyNotLay_14 (by decide) ?_
      exact g_iret K hS hf dX11_whyNotLay_15
abbrev rmX11_lies : Room := { frames := 0, cells := 0, slots := 0, locals := 0 }
def f_X11_lies (p0 : Int32) (p1 : Int32) (p2 : Int32) (p3 : Int32) (σ : gS) : Option (Int32 × gS) := gLet (6 + (5 * (σ 1 4))) (fun x1 => gLet (fun (j2 : Int32) (j3 : Int32) (s4 : gS) => gGd (gin j2 138) (gLet (up2 s4 1 (gil j2) j3) (fun s6 => gLet (fun (j7 : Int32) (j8 : Int32) (s9 : gS) => gGd (gin j7 138) (gLet (up2 s9 1 (gil j7) j8) (fun s11 => gGd (gin (x1 + 2) 138) (gLet (up2 s11 1 (gil (x1 + 2)) p2) (fun s12 => gGd (gin (x1 + 3) 138) (gLet (up2 s12 1 (gil (x1 + 3)) p3) (fun s13 => gGd (gin (x1 + 4) 138) (gLet (up2 s13 1 (gil (x1 + 4)) 0) (fun s14 => gLet (up2 s14 1 4 ((s14 1 4) + 1)) (fun s15 => some (((s15 1 4) - 1), s15))))))))))) (fun J10 => if p1 ≤ p0 then (J10 (x1 + 1) p0 s6) else (J10 (x1 + 1) p1 s6))))) (fun J5 => if p1 ≤ p0 then (J5 x1 p1 σ) else (J5 x1 p0 σ)))
set_option maxHeartbeats 4000000 in
set_option maxRecDepth 100000 in
theorem c_X11_lies (p0 : Int32) (p1 : Int32) (p2 : Int32) (p3 : Int32) (σ : gS) (q : Int32 × gS) (hf : f_X11_lies p0 p1 p2 p3 σ = some q) : Met l yX11_lies (gW yX11_lies cX11_lies 6 (some .int)) rmX11_lies (gPc G (entM G o) o 9 [.ref (o + 0), .int p0, .int p1, .int p2, .int p3] σ) (gQi G (entM G o) o 9 q) 0 0 (gA o 9) := by
  refine g_met (by decide) ⟨rfl, rfl⟩ (fun p e s m args below meth c ls K hS hl => ?_) (Nat.le_of_ble_eq_true rfl)
  have K : gK p s m args meth c G cX11_lies 6 RX11 (some .int) := K
  have hl : lv_has ls 6 [(0, .ref (o + 0)), (1, .int p0), (2, .int p1), (3, .int p2), (4, .int p3)] := hl
  obtain ⟨hx, hb, hml, hown, hts, -⟩ := id K
  unfold f_X11_lies at hf
  refine lv_bipush (v := 6) hx hb dX11_lies_0 (by decide) ?_
  refine lv_iconst (v := 5) hx hb dX11_lies_2 (by decide) ?_
  refine lv_aload_n hx hb dX11_lies_3 rfl (lv_at hl 0 rfl) ?_
  refine g_get (cx := 0) K hS lF_X11_7 ((eM_0 G o) _) (by decide) rfl dX11_lies_4 ?_
  refine lv_iconst (v := 4) hx hb dX11_lies_7 (by decide) ?_
  refine g_iald (cx := 1) (j := 4) K hS (eM_1 G o) (by decide) (by decide) (by decide) dX11_lies_8 ?_
  refine lv_imul hx hb dX11_lies_9 ?_
  refine lv_iadd hx hb dX11_lies_10 ?_
  obtain ⟨x1, hx1, hf⟩ := gLet_some hf
  refine g_top hx1 ?_
  refine lv_istore (lv' := [(5, .int x1), (0, .ref (o + 0)), (1, .int p0), (2, .int p1), (3, .int p2), (4, .int p3)]) hx hb dX11_lies_11 hl (by decide) rfl (fun ls hl => ?_)
  refine lv_aload_n hx hb dX11_lies_13 rfl (lv_at hl 1 rfl) ?_
  refine g_get (cx := 0) K hS lF_X11_7 ((eM_0 G o) _) (by decide) rfl dX11_lies_14 ?_
  refine lv_iload hx hb dX11_lies_17 (lv_at hl 0 rfl) ?_
  refine lv_iload_n hx hb dX11_lies_19 rfl (lv_at hl 2 rfl) ?_
  refine lv_iload_n hx hb dX11_lies_20 rfl (lv_at hl 3 rfl) ?_
  obtain ⟨J5, hJ5, hf⟩ := gLet_some hf
  have wJ5 : ∀ (j2 : Int32) (j3 : Int32) (s4 : gS), J5 j2 j3 s4 = some q → ∀ (H : Heap) (locs : List Loc) (ls : Array Slot), gSt G (entM G o) o 9 s s4 H locs → lv_has ls 6 [(0, .ref (o + 0)), (1, .int p0), (2, .int p1), (3, .int p2), (4, .int p3), (5, .int x1)] → W p l e rmX11_lies s m args below meth c H locs 0 0 (MQ below (gQi G (entM G o) o 9 q) args s 0 0 (gA o 9)) (F0 m 29 ls [.int j3, .int j2, .ref (o + 1)]) := by
    intro j2 j3 s4 hf H locs ls hS hl
    rw [hJ5] at hf
    obtain ⟨h22, hf⟩ := gGd_some hf
    obtain ⟨s6, hs6, hf⟩ := gLet_some hf
    refine g_iast (cx := 1) K hS (eM_1 G o) (by decide) h22 rfl dX11_lies_29 (fun H locs hS => ?_)
    rw [← hs6] at hS
    refine lv_aload_n hx hb dX11_lies_30 rfl (lv_at hl 0 rfl) ?_
    refine g_get (cx := 0) K hS lF_X11_7 ((eM_0 G o) _) (by decide) rfl dX11_lies_31 ?_
    refine lv_iload hx hb dX11_lies_34 (lv_at hl 5 rfl) ?_
    refine lv_iconst (v := 1) hx hb dX11_lies_36 (by decide) ?_
    refine lv_iadd hx hb dX11_lies_37 ?_
    refine lv_iload_n hx hb dX11_lies_38 rfl (lv_at hl 1 rfl) ?_
    refine lv_iload_n hx hb dX11_lies_39 rfl (lv_at hl 2 rfl) ?_
    obtain ⟨J10, hJ10, hf⟩ := gLet_some hf
    have wJ10 : ∀ (j7 : Int32) (j8 : Int32) (s9 : gS), J10 j7 j8 s9 = some q → ∀ (H : Heap) (locs : List Loc) (ls : Array Slot), gSt G (entM G o) o 9 s s9 H locs → lv_has ls 6 [(0, .ref (o + 0)), (3, .int p2), (4, .int p3), (5, .int x1)] → W p l e rmX11_lies s m args below meth c H locs 0 0 (MQ below (gQi G (entM G o) o 9 q) args s 0 0 (gA o 9)) (F0 m 48 ls [.int j8, .int j7, .ref (o + 1)]) := by
      intro j7 j8 s9 hf H locs ls hS hl
      rw [hJ10] at hf
      obtain ⟨h20, hf⟩ := gGd_some hf
      obtain ⟨s11, hs11, hf⟩ := gLet_some hf
      refine g_iast (cx := 1) K hS (eM_1 G o) (by decide) h20 rfl dX11_lies_48 (fun H locs hS => ?_)
      rw [← hs11] at hS
      refine lv_aload_n hx hb dX11_lies_49 rfl (lv_at hl 0 rfl) ?_
      refine g_get (cx := 0) K hS lF_X11_7 ((eM_0 G o) _) (by decide) rfl dX11_lies_50 ?_
      refine lv_iload hx hb dX11_lies_53 (lv_at hl 3 rfl) ?_
      refine lv_iconst (v := 2) hx hb dX11_lies_55 (by decide) ?_
      refine lv_iadd hx hb dX11_lies_56 ?_
      refine lv_iload_n hx hb dX11_lies_57 rfl (lv_at hl 1 rfl) ?_
      obtain ⟨h19, hf⟩ := gGd_some hf
      obtain ⟨s12, hs12, hf⟩ := gLet_some hf
      refine g_iast (cx := 1) K hS (eM_1 G o) (by decide) h19 rfl dX11_lies_58 (fun H locs hS => ?_)
      rw [← hs12] at hS
      refine lv_aload_n hx hb dX11_lies_59 rfl (lv_at hl 0 rfl) ?_
      refine g_get (cx := 0) K hS lF_X11_7 ((eM_0 G o) _) (by decide) rfl dX11_lies_60 ?_
      refine lv_iload hx hb dX11_lies_63 (lv_at hl 3 rfl) ?_
      refine lv_iconst (v := 3) hx hb dX11_lies_65 (by decide) ?_
      refine lv_iadd hx hb dX11_lies_66 ?_
      refine lv_iload hx hb dX11_lies_67 (lv_at hl 2 rfl) ?_
      obtain ⟨h18, hf⟩ := gGd_some hf
      obtain ⟨s13, hs13, hf⟩ := gLet_some hf
      refine g_iast (cx := 1) K hS (eM_1 G o) (by decide) h18 rfl dX11_lies_69 (fun H locs hS => ?_)
      rw [← hs13] at hS
      refine lv_aload_n hx hb dX11_lies_70 rfl (lv_at hl 0 rfl) ?_
      refine g_get (cx := 0) K hS lF_X11_7 ((eM_0 G o) _) (by decide) rfl dX11_lies_71 ?_
      refine lv_iload hx hb dX11_lies_74 (lv_at hl 3 rfl) ?_
      refine lv_iconst (v := 4) hx hb dX11_lies_76 (by decide) ?_
      refine lv_iadd hx hb dX11_lies_77 ?_
      refine lv_iconst (v := 0) hx hb dX11_lies_78 (by decide) ?_
      obtain ⟨h17, hf⟩ := gGd_some hf
      obtain ⟨s14, hs14, hf⟩ := gLet_some hf
      refine g_iast (cx := 1) K hS (eM_1 G o) (by decide) h17 rfl dX11_lies_79 (fun H locs hS => ?_)
      rw [← hs14] at hS
      refine lv_aload_n hx hb dX11_lies_80 rfl (lv_at hl 0 rfl) ?_
      refine g_get (cx := 0) K hS lF_X11_7 ((eM_0 G o) _) (by decide) rfl dX11_lies_81 ?_
      refine lv_iconst (v := 4) hx hb dX11_lies_84 (by decide) ?_
      refine lv_dup2_11 hx hb dX11_lies_85 rfl rfl ?_
      refine g_iald (cx := 1) (j := 4) K hS (eM_1 G o) (by decide) (by decide) (by decide) dX11_lies_86 ?_
      refine lv_iconst (v := 1) hx hb dX11_lies_87 (by decide) ?_
      refine lv_iadd hx hb dX11_lies_88 ?_
      obtain ⟨s15, hs15, hf⟩ := gLet_some hf
      refine g_iast (cx := 1) (j := 4) K hS (eM_1 G o) (by decide) (by decide) (by decide) dX11_lies_89 (fun H locs hS => ?_)
      rw [← hs15] at hS
      refine lv_aload_n hx hb dX11_lies_90 rfl (lv_at hl 0 rfl) ?_
      refine g_get (cx := 0) K hS lF_X11_7 ((eM_0 G o) _) (by decide) rfl dX11_lies_91 ?_
      refine lv_iconst (v := 4) hx hb dX11_lies_94 (by decide) ?_
      refine g_iald (cx := 1) (j := 4) K hS (eM_1 G o) (by decide) (by decide) (by decide) dX11_lies_95 ?_
      refine lv_iconst (v := 1) hx hb dX11_lies_96 (by decide) ?_
      refine lv_isub hx hb dX11_lies_97 ?_
      exact g_iret K hS hf dX11_lies_98
    clear hJ10
    refine lv_icmp_ge (tgt := 47) hx hb dX11_lies_40 (by decide) (fun c21 => ?_) (fun c21 => ?_)
    · have hf := gIf_t c21 hf
      refine lv_iload_n hx hb dX11_lies_47 rfl (lv_at hl 1 rfl) ?_
      exact wJ10 (x1 + 1) p0 s6 hf _ _ _ hS (lv_sub hl [0, 3, 4, 5] rfl)
    · have hf := gIf_f c21 hf
      refine lv_iload_n hx hb dX11_lies_43 rfl (lv_at hl 2 rfl) ?_
      refine lv_goto (tgt := 48) hx hb dX11_lies_44 (by decide) ?_
      exact wJ10 (x1 + 1) p1 s6 hf _ _ _ hS (lv_sub hl [0, 3, 4, 5] rfl)
  clear hJ5
  refine lv_icmp_ge (tgt := 28) hx hb dX11_lies_21 (by decide) (fun c23 => ?_) (fun c23 => ?_)
  · have hf := gIf_t c23 hf
    refine lv_iload_n hx hb dX11_lies_28 rfl (lv_at hl 3 rfl) ?_
    exact wJ5 x1 p1 σ hf _ _ _ hS (lv_sub hl [1, 2, 3, 4, 5, 0] rfl)
  · have hf := gIf_f c23 hf
    refine lv_iload_n hx hb dX11_lies_24 rfl (lv_at hl 2 rfl) ?_
    refine lv_goto (tgt := 29) hx hb dX11_lies_25 (by decide) ?_
    exact wJ5 x1 p0 σ hf _ _ _ hS (lv_sub hl [1, 2, 3, 4, 5, 0] rfl)
abbrev rmX11_lay : Room := { frames := 3, cells := 0, slots := 0, locals := 66 }
def f_X11_lay (p0 : Int32) (p1 : Int32) (p2 : Int32) (p3 : Int32) (σ : gS) : Option (Int32 × gS) := Option.bind (f_X11_whyNotLay p0 p1 p2 p3 σ) (fun q1 => if 0 ≤ q1.1 then (Option.bind (f_X11_record q1.2) (fun q3 => Option.bind (f_X11_lies p0 p1 p2 p3 q3) (fun q4 => some (q4.1, q4.2)))) else (some (q1.1, q1.2)))
set_option maxHeartbeats 4000000 in
set_option maxRecDepth 100000 in
theorem c_X11_lay (p0 : Int32) (p1 : Int32) (p2 : Int32) (p3 : Int32) (σ : gS) (q : Int32 × gS) (hf : f_X11_lay p0 p1 p2 p3 σ = some q) : Met l yX11_lay (gW yX11_lay cX11_lay 6 (some .int)) rmX11_lay (gPc G (entM G o) o 9 [.ref (o + 0), .int p0, .int p1, .int p2, .int p3] σ) (gQi G (entM G o) o 9 q) 0 0 (gA o 9) := by
  refine g_met (by decide) ⟨rfl, rfl⟩ (fun p e s m args below meth c ls K hS hl => ?_) (Nat.le_of_ble_eq_true rfl)
  have K : gK p s m args meth c G cX11_lay 6 RX11 (some .int) := K
  have hl : lv_has ls 6 [(0, .ref (o + 0)), (1, .int p0), (2, .int p1), (3, .int p2), (4, .int p3)] := hl
  obtain ⟨hx, hb, hml, hown, hts, -⟩ := id K
  unfold f_X11_lay at hf
  refine lv_aload_n hx hb dX11_lay_0 rfl (lv_at hl 0 rfl) ?_
  refine lv_iload_n hx hb dX11_lay_1 rfl (lv_at hl 1 rfl) ?_
  refine lv_iload_n hx hb dX11_lay_2 rfl (lv_at hl 2 rfl) ?_
  refine lv_iload_n hx hb dX11_lay_3 rfl (lv_at hl 3 rfl) ?_
  refine lv_iload hx hb dX11_lay_4 (lv_at hl 4 rfl) ?_
  obtain ⟨q1, hq1, hf⟩ := Option.bind_eq_some_iff.mp hf
  refine g_Vi (cx := 0) (As := [.int p0, .int p1, .int p2, .int p3]) K hS lV_X11_55 (c_X11_whyNotLay p0 p1 p2 p3 σ q1 hq1) ((eM_0 G o) _) (by decide) rfl rfl rfl (Nat.le_of_ble_eq_true rfl) ⟨⟨Nat.le_of_ble_eq_true rfl, Nat.le_of_ble_eq_true rfl⟩, rfl, rfl⟩ hl.1 ⟨Nat.zero_le _, Nat.zero_le _⟩ dX11_lay_6 (fun H locs hS => ?_)
  refine lv_istore (lv' := [(5, .int q1.1), (0, .ref (o + 0)), (1, .int p0), (2, .int p1), (3, .int p2), (4, .int p3)]) hx hb dX11_lay_9 hl (by decide) rfl (fun ls hl => ?_)
  refine lv_iload hx hb dX11_lay_11 (lv_at hl 0 rfl) ?_
  refine lv_if_ge (tgt := 19) hx hb dX11_lay_13 (by decide) (fun c2 => ?_) (fun c2 => ?_)
  · have hf := gIf_t c2 hf
    refine lv_aload_n hx hb dX11_lay_19 rfl (lv_at hl 1 rfl) ?_
    obtain ⟨q3, hq3, hf⟩ := Option.bind_eq_some_iff.mp hf
    refine g_Vv (cx := 0) (As := []) K hS lV_X11_48 (c_X11_record q1.2 q3 hq3) ((eM_0 G o) _) (by decide) rfl rfl rfl (Nat.le_of_ble_eq_true rfl) ⟨⟨Nat.le_of_ble_eq_true rfl, Nat.le_of_ble_eq_true rfl⟩, rfl, rfl⟩ hl.1 ⟨Nat.zero_le _, Nat.zero_le _⟩ dX11_lay_20 (fun H locs hS => ?_)
    refine lv_aload_n hx hb dX11_lay_23 rfl (lv_at hl 1 rfl) ?_
    refine lv_iload_n hx hb dX11_lay_24 rfl (lv_at hl 2 rfl) ?_
    refine lv_iload_n hx hb dX11_lay_25 rfl (lv_at hl 3 rfl) ?_
    refine lv_iload_n hx hb dX11_lay_26 rfl (lv_at hl 4 rfl) ?_
    refine lv_iload hx hb dX11_lay_27 (lv_at hl 5 rfl) ?_
    obtain ⟨q4, hq4, hf⟩ := Option.bind_eq_some_iff.mp hf
    refine g_Vi (cx := 0) (As := [.int p0, .int p1, .int p2, .int p3]) K hS lV_X11_59 (c_X11_lies p0 p1 p2 p3 q3 q4 hq4) ((eM_0 G o) _) (by decide) rfl rfl rfl (Nat.le_of_ble_eq_true rfl) ⟨⟨Nat.le_of_ble_eq_true rfl, Nat.le_of_ble_eq_true rfl⟩, rfl, rfl⟩ hl.1 ⟨Nat.zero_le _, Nat.zero_le _⟩ dX11_lay_29 (fun H locs hS => ?_)
    exact g_iret K hS hf dX11_lay_32
  · have hf := gIf_f c2 hf
    refine lv_iload hx hb dX11_lay_16 (lv_at hl 0 rfl) ?_
    exact g_iret K hS hf dX11_lay_18
abbrev rmX11_takeUp : Room := { frames := 1, cells := 0, slots := 0, locals := 22 }
def f_X11_takeUp_L31 (w1 : Int32) (K66 : gS → Option (Int32 × gS)) : Nat → Int32 → gS → Option (Int32 × gS)
  | 0, _, _ => none
  | n + 1, v2, σ => if (6 + (5 * (σ 1 4))) ≤ v2 then (K66 σ) else (gGd (gin (v2 + 5) 138) (gGd (gin v2 138) (gLet (up2 σ 1 (gil v2) (σ 1 (gil (v2 + 5)))) (fun s8 => f_X11_takeUp_L31 w1 K66 n (v2 + 1) s8))))
theorem f_X11_takeUp_L31_s (w1 : Int32) (K66 : gS → Option (Int32 × gS)) (n : Nat) (v2 : Int32) (σ : gS) : f_X11_takeUp_L31 w1 K66 (n + 1) v2 σ = (if (6 + (5 * (σ 1 4))) ≤ v2 then (K66 σ) else (gGd (gin (v2 + 5) 138) (gGd (gin v2 138) (gLet (up2 σ 1 (gil v2) (σ 1 (gil (v2 + 5)))) (fun s8 => f_X11_takeUp_L31 w1 K66 n (v2 + 1) s8))))) := rfl
def f_X11_takeUp_L68 (w1 : Int32) (K118 : gS → Option (Int32 × gS)) : Nat → Int32 → gS → Option (Int32 × gS)
  | 0, _, _ => none
  | n + 1, v2, σ => if 4 ≤ v2 then (K118 σ) else (Option.bind (f_X11_ofGhost v2 1 σ) (fun q12 => gLet (q12.1 &&& ((1 <<< (w1 &&& 31)) - 1)) (fun x13 => gGd (gin ((106 + (3 * v2)) + 1) 138) (gLet (up2 q12.2 1 (gil ((106 + (3 * v2)) + 1)) (x13 ||| ((q12.1 >>> ((w1 + 1) &&& 31)) <<< (w1 &&& 31)))) (fun s14 => f_X11_takeUp_L68 w1 K118 n (v2 + 1) s14)))))
theorem f_X11_takeUp_L68_s (w1 : Int32) (K118 : gS → Option (Int32 × gS)) (n : Nat) (v2 : Int32) (σ : gS) : f_X11_takeUp_L68 w1 K118 (n + 1) v2 σ = (if 4 ≤ v2 then (K118 σ) else (Option.bind (f_X11_ofGhost v2 1 σ) (fun q12 => gLet (q12.1 &&& ((1 <<< (w1 &&& 31)) - 1)) (fun x13 => gGd (gin ((106 + (3 * v2)) + 1) 138) (gLet (up2 q12.2 1 (gil ((106 + (3 * v2)) + 1)) (x13 ||| ((q12.1 >>> ((w1 + 1) &&& 31)) <<< (w1 &&& 31)))) (fun s14 => f_X11_takeUp_L68 w1 K118 n (v2 + 1) s14)))))) := rfl
def f_X11_takeUp (p0 : Int32) (σ : gS) : Option (Int32 × gS) := Option.bind (f_X11_isBoard p0 σ) (fun q1 => if q1.1 = 0 then (some ((-1), q1.2)) else (Option.bind (f_X11_record q1.2) (fun q3 => gLet (up2 q3 1 4 ((q3 1 4) - 1)) (fun s4 => gLet (6 + (5 * p0)) (fun x5 => f_X11_takeUp_L31 p0 (fun (s10 : gS) => f_X11_takeUp_L68 p0 (fun (s16 : gS) => some ((s16 1 4), s16)) gFu 0 s10) gFu x5 s4)))))
set_option maxHeartbeats 4000000 in
set_option maxRecDepth 100000 in
theorem w_X11_takeUp_L31 (w1 : Int32) (K66 : gS → Option (Int32 × gS)) {q : Int32 × gS} (K : gK p s m args meth c G cX11_takeUp 5 RX11 (some .int)) (hK66 : ∀ (σ : gS), K66 σ = some q → ∀ (H : Heap) (locs : List Loc) (ls : Array Slot), gSt G (entM G o) o 9 s σ H locs → lv_has ls 5 [(0, .ref (o + 0)), (1, .int w1)] → W p l e rmX11_takeUp s m args below meth c H locs 0 0 (MQ below (gQi G (entM G o) o 9 q) args s 0 0 (gA o 9)) (F0 m 66 ls [])) : ∀ (n : Nat) (v2 : Int32) (σ : gS), f_X11_takeUp_L31 w1 K66 n v2 σ = some q → ∀ (H : Heap) (locs : List Loc) (ls : Array Slot), gSt G (entM G o) o 9 s σ H locs → lv_has ls 5 [(0, .ref (o + 0)), (1, .int w1), (2, .int v2)] → W p l e rmX11_takeUp s m args below meth c H locs 0 0 (MQ below (gQi G (entM G o) o 9 q) args s 0 0 (gA o 9)) (F0 m 31 ls []) := by
  obtain ⟨hx, hb, hml, hown, hts, -⟩ := id K
  intro n
  induction n with
  | zero =>
    intro v2 σ hf
    exact absurd (show (none : Option _) = some q from hf) (by simp)
  | succ n ih =>
    intro v2 σ hf H locs ls hS hl
    rw [f_X11_takeUp_L31_s] at hf
    refine lv_iload_n hx hb dX11_takeUp_31 rfl (lv_at hl 2 rfl) ?_
    refine lv_bipush (v := 6) hx hb dX11_takeUp_32 (by decide) ?_
    refine lv_iconst (v := 5) hx hb dX11_takeUp_34 (by decide) ?_
    refine lv_aload_n hx hb dX11_takeUp_35 rfl (lv_at hl 0 rfl) ?_
    refine g_get (cx := 0) K hS lF_X11_7 ((eM_0 G o) _) (by decide) rfl dX11_takeUp_36 ?_
    refine lv_iconst (v := 4) hx hb dX11_takeUp_39 (by decide) ?_
    refine g_iald (cx := 1) (j := 4) K hS (eM_1 G o) (by decide) (by decide) (by decide) dX11_takeUp_40 ?_
    refine lv_imul hx hb dX11_takeUp_41 ?_
    refine lv_iadd hx hb dX11_takeUp_42 ?_
    refine lv_icmp_ge (tgt := 66) hx hb dX11_takeUp_43 (by decide) (fun c6 => ?_) (fun c6 => ?_)
    · have hf := gIf_t c6 hf
      exact hK66 σ hf _ _ _ hS (lv_sub hl [0, 1] rfl)
    · have hf := gIf_f c6 hf
      refine lv_aload_n hx hb dX11_takeUp_46 rfl (lv_at hl 0 rfl) ?_
      refine g_get (cx := 0) K hS lF_X11_7 ((eM_0 G o) _) (by decide) rfl dX11_takeUp_47 ?_
      refine lv_iload_n hx hb dX11_takeUp_50 rfl (lv_at hl 2 rfl) ?_
      refine lv_aload_n hx hb dX11_takeUp_51 rfl (lv_at hl 0 rfl) ?_
      refine g_get (cx := 0) K hS lF_X11_7 ((eM_0 G o) _) (by decide) rfl dX11_takeUp_52 ?_
      refine lv_iload_n hx hb dX11_takeUp_55 rfl (lv_at hl 2 rfl) ?_
      refine lv_iconst (v := 5) hx hb dX11_takeUp_56 (by decide) ?_
      refine lv_iadd hx hb dX11_takeUp_57 ?_
      obtain ⟨h7, hf⟩ := gGd_some hf
      refine g_iald (cx := 1) K hS (eM_1 G o) (by decide) h7 rfl dX11_takeUp_58 ?_
      obtain ⟨h9, hf⟩ := gGd_some hf
      obtain ⟨s8, hs8, hf⟩ := gLet_some hf
      refine g_iast (cx := 1) K hS (eM_1 G o) (by decide) h9 rfl dX11_takeUp_59 (fun H locs hS => ?_)
      rw [← hs8] at hS
      refine lv_iinc (v := (v2 + 1)) (lv' := [(2, .int (v2 + 1)), (0, .ref (o + 0)), (1, .int w1)]) hx hb dX11_takeUp_60 hl (k := 2) rfl rfl (by decide) rfl (fun ls hl => ?_)
      refine lv_goto (tgt := 31) hx hb dX11_takeUp_63 (by decide) ?_
      exact ih (v2 + 1) s8 hf _ _ _ hS (lv_sub hl [1, 2, 0] rfl)
set_option maxHeartbeats 4000000 in
set_option maxRecDepth 100000 in
theorem w_X11_takeUp_L68 (w1 : Int32) (K118 : gS → Option (Int32 × gS)) {q : Int32 × gS} (K : gK p s m args meth c G cX11_takeUp 5 RX11 (some .int)) (hK118 : ∀ (σ : gS), K118 σ = some q → ∀ (H : Heap) (locs : List Loc) (ls : Array Slot), gSt G (entM G o) o 9 s σ H locs → lv_has ls 5 [(0, .ref (o + 0))] → W p l e rmX11_takeUp s m args below meth c H locs 0 0 (MQ below (gQi G (entM G o) o 9 q) args s 0 0 (gA o 9)) (F0 m 118 ls [])) : ∀ (n : Nat) (v2 : Int32) (σ : gS), f_X11_takeUp_L68 w1 K118 n v2 σ = some q → ∀ (H : Heap) (locs : List Loc) (ls : Array Slot), gSt G (entM G o) o 9 s σ H locs → lv_has ls 5 [(0, .ref (o + 0)), (1, .int w1), (2, .int v2)] → W p l e rmX11_takeUp s m args below meth c H locs 0 0 (MQ below (gQi G (entM G o) o 9 q) args s 0 0 (gA o 9)) (F0 m 68 ls []) := by
  obtain ⟨hx, hb, hml, hown, hts, -⟩ := id K
  intro n
  induction n with
  | zero =>
    intro v2 σ hf
    exact absurd (show (none : Option _) = some q from hf) (by simp)
  | succ n ih =>
    intro v2 σ hf H locs ls hS hl
    rw [f_X11_takeUp_L68_s] at hf
    refine lv_iload_n hx hb dX11_takeUp_68 rfl (lv_at hl 2 rfl) ?_
    refine lv_iconst (v := 4) hx hb dX11_takeUp_69 (by decide) ?_
    refine lv_icmp_ge (tgt := 118) hx hb dX11_takeUp_70 (by decide) (fun c11 => ?_) (fun c11 => ?_)
    · have hf := gIf_t c11 hf
      exact hK118 σ hf _ _ _ hS (lv_sub hl [0] rfl)
    · have hf := gIf_f c11 hf
      refine lv_aload_n hx hb dX11_takeUp_73 rfl (lv_at hl 0 rfl) ?_
      refine lv_iload_n hx hb dX11_takeUp_74 rfl (lv_at hl 2 rfl) ?_
      refine lv_iconst (v := 1) hx hb dX11_takeUp_75 (by decide) ?_
      obtain ⟨q12, hq12, hf⟩ := Option.bind_eq_some_iff.mp hf
      refine g_Vi (cx := 0) (As := [.int v2, .int 1]) K hS lV_X11_40 (c_X11_ofGhost v2 1 σ q12 hq12) ((eM_0 G o) _) (by decide) rfl rfl rfl (Nat.le_of_ble_eq_true rfl) ⟨⟨Nat.le_of_ble_eq_true rfl, Nat.le_of_ble_eq_true rfl⟩, rfl, rfl⟩ hl.1 ⟨Nat.zero_le _, Nat.zero_le _⟩ dX11_takeUp_76 (fun H locs hS => ?_)
      refine lv_istore_n (lv' := [(3, .int q12.1), (0, .ref (o + 0)), (1, .int w1), (2, .int v2)]) hx hb dX11_takeUp_79 rfl hl (by decide) rfl (fun ls hl => ?_)
      refine lv_iload_n hx hb dX11_takeUp_80 rfl (lv_at hl 0 rfl) ?_
      refine lv_iconst (v := 1) hx hb dX11_takeUp_81 (by decide) ?_
      refine lv_iload_n hx hb dX11_takeUp_82 rfl (lv_at hl 2 rfl) ?_
      refine lv_ishl hx hb dX11_takeUp_83 ?_
      refine lv_iconst (v := 1) hx hb dX11_takeUp_84 (by decide) ?_
      refine lv_isub hx hb dX11_takeUp_85 ?_
      refine lv_iand hx hb dX11_takeUp_86 ?_
      obtain ⟨x13, hx13, hf⟩ := gLet_some hf
      refine g_top hx13 ?_
      refine lv_istore (lv' := [(4, .int x13), (3, .int q12.1), (0, .ref (o + 0)), (1, .int w1), (2, .int v2)]) hx hb dX11_takeUp_87 hl (by decide) rfl (fun ls hl => ?_)
      refine lv_aload_n hx hb dX11_takeUp_89 rfl (lv_at hl 2 rfl) ?_
      refine g_get (cx := 0) K hS lF_X11_7 ((eM_0 G o) _) (by decide) rfl dX11_takeUp_90 ?_
      refine lv_bipush (v := 106) hx hb dX11_takeUp_93 (by decide) ?_
      refine lv_iconst (v := 3) hx hb dX11_takeUp_95 (by decide) ?_
      refine lv_iload_n hx hb dX11_takeUp_96 rfl (lv_at hl 4 rfl) ?_
      refine lv_imul hx hb dX11_takeUp_97 ?_
      refine lv_iadd hx hb dX11_takeUp_98 ?_
      refine lv_iconst (v := 1) hx hb dX11_takeUp_99 (by decide) ?_
      refine lv_iadd hx hb dX11_takeUp_100 ?_
      refine lv_iload hx hb dX11_takeUp_101 (lv_at hl 0 rfl) ?_
      refine lv_iload_n hx hb dX11_takeUp_103 rfl (lv_at hl 1 rfl) ?_
      refine lv_iload_n hx hb dX11_takeUp_104 rfl (lv_at hl 3 rfl) ?_
      refine lv_iconst (v := 1) hx hb dX11_takeUp_105 (by decide) ?_
      refine lv_iadd hx hb dX11_takeUp_106 ?_
      refine lv_ishr hx hb dX11_takeUp_107 ?_
      refine lv_iload_n hx hb dX11_takeUp_108 rfl (lv_at hl 3 rfl) ?_
      refine lv_ishl hx hb dX11_takeUp_109 ?_
      refine lv_ior hx hb dX11_takeUp_110 ?_
      obtain ⟨h15, hf⟩ := gGd_some hf
      obtain ⟨s14, hs14, hf⟩ := gLet_some hf
      refine g_iast (cx := 1) K hS (eM_1 G o) (by decide) h15 rfl dX11_takeUp_111 (fun H locs hS => ?_)
      rw [← hs14] at hS
      refine lv_iinc (v := (v2 + 1)) (lv' := [(2, .int (v2 + 1)), (4, .int x13), (3, .int q12.1), (0, .ref (o + 0)), (1, .int w1)]) hx hb dX11_takeUp_112 hl (k := 4) rfl rfl (by decide) rfl (fun ls hl => ?_)
      refine lv_goto (tgt := 68) hx hb dX11_takeUp_115 (by decide) ?_
      exact ih (v2 + 1) s14 hf _ _ _ hS (lv_sub hl [3, 4, 0] rfl)
set_option maxHeartbeats 4000000 in
set_option maxRecDepth 100000 in
theorem c_X11_takeUp (p0 : Int32) (σ : gS) (q : Int32 × gS) (hf : f_X11_takeUp p0 σ = some q) : Met l yX11_takeUp (gW yX11_takeUp cX11_takeUp 5 (some .int)) rmX11_takeUp (gPc G (entM G o) o 9 [.ref (o + 0), .int p0] σ) (gQi G (entM G o) o 9 q) 0 0 (gA o 9) := by
  refine g_met (by decide) ⟨rfl, rfl⟩ (fun p e s m args below meth c ls K hS hl => ?_) (Nat.le_of_ble_eq_true rfl)
  have K : gK p s m args meth c G cX11_takeUp 5 RX11 (some .int) := K
  have hl : lv_has ls 5 [(0, .ref (o + 0)), (1, .int p0)] := hl
  obtain ⟨hx, hb, hml, hown, hts, -⟩ := id K
  unfold f_X11_takeUp at hf
  refine lv_aload_n hx hb dX11_takeUp_0 rfl (lv_at hl 0 rfl) ?_
  refine lv_iload_n hx hb dX11_takeUp_1 rfl (lv_at hl 1 rfl) ?_
  obtain ⟨q1, hq1, hf⟩ := Option.bind_eq_some_iff.mp hf
  refine g_Vi (cx := 0) (As := [.int p0]) K hS lV_X11_62 (c_X11_isBoard p0 σ q1 hq1) ((eM_0 G o) _) (by decide) rfl rfl rfl (Nat.le_of_ble_eq_true rfl) ⟨⟨Nat.le_of_ble_eq_true rfl, Nat.le_of_ble_eq_true rfl⟩, rfl, rfl⟩ hl.1 ⟨Nat.zero_le _, Nat.zero_le _⟩ dX11_takeUp_2 (fun H locs hS => ?_)
  refine lv_if_ne (tgt := 10) hx hb dX11_takeUp_5 (by decide) (fun c2 => ?_) (fun c2 => ?_)
  · have hf := gIf_f c2 hf
    refine lv_aload_n hx hb dX11_takeUp_10 rfl (lv_at hl 0 rfl) ?_
    obtain ⟨q3, hq3, hf⟩ := Option.bind_eq_some_iff.mp hf
    refine g_Vv (cx := 0) (As := []) K hS lV_X11_48 (c_X11_record q1.2 q3 hq3) ((eM_0 G o) _) (by decide) rfl rfl rfl (Nat.le_of_ble_eq_true rfl) ⟨⟨Nat.le_of_ble_eq_true rfl, Nat.le_of_ble_eq_true rfl⟩, rfl, rfl⟩ hl.1 ⟨Nat.zero_le _, Nat.zero_le _⟩ dX11_takeUp_11 (fun H locs hS => ?_)
    refine lv_aload_n hx hb dX11_takeUp_14 rfl (lv_at hl 0 rfl) ?_
    refine g_get (cx := 0) K hS lF_X11_7 ((eM_0 G o) _) (by decide) rfl dX11_takeUp_15 ?_
    refine lv_iconst (v := 4) hx hb dX11_takeUp_18 (by decide) ?_
    refine lv_dup2_11 hx hb dX11_takeUp_19 rfl rfl ?_
    refine g_iald (cx := 1) (j := 4) K hS (eM_1 G o) (by decide) (by decide) (by decide) dX11_takeUp_20 ?_
    refine lv_iconst (v := 1) hx hb dX11_takeUp_21 (by decide) ?_
    refine lv_isub hx hb dX11_takeUp_22 ?_
    obtain ⟨s4, hs4, hf⟩ := gLet_some hf
    refine g_iast (cx := 1) (j := 4) K hS (eM_1 G o) (by decide) (by decide) (by decide) dX11_takeUp_23 (fun H locs hS => ?_)
    rw [← hs4] at hS
    refine lv_bipush (v := 6) hx hb dX11_takeUp_24 (by decide) ?_
    refine lv_iconst (v := 5) hx hb dX11_takeUp_26 (by decide) ?_
    refine lv_iload_n hx hb dX11_takeUp_27 rfl (lv_at hl 1 rfl) ?_
    refine lv_imul hx hb dX11_takeUp_28 ?_
    refine lv_iadd hx hb dX11_takeUp_29 ?_
    obtain ⟨x5, hx5, hf⟩ := gLet_some hf
    refine g_top hx5 ?_
    refine lv_istore_n (lv' := [(2, .int x5), (0, .ref (o + 0)), (1, .int p0)]) hx hb dX11_takeUp_30 rfl hl (by decide) rfl (fun ls hl => ?_)
    refine w_X11_takeUp_L31 p0 _ K ?_ gFu x5 s4 hf _ _ _ hS (lv_sub hl [1, 2, 0] rfl)
    · intro  s10 hf H locs ls hS hl
      refine lv_iconst (v := 0) hx hb dX11_takeUp_66 (by decide) ?_
      refine lv_istore_n (lv' := [(2, .int 0), (0, .ref (o + 0)), (1, .int p0)]) hx hb dX11_takeUp_67 rfl hl (by decide) rfl (fun ls hl => ?_)
      refine w_X11_takeUp_L68 p0 _ K ?_ gFu 0 s10 hf _ _ _ hS (lv_sub hl [1, 2, 0] rfl)
      · intro  s16 hf H locs ls hS hl
        refine lv_aload_n hx hb dX11_takeUp_118 rfl (lv_at hl 0 rfl) ?_
        refine g_get (cx := 0) K hS lF_X11_7 ((eM_0 G o) _) (by decide) rfl dX11_takeUp_119 ?_
        refine lv_iconst (v := 4) hx hb dX11_takeUp_122 (by decide) ?_
        refine g_iald (cx := 1) (j := 4) K hS (eM_1 G o) (by decide) (by decide) (by decide) dX11_takeUp_123 ?_
        exact g_iret K hS hf dX11_takeUp_124
  · have hf := gIf_t c2 hf
    refine lv_iconst (v := (-1)) hx hb dX11_takeUp_8 (by decide) ?_
    exact g_iret K hS hf dX11_takeUp_9
abbrev rmX11_isAt : Room := { frames := 1, cells := 0, slots := 0, locals := 22 }
def f_X11_isAt (p0 : Int32) (p1 : Int32) (σ : gS) : Option (Int32 × gS) := Option.bind (f_X11_ofBoard p0 0 σ) (fun q1 => if q1.1 = p1 then (some (1, q1.2)) else (Option.bind (f_X11_ofBoard p0 1 q1.2) (fun q3 => if q3.1 = p1 then (some (1, q3.2)) else (some (0, q3.2)))))
set_option maxHeartbeats 4000000 in
set_option maxRecDepth 100000 in
theorem c_X11_isAt (p0 : Int32) (p1 : Int32) (σ : gS) (q : Int32 × gS) (hf : f_X11_isAt p0 p1 σ = some q) : Met l yX11_isAt (gW yX11_isAt cX11_isAt 3 (some .boolean)) rmX11_isAt (gPc G (entM G o) o 9 [.ref (o + 0), .int p0, .int p1] σ) (gQi G (entM G o) o 9 q) 0 0 (gA o 9) := by
  refine g_met (by decide) ⟨rfl, rfl⟩ (fun p e s m args below meth c ls K hS hl => ?_) (Nat.le_of_ble_eq_true rfl)
  have K : gK p s m args meth c G cX11_isAt 3 RX11 (some .boolean) := K
  have hl : lv_has ls 3 [(0, .ref (o + 0)), (1, .int p0), (2, .int p1)] := hl
  obtain ⟨hx, hb, hml, hown, hts, -⟩ := id K
  unfold f_X11_isAt at hf
  refine lv_aload_n hx hb dX11_isAt_0 rfl (lv_at hl 0 rfl) ?_
  refine lv_iload_n hx hb dX11_isAt_1 rfl (lv_at hl 1 rfl) ?_
  refine lv_iconst (v := 0) hx hb dX11_isAt_2 (by decide) ?_
  obtain ⟨q1, hq1, hf⟩ := Option.bind_eq_some_iff.mp hf
  refine g_Vi (cx := 0) (As := [.int p0, .int 0]) K hS lV_X11_65 (c_X11_ofBoard p0 0 σ q1 hq1) ((eM_0 G o) _) (by decide) rfl rfl rfl (Nat.le_of_ble_eq_true rfl) ⟨⟨Nat.le_of_ble_eq_true rfl, Nat.le_of_ble_eq_true rfl⟩, rfl, rfl⟩ hl.1 ⟨Nat.zero_le _, Nat.zero_le _⟩ dX11_isAt_3 (fun H locs hS => ?_)
  refine lv_iload_n hx hb dX11_isAt_6 rfl (lv_at hl 2 rfl) ?_
  refine lv_icmp_eq (tgt := 20) hx hb dX11_isAt_7 (by decide) (fun c2 => ?_) (fun c2 => ?_)
  · have hf := gIf_t c2 hf
    refine lv_iconst (v := 1) hx hb dX11_isAt_20 (by decide) ?_
    refine lv_goto (tgt := 25) hx hb dX11_isAt_21 (by decide) ?_
    exact g_zret K hS rfl hf dX11_isAt_25
  · have hf := gIf_f c2 hf
    refine lv_aload_n hx hb dX11_isAt_10 rfl (lv_at hl 0 rfl) ?_
    refine lv_iload_n hx hb dX11_isAt_11 rfl (lv_at hl 1 rfl) ?_
    refine lv_iconst (v := 1) hx hb dX11_isAt_12 (by decide) ?_
    obtain ⟨q3, hq3, hf⟩ := Option.bind_eq_some_iff.mp hf
    refine g_Vi (cx := 0) (As := [.int p0, .int 1]) K hS lV_X11_65 (c_X11_ofBoard p0 1 q1.2 q3 hq3) ((eM_0 G o) _) (by decide) rfl rfl rfl (Nat.le_of_ble_eq_true rfl) ⟨⟨Nat.le_of_ble_eq_true rfl, Nat.le_of_ble_eq_true rfl⟩, rfl, rfl⟩ hl.1 ⟨Nat.zero_le _, Nat.zero_le _⟩ dX11_isAt_13 (fun H locs hS => ?_)
    refine lv_iload_n hx hb dX11_isAt_16 rfl (lv_at hl 2 rfl) ?_
    refine lv_icmp_ne (tgt := 24) hx hb dX11_isAt_17 (by decide) (fun c4 => ?_) (fun c4 => ?_)
    · have hf := gIf_f c4 hf
      refine lv_iconst (v := 0) hx hb dX11_isAt_24 (by decide) ?_
      exact g_zret K hS rfl hf dX11_isAt_25
    · have hf := gIf_t c4 hf
      refine lv_iconst (v := 1) hx hb dX11_isAt_20 (by decide) ?_
      refine lv_goto (tgt := 25) hx hb dX11_isAt_21 (by decide) ?_
      exact g_zret K hS rfl hf dX11_isAt_25
abbrev rmX11_across : Room := { frames := 1, cells := 0, slots := 0, locals := 22 }
def f_X11_across (p0 : Int32) (p1 : Int32) (σ : gS) : Option (Int32 × gS) := Option.bind (f_X11_ofBoard p0 0 σ) (fun q1 => if q1.1 = p1 then (Option.bind (f_X11_ofBoard p0 1 q1.2) (fun q4 => some (q4.1, q4.2))) else (Option.bind (f_X11_ofBoard p0 0 q1.2) (fun q3 => some (q3.1, q3.2))))
set_option maxHeartbeats 4000000 in
set_option maxRecDepth 100000 in
theorem c_X11_across (p0 : Int32) (p1 : Int32) (σ : gS) (q : Int32 × gS) (hf : f_X11_across p0 p1 σ = some q) : Met l yX11_across (gW yX11_across cX11_across 3 (some .int)) rmX11_across (gPc G (entM G o) o 9 [.ref (o + 0), .int p0, .int p1] σ) (gQi G (entM G o) o 9 q) 0 0 (gA o 9) := by
  refine g_met (by decide) ⟨rfl, rfl⟩ (fun p e s m args below meth c ls K hS hl => ?_) (Nat.le_of_ble_eq_true rfl)
  have K : gK p s m args meth c G cX11_across 3 RX11 (some .int) := K
  have hl : lv_has ls 3 [(0, .ref (o + 0)), (1, .int p0), (2, .int p1)] := hl
  obtain ⟨hx, hb, hml, hown, hts, -⟩ := id K
  unfold f_X11_across at hf
  refine lv_aload_n hx hb dX11_across_0 rfl (lv_at hl 0 rfl) ?_
  refine lv_iload_n hx hb dX11_across_1 rfl (lv_at hl 1 rfl) ?_
  refine lv_iconst (v := 0) hx hb dX11_across_2 (by decide) ?_
  obtain ⟨q1, hq1, hf⟩ := Option.bind_eq_some_iff.mp hf
  refine g_Vi (cx := 0) (As := [.int p0, .int 0]) K hS lV_X11_65 (c_X11_ofBoard p0 0 σ q1 hq1) ((eM_0 G o) _) (by decide) rfl rfl rfl (Nat.le_of_ble_eq_true rfl) ⟨⟨Nat.le_of_ble_eq_true rfl, Nat.le_of_ble_eq_true rfl⟩, rfl, rfl⟩ hl.1 ⟨Nat.zero_le _, Nat.zero_le _⟩ dX11_across_3 (fun H locs hS => ?_)
  refine lv_iload_n hx hb dX11_across_6 rfl (lv_at hl 2 rfl) ?_
  refine lv_icmp_ne (tgt := 19) hx hb dX11_across_7 (by decide) (fun c2 => ?_) (fun c2 => ?_)
  · have hf := gIf_f c2 hf
    refine lv_aload_n hx hb dX11_across_19 rfl (lv_at hl 0 rfl) ?_
    refine lv_iload_n hx hb dX11_across_20 rfl (lv_at hl 1 rfl) ?_
    refine lv_iconst (v := 0) hx hb dX11_across_21 (by decide) ?_
    obtain ⟨q3, hq3, hf⟩ := Option.bind_eq_some_iff.mp hf
    refine g_Vi (cx := 0) (As := [.int p0, .int 0]) K hS lV_X11_65 (c_X11_ofBoard p0 0 q1.2 q3 hq3) ((eM_0 G o) _) (by decide) rfl rfl rfl (Nat.le_of_ble_eq_true rfl) ⟨⟨Nat.le_of_ble_eq_true rfl, Nat.le_of_ble_eq_true rfl⟩, rfl, rfl⟩ hl.1 ⟨Nat.zero_le _, Nat.zero_le _⟩ dX11_across_22 (fun H locs hS => ?_)
    exact g_iret K hS hf dX11_across_25
  · have hf := gIf_t c2 hf
    refine lv_aload_n hx hb dX11_across_10 rfl (lv_at hl 0 rfl) ?_
    refine lv_iload_n hx hb dX11_across_11 rfl (lv_at hl 1 rfl) ?_
    refine lv_iconst (v := 1) hx hb dX11_across_12 (by decide) ?_
    obtain ⟨q4, hq4, hf⟩ := Option.bind_eq_some_iff.mp hf
    refine g_Vi (cx := 0) (As := [.int p0, .int 1]) K hS lV_X11_65 (c_X11_ofBoard p0 1 q1.2 q4 hq4) ((eM_0 G o) _) (by decide) rfl rfl rfl (Nat.le_of_ble_eq_true rfl) ⟨⟨Nat.le_of_ble_eq_true rfl, Nat.le_of_ble_eq_true rfl⟩, rfl, rfl⟩ hl.1 ⟨Nat.zero_le _, Nat.zero_le _⟩ dX11_across_13 (fun H locs hS => ?_)
    refine lv_goto (tgt := 25) hx hb dX11_across_16 (by decide) ?_
    exact g_iret K hS hf dX11_across_25
abbrev rmX11_measure : Room := { frames := 1, cells := 0, slots := 0, locals := 22 }
def f_X11_measure_L3 (w1 : Int32) (w2 : Int32) (w3 : Int32) (K35 : gS → Option (gS)) : Nat → Int32 → gS → Option (gS)
  | 0, _, _ => none
  | n + 1, v4, σ => if 10 ≤ v4 then (K35 σ) else (gLet (fun (j2 : Int32) (j3 : Int32) (s4 : gS) => gGd (gin j2 10) (gLet (up2 s4 6 (gil j2) j3) (fun s6 => f_X11_measure_L3 w1 w2 w3 K35 n (v4 + 1) s6))) (fun J5 => if v4 = w1 then (J5 v4 0 σ) else (J5 v4 1000000 σ)))
theorem f_X11_measure_L3_s (w1 : Int32) (w2 : Int32) (w3 : Int32) (K35 : gS → Option (gS)) (n : Nat) (v4 : Int32) (σ : gS) : f_X11_measure_L3 w1 w2 w3 K35 (n + 1) v4 σ = (if 10 ≤ v4 then (K35 σ) else (gLet (fun (j2 : Int32) (j3 : Int32) (s4 : gS) => gGd (gin j2 10) (gLet (up2 s4 6 (gil j2) j3) (fun s6 => f_X11_measure_L3 w1 w2 w3 K35 n (v4 + 1) s6))) (fun J5 => if v4 = w1 then (J5 v4 0 σ) else (J5 v4 1000000 σ)))) := rfl
def f_X11_measure_L48 (w2 : Int32) (w3 : Int32) (w4 : Int32) (K209 : gS → Option (gS)) : Nat → Int32 → gS → Option (gS)
  | 0, _, _ => none
  | n + 1, v5, σ => if (σ 1 4) ≤ v5 then (K209 σ) else (if ((w2 >>> (v5 &&& 31)) &&& 1) = 1 then (gLet (fun (j13 : Int32) (s14 : gS) => Option.bind (f_X11_ofBoard v5 0 s14) (fun q16 => Option.bind (f_X11_ofBoard v5 1 q16.2) (fun q17 => gGd (gin q17.1 10) (gGd (gin q16.1 10) (gLet (fun (j20 : Int32) (j21 : Int32) (s22 : gS) => gGd (gin j20 10) (gLet (up2 s22 6 (gil j20) j21) (fun s24 => gGd (gin q16.1 10) (gGd (gin q17.1 10) (gLet (fun (j27 : Int32) (j28 : Int32) (s29 : gS) => gGd (gin j27 10) (gLet (up2 s29 6 (gil j27) j28) (fun s31 => f_X11_measure_L48 w2 w3 w4 K209 n (v5 + 1) s31))) (fun J30 => if (s24 6 (gil q17.1)) ≤ ((s24 6 (gil q16.1)) + j13) then (gGd (gin q17.1 10) (J30 q17.1 (s24 6 (gil q17.1)) s24)) else (gGd (gin q16.1 10) (J30 q17.1 ((s24 6 (gil q16.1)) + j13) s24)))))))) (fun J23 => if (q17.2 6 (gil q16.1)) ≤ ((q17.2 6 (gil q17.1)) + j13) then (gGd (gin q16.1 10) (J23 q16.1 (q17.2 6 (gil q16.1)) q17.2)) else (gGd (gin q17.1 10) (J23 q16.1 ((q17.2 6 (gil q17.1)) + j13) q17.2)))))))) (fun J15 => if w3 = 0 then (J15 1 σ) else (Option.bind (f_X11_ofBoard v5 3 σ) (fun q41 => J15 ((100 * q41.1) + 1) q41.2)))) else (f_X11_measure_L48 w2 w3 w4 K209 n (v5 + 1) σ))
theorem f_X11_measure_L48_s (w2 : Int32) (w3 : Int32) (w4 : Int32) (K209 : gS → Option (gS)) (n : Nat) (v5 : Int32) (σ : gS) : f_X11_measure_L48 w2 w3 w4 K209 (n + 1) v5 σ = (if (σ 1 4) ≤ v5 then (K209 σ) else (if ((w2 >>> (v5 &&& 31)) &&& 1) = 1 then (gLet (fun (j13 : Int32) (s14 : gS) => Option.bind (f_X11_ofBoard v5 0 s14) (fun q16 => Option.bind (f_X11_ofBoard v5 1 q16.2) (fun q17 => gGd (gin q17.1 10) (gGd (gin q16.1 10) (gLet (fun (j20 : Int32) (j21 : Int32) (s22 : gS) => gGd (gin j20 10) (gLet (up2 s22 6 (gil j20) j21) (fun s24 => gGd (gin q16.1 10) (gGd (gin q17.1 10) (gLet (fun (j27 : Int32) (j28 : Int32) (s29 : gS) => gGd (gin j27 10) (gLet (up2 s29 6 (gil j27) j28) (fun s31 => f_X11_measure_L48 w2 w3 w4 K209 n (v5 + 1) s31))) (fun J30 => if (s24 6 (gil q17.1)) ≤ ((s24 6 (gil q16.1)) + j13) then (gGd (gin q17.1 10) (J30 q17.1 (s24 6 (gil q17.1)) s24)) else (gGd (gin q16.1 10) (J30 q17.1 ((s24 6 (gil q16.1)) + j13) s24)))))))) (fun J23 => if (q17.2 6 (gil q16.1)) ≤ ((q17.2 6 (gil q17.1)) + j13) then (gGd (gin q16.1 10) (J23 q16.1 (q17.2 6 (gil q16.1)) q17.2)) else (gGd (gin q17.1 10) (J23 q16.1 ((q17.2 6 (gil q17.1)) + j13) q17.2)))))))) (fun J15 => if w3 = 0 then (J15 1 σ) else (Option.bind (f_X11_ofBoard v5 3 σ) (fun q41 => J15 ((100 * q41.1) + 1) q41.2)))) else (f_X11_measure_L48 w2 w3 w4 K209 n (v5 + 1) σ))) := rfl
def f_X11_measure_L38 (w2 : Int32) (w3 : Int32) : Nat → Int32 → gS → Option (gS)
  | 0, _, _ => none
  | n + 1, v4, σ => if 10 ≤ v4 then (some σ) else (f_X11_measure_L48 w2 w3 v4 (fun (s42 : gS) => f_X11_measure_L38 w2 w3 n (v4 + 1) s42) gFu 0 σ)
theorem f_X11_measure_L38_s (w2 : Int32) (w3 : Int32) (n : Nat) (v4 : Int32) (σ : gS) : f_X11_measure_L38 w2 w3 (n + 1) v4 σ = (if 10 ≤ v4 then (some σ) else (f_X11_measure_L48 w2 w3 v4 (fun (s42 : gS) => f_X11_measure_L38 w2 w3 n (v4 + 1) s42) gFu 0 σ)) := rfl
def f_X11_measure (p0 : Int32) (p1 : Int32) (p2 : Int32) (σ : gS) : Option (gS) := f_X11_measure_L3 p0 p1 p2 (fun (s9 : gS) => f_X11_measure_L38 p1 p2 gFu 1 s9) gFu 0 σ
set_option maxHeartbeats 4000000 in
set_option maxRecDepth 100000 in
theorem w_X11_measure_L3 (w1 : Int32) (w2 : Int32) (w3 : Int32) (K35 : gS → Option (gS)) {q : gS} (K : gK p s m args meth c G cX11_measure 9 RX11 none) (hK35 : ∀ (σ : gS), K35 σ = some q → ∀ (H : Heap) (locs : List Loc) (ls : Array Slot), gSt G (entM G o) o 9 s σ H locs → lv_has ls 9 [(0, .ref (o + 0)), (2, .int w2), (3, .int w3)] → W p l e rmX11_measure s m args below meth c H locs 0 0 (MQ below (gQv G (entM G o) o 9 q) args s 0 0 (gA o 9)) (F0 m 35 ls [])) : ∀ (n : Nat) (v4 : Int32) (σ : gS), f_X11_measure_L3 w1 w2 w3 K35 n v4 σ = some q → ∀ (H : Heap) (locs : List Loc) (ls : Array Slot), gSt G (entM G o) o 9 s σ H locs → lv_has ls 9 [(0, .ref (o + 0)), (1, .int w1), (2, .int w2), (3, .int w3), (4, .int v4)] → W p l e rmX11_measure s m args below meth c H locs 0 0 (MQ below (gQv G (entM G o) o 9 q) args s 0 0 (gA o 9)) (F0 m 3 ls []) := by
  obtain ⟨hx, hb, hml, hown, hts, -⟩ := id K
  intro n
  induction n with
  | zero =>
    intro v4 σ hf
    exact absurd (show (none : Option _) = some q from hf) (by simp)
  | succ n ih =>
    intro v4 σ hf H locs ls hS hl
    rw [f_X11_measure_L3_s] at hf
    refine lv_iload hx hb dX11_measure_3 (lv_at hl 4 rfl) ?_
    refine lv_bipush (v := 10) hx hb dX11_measure_5 (by decide) ?_
    refine lv_icmp_ge (tgt := 35) hx hb dX11_measure_7 (by decide) (fun c1 => ?_) (fun c1 => ?_)
    · have hf := gIf_t c1 hf
      exact hK35 σ hf _ _ _ hS (lv_sub hl [0, 2, 3] rfl)
    · have hf := gIf_f c1 hf
      refine lv_aload_n hx hb dX11_measure_10 rfl (lv_at hl 0 rfl) ?_
      refine g_get (cx := 0) K hS lF_X11_27 ((eM_0 G o) _) (by decide) rfl dX11_measure_11 ?_
      refine lv_iload hx hb dX11_measure_14 (lv_at hl 4 rfl) ?_
      refine lv_iload hx hb dX11_measure_16 (lv_at hl 4 rfl) ?_
      refine lv_iload_n hx hb dX11_measure_18 rfl (lv_at hl 1 rfl) ?_
      obtain ⟨J5, hJ5, hf⟩ := gLet_some hf
      have wJ5 : ∀ (j2 : Int32) (j3 : Int32) (s4 : gS), J5 j2 j3 s4 = some q → ∀ (H : Heap) (locs : List Loc) (ls : Array Slot), gSt G (entM G o) o 9 s s4 H locs → lv_has ls 9 [(0, .ref (o + 0)), (1, .int w1), (2, .int w2), (3, .int w3), (4, .int v4)] → W p l e rmX11_measure s m args below meth c H locs 0 0 (MQ below (gQv G (entM G o) o 9 q) args s 0 0 (gA o 9)) (F0 m 28 ls [.int j3, .int j2, .ref (o + 6)]) := by
        intro j2 j3 s4 hf H locs ls hS hl
        rw [hJ5] at hf
        obtain ⟨h7, hf⟩ := gGd_some hf
        obtain ⟨s6, hs6, hf⟩ := gLet_some hf
        refine g_iast (cx := 6) K hS (eM_6 G o) (by decide) h7 rfl dX11_measure_28 (fun H locs hS => ?_)
        rw [← hs6] at hS
        refine lv_iinc (v := (v4 + 1)) (lv' := [(4, .int (v4 + 1)), (0, .ref (o + 0)), (1, .int w1), (2, .int w2), (3, .int w3)]) hx hb dX11_measure_29 hl (k := 4) rfl rfl (by decide) rfl (fun ls hl => ?_)
        refine lv_goto (tgt := 3) hx hb dX11_measure_32 (by decide) ?_
        exact ih (v4 + 1) s6 hf _ _ _ hS (lv_sub hl [1, 2, 3, 4, 0] rfl)
      clear hJ5
      refine lv_icmp_ne (tgt := 26) hx hb dX11_measure_19 (by decide) (fun c8 => ?_) (fun c8 => ?_)
      · have hf := gIf_f c8 hf
        refine lv_ldc (v := 1000000) hx hb hown (hts _ (gmem 863 (by decide +kernel) rfl)) dX11_measure_26 ?_
        exact wJ5 v4 1000000 σ hf _ _ _ hS (lv_sub hl [0, 1, 2, 3, 4] rfl)
      · have hf := gIf_t c8 hf
        refine lv_iconst (v := 0) hx hb dX11_measure_22 (by decide) ?_
        refine lv_goto (tgt := 28) hx hb dX11_measure_23 (by decide) ?_
        exact wJ5 v4 0 σ hf _ _ _ hS (lv_sub hl [0, 1, 2, 3, 4] rfl)
set_option maxHeartbeats 4000000 in
set_option maxRecDepth 100000 in
theorem w_X11_measure_L48 (w2 : Int32) (w3 : Int32) (w4 : Int32) (K209 : gS → Option (gS)) {q : gS} (K : gK p s m args meth c G cX11_measure 9 RX11 none) (hK209 : ∀ (σ : gS), K209 σ = some q → ∀ (H : Heap) (locs : List Loc) (ls : Array Slot), gSt G (entM G o) o 9 s σ H locs → lv_has ls 9 [(0, .ref (o + 0)), (2, .int w2), (3, .int w3), (4, .int w4)] → W p l e rmX11_measure s m args below meth c H locs 0 0 (MQ below (gQv G (entM G o) o 9 q) args s 0 0 (gA o 9)) (F0 m 209 ls [])) : ∀ (n : Nat) (v5 : Int32) (σ : gS), f_X11_measure_L48 w2 w3 w4 K209 n v5 σ = some q → ∀ (H : Heap) (locs : List Loc) (ls : Array Slot), gSt G (entM G o) o 9 s σ H locs → lv_has ls 9 [(0, .ref (o + 0)), (2, .int w2), (3, .int w3), (4, .int w4), (5, .int v5)] → W p l e rmX11_measure s m args below meth c H locs 0 0 (MQ below (gQv G (entM G o) o 9 q) args s 0 0 (gA o 9)) (F0 m 48 ls []) := by
  obtain ⟨hx, hb, hml, hown, hts, -⟩ := id K
  intro n
  induction n with
  | zero =>
    intro v5 σ hf
    exact absurd (show (none : Option _) = some q from hf) (by simp)
  | succ n ih =>
    intro v5 σ hf H locs ls hS hl
    rw [f_X11_measure_L48_s] at hf
    refine lv_iload hx hb dX11_measure_48 (lv_at hl 4 rfl) ?_
    refine lv_aload_n hx hb dX11_measure_50 rfl (lv_at hl 0 rfl) ?_
    refine g_get (cx := 0) K hS lF_X11_7 ((eM_0 G o) _) (by decide) rfl dX11_measure_51 ?_
    refine lv_iconst (v := 4) hx hb dX11_measure_54 (by decide) ?_
    refine g_iald (cx := 1) (j := 4) K hS (eM_1 G o) (by decide) (by decide) (by decide) dX11_measure_55 ?_
    refine lv_icmp_ge (tgt := 209) hx hb dX11_measure_56 (by decide) (fun c11 => ?_) (fun c11 => ?_)
    · have hf := gIf_t c11 hf
      exact hK209 σ hf _ _ _ hS (lv_sub hl [0, 1, 2, 3] rfl)
    · have hf := gIf_f c11 hf
      refine lv_iload_n hx hb dX11_measure_59 rfl (lv_at hl 1 rfl) ?_
      refine lv_iload hx hb dX11_measure_60 (lv_at hl 4 rfl) ?_
      refine lv_ishr hx hb dX11_measure_62 ?_
      refine lv_iconst (v := 1) hx hb dX11_measure_63 (by decide) ?_
      refine lv_iand hx hb dX11_measure_64 ?_
      refine lv_iconst (v := 1) hx hb dX11_measure_65 (by decide) ?_
      refine lv_icmp_ne (tgt := 203) hx hb dX11_measure_66 (by decide) (fun c12 => ?_) (fun c12 => ?_)
      · have hf := gIf_f c12 hf
        refine lv_iinc (v := (v5 + 1)) (lv' := [(5, .int (v5 + 1)), (0, .ref (o + 0)), (2, .int w2), (3, .int w3), (4, .int w4)]) hx hb dX11_measure_203 hl (k := 4) rfl rfl (by decide) rfl (fun ls hl => ?_)
        refine lv_goto (tgt := 48) hx hb dX11_measure_206 (by decide) ?_
        exact ih (v5 + 1) σ hf _ _ _ hS (lv_sub hl [1, 2, 3, 4, 0] rfl)
      · have hf := gIf_t c12 hf
        refine lv_iload_n hx hb dX11_measure_69 rfl (lv_at hl 2 rfl) ?_
        obtain ⟨J15, hJ15, hf⟩ := gLet_some hf
        have wJ15 : ∀ (j13 : Int32) (s14 : gS), J15 j13 s14 = some q → ∀ (H : Heap) (locs : List Loc) (ls : Array Slot), gSt G (entM G o) o 9 s s14 H locs → lv_has ls 9 [(0, .ref (o + 0)), (2, .int w2), (3, .int w3), (4, .int w4), (5, .int v5)] → W p l e rmX11_measure s m args below meth c H locs 0 0 (MQ below (gQv G (entM G o) o 9 q) args s 0 0 (gA o 9)) (F0 m 89 ls [.int j13]) := by
          intro j13 s14 hf H locs ls hS hl
          rw [hJ15] at hf
          refine lv_istore (lv' := [(6, .int j13), (0, .ref (o + 0)), (2, .int w2), (3, .int w3), (4, .int w4), (5, .int v5)]) hx hb dX11_measure_89 hl (by decide) rfl (fun ls hl => ?_)
          refine lv_aload_n hx hb dX11_measure_91 rfl (lv_at hl 1 rfl) ?_
          refine lv_iload hx hb dX11_measure_92 (lv_at hl 5 rfl) ?_
          refine lv_iconst (v := 0) hx hb dX11_measure_94 (by decide) ?_
          obtain ⟨q16, hq16, hf⟩ := Option.bind_eq_some_iff.mp hf
          refine g_Vi (cx := 0) (As := [.int v5, .int 0]) K hS lV_X11_65 (c_X11_ofBoard v5 0 s14 q16 hq16) ((eM_0 G o) _) (by decide) rfl rfl rfl (Nat.le_of_ble_eq_true rfl) ⟨⟨Nat.le_of_ble_eq_true rfl, Nat.le_of_ble_eq_true rfl⟩, rfl, rfl⟩ hl.1 ⟨Nat.zero_le _, Nat.zero_le _⟩ dX11_measure_95 (fun H locs hS => ?_)
          refine lv_istore (lv' := [(7, .int q16.1), (6, .int j13), (0, .ref (o + 0)), (2, .int w2), (3, .int w3), (4, .int w4), (5, .int v5)]) hx hb dX11_measure_98 hl (by decide) rfl (fun ls hl => ?_)
          refine lv_aload_n hx hb dX11_measure_100 rfl (lv_at hl 2 rfl) ?_
          refine lv_iload hx hb dX11_measure_101 (lv_at hl 6 rfl) ?_
          refine lv_iconst (v := 1) hx hb dX11_measure_103 (by decide) ?_
          obtain ⟨q17, hq17, hf⟩ := Option.bind_eq_some_iff.mp hf
          refine g_Vi (cx := 0) (As := [.int v5, .int 1]) K hS lV_X11_65 (c_X11_ofBoard v5 1 q16.2 q17 hq17) ((eM_0 G o) _) (by decide) rfl rfl rfl (Nat.le_of_ble_eq_true rfl) ⟨⟨Nat.le_of_ble_eq_true rfl, Nat.le_of_ble_eq_true rfl⟩, rfl, rfl⟩ hl.1 ⟨Nat.zero_le _, Nat.zero_le _⟩ dX11_measure_104 (fun H locs hS => ?_)
          refine lv_istore (lv' := [(8, .int q17.1), (7, .int q16.1), (6, .int j13), (0, .ref (o + 0)), (2, .int w2), (3, .int w3), (4, .int w4), (5, .int v5)]) hx hb dX11_measure_107 hl (by decide) rfl (fun ls hl => ?_)
          refine lv_aload_n hx hb dX11_measure_109 rfl (lv_at hl 3 rfl) ?_
          refine g_get (cx := 0) K hS lF_X11_27 ((eM_0 G o) _) (by decide) rfl dX11_measure_110 ?_
          refine lv_iload hx hb dX11_measure_113 (lv_at hl 1 rfl) ?_
          refine lv_aload_n hx hb dX11_measure_115 rfl (lv_at hl 3 rfl) ?_
          refine g_get (cx := 0) K hS lF_X11_27 ((eM_0 G o) _) (by decide) rfl dX11_measure_116 ?_
          refine lv_iload hx hb dX11_measure_119 (lv_at hl 0 rfl) ?_
          obtain ⟨h18, hf⟩ := gGd_some hf
          refine g_iald (cx := 6) K hS (eM_6 G o) (by decide) h18 rfl dX11_measure_121 ?_
          refine lv_iload hx hb dX11_measure_122 (lv_at hl 2 rfl) ?_
          refine lv_iadd hx hb dX11_measure_124 ?_
          refine lv_aload_n hx hb dX11_measure_125 rfl (lv_at hl 3 rfl) ?_
          refine g_get (cx := 0) K hS lF_X11_27 ((eM_0 G o) _) (by decide) rfl dX11_measure_126 ?_
          refine lv_iload hx hb dX11_measure_129 (lv_at hl 1 rfl) ?_
          obtain ⟨h19, hf⟩ := gGd_some hf
          refine g_iald (cx := 6) K hS (eM_6 G o) (by decide) h19 rfl dX11_measure_131 ?_
          obtain ⟨J23, hJ23, hf⟩ := gLet_some hf
          have wJ23 : ∀ (j20 : Int32) (j21 : Int32) (s22 : gS), J23 j20 j21 s22 = some q → ∀ (H : Heap) (locs : List Loc) (ls : Array Slot), gSt G (entM G o) o 9 s s22 H locs → lv_has ls 9 [(0, .ref (o + 0)), (2, .int w2), (3, .int w3), (4, .int w4), (5, .int v5), (6, .int j13), (7, .int q16.1), (8, .int q17.1)] → W p l e rmX11_measure s m args below meth c H locs 0 0 (MQ below (gQv G (entM G o) o 9 q) args s 0 0 (gA o 9)) (F0 m 155 ls [.int j21, .int j20, .ref (o + 6)]) := by
            intro j20 j21 s22 hf H locs ls hS hl
            rw [hJ23] at hf
            obtain ⟨h36, hf⟩ := gGd_some hf
            obtain ⟨s24, hs24, hf⟩ := gLet_some hf
            refine g_iast (cx := 6) K hS (eM_6 G o) (by decide) h36 rfl dX11_measure_155 (fun H locs hS => ?_)
            rw [← hs24] at hS
            refine lv_aload_n hx hb dX11_measure_156 rfl (lv_at hl 0 rfl) ?_
            refine g_get (cx := 0) K hS lF_X11_27 ((eM_0 G o) _) (by decide) rfl dX11_measure_157 ?_
            refine lv_iload hx hb dX11_measure_160 (lv_at hl 7 rfl) ?_
            refine lv_aload_n hx hb dX11_measure_162 rfl (lv_at hl 0 rfl) ?_
            refine g_get (cx := 0) K hS lF_X11_27 ((eM_0 G o) _) (by decide) rfl dX11_measure_163 ?_
            refine lv_iload hx hb dX11_measure_166 (lv_at hl 6 rfl) ?_
            obtain ⟨h25, hf⟩ := gGd_some hf
            refine g_iald (cx := 6) K hS (eM_6 G o) (by decide) h25 rfl dX11_measure_168 ?_
            refine lv_iload hx hb dX11_measure_169 (lv_at hl 5 rfl) ?_
            refine lv_iadd hx hb dX11_measure_171 ?_
            refine lv_aload_n hx hb dX11_measure_172 rfl (lv_at hl 0 rfl) ?_
            refine g_get (cx := 0) K hS lF_X11_27 ((eM_0 G o) _) (by decide) rfl dX11_measure_173 ?_
            refine lv_iload hx hb dX11_measure_176 (lv_at hl 7 rfl) ?_
            obtain ⟨h26, hf⟩ := gGd_some hf
            refine g_iald (cx := 6) K hS (eM_6 G o) (by decide) h26 rfl dX11_measure_178 ?_
            obtain ⟨J30, hJ30, hf⟩ := gLet_some hf
            have wJ30 : ∀ (j27 : Int32) (j28 : Int32) (s29 : gS), J30 j27 j28 s29 = some q → ∀ (H : Heap) (locs : List Loc) (ls : Array Slot), gSt G (entM G o) o 9 s s29 H locs → lv_has ls 9 [(0, .ref (o + 0)), (2, .int w2), (3, .int w3), (4, .int w4), (5, .int v5)] → W p l e rmX11_measure s m args below meth c H locs 0 0 (MQ below (gQv G (entM G o) o 9 q) args s 0 0 (gA o 9)) (F0 m 202 ls [.int j28, .int j27, .ref (o + 6)]) := by
              intro j27 j28 s29 hf H locs ls hS hl
              rw [hJ30] at hf
              obtain ⟨h32, hf⟩ := gGd_some hf
              obtain ⟨s31, hs31, hf⟩ := gLet_some hf
              refine g_iast (cx := 6) K hS (eM_6 G o) (by decide) h32 rfl dX11_measure_202 (fun H locs hS => ?_)
              rw [← hs31] at hS
              refine lv_iinc (v := (v5 + 1)) (lv' := [(5, .int (v5 + 1)), (0, .ref (o + 0)), (2, .int w2), (3, .int w3), (4, .int w4)]) hx hb dX11_measure_203 hl (k := 4) rfl rfl (by decide) rfl (fun ls hl => ?_)
              refine lv_goto (tgt := 48) hx hb dX11_measure_206 (by decide) ?_
              exact ih (v5 + 1) s31 hf _ _ _ hS (lv_sub hl [1, 2, 3, 4, 0] rfl)
            clear hJ30
            refine lv_icmp_ge (tgt := 195) hx hb dX11_measure_179 (by decide) (fun c33 => ?_) (fun c33 => ?_)
            · have hf := gIf_t c33 hf
              refine lv_aload_n hx hb dX11_measure_195 rfl (lv_at hl 0 rfl) ?_
              refine g_get (cx := 0) K hS lF_X11_27 ((eM_0 G o) _) (by decide) rfl dX11_measure_196 ?_
              refine lv_iload hx hb dX11_measure_199 (lv_at hl 7 rfl) ?_
              obtain ⟨h34, hf⟩ := gGd_some hf
              refine g_iald (cx := 6) K hS (eM_6 G o) (by decide) h34 rfl dX11_measure_201 ?_
              exact wJ30 q17.1 (s24 6 (gil q17.1)) s24 hf _ _ _ hS (lv_sub hl [0, 1, 2, 3, 4] rfl)
            · have hf := gIf_f c33 hf
              refine lv_aload_n hx hb dX11_measure_182 rfl (lv_at hl 0 rfl) ?_
              refine g_get (cx := 0) K hS lF_X11_27 ((eM_0 G o) _) (by decide) rfl dX11_measure_183 ?_
              refine lv_iload hx hb dX11_measure_186 (lv_at hl 6 rfl) ?_
              obtain ⟨h35, hf⟩ := gGd_some hf
              refine g_iald (cx := 6) K hS (eM_6 G o) (by decide) h35 rfl dX11_measure_188 ?_
              refine lv_iload hx hb dX11_measure_189 (lv_at hl 5 rfl) ?_
              refine lv_iadd hx hb dX11_measure_191 ?_
              refine lv_goto (tgt := 202) hx hb dX11_measure_192 (by decide) ?_
              exact wJ30 q17.1 ((s24 6 (gil q16.1)) + j13) s24 hf _ _ _ hS (lv_sub hl [0, 1, 2, 3, 4] rfl)
          clear hJ23
          refine lv_icmp_ge (tgt := 148) hx hb dX11_measure_132 (by decide) (fun c37 => ?_) (fun c37 => ?_)
          · have hf := gIf_t c37 hf
            refine lv_aload_n hx hb dX11_measure_148 rfl (lv_at hl 3 rfl) ?_
            refine g_get (cx := 0) K hS lF_X11_27 ((eM_0 G o) _) (by decide) rfl dX11_measure_149 ?_
            refine lv_iload hx hb dX11_measure_152 (lv_at hl 1 rfl) ?_
            obtain ⟨h38, hf⟩ := gGd_some hf
            refine g_iald (cx := 6) K hS (eM_6 G o) (by decide) h38 rfl dX11_measure_154 ?_
            exact wJ23 q16.1 (q17.2 6 (gil q16.1)) q17.2 hf _ _ _ hS (lv_sub hl [3, 4, 5, 6, 7, 2, 1, 0] rfl)
          · have hf := gIf_f c37 hf
            refine lv_aload_n hx hb dX11_measure_135 rfl (lv_at hl 3 rfl) ?_
            refine g_get (cx := 0) K hS lF_X11_27 ((eM_0 G o) _) (by decide) rfl dX11_measure_136 ?_
            refine lv_iload hx hb dX11_measure_139 (lv_at hl 0 rfl) ?_
            obtain ⟨h39, hf⟩ := gGd_some hf
            refine g_iald (cx := 6) K hS (eM_6 G o) (by decide) h39 rfl dX11_measure_141 ?_
            refine lv_iload hx hb dX11_measure_142 (lv_at hl 2 rfl) ?_
            refine lv_iadd hx hb dX11_measure_144 ?_
            refine lv_goto (tgt := 155) hx hb dX11_measure_145 (by decide) ?_
            exact wJ23 q16.1 ((q17.2 6 (gil q17.1)) + j13) q17.2 hf _ _ _ hS (lv_sub hl [3, 4, 5, 6, 7, 2, 1, 0] rfl)
        clear hJ15
        refine lv_if_eq (tgt := 88) hx hb dX11_measure_70 (by decide) (fun c40 => ?_) (fun c40 => ?_)
        · have hf := gIf_t c40 hf
          refine lv_iconst (v := 1) hx hb dX11_measure_88 (by decide) ?_
          exact wJ15 1 σ hf _ _ _ hS (lv_sub hl [0, 1, 2, 3, 4] rfl)
        · have hf := gIf_f c40 hf
          refine lv_bipush (v := 100) hx hb dX11_measure_73 (by decide) ?_
          refine lv_aload_n hx hb dX11_measure_75 rfl (lv_at hl 0 rfl) ?_
          refine lv_iload hx hb dX11_measure_76 (lv_at hl 4 rfl) ?_
          refine lv_iconst (v := 3) hx hb dX11_measure_78 (by decide) ?_
          obtain ⟨q41, hq41, hf⟩ := Option.bind_eq_some_iff.mp hf
          refine g_Vi (cx := 0) (As := [.int v5, .int 3]) K hS lV_X11_65 (c_X11_ofBoard v5 3 σ q41 hq41) ((eM_0 G o) _) (by decide) rfl rfl rfl (Nat.le_of_ble_eq_true rfl) ⟨⟨Nat.le_of_ble_eq_true rfl, Nat.le_of_ble_eq_true rfl⟩, rfl, rfl⟩ hl.1 ⟨Nat.zero_le _, Nat.zero_le _⟩ dX11_measure_79 (fun H locs hS => ?_)
          refine lv_imul hx hb dX11_measure_82 ?_
          refine lv_iconst (v := 1) hx hb dX11_measure_83 (by decide) ?_
          refine lv_iadd hx hb dX11_measure_84 ?_
          refine lv_goto (tgt := 89) hx hb dX11_measure_85 (by decide) ?_
          exact wJ15 ((100 * q41.1) + 1) q41.2 hf _ _ _ hS (lv_sub hl [0, 1, 2, 3, 4] rfl)
set_option maxHeartbeats 4000000 in
set_option maxRecDepth 100000 in
theorem w_X11_measure_L38 (w2 : Int32) (w3 : Int32) {q : gS} (K : gK p s m args meth c G cX11_measure 9 RX11 none) : ∀ (n : Nat) (v4 : Int32) (σ : gS), f_X11_measure_L38 w2 w3 n v4 σ = some q → ∀ (H : Heap) (locs : List Loc) (ls : Array Slot), gSt G (entM G o) o 9 s σ H locs → lv_has ls 9 [(0, .ref (o + 0)), (2, .int w2), (3, .int w3), (4, .int v4)] → W p l e rmX11_measure s m args below meth c H locs 0 0 (MQ below (gQv G (entM G o) o 9 q) args s 0 0 (gA o 9)) (F0 m 38 ls []) := by
  obtain ⟨hx, hb, hml, hown, hts, -⟩ := id K
  intro n
  induction n with
  | zero =>
    intro v4 σ hf
    exact absurd (show (none : Option _) = some q from hf) (by simp)
  | succ n ih =>
    intro v4 σ hf H locs ls hS hl
    rw [f_X11_measure_L38_s] at hf
    refine lv_iload hx hb dX11_measure_38 (lv_at hl 3 rfl) ?_
    refine lv_bipush (v := 10) hx hb dX11_measure_40 (by decide) ?_
    refine lv_icmp_ge (tgt := 215) hx hb dX11_measure_42 (by decide) (fun c10 => ?_) (fun c10 => ?_)
    · have hf := gIf_t c10 hf
      exact g_vret K hS hf dX11_measure_215
    · have hf := gIf_f c10 hf
      refine lv_iconst (v := 0) hx hb dX11_measure_45 (by decide) ?_
      refine lv_istore (lv' := [(5, .int 0), (0, .ref (o + 0)), (2, .int w2), (3, .int w3), (4, .int v4)]) hx hb dX11_measure_46 hl (by decide) rfl (fun ls hl => ?_)
      refine w_X11_measure_L48 w2 w3 v4 _ K ?_ gFu 0 σ hf _ _ _ hS (lv_sub hl [1, 2, 3, 4, 0] rfl)
      · intro  s42 hf H locs ls hS hl
        refine lv_iinc (v := (v4 + 1)) (lv' := [(4, .int (v4 + 1)), (0, .ref (o + 0)), (2, .int w2), (3, .int w3)]) hx hb dX11_measure_209 hl (k := 3) rfl rfl (by decide) rfl (fun ls hl => ?_)
        refine lv_goto (tgt := 38) hx hb dX11_measure_212 (by decide) ?_
        exact ih (v4 + 1) s42 hf _ _ _ hS (lv_sub hl [1, 2, 3, 0] rfl)
set_option maxHeartbeats 4000000 in
set_option maxRecDepth 100000 in
theorem c_X11_measure (p0 : Int32) (p1 : Int32) (p2 : Int32) (σ : gS) (q : gS) (hf : f_X11_measure p0 p1 p2 σ = some q) : Met l yX11_measure (gW yX11_measure cX11_measure 9 none) rmX11_measure (gPc G (entM G o) o 9 [.ref (o + 0), .int p0, .int p1, .int p2] σ) (gQv G (entM G o) o 9 q) 0 0 (gA o 9) := by
  refine g_met (by decide) ⟨rfl, rfl⟩ (fun p e s m args below meth c ls K hS hl => ?_) (Nat.le_of_ble_eq_true rfl)
  have K : gK p s m args meth c G cX11_measure 9 RX11 none := K
  have hl : lv_has ls 9 [(0, .ref (o + 0)), (1, .int p0), (2, .int p1), (3, .int p2)] := hl
  obtain ⟨hx, hb, hml, hown, hts, -⟩ := id K
  unfold f_X11_measure at hf
  refine lv_iconst (v := 0) hx hb dX11_measure_0 (by decide) ?_
  refine lv_istore (lv' := [(4, .int 0), (0, .ref (o + 0)), (1, .int p0), (2, .int p1), (3, .int p2)]) hx hb dX11_measure_1 hl (by decide) rfl (fun ls hl => ?_)
  refine w_X11_measure_L3 p0 p1 p2 _ K ?_ gFu 0 σ hf _ _ _ hS (lv_sub hl [1, 2, 3, 4, 0] rfl)
  · intro  s9 hf H locs ls hS hl
    refine lv_iconst (v := 1) hx hb dX11_measure_35 (by decide) ?_
    refine lv_istore (lv' := [(4, .int 1), (0, .ref (o + 0)), (2, .int p1), (3, .int p2)]) hx hb dX11_measure_36 hl (by decide) rfl (fun ls hl => ?_)
    refine w_X11_measure_L38 p1 p2 K gFu 1 s9 hf _ _ _ hS (lv_sub hl [1, 2, 3, 0] rfl)
abbrev rmX11_all : Room := { frames := 0, cells := 0, slots := 0, locals := 0 }
def f_X11_all (σ : gS) : Option (Int32 × gS) := some (((1 <<< ((σ 1 4) &&& 31)) - 1), σ)
set_option maxHeartbeats 4000000 in
set_option maxRecDepth 100000 in
theorem c_X11_all (σ : gS) (q : Int32 × gS) (hf : f_X11_all σ = some q) : Met l yX11_all (gW yX11_all cX11_all 1 (some .int)) rmX11_all (gPc G (entM G o) o 9 [.ref (o + 0)] σ) (gQi G (entM G o) o 9 q) 0 0 (gA o 9) := by
  refine g_met (by decide) ⟨rfl, rfl⟩ (fun p e s m args below meth c ls K hS hl => ?_) (Nat.le_of_ble_eq_true rfl)
  have K : gK p s m args meth c G cX11_all 1 RX11 (some .int) := K
  have hl : lv_has ls 1 [(0, .ref (o + 0))] := hl
  obtain ⟨hx, hb, hml, hown, hts, -⟩ := id K
  unfold f_X11_all at hf
  refine lv_iconst (v := 1) hx hb dX11_all_0 (by decide) ?_
  refine lv_aload_n hx hb dX11_all_1 rfl (lv_at hl 0 rfl) ?_
  refine g_get (cx := 0) K hS lF_X11_7 ((eM_0 G o) _) (by decide) rfl dX11_all_2 ?_
  refine lv_iconst (v := 4) hx hb dX11_all_5 (by decide) ?_
  refine g_iald (cx := 1) (j := 4) K hS (eM_1 G o) (by decide) (by decide) (by decide) dX11_all_6 ?_
  refine lv_ishl hx hb dX11_all_7 ?_
  refine lv_iconst (v := 1) hx hb dX11_all_8 (by decide) ?_
  refine lv_isub hx hb dX11_all_9 ?_
  exact g_iret K hS hf dX11_all_10
abbrev rmX11_farOf : Room := { frames := 2, cells := 0, slots := 0, locals := 50 }
def f_X11_farOf (p0 : Int32) (p1 : Int32) (σ : gS) : Option (Int32 × gS) := Option.bind (f_X11_all σ) (fun q1 => Option.bind (f_X11_measure p0 q1.1 0 q1.2) (fun q2 => gGd (gin p1 10) (if (q2 6 (gil p1)) < 1000000 then (gGd (gin p1 10) (some ((q2 6 (gil p1)), q2))) else (some ((-6), q2)))))
set_option maxHeartbeats 4000000 in
set_option maxRecDepth 100000 in
theorem c_X11_farOf (p0 : Int32) (p1 : Int32) (σ : gS) (q : Int32 × gS) (hf : f_X11_farOf p0 p1 σ = some q) : Met l yX11_farOf (gW yX11_farOf cX11_farOf 3 (some .int)) rmX11_farOf (gPc G (entM G o) o 9 [.ref (o + 0), .int p0, .int p1] σ) (gQi G (entM G o) o 9 q) 0 0 (gA o 9) := by
  refine g_met (by decide) ⟨rfl, rfl⟩ (fun p e s m args below meth c ls K hS hl => ?_) (Nat.le_of_ble_eq_true rfl)
  have K : gK p s m args meth c G cX11_farOf 3 RX11 (some .int) := K
  have hl : lv_has ls 3 [(0, .ref (o + 0)), (1, .int p0), (2, .int p1)] := hl
  obtain ⟨hx, hb, hml, hown, hts, -⟩ := id K
  unfold f_X11_farOf at hf
  refine lv_aload_n hx hb dX11_farOf_0 rfl (lv_at hl 0 rfl) ?_
  refine lv_iload_n hx hb dX11_farOf_1 rfl (lv_at hl 1 rfl) ?_
  refine lv_aload_n hx hb dX11_farOf_2 rfl (lv_at hl 0 rfl) ?_
  obtain ⟨q1, hq1, hf⟩ := Option.bind_eq_some_iff.mp hf
  refine g_Vi (cx := 0) (As := []) K hS lV_X11_69 (c_X11_all σ q1 hq1) ((eM_0 G o) _) (by decide) rfl rfl rfl (Nat.le_of_ble_eq_true rfl) ⟨⟨Nat.le_of_ble_eq_true rfl, Nat.le_of_ble_eq_true rfl⟩, rfl, rfl⟩ hl.1 ⟨Nat.zero_le _, Nat.zero_le _⟩ dX11_farOf_3 (fun H locs hS => ?_)
  refine lv_iconst (v := 0) hx hb dX11_farOf_6 (by decide) ?_
  obtain ⟨q2, hq2, hf⟩ := Option.bind_eq_some_iff.mp hf
  refine g_Vv (cx := 0) (As := [.int p0, .int q1.1, .int 0]) K hS lV_X11_73 (c_X11_measure p0 q1.1 0 q1.2 q2 hq2) ((eM_0 G o) _) (by decide) rfl rfl rfl (Nat.le_of_ble_eq_true rfl) ⟨⟨Nat.le_of_ble_eq_true rfl, Nat.le_of_ble_eq_true rfl⟩, rfl, rfl⟩ hl.1 ⟨Nat.zero_le _, Nat.zero_le _⟩ dX11_farOf_7 (fun H locs hS => ?_)
  refine lv_aload_n hx hb dX11_farOf_10 rfl (lv_at hl 0 rfl) ?_
  refine g_get (cx := 0) K hS lF_X11_27 ((eM_0 G o) _) (by decide) rfl dX11_farOf_11 ?_
  refine lv_iload_n hx hb dX11_farOf_14 rfl (lv_at hl 2 rfl) ?_
  obtain ⟨h3, hf⟩ := gGd_some hf
  refine g_iald (cx := 6) K hS (eM_6 G o) (by decide) h3 rfl dX11_farOf_15 ?_
  refine lv_ldc (v := 1000000) hx hb hown (hts _ (gmem 863 (by decide +kernel) rfl)) dX11_farOf_16 ?_
  refine lv_icmp_lt (tgt := 26) hx hb dX11_farOf_18 (by decide) (fun c4 => ?_) (fun c4 => ?_)
  · have hf := gIf_t c4 hf
    refine lv_aload_n hx hb dX11_farOf_26 rfl (lv_at hl 0 rfl) ?_
    refine g_get (cx := 0) K hS lF_X11_27 ((eM_0 G o) _) (by decide) rfl dX11_farOf_27 ?_
    refine lv_iload_n hx hb dX11_farOf_30 rfl (lv_at hl 2 rfl) ?_
    obtain ⟨h5, hf⟩ := gGd_some hf
    refine g_iald (cx := 6) K hS (eM_6 G o) (by decide) h5 rfl dX11_farOf_31 ?_
    exact g_iret K hS hf dX11_farOf_32
  · have hf := gIf_f c4 hf
    refine lv_bipush (v := (-6)) hx hb dX11_farOf_21 (by decide) ?_
    refine lv_goto (tgt := 32) hx hb dX11_farOf_23 (by decide) ?_
    exact g_iret K hS hf dX11_farOf_32
abbrev rmX11_far : Room := { frames := 3, cells := 0, slots := 0, locals := 72 }
def f_X11_far (p0 : Int32) (p1 : Int32) (σ : gS) : Option (Int32 × gS) := Option.bind (f_X11_isRoom p0 σ) (fun q1 => if q1.1 = 0 then (some ((-1), q1.2)) else (Option.bind (f_X11_isRoom p1 q1.2) (fun q3 => if q3.1 = 0 then (some ((-1), q3.2)) else (Option.bind (f_X11_farOf p0 p1 q3.2) (fun q5 => some (q5.1, q5.2))))))
set_option maxHeartbeats 4000000 in
set_option maxRecDepth 100000 in
theorem c_X11_far (p0 : Int32) (p1 : Int32) (σ : gS) (q : Int32 × gS) (hf : f_X11_far p0 p1 σ = some q) : Met l yX11_far (gW yX11_far cX11_far 3 (some .int)) rmX11_far (gPc G (entM G o) o 9 [.ref (o + 0), .int p0, .int p1] σ) (gQi G (entM G o) o 9 q) 0 0 (gA o 9) := by
  refine g_met (by decide) ⟨rfl, rfl⟩ (fun p e s m args below meth c ls K hS hl => ?_) (Nat.le_of_ble_eq_true rfl)
  have K : gK p s m args meth c G cX11_far 3 RX11 (some .int) := K
  have hl : lv_has ls 3 [(0, .ref (o + 0)), (1, .int p0), (2, .int p1)] := hl
  obtain ⟨hx, hb, hml, hown, hts, -⟩ := id K
  unfold f_X11_far at hf
  refine lv_iload_n hx hb dX11_far_0 rfl (lv_at hl 1 rfl) ?_
  obtain ⟨q1, hq1, hf⟩ := Option.bind_eq_some_iff.mp hf
  refine g_Si (As := [.int p0]) K hS lS_X11_51 (c_X11_isRoom p0 σ q1 hq1) rfl rfl (Nat.le_of_ble_eq_true rfl) ⟨⟨Nat.le_of_ble_eq_true rfl, Nat.le_of_ble_eq_true rfl⟩, rfl, rfl⟩ hl.1 ⟨Nat.zero_le _, Nat.zero_le _⟩ dX11_far_1 (fun H locs hS => ?_)
  refine lv_if_eq (tgt := 23) hx hb dX11_far_4 (by decide) (fun c2 => ?_) (fun c2 => ?_)
  · have hf := gIf_t c2 hf
    refine lv_iconst (v := (-1)) hx hb dX11_far_23 (by decide) ?_
    exact g_iret K hS hf dX11_far_24
  · have hf := gIf_f c2 hf
    refine lv_iload_n hx hb dX11_far_7 rfl (lv_at hl 2 rfl) ?_
    obtain ⟨q3, hq3, hf⟩ := Option.bind_eq_some_iff.mp hf
    refine g_Si (As := [.int p1]) K hS lS_X11_51 (c_X11_isRoom p1 q1.2 q3 hq3) rfl rfl (Nat.le_of_ble_eq_true rfl) ⟨⟨Nat.le_of_ble_eq_true rfl, Nat.le_of_ble_eq_true rfl⟩, rfl, rfl⟩ hl.1 ⟨Nat.zero_le _, Nat.zero_le _⟩ dX11_far_8 (fun H locs hS => ?_)
    refine lv_if_eq (tgt := 23) hx hb dX11_far_11 (by decide) (fun c4 => ?_) (fun c4 => ?_)
    · have hf := gIf_t c4 hf
      refine lv_iconst (v := (-1)) hx hb dX11_far_23 (by decide) ?_
      exact g_iret K hS hf dX11_far_24
    · have hf := gIf_f c4 hf
      refine lv_aload_n hx hb dX11_far_14 rfl (lv_at hl 0 rfl) ?_
      refine lv_iload_n hx hb dX11_far_15 rfl (lv_at hl 1 rfl) ?_
      refine lv_iload_n hx hb dX11_far_16 rfl (lv_at hl 2 rfl) ?_
      obtain ⟨q5, hq5, hf⟩ := Option.bind_eq_some_iff.mp hf
      refine g_Vi (cx := 0) (As := [.int p0, .int p1]) K hS lV_X11_77 (c_X11_farOf p0 p1 q3.2 q5 hq5) ((eM_0 G o) _) (by decide) rfl rfl rfl (Nat.le_of_ble_eq_true rfl) ⟨⟨Nat.le_of_ble_eq_true rfl, Nat.le_of_ble_eq_true rfl⟩, rfl, rfl⟩ hl.1 ⟨Nat.zero_le _, Nat.zero_le _⟩ dX11_far_17 (fun H locs hS => ?_)
      refine lv_goto (tgt := 24) hx hb dX11_far_20 (by decide) ?_
      exact g_iret K hS hf dX11_far_24
abbrev rmX11_loud : Room := { frames := 2, cells := 0, slots := 0, locals := 50 }
def f_X11_loud (p0 : Int32) (p1 : Int32) (σ : gS) : Option (Int32 × gS) := Option.bind (f_X11_ofSleeper p1 0 σ) (fun q1 => Option.bind (f_X11_all q1.2) (fun q2 => Option.bind (f_X11_measure q1.1 q2.1 0 q2.2) (fun q3 => Option.bind (f_X11_ofBoard p0 0 q3) (fun q4 => gGd (gin q4.1 10) (gLet (q4.2 6 (gil q4.1)) (fun x6 => Option.bind (f_X11_ofBoard p0 1 q4.2) (fun q7 => gGd (gin q7.1 10) (gLet (q7.2 6 (gil q7.1)) (fun x9 => Option.bind (f_X11_ofBoard p0 2 q7.2) (fun q10 => gLet (fun (j11 : Int32) (j12 : Int32) (s13 : gS) => gLet (j11 - j12) (fun x15 => if 0 ≤ x15 then (some (x15, s13)) else (some (0, s13)))) (fun J14 => if x9 ≤ x6 then (J14 q10.1 x9 q10.2) else (J14 q10.1 x6 q10.2))))))))))))
set_option maxHeartbeats 4000000 in
set_option maxRecDepth 100000 in
theorem c_X11_loud (p0 : Int32) (p1 : Int32) (σ : gS) (q : Int32 × gS) (hf : f_X11_loud p0 p1 σ = some q) : Met l yX11_loud (gW yX11_loud cX11_loud 6 (some .int)) rmX11_loud (gPc G (entM G o) o 9 [.ref (o + 0), .int p0, .int p1] σ) (gQi G (entM G o) o 9 q) 0 0 (gA o 9) := by
  refine g_met (by decide) ⟨rfl, rfl⟩ (fun p e s m args below meth c ls K hS hl => ?_) (Nat.le_of_ble_eq_true rfl)
  have K : gK p s m args meth c G cX11_loud 6 RX11 (some .int) := K
  have hl : lv_has ls 6 [(0, .ref (o + 0)), (1, .int p0), (2, .int p1)] := hl
  obtain ⟨hx, hb, hml, hown, hts, -⟩ := id K
  unfold f_X11_loud at hf
  refine lv_aload_n hx hb dX11_loud_0 rfl (lv_at hl 0 rfl) ?_
  refine lv_aload_n hx hb dX11_loud_1 rfl (lv_at hl 0 rfl) ?_
  refine lv_iload_n hx hb dX11_loud_2 rfl (lv_at hl 2 rfl) ?_
  refine lv_iconst (v := 0) hx hb dX11_loud_3 (by decide) ?_
  obtain ⟨q1, hq1, hf⟩ := Option.bind_eq_some_iff.mp hf
  refine g_Vi (cx := 0) (As := [.int p1, .int 0]) K hS lV_X11_80 (c_X11_ofSleeper p1 0 σ q1 hq1) ((eM_0 G o) _) (by decide) rfl rfl rfl (Nat.le_of_ble_eq_true rfl) ⟨⟨Nat.le_of_ble_eq_true rfl, Nat.le_of_ble_eq_true rfl⟩, rfl, rfl⟩ hl.1 ⟨Nat.zero_le _, Nat.zero_le _⟩ dX11_loud_4 (fun H locs hS => ?_)
  refine lv_aload_n hx hb dX11_loud_7 rfl (lv_at hl 0 rfl) ?_
  obtain ⟨q2, hq2, hf⟩ := Option.bind_eq_some_iff.mp hf
  refine g_Vi (cx := 0) (As := []) K hS lV_X11_69 (c_X11_all q1.2 q2 hq2) ((eM_0 G o) _) (by decide) rfl rfl rfl (Nat.le_of_ble_eq_true rfl) ⟨⟨Nat.le_of_ble_eq_true rfl, Nat.le_of_ble_eq_true rfl⟩, rfl, rfl⟩ hl.1 ⟨Nat.zero_le _, Nat.zero_le _⟩ dX11_loud_8 (fun H locs hS => ?_)
  refine lv_iconst (v := 0) hx hb dX11_loud_11 (by decide) ?_
  obtain ⟨q3, hq3, hf⟩ := Option.bind_eq_some_iff.mp hf
  refine g_Vv (cx := 0) (As := [.int q1.1, .int q2.1, .int 0]) K hS lV_X11_73 (c_X11_measure q1.1 q2.1 0 q2.2 q3 hq3) ((eM_0 G o) _) (by decide) rfl rfl rfl (Nat.le_of_ble_eq_true rfl) ⟨⟨Nat.le_of_ble_eq_true rfl, Nat.le_of_ble_eq_true rfl⟩, rfl, rfl⟩ hl.1 ⟨Nat.zero_le _, Nat.zero_le _⟩ dX11_loud_12 (fun H locs hS => ?_)
  refine lv_aload_n hx hb dX11_loud_15 rfl (lv_at hl 0 rfl) ?_
  refine g_get (cx := 0) K hS lF_X11_27 ((eM_0 G o) _) (by decide) rfl dX11_loud_16 ?_
  refine lv_aload_n hx hb dX11_loud_19 rfl (lv_at hl 0 rfl) ?_
  refine lv_iload_n hx hb dX11_loud_20 rfl (lv_at hl 1 rfl) ?_
  refine lv_iconst (v := 0) hx hb dX11_loud_21 (by decide) ?_
  obtain ⟨q4, hq4, hf⟩ := Option.bind_eq_some_iff.mp hf
  refine g_Vi (cx := 0) (As := [.int p0, .int 0]) K hS lV_X11_65 (c_X11_ofBoard p0 0 q3 q4 hq4) ((eM_0 G o) _) (by decide) rfl rfl rfl (Nat.le_of_ble_eq_true rfl) ⟨⟨Nat.le_of_ble_eq_true rfl, Nat.le_of_ble_eq_true rfl⟩, rfl, rfl⟩ hl.1 ⟨Nat.zero_le _, Nat.zero_le _⟩ dX11_loud_22 (fun H locs hS => ?_)
  obtain ⟨h5, hf⟩ := gGd_some hf
  refine g_iald (cx := 6) K hS (eM_6 G o) (by decide) h5 rfl dX11_loud_25 ?_
  obtain ⟨x6, hx6, hf⟩ := gLet_some hf
  refine g_top hx6 ?_
  refine lv_istore_n (lv' := [(3, .int x6), (0, .ref (o + 0)), (1, .int p0), (2, .int p1)]) hx hb dX11_loud_26 rfl hl (by decide) rfl (fun ls hl => ?_)
  refine lv_aload_n hx hb dX11_loud_27 rfl (lv_at hl 1 rfl) ?_
  refine g_get (cx := 0) K hS lF_X11_27 ((eM_0 G o) _) (by decide) rfl dX11_loud_28 ?_
  refine lv_aload_n hx hb dX11_loud_31 rfl (lv_at hl 1 rfl) ?_
  refine lv_iload_n hx hb dX11_loud_32 rfl (lv_at hl 2 rfl) ?_
  refine lv_iconst (v := 1) hx hb dX11_loud_33 (by decide) ?_
  obtain ⟨q7, hq7, hf⟩ := Option.bind_eq_some_iff.mp hf
  refine g_Vi (cx := 0) (As := [.int p0, .int 1]) K hS lV_X11_65 (c_X11_ofBoard p0 1 q4.2 q7 hq7) ((eM_0 G o) _) (by decide) rfl rfl rfl (Nat.le_of_ble_eq_true rfl) ⟨⟨Nat.le_of_ble_eq_true rfl, Nat.le_of_ble_eq_true rfl⟩, rfl, rfl⟩ hl.1 ⟨Nat.zero_le _, Nat.zero_le _⟩ dX11_loud_34 (fun H locs hS => ?_)
  obtain ⟨h8, hf⟩ := gGd_some hf
  refine g_iald (cx := 6) K hS (eM_6 G o) (by decide) h8 rfl dX11_loud_37 ?_
  obtain ⟨x9, hx9, hf⟩ := gLet_some hf
  refine g_top hx9 ?_
  refine lv_istore (lv' := [(4, .int x9), (3, .int x6), (0, .ref (o + 0)), (1, .int p0), (2, .int p1)]) hx hb dX11_loud_38 hl (by decide) rfl (fun ls hl => ?_)
  refine lv_aload_n hx hb dX11_loud_40 rfl (lv_at hl 2 rfl) ?_
  refine lv_iload_n hx hb dX11_loud_41 rfl (lv_at hl 3 rfl) ?_
  refine lv_iconst (v := 2) hx hb dX11_loud_42 (by decide) ?_
  obtain ⟨q10, hq10, hf⟩ := Option.bind_eq_some_iff.mp hf
  refine g_Vi (cx := 0) (As := [.int p0, .int 2]) K hS lV_X11_65 (c_X11_ofBoard p0 2 q7.2 q10 hq10) ((eM_0 G o) _) (by decide) rfl rfl rfl (Nat.le_of_ble_eq_true rfl) ⟨⟨Nat.le_of_ble_eq_true rfl, Nat.le_of_ble_eq_true rfl⟩, rfl, rfl⟩ hl.1 ⟨Nat.zero_le _, Nat.zero_le _⟩ dX11_loud_43 (fun H locs hS => ?_)
  refine lv_iload_n hx hb dX11_loud_46 rfl (lv_at hl 1 rfl) ?_
  refine lv_iload hx hb dX11_loud_47 (lv_at hl 0 rfl) ?_
  obtain ⟨J14, hJ14, hf⟩ := gLet_some hf
  have wJ14 : ∀ (j11 : Int32) (j12 : Int32) (s13 : gS), J14 j11 j12 s13 = some q → ∀ (H : Heap) (locs : List Loc) (ls : Array Slot), gSt G (entM G o) o 9 s s13 H locs → lv_has ls 6 [] → W p l e rmX11_loud s m args below meth c H locs 0 0 (MQ below (gQi G (entM G o) o 9 q) args s 0 0 (gA o 9)) (F0 m 58 ls [.int j12, .int j11]) := by
    intro j11 j12 s13 hf H locs ls hS hl
    rw [hJ14] at hf
    refine lv_isub hx hb dX11_loud_58 ?_
    obtain ⟨x15, hx15, hf⟩ := gLet_some hf
    refine g_top hx15 ?_
    refine lv_istore (lv' := [(5, .int x15)]) hx hb dX11_loud_59 hl (by decide) rfl (fun ls hl => ?_)
    refine lv_iload hx hb dX11_loud_61 (lv_at hl 0 rfl) ?_
    refine lv_if_ge (tgt := 70) hx hb dX11_loud_63 (by decide) (fun c16 => ?_) (fun c16 => ?_)
    · have hf := gIf_t c16 hf
      refine lv_iload hx hb dX11_loud_70 (lv_at hl 0 rfl) ?_
      exact g_iret K hS hf dX11_loud_72
    · have hf := gIf_f c16 hf
      refine lv_iconst (v := 0) hx hb dX11_loud_66 (by decide) ?_
      refine lv_goto (tgt := 72) hx hb dX11_loud_67 (by decide) ?_
      exact g_iret K hS hf dX11_loud_72
  clear hJ14
  refine lv_icmp_ge (tgt := 56) hx hb dX11_loud_49 (by decide) (fun c17 => ?_) (fun c17 => ?_)
  · have hf := gIf_t c17 hf
    refine lv_iload hx hb dX11_loud_56 (lv_at hl 0 rfl) ?_
    exact wJ14 q10.1 x9 q10.2 hf _ _ _ hS (lv_sub hl [] rfl)
  · have hf := gIf_f c17 hf
    refine lv_iload_n hx hb dX11_loud_52 rfl (lv_at hl 1 rfl) ?_
    refine lv_goto (tgt := 58) hx hb dX11_loud_53 (by decide) ?_
    exact wJ14 q10.1 x6 q10.2 hf _ _ _ hS (lv_sub hl [] rfl)
abbrev rmX11_loudness : Room := { frames := 3, cells := 0, slots := 0, locals := 75 }
def f_X11_loudness (p0 : Int32) (p1 : Int32) (σ : gS) : Option (Int32 × gS) := Option.bind (f_X11_isBoard p0 σ) (fun q1 => if q1.1 = 0 then (some ((-1), q1.2)) else (Option.bind (f_X11_isSleeper p1 q1.2) (fun q3 => if q3.1 = 0 then (some ((-1), q3.2)) else (Option.bind (f_X11_loud p0 p1 q3.2) (fun q5 => some (q5.1, q5.2))))))
set_option maxHeartbeats 4000000 in
set_option maxRecDepth 100000 in
theorem c_X11_loudness (p0 : Int32) (p1 : Int32) (σ : gS) (q : Int32 × gS) (hf : f_X11_loudness p0 p1 σ = some q) : Met l yX11_loudness (gW yX11_loudness cX11_loudness 3 (some .int)) rmX11_loudness (gPc G (entM G o) o 9 [.ref (o + 0), .int p0, .int p1] σ) (gQi G (entM G o) o 9 q) 0 0 (gA o 9) := by
  refine g_met (by decide) ⟨rfl, rfl⟩ (fun p e s m args below meth c ls K hS hl => ?_) (Nat.le_of_ble_eq_true rfl)
  have K : gK p s m args meth c G cX11_loudness 3 RX11 (some .int) := K
  have hl : lv_has ls 3 [(0, .ref (o + 0)), (1, .int p0), (2, .int p1)] := hl
  obtain ⟨hx, hb, hml, hown, hts, -⟩ := id K
  unfold f_X11_loudness at hf
  refine lv_aload_n hx hb dX11_loudness_0 rfl (lv_at hl 0 rfl) ?_
  refine lv_iload_n hx hb dX11_loudness_1 rfl (lv_at hl 1 rfl) ?_
  obtain ⟨q1, hq1, hf⟩ := Option.bind_eq_some_iff.mp hf
  refine g_Vi (cx := 0) (As := [.int p0]) K hS lV_X11_62 (c_X11_isBoard p0 σ q1 hq1) ((eM_0 G o) _) (by decide) rfl rfl rfl (Nat.le_of_ble_eq_true rfl) ⟨⟨Nat.le_of_ble_eq_true rfl, Nat.le_of_ble_eq_true rfl⟩, rfl, rfl⟩ hl.1 ⟨Nat.zero_le _, Nat.zero_le _⟩ dX11_loudness_2 (fun H locs hS => ?_)
  refine lv_if_eq (tgt := 25) hx hb dX11_loudness_5 (by decide) (fun c2 => ?_) (fun c2 => ?_)
  · have hf := gIf_t c2 hf
    refine lv_iconst (v := (-1)) hx hb dX11_loudness_25 (by decide) ?_
    exact g_iret K hS hf dX11_loudness_26
  · have hf := gIf_f c2 hf
    refine lv_aload_n hx hb dX11_loudness_8 rfl (lv_at hl 0 rfl) ?_
    refine lv_iload_n hx hb dX11_loudness_9 rfl (lv_at hl 2 rfl) ?_
    obtain ⟨q3, hq3, hf⟩ := Option.bind_eq_some_iff.mp hf
    refine g_Vi (cx := 0) (As := [.int p1]) K hS lV_X11_83 (c_X11_isSleeper p1 q1.2 q3 hq3) ((eM_0 G o) _) (by decide) rfl rfl rfl (Nat.le_of_ble_eq_true rfl) ⟨⟨Nat.le_of_ble_eq_true rfl, Nat.le_of_ble_eq_true rfl⟩, rfl, rfl⟩ hl.1 ⟨Nat.zero_le _, Nat.zero_le _⟩ dX11_loudness_10 (fun H locs hS => ?_)
    refine lv_if_eq (tgt := 25) hx hb dX11_loudness_13 (by decide) (fun c4 => ?_) (fun c4 => ?_)
    · have hf := gIf_t c4 hf
      refine lv_iconst (v := (-1)) hx hb dX11_loudness_25 (by decide) ?_
      exact g_iret K hS hf dX11_loudness_26
    · have hf := gIf_f c4 hf
      refine lv_aload_n hx hb dX11_loudness_16 rfl (lv_at hl 0 rfl) ?_
      refine lv_iload_n hx hb dX11_loudness_17 rfl (lv_at hl 1 rfl) ?_
      refine lv_iload_n hx hb dX11_loudness_18 rfl (lv_at hl 2 rfl) ?_
      obtain ⟨q5, hq5, hf⟩ := Option.bind_eq_some_iff.mp hf
      refine g_Vi (cx := 0) (As := [.int p0, .int p1]) K hS lV_X11_86 (c_X11_loud p0 p1 q3.2 q5 hq5) ((eM_0 G o) _) (by decide) rfl rfl rfl (Nat.le_of_ble_eq_true rfl) ⟨⟨Nat.le_of_ble_eq_true rfl, Nat.le_of_ble_eq_true rfl⟩, rfl, rfl⟩ hl.1 ⟨Nat.zero_le _, Nat.zero_le _⟩ dX11_loudness_19 (fun H locs hS => ?_)
      refine lv_goto (tgt := 26) hx hb dX11_loudness_22 (by decide) ?_
      exact g_iret K hS hf dX11_loudness_26
abbrev rmX11_sleeper : Room := { frames := 2, cells := 0, slots := 0, locals := 42 }
def f_X11_sleeper (p0 : Int32) (p1 : Int32) (σ : gS) : Option (Int32 × gS) := Option.bind (f_X11_isRoom p0 σ) (fun q1 => if q1.1 = 0 then (some ((-1), q1.2)) else (Option.bind (f_X11_in p1 1 9 q1.2) (fun q3 => if q3.1 = 0 then (some ((-2), q3.2)) else (if (q3.2 1 5) = 5 then (some ((-4), q3.2)) else (Option.bind (f_X11_record q3.2) (fun q6 => gLet (118 + (4 * (q6 1 5))) (fun x7 => gGd (gin x7 138) (gLet (up2 q6 1 (gil x7) p0) (fun s8 => gGd (gin (x7 + 1) 138) (gLet (up2 s8 1 (gil (x7 + 1)) p1) (fun s9 => gGd (gin (x7 + 2) 138) (gLet (up2 s9 1 (gil (x7 + 2)) 0) (fun s10 => gGd (gin (x7 + 3) 138) (gLet (up2 s10 1 (gil (x7 + 3)) 0) (fun s11 => gLet (up2 s11 1 5 ((s11 1 5) + 1)) (fun s12 => some (((s12 1 5) - 1), s12)))))))))))))))))
set_option maxHeartbeats 4000000 in
set_option maxRecDepth 100000 in
theorem c_X11_sleeper (p0 : Int32) (p1 : Int32) (σ : gS) (q : Int32 × gS) (hf : f_X11_sleeper p0 p1 σ = some q) : Met l yX11_sleeper (gW yX11_sleeper cX11_sleeper 4 (some .int)) rmX11_sleeper (gPc G (entM G o) o 9 [.ref (o + 0), .int p0, .int p1] σ) (gQi G (entM G o) o 9 q) 0 0 (gA o 9) := by
  refine g_met (by decide) ⟨rfl, rfl⟩ (fun p e s m args below meth c ls K hS hl => ?_) (Nat.le_of_ble_eq_true rfl)
  have K : gK p s m args meth c G cX11_sleeper 4 RX11 (some .int) := K
  have hl : lv_has ls 4 [(0, .ref (o + 0)), (1, .int p0), (2, .int p1)] := hl
  obtain ⟨hx, hb, hml, hown, hts, -⟩ := id K
  unfold f_X11_sleeper at hf
  refine lv_iload_n hx hb dX11_sleeper_0 rfl (lv_at hl 1 rfl) ?_
  obtain ⟨q1, hq1, hf⟩ := Option.bind_eq_some_iff.mp hf
  refine g_Si (As := [.int p0]) K hS lS_X11_51 (c_X11_isRoom p0 σ q1 hq1) rfl rfl (Nat.le_of_ble_eq_true rfl) ⟨⟨Nat.le_of_ble_eq_true rfl, Nat.le_of_ble_eq_true rfl⟩, rfl, rfl⟩ hl.1 ⟨Nat.zero_le _, Nat.zero_le _⟩ dX11_sleeper_1 (fun H locs hS => ?_)
  refine lv_if_ne (tgt := 9) hx hb dX11_sleeper_4 (by decide) (fun c2 => ?_) (fun c2 => ?_)
  · have hf := gIf_f c2 hf
    refine lv_iload_n hx hb dX11_sleeper_9 rfl (lv_at hl 2 rfl) ?_
    refine lv_iconst (v := 1) hx hb dX11_sleeper_10 (by decide) ?_
    refine lv_bipush (v := 9) hx hb dX11_sleeper_11 (by decide) ?_
    obtain ⟨q3, hq3, hf⟩ := Option.bind_eq_some_iff.mp hf
    refine g_Si (As := [.int p1, .int 1, .int 9]) K hS lS_X11_36 (c_X11_in p1 1 9 q1.2 q3 hq3) rfl rfl (Nat.le_of_ble_eq_true rfl) ⟨⟨Nat.le_of_ble_eq_true rfl, Nat.le_of_ble_eq_true rfl⟩, rfl, rfl⟩ hl.1 ⟨Nat.zero_le _, Nat.zero_le _⟩ dX11_sleeper_13 (fun H locs hS => ?_)
    refine lv_if_ne (tgt := 22) hx hb dX11_sleeper_16 (by decide) (fun c4 => ?_) (fun c4 => ?_)
    · have hf := gIf_f c4 hf
      refine lv_aload_n hx hb dX11_sleeper_22 rfl (lv_at hl 0 rfl) ?_
      refine g_get (cx := 0) K hS lF_X11_7 ((eM_0 G o) _) (by decide) rfl dX11_sleeper_23 ?_
      refine lv_iconst (v := 5) hx hb dX11_sleeper_26 (by decide) ?_
      refine g_iald (cx := 1) (j := 5) K hS (eM_1 G o) (by decide) (by decide) (by decide) dX11_sleeper_27 ?_
      refine lv_iconst (v := 5) hx hb dX11_sleeper_28 (by decide) ?_
      refine lv_icmp_ne (tgt := 35) hx hb dX11_sleeper_29 (by decide) (fun c5 => ?_) (fun c5 => ?_)
      · have hf := gIf_f c5 hf
        refine lv_aload_n hx hb dX11_sleeper_35 rfl (lv_at hl 0 rfl) ?_
        obtain ⟨q6, hq6, hf⟩ := Option.bind_eq_some_iff.mp hf
        refine g_Vv (cx := 0) (As := []) K hS lV_X11_48 (c_X11_record q3.2 q6 hq6) ((eM_0 G o) _) (by decide) rfl rfl rfl (Nat.le_of_ble_eq_true rfl) ⟨⟨Nat.le_of_ble_eq_true rfl, Nat.le_of_ble_eq_true rfl⟩, rfl, rfl⟩ hl.1 ⟨Nat.zero_le _, Nat.zero_le _⟩ dX11_sleeper_36 (fun H locs hS => ?_)
        refine lv_bipush (v := 118) hx hb dX11_sleeper_39 (by decide) ?_
        refine lv_iconst (v := 4) hx hb dX11_sleeper_41 (by decide) ?_
        refine lv_aload_n hx hb dX11_sleeper_42 rfl (lv_at hl 0 rfl) ?_
        refine g_get (cx := 0) K hS lF_X11_7 ((eM_0 G o) _) (by decide) rfl dX11_sleeper_43 ?_
        refine lv_iconst (v := 5) hx hb dX11_sleeper_46 (by decide) ?_
        refine g_iald (cx := 1) (j := 5) K hS (eM_1 G o) (by decide) (by decide) (by decide) dX11_sleeper_47 ?_
        refine lv_imul hx hb dX11_sleeper_48 ?_
        refine lv_iadd hx hb dX11_sleeper_49 ?_
        obtain ⟨x7, hx7, hf⟩ := gLet_some hf
        refine g_top hx7 ?_
        refine lv_istore_n (lv' := [(3, .int x7), (0, .ref (o + 0)), (1, .int p0), (2, .int p1)]) hx hb dX11_sleeper_50 rfl hl (by decide) rfl (fun ls hl => ?_)
        refine lv_aload_n hx hb dX11_sleeper_51 rfl (lv_at hl 1 rfl) ?_
        refine g_get (cx := 0) K hS lF_X11_7 ((eM_0 G o) _) (by decide) rfl dX11_sleeper_52 ?_
        refine lv_iload_n hx hb dX11_sleeper_55 rfl (lv_at hl 0 rfl) ?_
        refine lv_iload_n hx hb dX11_sleeper_56 rfl (lv_at hl 2 rfl) ?_
        obtain ⟨h17, hf⟩ := gGd_some hf
        obtain ⟨s8, hs8, hf⟩ := gLet_some hf
        refine g_iast (cx := 1) K hS (eM_1 G o) (by decide) h17 rfl dX11_sleeper_57 (fun H locs hS => ?_)
        rw [← hs8] at hS
        refine lv_aload_n hx hb dX11_sleeper_58 rfl (lv_at hl 1 rfl) ?_
        refine g_get (cx := 0) K hS lF_X11_7 ((eM_0 G o) _) (by decide) rfl dX11_sleeper_59 ?_
        refine lv_iload_n hx hb dX11_sleeper_62 rfl (lv_at hl 0 rfl) ?_
        refine lv_iconst (v := 1) hx hb dX11_sleeper_63 (by decide) ?_
        refine lv_iadd hx hb dX11_sleeper_64 ?_
        refine lv_iload_n hx hb dX11_sleeper_65 rfl (lv_at hl 3 rfl) ?_
        obtain ⟨h16, hf⟩ := gGd_some hf
        obtain ⟨s9, hs9, hf⟩ := gLet_some hf
        refine g_iast (cx := 1) K hS (eM_1 G o) (by decide) h16 rfl dX11_sleeper_66 (fun H locs hS => ?_)
        rw [← hs9] at hS
        refine lv_aload_n hx hb dX11_sleeper_67 rfl (lv_at hl 1 rfl) ?_
        refine g_get (cx := 0) K hS lF_X11_7 ((eM_0 G o) _) (by decide) rfl dX11_sleeper_68 ?_
        refine lv_iload_n hx hb dX11_sleeper_71 rfl (lv_at hl 0 rfl) ?_
        refine lv_iconst (v := 2) hx hb dX11_sleeper_72 (by decide) ?_
        refine lv_iadd hx hb dX11_sleeper_73 ?_
        refine lv_iconst (v := 0) hx hb dX11_sleeper_74 (by decide) ?_
        obtain ⟨h15, hf⟩ := gGd_some hf
        obtain ⟨s10, hs10, hf⟩ := gLet_some hf
        refine g_iast (cx := 1) K hS (eM_1 G o) (by decide) h15 rfl dX11_sleeper_75 (fun H locs hS => ?_)
        rw [← hs10] at hS
        refine lv_aload_n hx hb dX11_sleeper_76 rfl (lv_at hl 1 rfl) ?_
        refine g_get (cx := 0) K hS lF_X11_7 ((eM_0 G o) _) (by decide) rfl dX11_sleeper_77 ?_
        refine lv_iload_n hx hb dX11_sleeper_80 rfl (lv_at hl 0 rfl) ?_
        refine lv_iconst (v := 3) hx hb dX11_sleeper_81 (by decide) ?_
        refine lv_iadd hx hb dX11_sleeper_82 ?_
        refine lv_iconst (v := 0) hx hb dX11_sleeper_83 (by decide) ?_
        obtain ⟨h14, hf⟩ := gGd_some hf
        obtain ⟨s11, hs11, hf⟩ := gLet_some hf
        refine g_iast (cx := 1) K hS (eM_1 G o) (by decide) h14 rfl dX11_sleeper_84 (fun H locs hS => ?_)
        rw [← hs11] at hS
        refine lv_aload_n hx hb dX11_sleeper_85 rfl (lv_at hl 1 rfl) ?_
        refine g_get (cx := 0) K hS lF_X11_7 ((eM_0 G o) _) (by decide) rfl dX11_sleeper_86 ?_
        refine lv_iconst (v := 5) hx hb dX11_sleeper_89 (by decide) ?_
        refine lv_dup2_11 hx hb dX11_sleeper_90 rfl rfl ?_
        refine g_iald (cx := 1) (j := 5) K hS (eM_1 G o) (by decide) (by decide) (by decide) dX11_sleeper_91 ?_
        refine lv_iconst (v := 1) hx hb dX11_sleeper_92 (by decide) ?_
        refine lv_iadd hx hb dX11_sleeper_93 ?_
        obtain ⟨s12, hs12, hf⟩ := gLet_some hf
        refine g_iast (cx := 1) (j := 5) K hS (eM_1 G o) (by decide) (by decide) (by decide) dX11_sleeper_94 (fun H locs hS => ?_)
        rw [← hs12] at hS
        refine lv_aload_n hx hb dX11_sleeper_95 rfl (lv_at hl 1 rfl) ?_
        refine g_get (cx := 0) K hS lF_X11_7 ((eM_0 G o) _) (by decide) rfl dX11_sleeper_96 ?_
        refine lv_iconst (v := 5) hx hb dX11_sleeper_99 (by decide) ?_
        refine g_iald (cx := 1) (j := 5) K hS (eM_1 G o) (by decide) (by decide) (by decide) dX11_sleeper_100 ?_
        refine lv_iconst (v := 1) hx hb dX11_sleeper_101 (by decide) ?_
        refine lv_isub hx hb dX11_sleeper_102 ?_
        exact g_iret K hS hf dX11_sleeper_103
      · have hf := gIf_t c5 hf
        refine lv_bipush (v := (-4)) hx hb dX11_sleeper_32 (by decide) ?_
        exact g_iret K hS hf dX11_sleeper_34
    · have hf := gIf_t c4 hf
      refine lv_bipush (v := (-2)) hx hb dX11_sleeper_19 (by decide) ?_
      exact g_iret K hS hf dX11_sleeper_21
  · have hf := gIf_t c2 hf
    refine lv_iconst (v := (-1)) hx hb dX11_sleeper_7 (by decide) ?_
    exact g_iret K hS hf dX11_sleeper_8
abbrev rmX11_watched : Room := { frames := 1, cells := 0, slots := 0, locals := 22 }
def f_X11_watched_L4 : Nat → Int32 → Int32 → gS → Option (Int32 × gS)
  | 0, _, _, _ => none
  | n + 1, v1, v2, σ => if (σ 1 5) ≤ v2 then (some (v1, σ)) else (Option.bind (f_X11_ofSleeper v2 2 σ) (fun q2 => if q2.1 ≤ 0 then (gLet (v1 ||| 0) (fun x4 => f_X11_watched_L4 n x4 (v2 + 1) q2.2)) else (Option.bind (f_X11_ofSleeper v2 0 q2.2) (fun q5 => gLet (v1 ||| (1 <<< (q5.1 &&& 31))) (fun x6 => f_X11_watched_L4 n x6 (v2 + 1) q5.2)))))
theorem f_X11_watched_L4_s (n : Nat) (v1 : Int32) (v2 : Int32) (σ : gS) : f_X11_watched_L4 (n + 1) v1 v2 σ = (if (σ 1 5) ≤ v2 then (some (v1, σ)) else (Option.bind (f_X11_ofSleeper v2 2 σ) (fun q2 => if q2.1 ≤ 0 then (gLet (v1 ||| 0) (fun x4 => f_X11_watched_L4 n x4 (v2 + 1) q2.2)) else (Option.bind (f_X11_ofSleeper v2 0 q2.2) (fun q5 => gLet (v1 ||| (1 <<< (q5.1 &&& 31))) (fun x6 => f_X11_watched_L4 n x6 (v2 + 1) q5.2)))))) := rfl
def f_X11_watched (σ : gS) : Option (Int32 × gS) := f_X11_watched_L4 gFu 0 0 σ
set_option maxHeartbeats 4000000 in
set_option maxRecDepth 100000 in
theorem w_X11_watched_L4 {q : Int32 × gS} (K : gK p s m args meth c G cX11_watched 3 RX11 (some .int)) : ∀ (n : Nat) (v1 : Int32) (v2 : Int32) (σ : gS), f_X11_watched_L4 n v1 v2 σ = some q → ∀ (H : Heap) (locs : List Loc) (ls : Array Slot), gSt G (entM G o) o 9 s σ H locs → lv_has ls 3 [(0, .ref (o + 0)), (1, .int v1), (2, .int v2)] → W p l e rmX11_watched s m args below meth c H locs 0 0 (MQ below (gQi G (entM G o) o 9 q) args s 0 0 (gA o 9)) (F0 m 4 ls []) := by
  obtain ⟨hx, hb, hml, hown, hts, -⟩ := id K
  intro n
  induction n with
  | zero =>
    intro v1 v2 σ hf
    exact absurd (show (none : Option _) = some q from hf) (by simp)
  | succ n ih =>
    intro v1 v2 σ hf H locs ls hS hl
    rw [f_X11_watched_L4_s] at hf
    refine lv_iload_n hx hb dX11_watched_4 rfl (lv_at hl 2 rfl) ?_
    refine lv_aload_n hx hb dX11_watched_5 rfl (lv_at hl 0 rfl) ?_
    refine g_get (cx := 0) K hS lF_X11_7 ((eM_0 G o) _) (by decide) rfl dX11_watched_6 ?_
    refine lv_iconst (v := 5) hx hb dX11_watched_9 (by decide) ?_
    refine g_iald (cx := 1) (j := 5) K hS (eM_1 G o) (by decide) (by decide) (by decide) dX11_watched_10 ?_
    refine lv_icmp_ge (tgt := 44) hx hb dX11_watched_11 (by decide) (fun c1 => ?_) (fun c1 => ?_)
    · have hf := gIf_t c1 hf
      refine lv_iload_n hx hb dX11_watched_44 rfl (lv_at hl 1 rfl) ?_
      exact g_iret K hS hf dX11_watched_45
    · have hf := gIf_f c1 hf
      refine lv_iload_n hx hb dX11_watched_14 rfl (lv_at hl 1 rfl) ?_
      refine lv_aload_n hx hb dX11_watched_15 rfl (lv_at hl 0 rfl) ?_
      refine lv_iload_n hx hb dX11_watched_16 rfl (lv_at hl 2 rfl) ?_
      refine lv_iconst (v := 2) hx hb dX11_watched_17 (by decide) ?_
      obtain ⟨q2, hq2, hf⟩ := Option.bind_eq_some_iff.mp hf
      refine g_Vi (cx := 0) (As := [.int v2, .int 2]) K hS lV_X11_80 (c_X11_ofSleeper v2 2 σ q2 hq2) ((eM_0 G o) _) (by decide) rfl rfl rfl (Nat.le_of_ble_eq_true rfl) ⟨⟨Nat.le_of_ble_eq_true rfl, Nat.le_of_ble_eq_true rfl⟩, rfl, rfl⟩ hl.1 ⟨Nat.zero_le _, Nat.zero_le _⟩ dX11_watched_18 (fun H locs hS => ?_)
      refine lv_if_le (tgt := 35) hx hb dX11_watched_21 (by decide) (fun c3 => ?_) (fun c3 => ?_)
      · have hf := gIf_t c3 hf
        refine lv_iconst (v := 0) hx hb dX11_watched_35 (by decide) ?_
        refine lv_ior hx hb dX11_watched_36 ?_
        obtain ⟨x4, hx4, hf⟩ := gLet_some hf
        refine g_top hx4 ?_
        refine lv_istore_n (lv' := [(1, .int x4), (0, .ref (o + 0)), (2, .int v2)]) hx hb dX11_watched_37 rfl hl (by decide) rfl (fun ls hl => ?_)
        refine lv_iinc (v := (v2 + 1)) (lv' := [(2, .int (v2 + 1)), (1, .int x4), (0, .ref (o + 0))]) hx hb dX11_watched_38 hl (k := 2) rfl rfl (by decide) rfl (fun ls hl => ?_)
        refine lv_goto (tgt := 4) hx hb dX11_watched_41 (by decide) ?_
        exact ih x4 (v2 + 1) q2.2 hf _ _ _ hS (lv_sub hl [2, 1, 0] rfl)
      · have hf := gIf_f c3 hf
        refine lv_iconst (v := 1) hx hb dX11_watched_24 (by decide) ?_
        refine lv_aload_n hx hb dX11_watched_25 rfl (lv_at hl 0 rfl) ?_
        refine lv_iload_n hx hb dX11_watched_26 rfl (lv_at hl 2 rfl) ?_
        refine lv_iconst (v := 0) hx hb dX11_watched_27 (by decide) ?_
        obtain ⟨q5, hq5, hf⟩ := Option.bind_eq_some_iff.mp hf
        refine g_Vi (cx := 0) (As := [.int v2, .int 0]) K hS lV_X11_80 (c_X11_ofSleeper v2 0 q2.2 q5 hq5) ((eM_0 G o) _) (by decide) rfl rfl rfl (Nat.le_of_ble_eq_true rfl) ⟨⟨Nat.le_of_ble_eq_true rfl, Nat.le_of_ble_eq_true rfl⟩, rfl, rfl⟩ hl.1 ⟨Nat.zero_le _, Nat.zero_le _⟩ dX11_watched_28 (fun H locs hS => ?_)
        refine lv_ishl hx hb dX11_watched_31 ?_
        refine lv_goto (tgt := 36) hx hb dX11_watched_32 (by decide) ?_
        refine lv_ior hx hb dX11_watched_36 ?_
        obtain ⟨x6, hx6, hf⟩ := gLet_some hf
        refine g_top hx6 ?_
        refine lv_istore_n (lv' := [(1, .int x6), (0, .ref (o + 0)), (2, .int v2)]) hx hb dX11_watched_37 rfl hl (by decide) rfl (fun ls hl => ?_)
        refine lv_iinc (v := (v2 + 1)) (lv' := [(2, .int (v2 + 1)), (1, .int x6), (0, .ref (o + 0))]) hx hb dX11_watched_38 hl (k := 2) rfl rfl (by decide) rfl (fun ls hl => ?_)
        refine lv_goto (tgt := 4) hx hb dX11_watched_41 (by decide) ?_
        exact ih x6 (v2 + 1) q5.2 hf _ _ _ hS (lv_sub hl [2, 1, 0] rfl)
set_option maxHeartbeats 4000000 in
set_option maxRecDepth 100000 in
theorem c_X11_watched (σ : gS) (q : Int32 × gS) (hf : f_X11_watched σ = some q) : Met l yX11_watched (gW yX11_watched cX11_watched 3 (some .int)) rmX11_watched (gPc G (entM G o) o 9 [.ref (o + 0)] σ) (gQi G (entM G o) o 9 q) 0 0 (gA o 9) := by
  refine g_met (by decide) ⟨rfl, rfl⟩ (fun p e s m args below meth c ls K hS hl => ?_) (Nat.le_of_ble_eq_true rfl)
  have K : gK p s m args meth c G cX11_watched 3 RX11 (some .int) := K
  have hl : lv_has ls 3 [(0, .ref (o + 0))] := hl
  obtain ⟨hx, hb, hml, hown, hts, -⟩ := id K
  unfold f_X11_watched at hf
  refine lv_iconst (v := 0) hx hb dX11_watched_0 (by decide) ?_
  refine lv_istore_n (lv' := [(1, .int 0), (0, .ref (o + 0))]) hx hb dX11_watched_1 rfl hl (by decide) rfl (fun ls hl => ?_)
  refine lv_iconst (v := 0) hx hb dX11_watched_2 (by decide) ?_
  refine lv_istore_n (lv' := [(2, .int 0), (1, .int 0), (0, .ref (o + 0))]) hx hb dX11_watched_3 rfl hl (by decide) rfl (fun ls hl => ?_)
  refine w_X11_watched_L4 K gFu 0 0 σ hf _ _ _ hS (lv_sub hl [2, 1, 0] rfl)
abbrev rmX11_isFree : Room := { frames := 2, cells := 0, slots := 0, locals := 44 }
def f_X11_isFree (p0 : Int32) (p1 : Int32) (σ : gS) : Option (Int32 × gS) := Option.bind (f_X11_watched σ) (fun q1 => Option.bind (f_X11_hasCrossed p0 p1 q1.2) (fun q2 => if q2.1 = 0 then (Option.bind (f_X11_ofBoard p1 0 q2.2) (fun q4 => if ((q1.1 >>> (q4.1 &&& 31)) &&& 1) = 0 then (Option.bind (f_X11_ofBoard p1 1 q4.2) (fun q6 => if ((q1.1 >>> (q6.1 &&& 31)) &&& 1) = 0 then (some (1, q6.2)) else (some (0, q6.2)))) else (some (0, q4.2)))) else (some (0, q2.2))))
set_option maxHeartbeats 4000000 in
set_option maxRecDepth 100000 in
theorem c_X11_isFree (p0 : Int32) (p1 : Int32) (σ : gS) (q : Int32 × gS) (hf : f_X11_isFree p0 p1 σ = some q) : Met l yX11_isFree (gW yX11_isFree cX11_isFree 4 (some .boolean)) rmX11_isFree (gPc G (entM G o) o 9 [.ref (o + 0), .int p0, .int p1] σ) (gQi G (entM G o) o 9 q) 0 0 (gA o 9) := by
  refine g_met (by decide) ⟨rfl, rfl⟩ (fun p e s m args below meth c ls K hS hl => ?_) (Nat.le_of_ble_eq_true rfl)
  have K : gK p s m args meth c G cX11_isFree 4 RX11 (some .boolean) := K
  have hl : lv_has ls 4 [(0, .ref (o + 0)), (1, .int p0), (2, .int p1)] := hl
  obtain ⟨hx, hb, hml, hown, hts, -⟩ := id K
  unfold f_X11_isFree at hf
  refine lv_aload_n hx hb dX11_isFree_0 rfl (lv_at hl 0 rfl) ?_
  obtain ⟨q1, hq1, hf⟩ := Option.bind_eq_some_iff.mp hf
  refine g_Vi (cx := 0) (As := []) K hS lV_X11_89 (c_X11_watched σ q1 hq1) ((eM_0 G o) _) (by decide) rfl rfl rfl (Nat.le_of_ble_eq_true rfl) ⟨⟨Nat.le_of_ble_eq_true rfl, Nat.le_of_ble_eq_true rfl⟩, rfl, rfl⟩ hl.1 ⟨Nat.zero_le _, Nat.zero_le _⟩ dX11_isFree_1 (fun H locs hS => ?_)
  refine lv_istore_n (lv' := [(3, .int q1.1), (0, .ref (o + 0)), (1, .int p0), (2, .int p1)]) hx hb dX11_isFree_4 rfl hl (by decide) rfl (fun ls hl => ?_)
  refine lv_aload_n hx hb dX11_isFree_5 rfl (lv_at hl 1 rfl) ?_
  refine lv_iload_n hx hb dX11_isFree_6 rfl (lv_at hl 2 rfl) ?_
  refine lv_iload_n hx hb dX11_isFree_7 rfl (lv_at hl 3 rfl) ?_
  obtain ⟨q2, hq2, hf⟩ := Option.bind_eq_some_iff.mp hf
  refine g_Vi (cx := 0) (As := [.int p0, .int p1]) K hS lV_X11_92 (c_X11_hasCrossed p0 p1 q1.2 q2 hq2) ((eM_0 G o) _) (by decide) rfl rfl rfl (Nat.le_of_ble_eq_true rfl) ⟨⟨Nat.le_of_ble_eq_true rfl, Nat.le_of_ble_eq_true rfl⟩, rfl, rfl⟩ hl.1 ⟨Nat.zero_le _, Nat.zero_le _⟩ dX11_isFree_8 (fun H locs hS => ?_)
  refine lv_if_ne (tgt := 44) hx hb dX11_isFree_11 (by decide) (fun c3 => ?_) (fun c3 => ?_)
  · have hf := gIf_f c3 hf
    refine lv_iconst (v := 0) hx hb dX11_isFree_44 (by decide) ?_
    exact g_zret K hS rfl hf dX11_isFree_45
  · have hf := gIf_t c3 hf
    refine lv_iload_n hx hb dX11_isFree_14 rfl (lv_at hl 0 rfl) ?_
    refine lv_aload_n hx hb dX11_isFree_15 rfl (lv_at hl 1 rfl) ?_
    refine lv_iload_n hx hb dX11_isFree_16 rfl (lv_at hl 3 rfl) ?_
    refine lv_iconst (v := 0) hx hb dX11_isFree_17 (by decide) ?_
    obtain ⟨q4, hq4, hf⟩ := Option.bind_eq_some_iff.mp hf
    refine g_Vi (cx := 0) (As := [.int p1, .int 0]) K hS lV_X11_65 (c_X11_ofBoard p1 0 q2.2 q4 hq4) ((eM_0 G o) _) (by decide) rfl rfl rfl (Nat.le_of_ble_eq_true rfl) ⟨⟨Nat.le_of_ble_eq_true rfl, Nat.le_of_ble_eq_true rfl⟩, rfl, rfl⟩ hl.1 ⟨Nat.zero_le _, Nat.zero_le _⟩ dX11_isFree_18 (fun H locs hS => ?_)
    refine lv_ishr hx hb dX11_isFree_21 ?_
    refine lv_iconst (v := 1) hx hb dX11_isFree_22 (by decide) ?_
    refine lv_iand hx hb dX11_isFree_23 ?_
    refine lv_if_ne (tgt := 44) hx hb dX11_isFree_24 (by decide) (fun c5 => ?_) (fun c5 => ?_)
    · have hf := gIf_f c5 hf
      refine lv_iconst (v := 0) hx hb dX11_isFree_44 (by decide) ?_
      exact g_zret K hS rfl hf dX11_isFree_45
    · have hf := gIf_t c5 hf
      refine lv_iload_n hx hb dX11_isFree_27 rfl (lv_at hl 0 rfl) ?_
      refine lv_aload_n hx hb dX11_isFree_28 rfl (lv_at hl 1 rfl) ?_
      refine lv_iload_n hx hb dX11_isFree_29 rfl (lv_at hl 3 rfl) ?_
      refine lv_iconst (v := 1) hx hb dX11_isFree_30 (by decide) ?_
      obtain ⟨q6, hq6, hf⟩ := Option.bind_eq_some_iff.mp hf
      refine g_Vi (cx := 0) (As := [.int p1, .int 1]) K hS lV_X11_65 (c_X11_ofBoard p1 1 q4.2 q6 hq6) ((eM_0 G o) _) (by decide) rfl rfl rfl (Nat.le_of_ble_eq_true rfl) ⟨⟨Nat.le_of_ble_eq_true rfl, Nat.le_of_ble_eq_true rfl⟩, rfl, rfl⟩ hl.1 ⟨Nat.zero_le _, Nat.zero_le _⟩ dX11_isFree_31 (fun H locs hS => ?_)
      refine lv_ishr hx hb dX11_isFree_34 ?_
      refine lv_iconst (v := 1) hx hb dX11_isFree_35 (by decide) ?_
      refine lv_iand hx hb dX11_isFree_36 ?_
      refine lv_if_ne (tgt := 44) hx hb dX11_isFree_37 (by decide) (fun c7 => ?_) (fun c7 => ?_)
      · have hf := gIf_f c7 hf
        refine lv_iconst (v := 0) hx hb dX11_isFree_44 (by decide) ?_
        exact g_zret K hS rfl hf dX11_isFree_45
      · have hf := gIf_t c7 hf
        refine lv_iconst (v := 1) hx hb dX11_isFree_40 (by decide) ?_
        refine lv_goto (tgt := 45) hx hb dX11_isFree_41 (by decide) ?_
        exact g_zret K hS rfl hf dX11_isFree_45
abbrev rmX11_freeTo : Room := { frames := 3, cells := 0, slots := 0, locals := 67 }
def f_X11_freeTo_L4 (w1 : Int32) : Nat → Int32 → Int32 → gS → Option (Int32 × gS)
  | 0, _, _, _ => none
  | n + 1, v2, v3, σ => if (σ 1 4) ≤ v3 then (some (v2, σ)) else (Option.bind (f_X11_isFree w1 v3 σ) (fun q2 => if q2.1 = 0 then (gLet (v2 ||| 0) (fun x4 => f_X11_freeTo_L4 w1 n x4 (v3 + 1) q2.2)) else (gLet (v2 ||| (1 <<< (v3 &&& 31))) (fun x5 => f_X11_freeTo_L4 w1 n x5 (v3 + 1) q2.2))))
theorem f_X11_freeTo_L4_s (w1 : Int32) (n : Nat) (v2 : Int32) (v3 : Int32) (σ : gS) : f_X11_freeTo_L4 w1 (n + 1) v2 v3 σ = (if (σ 1 4) ≤ v3 then (some (v2, σ)) else (Option.bind (f_X11_isFree w1 v3 σ) (fun q2 => if q2.1 = 0 then (gLet (v2 ||| 0) (fun x4 => f_X11_freeTo_L4 w1 n x4 (v3 + 1) q2.2)) else (gLet (v2 ||| (1 <<< (v3 &&& 31))) (fun x5 => f_X11_freeTo_L4 w1 n x5 (v3 + 1) q2.2))))) := rfl
def f_X11_freeTo (p0 : Int32) (σ : gS) : Option (Int32 × gS) := f_X11_freeTo_L4 p0 gFu 0 0 σ
set_option maxHeartbeats 4000000 in
set_option maxRecDepth 100000 in
theorem w_X11_freeTo_L4 (w1 : Int32) {q : Int32 × gS} (K : gK p s m args meth c G cX11_freeTo 4 RX11 (some .int)) : ∀ (n : Nat) (v2 : Int32) (v3 : Int32) (σ : gS), f_X11_freeTo_L4 w1 n v2 v3 σ = some q → ∀ (H : Heap) (locs : List Loc) (ls : Array Slot), gSt G (entM G o) o 9 s σ H locs → lv_has ls 4 [(0, .ref (o + 0)), (1, .int w1), (2, .int v2), (3, .int v3)] → W p l e rmX11_freeTo s m args below meth c H locs 0 0 (MQ below (gQi G (entM G o) o 9 q) args s 0 0 (gA o 9)) (F0 m 4 ls []) := by
  obtain ⟨hx, hb, hml, hown, hts, -⟩ := id K
  intro n
  induction n with
  | zero =>
    intro v2 v3 σ hf
    exact absurd (show (none : Option _) = some q from hf) (by simp)
  | succ n ih =>
    intro v2 v3 σ hf H locs ls hS hl
    rw [f_X11_freeTo_L4_s] at hf
    refine lv_iload_n hx hb dX11_freeTo_4 rfl (lv_at hl 3 rfl) ?_
    refine lv_aload_n hx hb dX11_freeTo_5 rfl (lv_at hl 0 rfl) ?_
    refine g_get (cx := 0) K hS lF_X11_7 ((eM_0 G o) _) (by decide) rfl dX11_freeTo_6 ?_
    refine lv_iconst (v := 4) hx hb dX11_freeTo_9 (by decide) ?_
    refine g_iald (cx := 1) (j := 4) K hS (eM_1 G o) (by decide) (by decide) (by decide) dX11_freeTo_10 ?_
    refine lv_icmp_ge (tgt := 39) hx hb dX11_freeTo_11 (by decide) (fun c1 => ?_) (fun c1 => ?_)
    · have hf := gIf_t c1 hf
      refine lv_iload_n hx hb dX11_freeTo_39 rfl (lv_at hl 2 rfl) ?_
      exact g_iret K hS hf dX11_freeTo_40
    · have hf := gIf_f c1 hf
      refine lv_iload_n hx hb dX11_freeTo_14 rfl (lv_at hl 2 rfl) ?_
      refine lv_aload_n hx hb dX11_freeTo_15 rfl (lv_at hl 0 rfl) ?_
      refine lv_iload_n hx hb dX11_freeTo_16 rfl (lv_at hl 1 rfl) ?_
      refine lv_iload_n hx hb dX11_freeTo_17 rfl (lv_at hl 3 rfl) ?_
      obtain ⟨q2, hq2, hf⟩ := Option.bind_eq_some_iff.mp hf
      refine g_Vi (cx := 0) (As := [.int w1, .int v3]) K hS lV_X11_96 (c_X11_isFree w1 v3 σ q2 hq2) ((eM_0 G o) _) (by decide) rfl rfl rfl (Nat.le_of_ble_eq_true rfl) ⟨⟨Nat.le_of_ble_eq_true rfl, Nat.le_of_ble_eq_true rfl⟩, rfl, rfl⟩ hl.1 ⟨Nat.zero_le _, Nat.zero_le _⟩ dX11_freeTo_18 (fun H locs hS => ?_)
      refine lv_if_eq (tgt := 30) hx hb dX11_freeTo_21 (by decide) (fun c3 => ?_) (fun c3 => ?_)
      · have hf := gIf_t c3 hf
        refine lv_iconst (v := 0) hx hb dX11_freeTo_30 (by decide) ?_
        refine lv_ior hx hb dX11_freeTo_31 ?_
        obtain ⟨x4, hx4, hf⟩ := gLet_some hf
        refine g_top hx4 ?_
        refine lv_istore_n (lv' := [(2, .int x4), (0, .ref (o + 0)), (1, .int w1), (3, .int v3)]) hx hb dX11_freeTo_32 rfl hl (by decide) rfl (fun ls hl => ?_)
        refine lv_iinc (v := (v3 + 1)) (lv' := [(3, .int (v3 + 1)), (2, .int x4), (0, .ref (o + 0)), (1, .int w1)]) hx hb dX11_freeTo_33 hl (k := 3) rfl rfl (by decide) rfl (fun ls hl => ?_)
        refine lv_goto (tgt := 4) hx hb dX11_freeTo_36 (by decide) ?_
        exact ih x4 (v3 + 1) q2.2 hf _ _ _ hS (lv_sub hl [2, 3, 1, 0] rfl)
      · have hf := gIf_f c3 hf
        refine lv_iconst (v := 1) hx hb dX11_freeTo_24 (by decide) ?_
        refine lv_iload_n hx hb dX11_freeTo_25 rfl (lv_at hl 3 rfl) ?_
        refine lv_ishl hx hb dX11_freeTo_26 ?_
        refine lv_goto (tgt := 31) hx hb dX11_freeTo_27 (by decide) ?_
        refine lv_ior hx hb dX11_freeTo_31 ?_
        obtain ⟨x5, hx5, hf⟩ := gLet_some hf
        refine g_top hx5 ?_
        refine lv_istore_n (lv' := [(2, .int x5), (0, .ref (o + 0)), (1, .int w1), (3, .int v3)]) hx hb dX11_freeTo_32 rfl hl (by decide) rfl (fun ls hl => ?_)
        refine lv_iinc (v := (v3 + 1)) (lv' := [(3, .int (v3 + 1)), (2, .int x5), (0, .ref (o + 0)), (1, .int w1)]) hx hb dX11_freeTo_33 hl (k := 3) rfl rfl (by decide) rfl (fun ls hl => ?_)
        refine lv_goto (tgt := 4) hx hb dX11_freeTo_36 (by decide) ?_
        exact ih x5 (v3 + 1) q2.2 hf _ _ _ hS (lv_sub hl [2, 3, 1, 0] rfl)
set_option maxHeartbeats 4000000 in
set_option maxRecDepth 100000 in
theorem c_X11_freeTo (p0 : Int32) (σ : gS) (q : Int32 × gS) (hf : f_X11_freeTo p0 σ = some q) : Met l yX11_freeTo (gW yX11_freeTo cX11_freeTo 4 (some .int)) rmX11_freeTo (gPc G (entM G o) o 9 [.ref (o + 0), .int p0] σ) (gQi G (entM G o) o 9 q) 0 0 (gA o 9) := by
  refine g_met (by decide) ⟨rfl, rfl⟩ (fun p e s m args below meth c ls K hS hl => ?_) (Nat.le_of_ble_eq_true rfl)
  have K : gK p s m args meth c G cX11_freeTo 4 RX11 (some .int) := K
  have hl : lv_has ls 4 [(0, .ref (o + 0)), (1, .int p0)] := hl
  obtain ⟨hx, hb, hml, hown, hts, -⟩ := id K
  unfold f_X11_freeTo at hf
  refine lv_iconst (v := 0) hx hb dX11_freeTo_0 (by decide) ?_
  refine lv_istore_n (lv' := [(2, .int 0), (0, .ref (o + 0)), (1, .int p0)]) hx hb dX11_freeTo_1 rfl hl (by decide) rfl (fun ls hl => ?_)
  refine lv_iconst (v := 0) hx hb dX11_freeTo_2 (by decide) ?_
  refine lv_istore_n (lv' := [(3, .int 0), (2, .int 0), (0, .ref (o + 0)), (1, .int p0)]) hx hb dX11_freeTo_3 rfl hl (by decide) rfl (fun ls hl => ?_)
  refine w_X11_freeTo_L4 p0 K gFu 0 0 σ hf _ _ _ hS (lv_sub hl [2, 3, 1, 0] rfl)
abbrev rmX11_creak : Room := { frames := 3, cells := 0, slots := 0, locals := 75 }
def f_X11_creak_L21 (w1 : Int32) : Nat → Int32 → Int32 → gS → Option (Int32 × gS)
  | 0, _, _, _ => none
  | n + 1, v2, v3, σ => if (σ 1 5) ≤ v3 then (some (v2, σ)) else (Option.bind (f_X11_loud w1 v3 σ) (fun q4 => Option.bind (f_X11_ofSleeper v3 1 q4.2) (fun q5 => if q4.1 < q5.1 then (f_X11_creak_L21 w1 n v2 (v3 + 1) q5.2) else (gLet (v2 ||| (1 <<< (v3 &&& 31))) (fun x7 => gGd (gin ((118 + (4 * v3)) + 3) 138) (Option.bind (f_X11_ofSleeper v3 2 q5.2) (fun q9 => gLet (fun (j10 : Int32) (j11 : Int32) (j12 : Int32) (s13 : gS) => gGd (gin j10 138) (gLet (up2 s13 1 (gil j10) (j11 + j12)) (fun s15 => gGd (gin ((118 + (4 * v3)) + 2) 138) (gLet (up2 s15 1 (gil ((118 + (4 * v3)) + 2)) (s15 1 1)) (fun s16 => f_X11_creak_L21 w1 n x7 (v3 + 1) s16))))) (fun J14 => if q9.1 = 0 then (J14 ((118 + (4 * v3)) + 3) (q5.2 1 (gil ((118 + (4 * v3)) + 3))) 1 q9.2) else (J14 ((118 + (4 * v3)) + 3) (q5.2 1 (gil ((118 + (4 * v3)) + 3))) 0 q9.2)))))))))
theorem f_X11_creak_L21_s (w1 : Int32) (n : Nat) (v2 : Int32) (v3 : Int32) (σ : gS) : f_X11_creak_L21 w1 (n + 1) v2 v3 σ = (if (σ 1 5) ≤ v3 then (some (v2, σ)) else (Option.bind (f_X11_loud w1 v3 σ) (fun q4 => Option.bind (f_X11_ofSleeper v3 1 q4.2) (fun q5 => if q4.1 < q5.1 then (f_X11_creak_L21 w1 n v2 (v3 + 1) q5.2) else (gLet (v2 ||| (1 <<< (v3 &&& 31))) (fun x7 => gGd (gin ((118 + (4 * v3)) + 3) 138) (Option.bind (f_X11_ofSleeper v3 2 q5.2) (fun q9 => gLet (fun (j10 : Int32) (j11 : Int32) (j12 : Int32) (s13 : gS) => gGd (gin j10 138) (gLet (up2 s13 1 (gil j10) (j11 + j12)) (fun s15 => gGd (gin ((118 + (4 * v3)) + 2) 138) (gLet (up2 s15 1 (gil ((118 + (4 * v3)) + 2)) (s15 1 1)) (fun s16 => f_X11_creak_L21 w1 n x7 (v3 + 1) s16))))) (fun J14 => if q9.1 = 0 then (J14 ((118 + (4 * v3)) + 3) (q5.2 1 (gil ((118 + (4 * v3)) + 3))) 1 q9.2) else (J14 ((118 + (4 * v3)) + 3) (q5.2 1 (gil ((118 + (4 * v3)) + 3))) 0 q9.2)))))))))) := rfl
def f_X11_creak (p0 : Int32) (σ : gS) : Option (Int32 × gS) := gGd (gin ((6 + (5 * p0)) + 4) 138) (gGd (gin ((6 + (5 * p0)) + 4) 138) (gLet (up2 σ 1 (gil ((6 + (5 * p0)) + 4)) ((σ 1 (gil ((6 + (5 * p0)) + 4))) + 1)) (fun s2 => f_X11_creak_L21 p0 gFu 0 0 s2)))
set_option maxHeartbeats 4000000 in
set_option maxRecDepth 100000 in
theorem w_X11_creak_L21 (w1 : Int32) {q : Int32 × gS} (K : gK p s m args meth c G cX11_creak 4 RX11 (some .int)) : ∀ (n : Nat) (v2 : Int32) (v3 : Int32) (σ : gS), f_X11_creak_L21 w1 n v2 v3 σ = some q → ∀ (H : Heap) (locs : List Loc) (ls : Array Slot), gSt G (entM G o) o 9 s σ H locs → lv_has ls 4 [(0, .ref (o + 0)), (1, .int w1), (2, .int v2), (3, .int v3)] → W p l e rmX11_creak s m args below meth c H locs 0 0 (MQ below (gQi G (entM G o) o 9 q) args s 0 0 (gA o 9)) (F0 m 21 ls []) := by
  obtain ⟨hx, hb, hml, hown, hts, -⟩ := id K
  intro n
  induction n with
  | zero =>
    intro v2 v3 σ hf
    exact absurd (show (none : Option _) = some q from hf) (by simp)
  | succ n ih =>
    intro v2 v3 σ hf H locs ls hS hl
    rw [f_X11_creak_L21_s] at hf
    refine lv_iload_n hx hb dX11_creak_21 rfl (lv_at hl 3 rfl) ?_
    refine lv_aload_n hx hb dX11_creak_22 rfl (lv_at hl 0 rfl) ?_
    refine g_get (cx := 0) K hS lF_X11_7 ((eM_0 G o) _) (by decide) rfl dX11_creak_23 ?_
    refine lv_iconst (v := 5) hx hb dX11_creak_26 (by decide) ?_
    refine g_iald (cx := 1) (j := 5) K hS (eM_1 G o) (by decide) (by decide) (by decide) dX11_creak_27 ?_
    refine lv_icmp_ge (tgt := 107) hx hb dX11_creak_28 (by decide) (fun c3 => ?_) (fun c3 => ?_)
    · have hf := gIf_t c3 hf
      refine lv_iload_n hx hb dX11_creak_107 rfl (lv_at hl 2 rfl) ?_
      exact g_iret K hS hf dX11_creak_108
    · have hf := gIf_f c3 hf
      refine lv_aload_n hx hb dX11_creak_31 rfl (lv_at hl 0 rfl) ?_
      refine lv_iload_n hx hb dX11_creak_32 rfl (lv_at hl 1 rfl) ?_
      refine lv_iload_n hx hb dX11_creak_33 rfl (lv_at hl 3 rfl) ?_
      obtain ⟨q4, hq4, hf⟩ := Option.bind_eq_some_iff.mp hf
      refine g_Vi (cx := 0) (As := [.int w1, .int v3]) K hS lV_X11_86 (c_X11_loud w1 v3 σ q4 hq4) ((eM_0 G o) _) (by decide) rfl rfl rfl (Nat.le_of_ble_eq_true rfl) ⟨⟨Nat.le_of_ble_eq_true rfl, Nat.le_of_ble_eq_true rfl⟩, rfl, rfl⟩ hl.1 ⟨Nat.zero_le _, Nat.zero_le _⟩ dX11_creak_34 (fun H locs hS => ?_)
      refine lv_aload_n hx hb dX11_creak_37 rfl (lv_at hl 0 rfl) ?_
      refine lv_iload_n hx hb dX11_creak_38 rfl (lv_at hl 3 rfl) ?_
      refine lv_iconst (v := 1) hx hb dX11_creak_39 (by decide) ?_
      obtain ⟨q5, hq5, hf⟩ := Option.bind_eq_some_iff.mp hf
      refine g_Vi (cx := 0) (As := [.int v3, .int 1]) K hS lV_X11_80 (c_X11_ofSleeper v3 1 q4.2 q5 hq5) ((eM_0 G o) _) (by decide) rfl rfl rfl (Nat.le_of_ble_eq_true rfl) ⟨⟨Nat.le_of_ble_eq_true rfl, Nat.le_of_ble_eq_true rfl⟩, rfl, rfl⟩ hl.1 ⟨Nat.zero_le _, Nat.zero_le _⟩ dX11_creak_40 (fun H locs hS => ?_)
      refine lv_icmp_lt (tgt := 101) hx hb dX11_creak_43 (by decide) (fun c6 => ?_) (fun c6 => ?_)
      · have hf := gIf_t c6 hf
        refine lv_iinc (v := (v3 + 1)) (lv' := [(3, .int (v3 + 1)), (0, .ref (o + 0)), (1, .int w1), (2, .int v2)]) hx hb dX11_creak_101 hl (k := 3) rfl rfl (by decide) rfl (fun ls hl => ?_)
        refine lv_goto (tgt := 21) hx hb dX11_creak_104 (by decide) ?_
        exact ih v2 (v3 + 1) q5.2 hf _ _ _ hS (lv_sub hl [1, 2, 3, 0] rfl)
      · have hf := gIf_f c6 hf
        refine lv_iload_n hx hb dX11_creak_46 rfl (lv_at hl 2 rfl) ?_
        refine lv_iconst (v := 1) hx hb dX11_creak_47 (by decide) ?_
        refine lv_iload_n hx hb dX11_creak_48 rfl (lv_at hl 3 rfl) ?_
        refine lv_ishl hx hb dX11_creak_49 ?_
        refine lv_ior hx hb dX11_creak_50 ?_
        obtain ⟨x7, hx7, hf⟩ := gLet_some hf
        refine g_top hx7 ?_
        refine lv_istore_n (lv' := [(2, .int x7), (0, .ref (o + 0)), (1, .int w1), (3, .int v3)]) hx hb dX11_creak_51 rfl hl (by decide) rfl (fun ls hl => ?_)
        refine lv_aload_n hx hb dX11_creak_52 rfl (lv_at hl 1 rfl) ?_
        refine g_get (cx := 0) K hS lF_X11_7 ((eM_0 G o) _) (by decide) rfl dX11_creak_53 ?_
        refine lv_bipush (v := 118) hx hb dX11_creak_56 (by decide) ?_
        refine lv_iconst (v := 4) hx hb dX11_creak_58 (by decide) ?_
        refine lv_iload_n hx hb dX11_creak_59 rfl (lv_at hl 3 rfl) ?_
        refine lv_imul hx hb dX11_creak_60 ?_
        refine lv_iadd hx hb dX11_creak_61 ?_
        refine lv_iconst (v := 3) hx hb dX11_creak_62 (by decide) ?_
        refine lv_iadd hx hb dX11_creak_63 ?_
        refine lv_dup2_11 hx hb dX11_creak_64 rfl rfl ?_
        obtain ⟨h8, hf⟩ := gGd_some hf
        refine g_iald (cx := 1) K hS (eM_1 G o) (by decide) h8 rfl dX11_creak_65 ?_
        refine lv_aload_n hx hb dX11_creak_66 rfl (lv_at hl 1 rfl) ?_
        refine lv_iload_n hx hb dX11_creak_67 rfl (lv_at hl 3 rfl) ?_
        refine lv_iconst (v := 2) hx hb dX11_creak_68 (by decide) ?_
        obtain ⟨q9, hq9, hf⟩ := Option.bind_eq_some_iff.mp hf
        refine g_Vi (cx := 0) (As := [.int v3, .int 2]) K hS lV_X11_80 (c_X11_ofSleeper v3 2 q5.2 q9 hq9) ((eM_0 G o) _) (by decide) rfl rfl rfl (Nat.le_of_ble_eq_true rfl) ⟨⟨Nat.le_of_ble_eq_true rfl, Nat.le_of_ble_eq_true rfl⟩, rfl, rfl⟩ hl.1 ⟨Nat.zero_le _, Nat.zero_le _⟩ dX11_creak_69 (fun H locs hS => ?_)
        obtain ⟨J14, hJ14, hf⟩ := gLet_some hf
        have wJ14 : ∀ (j10 : Int32) (j11 : Int32) (j12 : Int32) (s13 : gS), J14 j10 j11 j12 s13 = some q → ∀ (H : Heap) (locs : List Loc) (ls : Array Slot), gSt G (entM G o) o 9 s s13 H locs → lv_has ls 4 [(0, .ref (o + 0)), (1, .int w1), (2, .int x7), (3, .int v3)] → W p l e rmX11_creak s m args below meth c H locs 0 0 (MQ below (gQi G (entM G o) o 9 q) args s 0 0 (gA o 9)) (F0 m 80 ls [.int j12, .int j11, .int j10, .ref (o + 1)]) := by
          intro j10 j11 j12 s13 hf H locs ls hS hl
          rw [hJ14] at hf
          refine lv_iadd hx hb dX11_creak_80 ?_
          obtain ⟨h18, hf⟩ := gGd_some hf
          obtain ⟨s15, hs15, hf⟩ := gLet_some hf
          refine g_iast (cx := 1) K hS (eM_1 G o) (by decide) h18 rfl dX11_creak_81 (fun H locs hS => ?_)
          rw [← hs15] at hS
          refine lv_aload_n hx hb dX11_creak_82 rfl (lv_at hl 0 rfl) ?_
          refine g_get (cx := 0) K hS lF_X11_7 ((eM_0 G o) _) (by decide) rfl dX11_creak_83 ?_
          refine lv_bipush (v := 118) hx hb dX11_creak_86 (by decide) ?_
          refine lv_iconst (v := 4) hx hb dX11_creak_88 (by decide) ?_
          refine lv_iload_n hx hb dX11_creak_89 rfl (lv_at hl 3 rfl) ?_
          refine lv_imul hx hb dX11_creak_90 ?_
          refine lv_iadd hx hb dX11_creak_91 ?_
          refine lv_iconst (v := 2) hx hb dX11_creak_92 (by decide) ?_
          refine lv_iadd hx hb dX11_creak_93 ?_
          refine lv_aload_n hx hb dX11_creak_94 rfl (lv_at hl 0 rfl) ?_
          refine g_get (cx := 0) K hS lF_X11_7 ((eM_0 G o) _) (by decide) rfl dX11_creak_95 ?_
          refine lv_iconst (v := 1) hx hb dX11_creak_98 (by decide) ?_
          refine g_iald (cx := 1) (j := 1) K hS (eM_1 G o) (by decide) (by decide) (by decide) dX11_creak_99 ?_
          obtain ⟨h17, hf⟩ := gGd_some hf
          obtain ⟨s16, hs16, hf⟩ := gLet_some hf
          refine g_iast (cx := 1) K hS (eM_1 G o) (by decide) h17 rfl dX11_creak_100 (fun H locs hS => ?_)
          rw [← hs16] at hS
          refine lv_iinc (v := (v3 + 1)) (lv' := [(3, .int (v3 + 1)), (0, .ref (o + 0)), (1, .int w1), (2, .int x7)]) hx hb dX11_creak_101 hl (k := 3) rfl rfl (by decide) rfl (fun ls hl => ?_)
          refine lv_goto (tgt := 21) hx hb dX11_creak_104 (by decide) ?_
          exact ih x7 (v3 + 1) s16 hf _ _ _ hS (lv_sub hl [1, 2, 3, 0] rfl)
        clear hJ14
        refine lv_if_ne (tgt := 79) hx hb dX11_creak_72 (by decide) (fun c19 => ?_) (fun c19 => ?_)
        · have hf := gIf_f c19 hf
          refine lv_iconst (v := 0) hx hb dX11_creak_79 (by decide) ?_
          exact wJ14 ((118 + (4 * v3)) + 3) (q5.2 1 (gil ((118 + (4 * v3)) + 3))) 0 q9.2 hf _ _ _ hS (lv_sub hl [1, 2, 0, 3] rfl)
        · have hf := gIf_t c19 hf
          refine lv_iconst (v := 1) hx hb dX11_creak_75 (by decide) ?_
          refine lv_goto (tgt := 80) hx hb dX11_creak_76 (by decide) ?_
          exact wJ14 ((118 + (4 * v3)) + 3) (q5.2 1 (gil ((118 + (4 * v3)) + 3))) 1 q9.2 hf _ _ _ hS (lv_sub hl [1, 2, 0, 3] rfl)
set_option maxHeartbeats 4000000 in
set_option maxRecDepth 100000 in
theorem c_X11_creak (p0 : Int32) (σ : gS) (q : Int32 × gS) (hf : f_X11_creak p0 σ = some q) : Met l yX11_creak (gW yX11_creak cX11_creak 4 (some .int)) rmX11_creak (gPc G (entM G o) o 9 [.ref (o + 0), .int p0] σ) (gQi G (entM G o) o 9 q) 0 0 (gA o 9) := by
  refine g_met (by decide) ⟨rfl, rfl⟩ (fun p e s m args below meth c ls K hS hl => ?_) (Nat.le_of_ble_eq_true rfl)
  have K : gK p s m args meth c G cX11_creak 4 RX11 (some .int) := K
  have hl : lv_has ls 4 [(0, .ref (o + 0)), (1, .int p0)] := hl
  obtain ⟨hx, hb, hml, hown, hts, -⟩ := id K
  unfold f_X11_creak at hf
  refine lv_aload_n hx hb dX11_creak_0 rfl (lv_at hl 0 rfl) ?_
  refine g_get (cx := 0) K hS lF_X11_7 ((eM_0 G o) _) (by decide) rfl dX11_creak_1 ?_
  refine lv_bipush (v := 6) hx hb dX11_creak_4 (by decide) ?_
  refine lv_iconst (v := 5) hx hb dX11_creak_6 (by decide) ?_
  refine lv_iload_n hx hb dX11_creak_7 rfl (lv_at hl 1 rfl) ?_
  refine lv_imul hx hb dX11_creak_8 ?_
  refine lv_iadd hx hb dX11_creak_9 ?_
  refine lv_iconst (v := 4) hx hb dX11_creak_10 (by decide) ?_
  refine lv_iadd hx hb dX11_creak_11 ?_
  refine lv_dup2_11 hx hb dX11_creak_12 rfl rfl ?_
  obtain ⟨h1, hf⟩ := gGd_some hf
  refine g_iald (cx := 1) K hS (eM_1 G o) (by decide) h1 rfl dX11_creak_13 ?_
  refine lv_iconst (v := 1) hx hb dX11_creak_14 (by decide) ?_
  refine lv_iadd hx hb dX11_creak_15 ?_
  obtain ⟨h20, hf⟩ := gGd_some hf
  obtain ⟨s2, hs2, hf⟩ := gLet_some hf
  refine g_iast (cx := 1) K hS (eM_1 G o) (by decide) h20 rfl dX11_creak_16 (fun H locs hS => ?_)
  rw [← hs2] at hS
  refine lv_iconst (v := 0) hx hb dX11_creak_17 (by decide) ?_
  refine lv_istore_n (lv' := [(2, .int 0), (0, .ref (o + 0)), (1, .int p0)]) hx hb dX11_creak_18 rfl hl (by decide) rfl (fun ls hl => ?_)
  refine lv_iconst (v := 0) hx hb dX11_creak_19 (by decide) ?_
  refine lv_istore_n (lv' := [(3, .int 0), (2, .int 0), (0, .ref (o + 0)), (1, .int p0)]) hx hb dX11_creak_20 rfl hl (by decide) rfl (fun ls hl => ?_)
  refine w_X11_creak_L21 p0 K gFu 0 0 s2 hf _ _ _ hS (lv_sub hl [2, 3, 1, 0] rfl)
abbrev rmX11_minutes : Room := { frames := 1, cells := 0, slots := 0, locals := 22 }
def f_X11_minutes_L22 (w1 : Int32) (w2 : Int32) (w3 : Int32) (K71 : gS → Option (Int32 × gS)) : Nat → Int32 → gS → Option (Int32 × gS)
  | 0, _, _ => none
  | n + 1, v4, σ => if (σ 1 5) ≤ v4 then (K71 σ) else (gGd (gin ((118 + (4 * v4)) + 2) 138) (Option.bind (f_X11_ofSleeper v4 2 σ) (fun q5 => gLet (fun (j6 : Int32) (j7 : Int32) (j8 : Int32) (s9 : gS) => gGd (gin j6 138) (gLet (up2 s9 1 (gil j6) (j7 - j8)) (fun s11 => f_X11_minutes_L22 w1 w2 w3 K71 n (v4 + 1) s11))) (fun J10 => if q5.1 ≤ 0 then (J10 ((118 + (4 * v4)) + 2) (σ 1 (gil ((118 + (4 * v4)) + 2))) 0 q5.2) else (J10 ((118 + (4 * v4)) + 2) (σ 1 (gil ((118 + (4 * v4)) + 2))) 1 q5.2)))))
theorem f_X11_minutes_L22_s (w1 : Int32) (w2 : Int32) (w3 : Int32) (K71 : gS → Option (Int32 × gS)) (n : Nat) (v4 : Int32) (σ : gS) : f_X11_minutes_L22 w1 w2 w3 K71 (n + 1) v4 σ = (if (σ 1 5) ≤ v4 then (K71 σ) else (gGd (gin ((118 + (4 * v4)) + 2) 138) (Option.bind (f_X11_ofSleeper v4 2 σ) (fun q5 => gLet (fun (j6 : Int32) (j7 : Int32) (j8 : Int32) (s9 : gS) => gGd (gin j6 138) (gLet (up2 s9 1 (gil j6) (j7 - j8)) (fun s11 => f_X11_minutes_L22 w1 w2 w3 K71 n (v4 + 1) s11))) (fun J10 => if q5.1 ≤ 0 then (J10 ((118 + (4 * v4)) + 2) (σ 1 (gil ((118 + (4 * v4)) + 2))) 0 q5.2) else (J10 ((118 + (4 * v4)) + 2) (σ 1 (gil ((118 + (4 * v4)) + 2))) 1 q5.2)))))) := rfl
def f_X11_minutes_L93 (w1 : Int32) (w2 : Int32) (w3 : Int32) (K120 : gS → Option (Int32 × gS)) : Nat → Int32 → gS → Option (Int32 × gS)
  | 0, _, _ => none
  | n + 1, v4, σ => if 4 ≤ v4 then (K120 σ) else (gGd (gin ((106 + (3 * v4)) + 1) 138) (gLet (up2 σ 1 (gil ((106 + (3 * v4)) + 1)) 0) (fun s18 => f_X11_minutes_L93 w1 w2 w3 K120 n (v4 + 1) s18)))
theorem f_X11_minutes_L93_s (w1 : Int32) (w2 : Int32) (w3 : Int32) (K120 : gS → Option (Int32 × gS)) (n : Nat) (v4 : Int32) (σ : gS) : f_X11_minutes_L93 w1 w2 w3 K120 (n + 1) v4 σ = (if 4 ≤ v4 then (K120 σ) else (gGd (gin ((106 + (3 * v4)) + 1) 138) (gLet (up2 σ 1 (gil ((106 + (3 * v4)) + 1)) 0) (fun s18 => f_X11_minutes_L93 w1 w2 w3 K120 n (v4 + 1) s18)))) := rfl
def f_X11_minutes_L4 (w1 : Int32) (K126 : Int32 → gS → Option (Int32 × gS)) : Nat → Int32 → Int32 → gS → Option (Int32 × gS)
  | 0, _, _, _ => none
  | n + 1, v2, v3, σ => if w1 ≤ v3 then (K126 v2 σ) else (gLet (up2 σ 1 2 ((σ 1 2) + 1)) (fun s2 => f_X11_minutes_L22 w1 v2 v3 (fun (s14 : gS) => gGd (gne (s14 1 0)) (if ((s14 1 2) - (s14 1 2) / (s14 1 0) * (s14 1 0)) = 0 then (f_X11_minutes_L93 w1 (v2 + 1) v3 (fun (s20 : gS) => f_X11_minutes_L4 w1 K126 n (v2 + 1) (v3 + 1) s20) gFu 0 s14) else (f_X11_minutes_L4 w1 K126 n v2 (v3 + 1) s14))) gFu 0 s2))
theorem f_X11_minutes_L4_s (w1 : Int32) (K126 : Int32 → gS → Option (Int32 × gS)) (n : Nat) (v2 : Int32) (v3 : Int32) (σ : gS) : f_X11_minutes_L4 w1 K126 (n + 1) v2 v3 σ = (if w1 ≤ v3 then (K126 v2 σ) else (gLet (up2 σ 1 2 ((σ 1 2) + 1)) (fun s2 => f_X11_minutes_L22 w1 v2 v3 (fun (s14 : gS) => gGd (gne (s14 1 0)) (if ((s14 1 2) - (s14 1 2) / (s14 1 0) * (s14 1 0)) = 0 then (f_X11_minutes_L93 w1 (v2 + 1) v3 (fun (s20 : gS) => f_X11_minutes_L4 w1 K126 n (v2 + 1) (v3 + 1) s20) gFu 0 s14) else (f_X11_minutes_L4 w1 K126 n v2 (v3 + 1) s14))) gFu 0 s2))) := rfl
def f_X11_minutes (p0 : Int32) (σ : gS) : Option (Int32 × gS) := f_X11_minutes_L4 p0 (fun (k22 : Int32) (s23 : gS) => gLet (up2 s23 1 3 ((s23 1 3) + k22)) (fun s24 => some (k22, s24))) gFu 0 0 σ
set_option maxHeartbeats 4000000 in
set_option maxRecDepth 100000 in
theorem w_X11_minutes_L22 (w1 : Int32) (w2 : Int32) (w3 : Int32) (K71 : gS → Option (Int32 × gS)) {q : Int32 × gS} (K : gK p s m args meth c G cX11_minutes 5 RX11 (some .int)) (hK71 : ∀ (σ : gS), K71 σ = some q → ∀ (H : Heap) (locs : List Loc) (ls : Array Slot), gSt G (entM G o) o 9 s σ H locs → lv_has ls 5 [(0, .ref (o + 0)), (1, .int w1), (2, .int w2), (3, .int w3)] → W p l e rmX11_minutes s m args below meth c H locs 0 0 (MQ below (gQi G (entM G o) o 9 q) args s 0 0 (gA o 9)) (F0 m 71 ls [])) : ∀ (n : Nat) (v4 : Int32) (σ : gS), f_X11_minutes_L22 w1 w2 w3 K71 n v4 σ = some q → ∀ (H : Heap) (locs : List Loc) (ls : Array Slot), gSt G (entM G o) o 9 s σ H locs → lv_has ls 5 [(0, .ref (o + 0)), (1, .int w1), (2, .int w2), (3, .int w3), (4, .int v4)] → W p l e rmX11_minutes s m args below meth c H locs 0 0 (MQ below (gQi G (entM G o) o 9 q) args s 0 0 (gA o 9)) (F0 m 22 ls []) := by
  obtain ⟨hx, hb, hml, hown, hts, -⟩ := id K
  intro n
  induction n with
  | zero =>
    intro v4 σ hf
    exact absurd (show (none : Option _) = some q from hf) (by simp)
  | succ n ih =>
    intro v4 σ hf H locs ls hS hl
    rw [f_X11_minutes_L22_s] at hf
    refine lv_iload hx hb dX11_minutes_22 (lv_at hl 4 rfl) ?_
    refine lv_aload_n hx hb dX11_minutes_24 rfl (lv_at hl 0 rfl) ?_
    refine g_get (cx := 0) K hS lF_X11_7 ((eM_0 G o) _) (by decide) rfl dX11_minutes_25 ?_
    refine lv_iconst (v := 5) hx hb dX11_minutes_28 (by decide) ?_
    refine g_iald (cx := 1) (j := 5) K hS (eM_1 G o) (by decide) (by decide) (by decide) dX11_minutes_29 ?_
    refine lv_icmp_ge (tgt := 71) hx hb dX11_minutes_30 (by decide) (fun c3 => ?_) (fun c3 => ?_)
    · have hf := gIf_t c3 hf
      exact hK71 σ hf _ _ _ hS (lv_sub hl [0, 1, 2, 3] rfl)
    · have hf := gIf_f c3 hf
      refine lv_aload_n hx hb dX11_minutes_33 rfl (lv_at hl 0 rfl) ?_
      refine g_get (cx := 0) K hS lF_X11_7 ((eM_0 G o) _) (by decide) rfl dX11_minutes_34 ?_
      refine lv_bipush (v := 118) hx hb dX11_minutes_37 (by decide) ?_
      refine lv_iconst (v := 4) hx hb dX11_minutes_39 (by decide) ?_
      refine lv_iload hx hb dX11_minutes_40 (lv_at hl 4 rfl) ?_
      refine lv_imul hx hb dX11_minutes_42 ?_
      refine lv_iadd hx hb dX11_minutes_43 ?_
      refine lv_iconst (v := 2) hx hb dX11_minutes_44 (by decide) ?_
      refine lv_iadd hx hb dX11_minutes_45 ?_
      refine lv_dup2_11 hx hb dX11_minutes_46 rfl rfl ?_
      obtain ⟨h4, hf⟩ := gGd_some hf
      refine g_iald (cx := 1) K hS (eM_1 G o) (by decide) h4 rfl dX11_minutes_47 ?_
      refine lv_aload_n hx hb dX11_minutes_48 rfl (lv_at hl 0 rfl) ?_
      refine lv_iload hx hb dX11_minutes_49 (lv_at hl 4 rfl) ?_
      refine lv_iconst (v := 2) hx hb dX11_minutes_51 (by decide) ?_
      obtain ⟨q5, hq5, hf⟩ := Option.bind_eq_some_iff.mp hf
      refine g_Vi (cx := 0) (As := [.int v4, .int 2]) K hS lV_X11_80 (c_X11_ofSleeper v4 2 σ q5 hq5) ((eM_0 G o) _) (by decide) rfl rfl rfl (Nat.le_of_ble_eq_true rfl) ⟨⟨Nat.le_of_ble_eq_true rfl, Nat.le_of_ble_eq_true rfl⟩, rfl, rfl⟩ hl.1 ⟨Nat.zero_le _, Nat.zero_le _⟩ dX11_minutes_52 (fun H locs hS => ?_)
      obtain ⟨J10, hJ10, hf⟩ := gLet_some hf
      have wJ10 : ∀ (j6 : Int32) (j7 : Int32) (j8 : Int32) (s9 : gS), J10 j6 j7 j8 s9 = some q → ∀ (H : Heap) (locs : List Loc) (ls : Array Slot), gSt G (entM G o) o 9 s s9 H locs → lv_has ls 5 [(0, .ref (o + 0)), (1, .int w1), (2, .int w2), (3, .int w3), (4, .int v4)] → W p l e rmX11_minutes s m args below meth c H locs 0 0 (MQ below (gQi G (entM G o) o 9 q) args s 0 0 (gA o 9)) (F0 m 63 ls [.int j8, .int j7, .int j6, .ref (o + 1)]) := by
        intro j6 j7 j8 s9 hf H locs ls hS hl
        rw [hJ10] at hf
        refine lv_isub hx hb dX11_minutes_63 ?_
        obtain ⟨h12, hf⟩ := gGd_some hf
        obtain ⟨s11, hs11, hf⟩ := gLet_some hf
        refine g_iast (cx := 1) K hS (eM_1 G o) (by decide) h12 rfl dX11_minutes_64 (fun H locs hS => ?_)
        rw [← hs11] at hS
        refine lv_iinc (v := (v4 + 1)) (lv' := [(4, .int (v4 + 1)), (0, .ref (o + 0)), (1, .int w1), (2, .int w2), (3, .int w3)]) hx hb dX11_minutes_65 hl (k := 4) rfl rfl (by decide) rfl (fun ls hl => ?_)
        refine lv_goto (tgt := 22) hx hb dX11_minutes_68 (by decide) ?_
        exact ih (v4 + 1) s11 hf _ _ _ hS (lv_sub hl [1, 2, 3, 4, 0] rfl)
      clear hJ10
      refine lv_if_le (tgt := 62) hx hb dX11_minutes_55 (by decide) (fun c13 => ?_) (fun c13 => ?_)
      · have hf := gIf_t c13 hf
        refine lv_iconst (v := 0) hx hb dX11_minutes_62 (by decide) ?_
        exact wJ10 ((118 + (4 * v4)) + 2) (σ 1 (gil ((118 + (4 * v4)) + 2))) 0 q5.2 hf _ _ _ hS (lv_sub hl [0, 1, 2, 3, 4] rfl)
      · have hf := gIf_f c13 hf
        refine lv_iconst (v := 1) hx hb dX11_minutes_58 (by decide) ?_
        refine lv_goto (tgt := 63) hx hb dX11_minutes_59 (by decide) ?_
        exact wJ10 ((118 + (4 * v4)) + 2) (σ 1 (gil ((118 + (4 * v4)) + 2))) 1 q5.2 hf _ _ _ hS (lv_sub hl [0, 1, 2, 3, 4] rfl)
set_option maxHeartbeats 4000000 in
set_option maxRecDepth 100000 in
theorem w_X11_minutes_L93 (w1 : Int32) (w2 : Int32) (w3 : Int32) (K120 : gS → Option (Int32 × gS)) {q : Int32 × gS} (K : gK p s m args meth c G cX11_minutes 5 RX11 (some .int)) (hK120 : ∀ (σ : gS), K120 σ = some q → ∀ (H : Heap) (locs : List Loc) (ls : Array Slot), gSt G (entM G o) o 9 s σ H locs → lv_has ls 5 [(0, .ref (o + 0)), (1, .int w1), (2, .int w2), (3, .int w3)] → W p l e rmX11_minutes s m args below meth c H locs 0 0 (MQ below (gQi G (entM G o) o 9 q) args s 0 0 (gA o 9)) (F0 m 120 ls [])) : ∀ (n : Nat) (v4 : Int32) (σ : gS), f_X11_minutes_L93 w1 w2 w3 K120 n v4 σ = some q → ∀ (H : Heap) (locs : List Loc) (ls : Array Slot), gSt G (entM G o) o 9 s σ H locs → lv_has ls 5 [(0, .ref (o + 0)), (1, .int w1), (2, .int w2), (3, .int w3), (4, .int v4)] → W p l e rmX11_minutes s m args below meth c H locs 0 0 (MQ below (gQi G (entM G o) o 9 q) args s 0 0 (gA o 9)) (F0 m 93 ls []) := by
  obtain ⟨hx, hb, hml, hown, hts, -⟩ := id K
  intro n
  induction n with
  | zero =>
    intro v4 σ hf
    exact absurd (show (none : Option _) = some q from hf) (by simp)
  | succ n ih =>
    intro v4 σ hf H locs ls hS hl
    rw [f_X11_minutes_L93_s] at hf
    refine lv_iload hx hb dX11_minutes_93 (lv_at hl 4 rfl) ?_
    refine lv_iconst (v := 4) hx hb dX11_minutes_95 (by decide) ?_
    refine lv_icmp_ge (tgt := 120) hx hb dX11_minutes_96 (by decide) (fun c17 => ?_) (fun c17 => ?_)
    · have hf := gIf_t c17 hf
      exact hK120 σ hf _ _ _ hS (lv_sub hl [0, 1, 2, 3] rfl)
    · have hf := gIf_f c17 hf
      refine lv_aload_n hx hb dX11_minutes_99 rfl (lv_at hl 0 rfl) ?_
      refine g_get (cx := 0) K hS lF_X11_7 ((eM_0 G o) _) (by decide) rfl dX11_minutes_100 ?_
      refine lv_bipush (v := 106) hx hb dX11_minutes_103 (by decide) ?_
      refine lv_iconst (v := 3) hx hb dX11_minutes_105 (by decide) ?_
      refine lv_iload hx hb dX11_minutes_106 (lv_at hl 4 rfl) ?_
      refine lv_imul hx hb dX11_minutes_108 ?_
      refine lv_iadd hx hb dX11_minutes_109 ?_
      refine lv_iconst (v := 1) hx hb dX11_minutes_110 (by decide) ?_
      refine lv_iadd hx hb dX11_minutes_111 ?_
      refine lv_iconst (v := 0) hx hb dX11_minutes_112 (by decide) ?_
      obtain ⟨h19, hf⟩ := gGd_some hf
      obtain ⟨s18, hs18, hf⟩ := gLet_some hf
      refine g_iast (cx := 1) K hS (eM_1 G o) (by decide) h19 rfl dX11_minutes_113 (fun H locs hS => ?_)
      rw [← hs18] at hS
      refine lv_iinc (v := (v4 + 1)) (lv' := [(4, .int (v4 + 1)), (0, .ref (o + 0)), (1, .int w1), (2, .int w2), (3, .int w3)]) hx hb dX11_minutes_114 hl (k := 4) rfl rfl (by decide) rfl (fun ls hl => ?_)
      refine lv_goto (tgt := 93) hx hb dX11_minutes_117 (by decide) ?_
      exact ih (v4 + 1) s18 hf _ _ _ hS (lv_sub hl [1, 2, 3, 4, 0] rfl)
set_option maxHeartbeats 4000000 in
set_option maxRecDepth 100000 in
theorem w_X11_minutes_L4 (w1 : Int32) (K126 : Int32 → gS → Option (Int32 × gS)) {q : Int32 × gS} (K : gK p s m args meth c G cX11_minutes 5 RX11 (some .int)) (hK126 : ∀ (k2 : Int32) (σ : gS), K126 k2 σ = some q → ∀ (H : Heap) (locs : List Loc) (ls : Array Slot), gSt G (entM G o) o 9 s σ H locs → lv_has ls 5 [(0, .ref (o + 0)), (2, .int k2)] → W p l e rmX11_minutes s m args below meth c H locs 0 0 (MQ below (gQi G (entM G o) o 9 q) args s 0 0 (gA o 9)) (F0 m 126 ls [])) : ∀ (n : Nat) (v2 : Int32) (v3 : Int32) (σ : gS), f_X11_minutes_L4 w1 K126 n v2 v3 σ = some q → ∀ (H : Heap) (locs : List Loc) (ls : Array Slot), gSt G (entM G o) o 9 s σ H locs → lv_has ls 5 [(0, .ref (o + 0)), (1, .int w1), (2, .int v2), (3, .int v3)] → W p l e rmX11_minutes s m args below meth c H locs 0 0 (MQ below (gQi G (entM G o) o 9 q) args s 0 0 (gA o 9)) (F0 m 4 ls []) := by
  obtain ⟨hx, hb, hml, hown, hts, -⟩ := id K
  intro n
  induction n with
  | zero =>
    intro v2 v3 σ hf
    exact absurd (show (none : Option _) = some q from hf) (by simp)
  | succ n ih =>
    intro v2 v3 σ hf H locs ls hS hl
    rw [f_X11_minutes_L4_s] at hf
    refine lv_iload_n hx hb dX11_minutes_4 rfl (lv_at hl 3 rfl) ?_
    refine lv_iload_n hx hb dX11_minutes_5 rfl (lv_at hl 1 rfl) ?_
    refine lv_icmp_ge (tgt := 126) hx hb dX11_minutes_6 (by decide) (fun c1 => ?_) (fun c1 => ?_)
    · have hf := gIf_t c1 hf
      exact hK126 v2 σ hf _ _ _ hS (lv_sub hl [0, 2] rfl)
    · have hf := gIf_f c1 hf
      refine lv_aload_n hx hb dX11_minutes_9 rfl (lv_at hl 0 rfl) ?_
      refine g_get (cx := 0) K hS lF_X11_7 ((eM_0 G o) _) (by decide) rfl dX11_minutes_10 ?_
      refine lv_iconst (v := 2) hx hb dX11_minutes_13 (by decide) ?_
      refine lv_dup2_11 hx hb dX11_minutes_14 rfl rfl ?_
      refine g_iald (cx := 1) (j := 2) K hS (eM_1 G o) (by decide) (by decide) (by decide) dX11_minutes_15 ?_
      refine lv_iconst (v := 1) hx hb dX11_minutes_16 (by decide) ?_
      refine lv_iadd hx hb dX11_minutes_17 ?_
      obtain ⟨s2, hs2, hf⟩ := gLet_some hf
      refine g_iast (cx := 1) (j := 2) K hS (eM_1 G o) (by decide) (by decide) (by decide) dX11_minutes_18 (fun H locs hS => ?_)
      rw [← hs2] at hS
      refine lv_iconst (v := 0) hx hb dX11_minutes_19 (by decide) ?_
      refine lv_istore (lv' := [(4, .int 0), (0, .ref (o + 0)), (1, .int w1), (2, .int v2), (3, .int v3)]) hx hb dX11_minutes_20 hl (by decide) rfl (fun ls hl => ?_)
      refine w_X11_minutes_L22 w1 v2 v3 _ K ?_ gFu 0 s2 hf _ _ _ hS (lv_sub hl [1, 2, 3, 4, 0] rfl)
      · intro  s14 hf H locs ls hS hl
        refine lv_aload_n hx hb dX11_minutes_71 rfl (lv_at hl 0 rfl) ?_
        refine g_get (cx := 0) K hS lF_X11_7 ((eM_0 G o) _) (by decide) rfl dX11_minutes_72 ?_
        refine lv_iconst (v := 2) hx hb dX11_minutes_75 (by decide) ?_
        refine g_iald (cx := 1) (j := 2) K hS (eM_1 G o) (by decide) (by decide) (by decide) dX11_minutes_76 ?_
        refine lv_aload_n hx hb dX11_minutes_77 rfl (lv_at hl 0 rfl) ?_
        refine g_get (cx := 0) K hS lF_X11_7 ((eM_0 G o) _) (by decide) rfl dX11_minutes_78 ?_
        refine lv_iconst (v := 0) hx hb dX11_minutes_81 (by decide) ?_
        refine g_iald (cx := 1) (j := 0) K hS (eM_1 G o) (by decide) (by decide) (by decide) dX11_minutes_82 ?_
        obtain ⟨h15, hf⟩ := gGd_some hf
        refine lv_irem hx hb dX11_minutes_83 (gne_ne h15) ?_
        refine lv_if_ne (tgt := 120) hx hb dX11_minutes_84 (by decide) (fun c16 => ?_) (fun c16 => ?_)
        · have hf := gIf_f c16 hf
          refine lv_iinc (v := (v3 + 1)) (lv' := [(3, .int (v3 + 1)), (0, .ref (o + 0)), (1, .int w1), (2, .int v2)]) hx hb dX11_minutes_120 hl (k := 3) rfl rfl (by decide) rfl (fun ls hl => ?_)
          refine lv_goto (tgt := 4) hx hb dX11_minutes_123 (by decide) ?_
          exact ih v2 (v3 + 1) s14 hf _ _ _ hS (lv_sub hl [1, 2, 3, 0] rfl)
        · have hf := gIf_t c16 hf
          refine lv_iinc (v := (v2 + 1)) (lv' := [(2, .int (v2 + 1)), (0, .ref (o + 0)), (1, .int w1), (3, .int v3)]) hx hb dX11_minutes_87 hl (k := 2) rfl rfl (by decide) rfl (fun ls hl => ?_)
          refine lv_iconst (v := 0) hx hb dX11_minutes_90 (by decide) ?_
          refine lv_istore (lv' := [(4, .int 0), (2, .int (v2 + 1)), (0, .ref (o + 0)), (1, .int w1), (3, .int v3)]) hx hb dX11_minutes_91 hl (by decide) rfl (fun ls hl => ?_)
          refine w_X11_minutes_L93 w1 (v2 + 1) v3 _ K ?_ gFu 0 s14 hf _ _ _ hS (lv_sub hl [2, 3, 1, 4, 0] rfl)
          · intro  s20 hf H locs ls hS hl
            refine lv_iinc (v := (v3 + 1)) (lv' := [(3, .int (v3 + 1)), (0, .ref (o + 0)), (1, .int w1), (2, .int (v2 + 1))]) hx hb dX11_minutes_120 hl (k := 3) rfl rfl (by decide) rfl (fun ls hl => ?_)
            refine lv_goto (tgt := 4) hx hb dX11_minutes_123 (by decide) ?_
            exact ih (v2 + 1) (v3 + 1) s20 hf _ _ _ hS (lv_sub hl [1, 2, 3, 0] rfl)
set_option maxHeartbeats 4000000 in
set_option maxRecDepth 100000 in
theorem c_X11_minutes (p0 : Int32) (σ : gS) (q : Int32 × gS) (hf : f_X11_minutes p0 σ = some q) : Met l yX11_minutes (gW yX11_minutes cX11_minutes 5 (some .int)) rmX11_minutes (gPc G (entM G o) o 9 [.ref (o + 0), .int p0] σ) (gQi G (entM G o) o 9 q) 0 0 (gA o 9) := by
  refine g_met (by decide) ⟨rfl, rfl⟩ (fun p e s m args below meth c ls K hS hl => ?_) (Nat.le_of_ble_eq_true rfl)
  have K : gK p s m args meth c G cX11_minutes 5 RX11 (some .int) := K
  have hl : lv_has ls 5 [(0, .ref (o + 0)), (1, .int p0)] := hl
  obtain ⟨hx, hb, hml, hown, hts, -⟩ := id K
  unfold f_X11_minutes at hf
  refine lv_iconst (v := 0) hx hb dX11_minutes_0 (by decide) ?_
  refine lv_istore_n (lv' := [(2, .int 0), (0, .ref (o + 0)), (1, .int p0)]) hx hb dX11_minutes_1 rfl hl (by decide) rfl (fun ls hl => ?_)
  refine lv_iconst (v := 0) hx hb dX11_minutes_2 (by decide) ?_
  refine lv_istore_n (lv' := [(3, .int 0), (2, .int 0), (0, .ref (o + 0)), (1, .int p0)]) hx hb dX11_minutes_3 rfl hl (by decide) rfl (fun ls hl => ?_)
  refine w_X11_minutes_L4 p0 _ K ?_ gFu 0 0 σ hf _ _ _ hS (lv_sub hl [2, 3, 1, 0] rfl)
  · intro k22 s23 hf H locs ls hS hl
    refine lv_aload_n hx hb dX11_minutes_126 rfl (lv_at hl 0 rfl) ?_
    refine g_get (cx := 0) K hS lF_X11_7 ((eM_0 G o) _) (by decide) rfl dX11_minutes_127 ?_
    refine lv_iconst (v := 3) hx hb dX11_minutes_130 (by decide) ?_
    refine lv_dup2_11 hx hb dX11_minutes_131 rfl rfl ?_
    refine g_iald (cx := 1) (j := 3) K hS (eM_1 G o) (by decide) (by decide) (by decide) dX11_minutes_132 ?_
    refine lv_iload_n hx hb dX11_minutes_133 rfl (lv_at hl 1 rfl) ?_
    refine lv_iadd hx hb dX11_minutes_134 ?_
    obtain ⟨s24, hs24, hf⟩ := gLet_some hf
    refine g_iast (cx := 1) (j := 3) K hS (eM_1 G o) (by decide) (by decide) (by decide) dX11_minutes_135 (fun H locs hS => ?_)
    rw [← hs24] at hS
    refine lv_iload_n hx hb dX11_minutes_136 rfl (lv_at hl 1 rfl) ?_
    exact g_iret K hS hf dX11_minutes_137
abbrev rmX11_pass : Room := { frames := 2, cells := 0, slots := 0, locals := 46 }
def f_X11_pass (p0 : Int32) (σ : gS) : Option (Int32 × gS) := Option.bind (f_X11_in p0 1 200 σ) (fun q1 => if q1.1 = 0 then (some ((-2), q1.2)) else (if ((q1.2 1 2) + p0) ≤ 99999 then (Option.bind (f_X11_record q1.2) (fun q4 => Option.bind (f_X11_minutes p0 q4) (fun q5 => some (q5.1, q5.2)))) else (some ((-4), q1.2))))
set_option maxHeartbeats 4000000 in
set_option maxRecDepth 100000 in
theorem c_X11_pass (p0 : Int32) (σ : gS) (q : Int32 × gS) (hf : f_X11_pass p0 σ = some q) : Met l yX11_pass (gW yX11_pass cX11_pass 2 (some .int)) rmX11_pass (gPc G (entM G o) o 9 [.ref (o + 0), .int p0] σ) (gQi G (entM G o) o 9 q) 0 0 (gA o 9) := by
  refine g_met (by decide) ⟨rfl, rfl⟩ (fun p e s m args below meth c ls K hS hl => ?_) (Nat.le_of_ble_eq_true rfl)
  have K : gK p s m args meth c G cX11_pass 2 RX11 (some .int) := K
  have hl : lv_has ls 2 [(0, .ref (o + 0)), (1, .int p0)] := hl
  obtain ⟨hx, hb, hml, hown, hts, -⟩ := id K
  unfold f_X11_pass at hf
  refine lv_iload_n hx hb dX11_pass_0 rfl (lv_at hl 1 rfl) ?_
  refine lv_iconst (v := 1) hx hb dX11_pass_1 (by decide) ?_
  refine lv_sipush (v := 200) hx hb dX11_pass_2 (by decide) ?_
  obtain ⟨q1, hq1, hf⟩ := Option.bind_eq_some_iff.mp hf
  refine g_Si (As := [.int p0, .int 1, .int 200]) K hS lS_X11_36 (c_X11_in p0 1 200 σ q1 hq1) rfl rfl (Nat.le_of_ble_eq_true rfl) ⟨⟨Nat.le_of_ble_eq_true rfl, Nat.le_of_ble_eq_true rfl⟩, rfl, rfl⟩ hl.1 ⟨Nat.zero_le _, Nat.zero_le _⟩ dX11_pass_5 (fun H locs hS => ?_)
  refine lv_if_ne (tgt := 14) hx hb dX11_pass_8 (by decide) (fun c2 => ?_) (fun c2 => ?_)
  · have hf := gIf_f c2 hf
    refine lv_aload_n hx hb dX11_pass_14 rfl (lv_at hl 0 rfl) ?_
    refine g_get (cx := 0) K hS lF_X11_7 ((eM_0 G o) _) (by decide) rfl dX11_pass_15 ?_
    refine lv_iconst (v := 2) hx hb dX11_pass_18 (by decide) ?_
    refine g_iald (cx := 1) (j := 2) K hS (eM_1 G o) (by decide) (by decide) (by decide) dX11_pass_19 ?_
    refine lv_iload_n hx hb dX11_pass_20 rfl (lv_at hl 1 rfl) ?_
    refine lv_iadd hx hb dX11_pass_21 ?_
    refine lv_ldc (v := 99999) hx hb hown (hts _ (gmem 892 (by decide +kernel) rfl)) dX11_pass_22 ?_
    refine lv_icmp_le (tgt := 30) hx hb dX11_pass_24 (by decide) (fun c3 => ?_) (fun c3 => ?_)
    · have hf := gIf_t c3 hf
      refine lv_aload_n hx hb dX11_pass_30 rfl (lv_at hl 0 rfl) ?_
      obtain ⟨q4, hq4, hf⟩ := Option.bind_eq_some_iff.mp hf
      refine g_Vv (cx := 0) (As := []) K hS lV_X11_48 (c_X11_record q1.2 q4 hq4) ((eM_0 G o) _) (by decide) rfl rfl rfl (Nat.le_of_ble_eq_true rfl) ⟨⟨Nat.le_of_ble_eq_true rfl, Nat.le_of_ble_eq_true rfl⟩, rfl, rfl⟩ hl.1 ⟨Nat.zero_le _, Nat.zero_le _⟩ dX11_pass_31 (fun H locs hS => ?_)
      refine lv_aload_n hx hb dX11_pass_34 rfl (lv_at hl 0 rfl) ?_
      refine lv_iload_n hx hb dX11_pass_35 rfl (lv_at hl 1 rfl) ?_
      obtain ⟨q5, hq5, hf⟩ := Option.bind_eq_some_iff.mp hf
      refine g_Vi (cx := 0) (As := [.int p0]) K hS lV_X11_100 (c_X11_minutes p0 q4 q5 hq5) ((eM_0 G o) _) (by decide) rfl rfl rfl (Nat.le_of_ble_eq_true rfl) ⟨⟨Nat.le_of_ble_eq_true rfl, Nat.le_of_ble_eq_true rfl⟩, rfl, rfl⟩ hl.1 ⟨Nat.zero_le _, Nat.zero_le _⟩ dX11_pass_36 (fun H locs hS => ?_)
      exact g_iret K hS hf dX11_pass_39
    · have hf := gIf_f c3 hf
      refine lv_bipush (v := (-4)) hx hb dX11_pass_27 (by decide) ?_
      exact g_iret K hS hf dX11_pass_29
  · have hf := gIf_t c2 hf
    refine lv_bipush (v := (-2)) hx hb dX11_pass_11 (by decide) ?_
    exact g_iret K hS hf dX11_pass_13
abbrev rmX11_put : Room := { frames := 2, cells := 0, slots := 0, locals := 43 }
def f_X11_put (p0 : Int32) (p1 : Int32) (σ : gS) : Option (Int32 × gS) := Option.bind (f_X11_isGhost p0 σ) (fun q1 => if q1.1 = 0 then (some ((-1), q1.2)) else (Option.bind (f_X11_isRoom p1 q1.2) (fun q3 => if q3.1 = 0 then (some ((-1), q3.2)) else (Option.bind (f_X11_record q3.2) (fun q5 => Option.bind (f_X11_roomOf p0 q5) (fun q6 => gGd (gin (106 + (3 * p0)) 138) (gLet (up2 q6.2 1 (gil (106 + (3 * p0))) p1) (fun s7 => some (q6.1, s7)))))))))
set_option maxHeartbeats 4000000 in
set_option maxRecDepth 100000 in
theorem c_X11_put (p0 : Int32) (p1 : Int32) (σ : gS) (q : Int32 × gS) (hf : f_X11_put p0 p1 σ = some q) : Met l yX11_put (gW yX11_put cX11_put 4 (some .int)) rmX11_put (gPc G (entM G o) o 9 [.ref (o + 0), .int p0, .int p1] σ) (gQi G (entM G o) o 9 q) 0 0 (gA o 9) := by
  refine g_met (by decide) ⟨rfl, rfl⟩ (fun p e s m args below meth c ls K hS hl => ?_) (Nat.le_of_ble_eq_true rfl)
  have K : gK p s m args meth c G cX11_put 4 RX11 (some .int) := K
  have hl : lv_has ls 4 [(0, .ref (o + 0)), (1, .int p0), (2, .int p1)] := hl
  obtain ⟨hx, hb, hml, hown, hts, -⟩ := id K
  unfold f_X11_put at hf
  refine lv_iload_n hx hb dX11_put_0 rfl (lv_at hl 1 rfl) ?_
  obtain ⟨q1, hq1, hf⟩ := Option.bind_eq_some_iff.mp hf
  refine g_Si (As := [.int p0]) K hS lS_X11_104 (c_X11_isGhost p0 σ q1 hq1) rfl rfl (Nat.le_of_ble_eq_true rfl) ⟨⟨Nat.le_of_ble_eq_true rfl, Nat.le_of_ble_eq_true rfl⟩, rfl, rfl⟩ hl.1 ⟨Nat.zero_le _, Nat.zero_le _⟩ dX11_put_1 (fun H locs hS => ?_)
  refine lv_if_eq (tgt := 14) hx hb dX11_put_4 (by decide) (fun c2 => ?_) (fun c2 => ?_)
  · have hf := gIf_t c2 hf
    refine lv_iconst (v := (-1)) hx hb dX11_put_14 (by decide) ?_
    exact g_iret K hS hf dX11_put_15
  · have hf := gIf_f c2 hf
    refine lv_iload_n hx hb dX11_put_7 rfl (lv_at hl 2 rfl) ?_
    obtain ⟨q3, hq3, hf⟩ := Option.bind_eq_some_iff.mp hf
    refine g_Si (As := [.int p1]) K hS lS_X11_51 (c_X11_isRoom p1 q1.2 q3 hq3) rfl rfl (Nat.le_of_ble_eq_true rfl) ⟨⟨Nat.le_of_ble_eq_true rfl, Nat.le_of_ble_eq_true rfl⟩, rfl, rfl⟩ hl.1 ⟨Nat.zero_le _, Nat.zero_le _⟩ dX11_put_8 (fun H locs hS => ?_)
    refine lv_if_ne (tgt := 16) hx hb dX11_put_11 (by decide) (fun c4 => ?_) (fun c4 => ?_)
    · have hf := gIf_f c4 hf
      refine lv_aload_n hx hb dX11_put_16 rfl (lv_at hl 0 rfl) ?_
      obtain ⟨q5, hq5, hf⟩ := Option.bind_eq_some_iff.mp hf
      refine g_Vv (cx := 0) (As := []) K hS lV_X11_48 (c_X11_record q3.2 q5 hq5) ((eM_0 G o) _) (by decide) rfl rfl rfl (Nat.le_of_ble_eq_true rfl) ⟨⟨Nat.le_of_ble_eq_true rfl, Nat.le_of_ble_eq_true rfl⟩, rfl, rfl⟩ hl.1 ⟨Nat.zero_le _, Nat.zero_le _⟩ dX11_put_17 (fun H locs hS => ?_)
      refine lv_aload_n hx hb dX11_put_20 rfl (lv_at hl 0 rfl) ?_
      refine lv_iload_n hx hb dX11_put_21 rfl (lv_at hl 1 rfl) ?_
      obtain ⟨q6, hq6, hf⟩ := Option.bind_eq_some_iff.mp hf
      refine g_Vi (cx := 0) (As := [.int p0]) K hS lV_X11_107 (c_X11_roomOf p0 q5 q6 hq6) ((eM_0 G o) _) (by decide) rfl rfl rfl (Nat.le_of_ble_eq_true rfl) ⟨⟨Nat.le_of_ble_eq_true rfl, Nat.le_of_ble_eq_true rfl⟩, rfl, rfl⟩ hl.1 ⟨Nat.zero_le _, Nat.zero_le _⟩ dX11_put_22 (fun H locs hS => ?_)
      refine lv_istore_n (lv' := [(3, .int q6.1), (0, .ref (o + 0)), (1, .int p0), (2, .int p1)]) hx hb dX11_put_25 rfl hl (by decide) rfl (fun ls hl => ?_)
      refine lv_aload_n hx hb dX11_put_26 rfl (lv_at hl 1 rfl) ?_
      refine g_get (cx := 0) K hS lF_X11_7 ((eM_0 G o) _) (by decide) rfl dX11_put_27 ?_
      refine lv_bipush (v := 106) hx hb dX11_put_30 (by decide) ?_
      refine lv_iconst (v := 3) hx hb dX11_put_32 (by decide) ?_
      refine lv_iload_n hx hb dX11_put_33 rfl (lv_at hl 2 rfl) ?_
      refine lv_imul hx hb dX11_put_34 ?_
      refine lv_iadd hx hb dX11_put_35 ?_
      refine lv_iload_n hx hb dX11_put_36 rfl (lv_at hl 3 rfl) ?_
      obtain ⟨h8, hf⟩ := gGd_some hf
      obtain ⟨s7, hs7, hf⟩ := gLet_some hf
      refine g_iast (cx := 1) K hS (eM_1 G o) (by decide) h8 rfl dX11_put_37 (fun H locs hS => ?_)
      rw [← hs7] at hS
      refine lv_iload_n hx hb dX11_put_38 rfl (lv_at hl 0 rfl) ?_
      exact g_iret K hS hf dX11_put_39
    · have hf := gIf_t c4 hf
      refine lv_iconst (v := (-1)) hx hb dX11_put_14 (by decide) ?_
      exact g_iret K hS hf dX11_put_15
abbrev rmX11_glides : Room := { frames := 4, cells := 0, slots := 0, locals := 98 }
def f_X11_glides (p0 : Int32) (p1 : Int32) (σ : gS) : Option (Int32 × gS) := Option.bind (f_X11_roomOf p0 σ) (fun q1 => Option.bind (f_X11_across p1 q1.1 q1.2) (fun q2 => Option.bind (f_X11_creak p1 q2.2) (fun q3 => Option.bind (f_X11_ofBoard p1 3 q3.2) (fun q4 => Option.bind (f_X11_minutes q4.1 q4.2) (fun q5 => gGd (gin (106 + (3 * p0)) 138) (gLet (up2 q5.2 1 (gil (106 + (3 * p0))) q2.1) (fun s6 => gGd (gin ((106 + (3 * p0)) + 1) 138) (gGd (gin ((106 + (3 * p0)) + 1) 138) (gLet (up2 s6 1 (gil ((106 + (3 * p0)) + 1)) ((s6 1 (gil ((106 + (3 * p0)) + 1))) ||| (1 <<< (p1 &&& 31)))) (fun s8 => gGd (gin ((106 + (3 * p0)) + 2) 138) (gGd (gin ((106 + (3 * p0)) + 2) 138) (gLet (up2 s8 1 (gil ((106 + (3 * p0)) + 2)) ((s8 1 (gil ((106 + (3 * p0)) + 2))) + 1)) (fun s10 => some (q3.1, s10))))))))))))))
set_option maxHeartbeats 4000000 in
set_option maxRecDepth 100000 in
theorem c_X11_glides (p0 : Int32) (p1 : Int32) (σ : gS) (q : Int32 × gS) (hf : f_X11_glides p0 p1 σ = some q) : Met l yX11_glides (gW yX11_glides cX11_glides 5 (some .int)) rmX11_glides (gPc G (entM G o) o 9 [.ref (o + 0), .int p0, .int p1] σ) (gQi G (entM G o) o 9 q) 0 0 (gA o 9) := by
  refine g_met (by decide) ⟨rfl, rfl⟩ (fun p e s m args below meth c ls K hS hl => ?_) (Nat.le_of_ble_eq_true rfl)
  have K : gK p s m args meth c G cX11_glides 5 RX11 (some .int) := K
  have hl : lv_has ls 5 [(0, .ref (o + 0)), (1, .int p0), (2, .int p1)] := hl
  obtain ⟨hx, hb, hml, hown, hts, -⟩ := id K
  unfold f_X11_glides at hf
  refine lv_aload_n hx hb dX11_glides_0 rfl (lv_at hl 0 rfl) ?_
  refine lv_iload_n hx hb dX11_glides_1 rfl (lv_at hl 2 rfl) ?_
  refine lv_aload_n hx hb dX11_glides_2 rfl (lv_at hl 0 rfl) ?_
  refine lv_iload_n hx hb dX11_glides_3 rfl (lv_at hl 1 rfl) ?_
  obtain ⟨q1, hq1, hf⟩ := Option.bind_eq_some_iff.mp hf
  refine g_Vi (cx := 0) (As := [.int p0]) K hS lV_X11_107 (c_X11_roomOf p0 σ q1 hq1) ((eM_0 G o) _) (by decide) rfl rfl rfl (Nat.le_of_ble_eq_true rfl) ⟨⟨Nat.le_of_ble_eq_true rfl, Nat.le_of_ble_eq_true rfl⟩, rfl, rfl⟩ hl.1 ⟨Nat.zero_le _, Nat.zero_le _⟩ dX11_glides_4 (fun H locs hS => ?_)
  obtain ⟨q2, hq2, hf⟩ := Option.bind_eq_some_iff.mp hf
  refine g_Vi (cx := 0) (As := [.int p1, .int q1.1]) K hS lV_X11_110 (c_X11_across p1 q1.1 q1.2 q2 hq2) ((eM_0 G o) _) (by decide) rfl rfl rfl (Nat.le_of_ble_eq_true rfl) ⟨⟨Nat.le_of_ble_eq_true rfl, Nat.le_of_ble_eq_true rfl⟩, rfl, rfl⟩ hl.1 ⟨Nat.zero_le _, Nat.zero_le _⟩ dX11_glides_7 (fun H locs hS => ?_)
  refine lv_istore_n (lv' := [(3, .int q2.1), (0, .ref (o + 0)), (1, .int p0), (2, .int p1)]) hx hb dX11_glides_10 rfl hl (by decide) rfl (fun ls hl => ?_)
  refine lv_aload_n hx hb dX11_glides_11 rfl (lv_at hl 1 rfl) ?_
  refine lv_iload_n hx hb dX11_glides_12 rfl (lv_at hl 3 rfl) ?_
  obtain ⟨q3, hq3, hf⟩ := Option.bind_eq_some_iff.mp hf
  refine g_Vi (cx := 0) (As := [.int p1]) K hS lV_X11_113 (c_X11_creak p1 q2.2 q3 hq3) ((eM_0 G o) _) (by decide) rfl rfl rfl (Nat.le_of_ble_eq_true rfl) ⟨⟨Nat.le_of_ble_eq_true rfl, Nat.le_of_ble_eq_true rfl⟩, rfl, rfl⟩ hl.1 ⟨Nat.zero_le _, Nat.zero_le _⟩ dX11_glides_13 (fun H locs hS => ?_)
  refine lv_istore (lv' := [(4, .int q3.1), (3, .int q2.1), (0, .ref (o + 0)), (1, .int p0), (2, .int p1)]) hx hb dX11_glides_16 hl (by decide) rfl (fun ls hl => ?_)
  refine lv_aload_n hx hb dX11_glides_18 rfl (lv_at hl 2 rfl) ?_
  refine lv_aload_n hx hb dX11_glides_19 rfl (lv_at hl 2 rfl) ?_
  refine lv_iload_n hx hb dX11_glides_20 rfl (lv_at hl 4 rfl) ?_
  refine lv_iconst (v := 3) hx hb dX11_glides_21 (by decide) ?_
  obtain ⟨q4, hq4, hf⟩ := Option.bind_eq_some_iff.mp hf
  refine g_Vi (cx := 0) (As := [.int p1, .int 3]) K hS lV_X11_65 (c_X11_ofBoard p1 3 q3.2 q4 hq4) ((eM_0 G o) _) (by decide) rfl rfl rfl (Nat.le_of_ble_eq_true rfl) ⟨⟨Nat.le_of_ble_eq_true rfl, Nat.le_of_ble_eq_true rfl⟩, rfl, rfl⟩ hl.1 ⟨Nat.zero_le _, Nat.zero_le _⟩ dX11_glides_22 (fun H locs hS => ?_)
  obtain ⟨q5, hq5, hf⟩ := Option.bind_eq_some_iff.mp hf
  refine g_Vi (cx := 0) (As := [.int q4.1]) K hS lV_X11_100 (c_X11_minutes q4.1 q4.2 q5 hq5) ((eM_0 G o) _) (by decide) rfl rfl rfl (Nat.le_of_ble_eq_true rfl) ⟨⟨Nat.le_of_ble_eq_true rfl, Nat.le_of_ble_eq_true rfl⟩, rfl, rfl⟩ hl.1 ⟨Nat.zero_le _, Nat.zero_le _⟩ dX11_glides_25 (fun H locs hS => ?_)
  refine lv_pop hx hb dX11_glides_28 rfl ?_
  refine lv_aload_n hx hb dX11_glides_29 rfl (lv_at hl 2 rfl) ?_
  refine g_get (cx := 0) K hS lF_X11_7 ((eM_0 G o) _) (by decide) rfl dX11_glides_30 ?_
  refine lv_bipush (v := 106) hx hb dX11_glides_33 (by decide) ?_
  refine lv_iconst (v := 3) hx hb dX11_glides_35 (by decide) ?_
  refine lv_iload_n hx hb dX11_glides_36 rfl (lv_at hl 3 rfl) ?_
  refine lv_imul hx hb dX11_glides_37 ?_
  refine lv_iadd hx hb dX11_glides_38 ?_
  refine lv_iload_n hx hb dX11_glides_39 rfl (lv_at hl 1 rfl) ?_
  obtain ⟨h13, hf⟩ := gGd_some hf
  obtain ⟨s6, hs6, hf⟩ := gLet_some hf
  refine g_iast (cx := 1) K hS (eM_1 G o) (by decide) h13 rfl dX11_glides_40 (fun H locs hS => ?_)
  rw [← hs6] at hS
  refine lv_aload_n hx hb dX11_glides_41 rfl (lv_at hl 2 rfl) ?_
  refine g_get (cx := 0) K hS lF_X11_7 ((eM_0 G o) _) (by decide) rfl dX11_glides_42 ?_
  refine lv_bipush (v := 106) hx hb dX11_glides_45 (by decide) ?_
  refine lv_iconst (v := 3) hx hb dX11_glides_47 (by decide) ?_
  refine lv_iload_n hx hb dX11_glides_48 rfl (lv_at hl 3 rfl) ?_
  refine lv_imul hx hb dX11_glides_49 ?_
  refine lv_iadd hx hb dX11_glides_50 ?_
  refine lv_iconst (v := 1) hx hb dX11_glides_51 (by decide) ?_
  refine lv_iadd hx hb dX11_glides_52 ?_
  refine lv_dup2_11 hx hb dX11_glides_53 rfl rfl ?_
  obtain ⟨h7, hf⟩ := gGd_some hf
  refine g_iald (cx := 1) K hS (eM_1 G o) (by decide) h7 rfl dX11_glides_54 ?_
  refine lv_iconst (v := 1) hx hb dX11_glides_55 (by decide) ?_
  refine lv_iload_n hx hb dX11_glides_56 rfl (lv_at hl 4 rfl) ?_
  refine lv_ishl hx hb dX11_glides_57 ?_
  refine lv_ior hx hb dX11_glides_58 ?_
  obtain ⟨h12, hf⟩ := gGd_some hf
  obtain ⟨s8, hs8, hf⟩ := gLet_some hf
  refine g_iast (cx := 1) K hS (eM_1 G o) (by decide) h12 rfl dX11_glides_59 (fun H locs hS => ?_)
  rw [← hs8] at hS
  refine lv_aload_n hx hb dX11_glides_60 rfl (lv_at hl 2 rfl) ?_
  refine g_get (cx := 0) K hS lF_X11_7 ((eM_0 G o) _) (by decide) rfl dX11_glides_61 ?_
  refine lv_bipush (v := 106) hx hb dX11_glides_64 (by decide) ?_
  refine lv_iconst (v := 3) hx hb dX11_glides_66 (by decide) ?_
  refine lv_iload_n hx hb dX11_glides_67 rfl (lv_at hl 3 rfl) ?_
  refine lv_imul hx hb dX11_glides_68 ?_
  refine lv_iadd hx hb dX11_glides_69 ?_
  refine lv_iconst (v := 2) hx hb dX11_glides_70 (by decide) ?_
  refine lv_iadd hx hb dX11_glides_71 ?_
  refine lv_dup2_11 hx hb dX11_glides_72 rfl rfl ?_
  obtain ⟨h9, hf⟩ := gGd_some hf
  refine g_iald (cx := 1) K hS (eM_1 G o) (by decide) h9 rfl dX11_glides_73 ?_
  refine lv_iconst (v := 1) hx hb dX11_glides_74 (by decide) ?_
  refine lv_iadd hx hb dX11_glides_75 ?_
  obtain ⟨h11, hf⟩ := gGd_some hf
  obtain ⟨s10, hs10, hf⟩ := gLet_some hf
  refine g_iast (cx := 1) K hS (eM_1 G o) (by decide) h11 rfl dX11_glides_76 (fun H locs hS => ?_)
  rw [← hs10] at hS
  refine lv_iload hx hb dX11_glides_77 (lv_at hl 0 rfl) ?_
  exact g_iret K hS hf dX11_glides_79
abbrev rmX11_glide : Room := { frames := 5, cells := 0, slots := 0, locals := 122 }
def f_X11_glide (p0 : Int32) (p1 : Int32) (σ : gS) : Option (Int32 × gS) := Option.bind (f_X11_isGhost p0 σ) (fun q1 => if q1.1 = 0 then (some ((-1), q1.2)) else (Option.bind (f_X11_isBoard p1 q1.2) (fun q3 => if q3.1 = 0 then (some ((-1), q3.2)) else (Option.bind (f_X11_roomOf p0 q3.2) (fun q5 => Option.bind (f_X11_isAt p1 q5.1 q5.2) (fun q6 => if q6.1 = 0 then (some ((-5), q6.2)) else (Option.bind (f_X11_isFree p0 p1 q6.2) (fun q8 => if q8.1 = 0 then (some ((-5), q8.2)) else (Option.bind (f_X11_record q8.2) (fun q10 => Option.bind (f_X11_glides p0 p1 q10) (fun q11 => some (q11.1, q11.2))))))))))))
set_option maxHeartbeats 4000000 in
set_option maxRecDepth 100000 in
theorem c_X11_glide (p0 : Int32) (p1 : Int32) (σ : gS) (q : Int32 × gS) (hf : f_X11_glide p0 p1 σ = some q) : Met l yX11_glide (gW yX11_glide cX11_glide 3 (some .int)) rmX11_glide (gPc G (entM G o) o 9 [.ref (o + 0), .int p0, .int p1] σ) (gQi G (entM G o) o 9 q) 0 0 (gA o 9) := by
  refine g_met (by decide) ⟨rfl, rfl⟩ (fun p e s m args below meth c ls K hS hl => ?_) (Nat.le_of_ble_eq_true rfl)
  have K : gK p s m args meth c G cX11_glide 3 RX11 (some .int) := K
  have hl : lv_has ls 3 [(0, .ref (o + 0)), (1, .int p0), (2, .int p1)] := hl
  obtain ⟨hx, hb, hml, hown, hts, -⟩ := id K
  unfold f_X11_glide at hf
  refine lv_iload_n hx hb dX11_glide_0 rfl (lv_at hl 1 rfl) ?_
  obtain ⟨q1, hq1, hf⟩ := Option.bind_eq_some_iff.mp hf
  refine g_Si (As := [.int p0]) K hS lS_X11_104 (c_X11_isGhost p0 σ q1 hq1) rfl rfl (Nat.le_of_ble_eq_true rfl) ⟨⟨Nat.le_of_ble_eq_true rfl, Nat.le_of_ble_eq_true rfl⟩, rfl, rfl⟩ hl.1 ⟨Nat.zero_le _, Nat.zero_le _⟩ dX11_glide_1 (fun H locs hS => ?_)
  refine lv_if_eq (tgt := 15) hx hb dX11_glide_4 (by decide) (fun c2 => ?_) (fun c2 => ?_)
  · have hf := gIf_t c2 hf
    refine lv_iconst (v := (-1)) hx hb dX11_glide_15 (by decide) ?_
    exact g_iret K hS hf dX11_glide_16
  · have hf := gIf_f c2 hf
    refine lv_aload_n hx hb dX11_glide_7 rfl (lv_at hl 0 rfl) ?_
    refine lv_iload_n hx hb dX11_glide_8 rfl (lv_at hl 2 rfl) ?_
    obtain ⟨q3, hq3, hf⟩ := Option.bind_eq_some_iff.mp hf
    refine g_Vi (cx := 0) (As := [.int p1]) K hS lV_X11_62 (c_X11_isBoard p1 q1.2 q3 hq3) ((eM_0 G o) _) (by decide) rfl rfl rfl (Nat.le_of_ble_eq_true rfl) ⟨⟨Nat.le_of_ble_eq_true rfl, Nat.le_of_ble_eq_true rfl⟩, rfl, rfl⟩ hl.1 ⟨Nat.zero_le _, Nat.zero_le _⟩ dX11_glide_9 (fun H locs hS => ?_)
    refine lv_if_ne (tgt := 17) hx hb dX11_glide_12 (by decide) (fun c4 => ?_) (fun c4 => ?_)
    · have hf := gIf_f c4 hf
      refine lv_aload_n hx hb dX11_glide_17 rfl (lv_at hl 0 rfl) ?_
      refine lv_iload_n hx hb dX11_glide_18 rfl (lv_at hl 2 rfl) ?_
      refine lv_aload_n hx hb dX11_glide_19 rfl (lv_at hl 0 rfl) ?_
      refine lv_iload_n hx hb dX11_glide_20 rfl (lv_at hl 1 rfl) ?_
      obtain ⟨q5, hq5, hf⟩ := Option.bind_eq_some_iff.mp hf
      refine g_Vi (cx := 0) (As := [.int p0]) K hS lV_X11_107 (c_X11_roomOf p0 q3.2 q5 hq5) ((eM_0 G o) _) (by decide) rfl rfl rfl (Nat.le_of_ble_eq_true rfl) ⟨⟨Nat.le_of_ble_eq_true rfl, Nat.le_of_ble_eq_true rfl⟩, rfl, rfl⟩ hl.1 ⟨Nat.zero_le _, Nat.zero_le _⟩ dX11_glide_21 (fun H locs hS => ?_)
      obtain ⟨q6, hq6, hf⟩ := Option.bind_eq_some_iff.mp hf
      refine g_Vi (cx := 0) (As := [.int p1, .int q5.1]) K hS lV_X11_116 (c_X11_isAt p1 q5.1 q5.2 q6 hq6) ((eM_0 G o) _) (by decide) rfl rfl rfl (Nat.le_of_ble_eq_true rfl) ⟨⟨Nat.le_of_ble_eq_true rfl, Nat.le_of_ble_eq_true rfl⟩, rfl, rfl⟩ hl.1 ⟨Nat.zero_le _, Nat.zero_le _⟩ dX11_glide_24 (fun H locs hS => ?_)
      refine lv_if_eq (tgt := 39) hx hb dX11_glide_27 (by decide) (fun c7 => ?_) (fun c7 => ?_)
      · have hf := gIf_t c7 hf
        refine lv_bipush (v := (-5)) hx hb dX11_glide_39 (by decide) ?_
        exact g_iret K hS hf dX11_glide_41
      · have hf := gIf_f c7 hf
        refine lv_aload_n hx hb dX11_glide_30 rfl (lv_at hl 0 rfl) ?_
        refine lv_iload_n hx hb dX11_glide_31 rfl (lv_at hl 1 rfl) ?_
        refine lv_iload_n hx hb dX11_glide_32 rfl (lv_at hl 2 rfl) ?_
        obtain ⟨q8, hq8, hf⟩ := Option.bind_eq_some_iff.mp hf
        refine g_Vi (cx := 0) (As := [.int p0, .int p1]) K hS lV_X11_96 (c_X11_isFree p0 p1 q6.2 q8 hq8) ((eM_0 G o) _) (by decide) rfl rfl rfl (Nat.le_of_ble_eq_true rfl) ⟨⟨Nat.le_of_ble_eq_true rfl, Nat.le_of_ble_eq_true rfl⟩, rfl, rfl⟩ hl.1 ⟨Nat.zero_le _, Nat.zero_le _⟩ dX11_glide_33 (fun H locs hS => ?_)
        refine lv_if_ne (tgt := 42) hx hb dX11_glide_36 (by decide) (fun c9 => ?_) (fun c9 => ?_)
        · have hf := gIf_f c9 hf
          refine lv_aload_n hx hb dX11_glide_42 rfl (lv_at hl 0 rfl) ?_
          obtain ⟨q10, hq10, hf⟩ := Option.bind_eq_some_iff.mp hf
          refine g_Vv (cx := 0) (As := []) K hS lV_X11_48 (c_X11_record q8.2 q10 hq10) ((eM_0 G o) _) (by decide) rfl rfl rfl (Nat.le_of_ble_eq_true rfl) ⟨⟨Nat.le_of_ble_eq_true rfl, Nat.le_of_ble_eq_true rfl⟩, rfl, rfl⟩ hl.1 ⟨Nat.zero_le _, Nat.zero_le _⟩ dX11_glide_43 (fun H locs hS => ?_)
          refine lv_aload_n hx hb dX11_glide_46 rfl (lv_at hl 0 rfl) ?_
          refine lv_iload_n hx hb dX11_glide_47 rfl (lv_at hl 1 rfl) ?_
          refine lv_iload_n hx hb dX11_glide_48 rfl (lv_at hl 2 rfl) ?_
          obtain ⟨q11, hq11, hf⟩ := Option.bind_eq_some_iff.mp hf
          refine g_Vi (cx := 0) (As := [.int p0, .int p1]) K hS lV_X11_119 (c_X11_glides p0 p1 q10 q11 hq11) ((eM_0 G o) _) (by decide) rfl rfl rfl (Nat.le_of_ble_eq_true rfl) ⟨⟨Nat.le_of_ble_eq_true rfl, Nat.le_of_ble_eq_true rfl⟩, rfl, rfl⟩ hl.1 ⟨Nat.zero_le _, Nat.zero_le _⟩ dX11_glide_49 (fun H locs hS => ?_)
          exact g_iret K hS hf dX11_glide_52
        · have hf := gIf_t c9 hf
          refine lv_bipush (v := (-5)) hx hb dX11_glide_39 (by decide) ?_
          exact g_iret K hS hf dX11_glide_41
    · have hf := gIf_t c4 hf
      refine lv_iconst (v := (-1)) hx hb dX11_glide_15 (by decide) ?_
      exact g_iret K hS hf dX11_glide_16
abbrev rmX11_findWay : Room := { frames := 4, cells := 0, slots := 0, locals := 90 }
def f_X11_findWay_L76 (w2 : Int32) (w3 : Int32) (w4 : Int32) (K165 : Int32 → gS → Option (gS)) : Nat → Int32 → Int32 → gS → Option (gS)
  | 0, _, _, _ => none
  | n + 1, v5, v6, σ => if v6 < 0 then (K165 v5 σ) else (gLet (fun (j16 : Int32) (s17 : gS) => if j16 = 0 then (f_X11_findWay_L76 w2 w3 w4 K165 n v5 (v6 + (-1)) s17) else (f_X11_findWay_L76 w2 w3 w4 K165 n v6 (v6 + (-1)) s17)) (fun J18 => gLet (fun  (s20 : gS) => J18 0 s20) (fun J21 => if ((w3 >>> (v6 &&& 31)) &&& 1) = 1 then (Option.bind (f_X11_isAt v6 w4 σ) (fun q23 => if q23.1 = 0 then (J21 q23.2) else (Option.bind (f_X11_across v6 w4 q23.2) (fun q25 => gGd (gin q25.1 10) (Option.bind (f_X11_ofBoard v6 3 q25.2) (fun q27 => gGd (gin w4 10) (if (((q25.2 6 (gil q25.1)) + (100 * q27.1)) + 1) = (q27.2 6 (gil w4)) then (J18 1 q27.2) else (J21 q27.2)))))))) else (J21 σ))))
theorem f_X11_findWay_L76_s (w2 : Int32) (w3 : Int32) (w4 : Int32) (K165 : Int32 → gS → Option (gS)) (n : Nat) (v5 : Int32) (v6 : Int32) (σ : gS) : f_X11_findWay_L76 w2 w3 w4 K165 (n + 1) v5 v6 σ = (if v6 < 0 then (K165 v5 σ) else (gLet (fun (j16 : Int32) (s17 : gS) => if j16 = 0 then (f_X11_findWay_L76 w2 w3 w4 K165 n v5 (v6 + (-1)) s17) else (f_X11_findWay_L76 w2 w3 w4 K165 n v6 (v6 + (-1)) s17)) (fun J18 => gLet (fun (s20 : gS) => J18 0 s20) (fun J21 => if ((w3 >>> (v6 &&& 31)) &&& 1) = 1 then (Option.bind (f_X11_isAt v6 w4 σ) (fun q23 => if q23.1 = 0 then (J21 q23.2) else (Option.bind (f_X11_across v6 w4 q23.2) (fun q25 => gGd (gin q25.1 10) (Option.bind (f_X11_ofBoard v6 3 q25.2) (fun q27 => gGd (gin w4 10) (if (((q25.2 6 (gil q25.1)) + (100 * q27.1)) + 1) = (q27.2 6 (gil w4)) then (J18 1 q27.2) else (J21 q27.2)))))))) else (J21 σ))))) := rfl
def f_X11_findWay_L47 (w2 : Int32) (w3 : Int32) : Nat → Int32 → gS → Option (gS)
  | 0, _, _ => none
  | n + 1, v4, σ => if (σ 0 9) = (-6) then (some σ) else (if v4 = w2 then (some σ) else (gLet ((σ 1 4) - 1) (fun x14 => f_X11_findWay_L76 w2 w3 v4 (fun (k30 : Int32) (s31 : gS) => gGd (gin (s31 0 9) 10) (gLet (up2 s31 7 (gil (s31 0 9)) k30) (fun s32 => gLet (up2 s32 0 9 ((s32 0 9) + 1)) (fun s33 => Option.bind (f_X11_ofBoard k30 3 s33) (fun q35 => gLet (up2 q35.2 0 10 ((s33 0 10) + q35.1)) (fun s36 => Option.bind (f_X11_across k30 v4 s36) (fun q38 => f_X11_findWay_L47 w2 w3 n q38.1 q38.2))))))) gFu (-6) x14 σ)))
theorem f_X11_findWay_L47_s (w2 : Int32) (w3 : Int32) (n : Nat) (v4 : Int32) (σ : gS) : f_X11_findWay_L47 w2 w3 (n + 1) v4 σ = (if (σ 0 9) = (-6) then (some σ) else (if v4 = w2 then (some σ) else (gLet ((σ 1 4) - 1) (fun x14 => f_X11_findWay_L76 w2 w3 v4 (fun (k30 : Int32) (s31 : gS) => gGd (gin (s31 0 9) 10) (gLet (up2 s31 7 (gil (s31 0 9)) k30) (fun s32 => gLet (up2 s32 0 9 ((s32 0 9) + 1)) (fun s33 => Option.bind (f_X11_ofBoard k30 3 s33) (fun q35 => gLet (up2 q35.2 0 10 ((s33 0 10) + q35.1)) (fun s36 => Option.bind (f_X11_across k30 v4 s36) (fun q38 => f_X11_findWay_L47 w2 w3 n q38.1 q38.2))))))) gFu (-6) x14 σ)))) := rfl
def f_X11_findWay (p0 : Int32) (p1 : Int32) (σ : gS) : Option (gS) := Option.bind (f_X11_freeTo p0 σ) (fun q1 => Option.bind (f_X11_measure p1 q1.1 1 q1.2) (fun q2 => Option.bind (f_X11_roomOf p0 q2) (fun q3 => gGd (gin q3.1 10) (gLet (fun (j5 : Int32) (s6 : gS) => gLet (up2 s6 0 9 j5) (fun s8 => gLet (up2 s8 0 10 0) (fun s10 => f_X11_findWay_L47 p1 q1.1 gFu q3.1 s10))) (fun J7 => if (q3.2 6 (gil q3.1)) < 1000000 then (J7 0 q3.2) else (J7 (-6) q3.2))))))
set_option maxHeartbeats 4000000 in
set_option maxRecDepth 100000 in
theorem w_X11_findWay_L76 (w2 : Int32) (w3 : Int32) (w4 : Int32) (K165 : Int32 → gS → Option (gS)) {q : gS} (K : gK p s m args meth c G cX11_findWay 8 RX11 none) (hK165 : ∀ (k5 : Int32) (σ : gS), K165 k5 σ = some q → ∀ (H : Heap) (locs : List Loc) (ls : Array Slot), gSt G (entM G o) o 9 s σ H locs → lv_has ls 8 [(0, .ref (o + 0)), (2, .int w2), (3, .int w3), (4, .int w4), (5, .int k5)] → W p l e rmX11_findWay s m args below meth c H locs 0 0 (MQ below (gQv G (entM G o) o 9 q) args s 0 0 (gA o 9)) (F0 m 165 ls [])) : ∀ (n : Nat) (v5 : Int32) (v6 : Int32) (σ : gS), f_X11_findWay_L76 w2 w3 w4 K165 n v5 v6 σ = some q → ∀ (H : Heap) (locs : List Loc) (ls : Array Slot), gSt G (entM G o) o 9 s σ H locs → lv_has ls 8 [(0, .ref (o + 0)), (2, .int w2), (3, .int w3), (4, .int w4), (5, .int v5), (6, .int v6)] → W p l e rmX11_findWay s m args below meth c H locs 0 0 (MQ below (gQv G (entM G o) o 9 q) args s 0 0 (gA o 9)) (F0 m 76 ls []) := by
  obtain ⟨hx, hb, hml, hown, hts, -⟩ := id K
  intro n
  induction n with
  | zero =>
    intro v5 v6 σ hf
    exact absurd (show (none : Option _) = some q from hf) (by simp)
  | succ n ih =>
    intro v5 v6 σ hf H locs ls hS hl
    rw [f_X11_findWay_L76_s] at hf
    refine lv_iload hx hb dX11_findWay_76 (lv_at hl 5 rfl) ?_
    refine lv_if_lt (tgt := 165) hx hb dX11_findWay_78 (by decide) (fun c15 => ?_) (fun c15 => ?_)
    · have hf := gIf_t c15 hf
      exact hK165 v5 σ hf _ _ _ hS (lv_sub hl [0, 1, 2, 3, 4] rfl)
    · have hf := gIf_f c15 hf
      refine lv_iload_n hx hb dX11_findWay_81 rfl (lv_at hl 2 rfl) ?_
      refine lv_iload hx hb dX11_findWay_82 (lv_at hl 5 rfl) ?_
      refine lv_ishr hx hb dX11_findWay_84 ?_
      refine lv_iconst (v := 1) hx hb dX11_findWay_85 (by decide) ?_
      refine lv_iand hx hb dX11_findWay_86 ?_
      refine lv_iconst (v := 1) hx hb dX11_findWay_87 (by decide) ?_
      obtain ⟨J18, hJ18, hf⟩ := gLet_some hf
      have wJ18 : ∀ (j16 : Int32) (s17 : gS), J18 j16 s17 = some q → ∀ (H : Heap) (locs : List Loc) (ls : Array Slot), gSt G (entM G o) o 9 s s17 H locs → lv_has ls 8 [(0, .ref (o + 0)), (2, .int w2), (3, .int w3), (4, .int w4), (5, .int v5), (6, .int v6)] → W p l e rmX11_findWay s m args below meth c H locs 0 0 (MQ below (gQv G (entM G o) o 9 q) args s 0 0 (gA o 9)) (F0 m 143 ls [.int j16]) := by
        intro j16 s17 hf H locs ls hS hl
        rw [hJ18] at hf
        refine lv_istore (lv' := [(7, .int j16), (0, .ref (o + 0)), (2, .int w2), (3, .int w3), (4, .int w4), (5, .int v5), (6, .int v6)]) hx hb dX11_findWay_143 hl (by decide) rfl (fun ls hl => ?_)
        refine lv_iload hx hb dX11_findWay_145 (lv_at hl 0 rfl) ?_
        refine lv_if_eq (tgt := 155) hx hb dX11_findWay_147 (by decide) (fun c19 => ?_) (fun c19 => ?_)
        · have hf := gIf_t c19 hf
          refine lv_iload hx hb dX11_findWay_155 (lv_at hl 5 rfl) ?_
          refine lv_istore (lv' := [(5, .int v5), (7, .int j16), (0, .ref (o + 0)), (2, .int w2), (3, .int w3), (4, .int w4), (6, .int v6)]) hx hb dX11_findWay_157 hl (by decide) rfl (fun ls hl => ?_)
          refine lv_iinc (v := (v6 + (-1))) (lv' := [(6, .int (v6 + (-1))), (5, .int v5), (7, .int j16), (0, .ref (o + 0)), (2, .int w2), (3, .int w3), (4, .int w4)]) hx hb dX11_findWay_159 hl (k := 6) rfl rfl (by decide) rfl (fun ls hl => ?_)
          refine lv_goto (tgt := 76) hx hb dX11_findWay_162 (by decide) ?_
          exact ih v5 (v6 + (-1)) s17 hf _ _ _ hS (lv_sub hl [3, 4, 5, 6, 1, 0] rfl)
        · have hf := gIf_f c19 hf
          refine lv_iload hx hb dX11_findWay_150 (lv_at hl 6 rfl) ?_
          refine lv_goto (tgt := 157) hx hb dX11_findWay_152 (by decide) ?_
          refine lv_istore (lv' := [(5, .int v6), (7, .int j16), (0, .ref (o + 0)), (2, .int w2), (3, .int w3), (4, .int w4), (6, .int v6)]) hx hb dX11_findWay_157 hl (by decide) rfl (fun ls hl => ?_)
          refine lv_iinc (v := (v6 + (-1))) (lv' := [(6, .int (v6 + (-1))), (5, .int v6), (7, .int j16), (0, .ref (o + 0)), (2, .int w2), (3, .int w3), (4, .int w4)]) hx hb dX11_findWay_159 hl (k := 6) rfl rfl (by decide) rfl (fun ls hl => ?_)
          refine lv_goto (tgt := 76) hx hb dX11_findWay_162 (by decide) ?_
          exact ih v6 (v6 + (-1)) s17 hf _ _ _ hS (lv_sub hl [3, 4, 5, 6, 1, 0] rfl)
      clear hJ18
      obtain ⟨J21, hJ21, hf⟩ := gLet_some hf
      have wJ21 : ∀  (s20 : gS), J21  s20 = some q → ∀ (H : Heap) (locs : List Loc) (ls : Array Slot), gSt G (entM G o) o 9 s s20 H locs → lv_has ls 8 [(0, .ref (o + 0)), (2, .int w2), (3, .int w3), (4, .int w4), (5, .int v5), (6, .int v6)] → W p l e rmX11_findWay s m args below meth c H locs 0 0 (MQ below (gQv G (entM G o) o 9 q) args s 0 0 (gA o 9)) (F0 m 142 ls []) := by
        intro  s20 hf H locs ls hS hl
        rw [hJ21] at hf
        refine lv_iconst (v := 0) hx hb dX11_findWay_142 (by decide) ?_
        exact wJ18 0 s20 hf _ _ _ hS (lv_sub hl [0, 1, 2, 3, 4, 5] rfl)
      clear hJ21
      refine lv_icmp_ne (tgt := 142) hx hb dX11_findWay_88 (by decide) (fun c22 => ?_) (fun c22 => ?_)
      · have hf := gIf_f c22 hf
        exact wJ21  σ hf _ _ _ hS (lv_sub hl [0, 1, 2, 3, 4, 5] rfl)
      · have hf := gIf_t c22 hf
        refine lv_aload_n hx hb dX11_findWay_91 rfl (lv_at hl 0 rfl) ?_
        refine lv_iload hx hb dX11_findWay_92 (lv_at hl 5 rfl) ?_
        refine lv_iload hx hb dX11_findWay_94 (lv_at hl 3 rfl) ?_
        obtain ⟨q23, hq23, hf⟩ := Option.bind_eq_some_iff.mp hf
        refine g_Vi (cx := 0) (As := [.int v6, .int w4]) K hS lV_X11_116 (c_X11_isAt v6 w4 σ q23 hq23) ((eM_0 G o) _) (by decide) rfl rfl rfl (Nat.le_of_ble_eq_true rfl) ⟨⟨Nat.le_of_ble_eq_true rfl, Nat.le_of_ble_eq_true rfl⟩, rfl, rfl⟩ hl.1 ⟨Nat.zero_le _, Nat.zero_le _⟩ dX11_findWay_96 (fun H locs hS => ?_)
        refine lv_if_eq (tgt := 142) hx hb dX11_findWay_99 (by decide) (fun c24 => ?_) (fun c24 => ?_)
        · have hf := gIf_t c24 hf
          exact wJ21  q23.2 hf _ _ _ hS (lv_sub hl [0, 1, 2, 3, 4, 5] rfl)
        · have hf := gIf_f c24 hf
          refine lv_aload_n hx hb dX11_findWay_102 rfl (lv_at hl 0 rfl) ?_
          refine g_get (cx := 0) K hS lF_X11_27 ((eM_0 G o) _) (by decide) rfl dX11_findWay_103 ?_
          refine lv_aload_n hx hb dX11_findWay_106 rfl (lv_at hl 0 rfl) ?_
          refine lv_iload hx hb dX11_findWay_107 (lv_at hl 5 rfl) ?_
          refine lv_iload hx hb dX11_findWay_109 (lv_at hl 3 rfl) ?_
          obtain ⟨q25, hq25, hf⟩ := Option.bind_eq_some_iff.mp hf
          refine g_Vi (cx := 0) (As := [.int v6, .int w4]) K hS lV_X11_110 (c_X11_across v6 w4 q23.2 q25 hq25) ((eM_0 G o) _) (by decide) rfl rfl rfl (Nat.le_of_ble_eq_true rfl) ⟨⟨Nat.le_of_ble_eq_true rfl, Nat.le_of_ble_eq_true rfl⟩, rfl, rfl⟩ hl.1 ⟨Nat.zero_le _, Nat.zero_le _⟩ dX11_findWay_111 (fun H locs hS => ?_)
          obtain ⟨h26, hf⟩ := gGd_some hf
          refine g_iald (cx := 6) K hS (eM_6 G o) (by decide) h26 rfl dX11_findWay_114 ?_
          refine lv_bipush (v := 100) hx hb dX11_findWay_115 (by decide) ?_
          refine lv_aload_n hx hb dX11_findWay_117 rfl (lv_at hl 0 rfl) ?_
          refine lv_iload hx hb dX11_findWay_118 (lv_at hl 5 rfl) ?_
          refine lv_iconst (v := 3) hx hb dX11_findWay_120 (by decide) ?_
          obtain ⟨q27, hq27, hf⟩ := Option.bind_eq_some_iff.mp hf
          refine g_Vi (cx := 0) (As := [.int v6, .int 3]) K hS lV_X11_65 (c_X11_ofBoard v6 3 q25.2 q27 hq27) ((eM_0 G o) _) (by decide) rfl rfl rfl (Nat.le_of_ble_eq_true rfl) ⟨⟨Nat.le_of_ble_eq_true rfl, Nat.le_of_ble_eq_true rfl⟩, rfl, rfl⟩ hl.1 ⟨Nat.zero_le _, Nat.zero_le _⟩ dX11_findWay_121 (fun H locs hS => ?_)
          refine lv_imul hx hb dX11_findWay_124 ?_
          refine lv_iadd hx hb dX11_findWay_125 ?_
          refine lv_iconst (v := 1) hx hb dX11_findWay_126 (by decide) ?_
          refine lv_iadd hx hb dX11_findWay_127 ?_
          refine lv_aload_n hx hb dX11_findWay_128 rfl (lv_at hl 0 rfl) ?_
          refine g_get (cx := 0) K hS lF_X11_27 ((eM_0 G o) _) (by decide) rfl dX11_findWay_129 ?_
          refine lv_iload hx hb dX11_findWay_132 (lv_at hl 3 rfl) ?_
          obtain ⟨h28, hf⟩ := gGd_some hf
          refine g_iald (cx := 6) K hS (eM_6 G o) (by decide) h28 rfl dX11_findWay_134 ?_
          refine lv_icmp_ne (tgt := 142) hx hb dX11_findWay_135 (by decide) (fun c29 => ?_) (fun c29 => ?_)
          · have hf := gIf_f c29 hf
            exact wJ21  q27.2 hf _ _ _ hS (lv_sub hl [0, 1, 2, 3, 4, 5] rfl)
          · have hf := gIf_t c29 hf
            refine lv_iconst (v := 1) hx hb dX11_findWay_138 (by decide) ?_
            refine lv_goto (tgt := 143) hx hb dX11_findWay_139 (by decide) ?_
            exact wJ18 1 q27.2 hf _ _ _ hS (lv_sub hl [0, 1, 2, 3, 4, 5] rfl)
set_option maxHeartbeats 4000000 in
set_option maxRecDepth 100000 in
theorem w_X11_findWay_L47 (w2 : Int32) (w3 : Int32) {q : gS} (K : gK p s m args meth c G cX11_findWay 8 RX11 none) : ∀ (n : Nat) (v4 : Int32) (σ : gS), f_X11_findWay_L47 w2 w3 n v4 σ = some q → ∀ (H : Heap) (locs : List Loc) (ls : Array Slot), gSt G (entM G o) o 9 s σ H locs → lv_has ls 8 [(0, .ref (o + 0)), (2, .int w2), (3, .int w3), (4, .int v4)] → W p l e rmX11_findWay s m args below meth c H locs 0 0 (MQ below (gQv G (entM G o) o 9 q) args s 0 0 (gA o 9)) (F0 m 47 ls []) := by
  obtain ⟨hx, hb, hml, hown, hts, -⟩ := id K
  intro n
  induction n with
  | zero =>
    intro v4 σ hf
    exact absurd (show (none : Option _) = some q from hf) (by simp)
  | succ n ih =>
    intro v4 σ hf H locs ls hS hl
    rw [f_X11_findWay_L47_s] at hf
    refine lv_aload_n hx hb dX11_findWay_47 rfl (lv_at hl 0 rfl) ?_
    refine g_get (cx := 0) K hS lF_X11_125 ((eM_0 G o) _) (by decide) rfl dX11_findWay_48 ?_
    refine lv_bipush (v := (-6)) hx hb dX11_findWay_51 (by decide) ?_
    refine lv_icmp_eq (tgt := 215) hx hb dX11_findWay_53 (by decide) (fun c12 => ?_) (fun c12 => ?_)
    · have hf := gIf_t c12 hf
      exact g_vret K hS hf dX11_findWay_215
    · have hf := gIf_f c12 hf
      refine lv_iload hx hb dX11_findWay_56 (lv_at hl 3 rfl) ?_
      refine lv_iload_n hx hb dX11_findWay_58 rfl (lv_at hl 1 rfl) ?_
      refine lv_icmp_eq (tgt := 215) hx hb dX11_findWay_59 (by decide) (fun c13 => ?_) (fun c13 => ?_)
      · have hf := gIf_t c13 hf
        exact g_vret K hS hf dX11_findWay_215
      · have hf := gIf_f c13 hf
        refine lv_bipush (v := (-6)) hx hb dX11_findWay_62 (by decide) ?_
        refine lv_istore (lv' := [(5, .int (-6)), (0, .ref (o + 0)), (2, .int w2), (3, .int w3), (4, .int v4)]) hx hb dX11_findWay_64 hl (by decide) rfl (fun ls hl => ?_)
        refine lv_aload_n hx hb dX11_findWay_66 rfl (lv_at hl 1 rfl) ?_
        refine g_get (cx := 0) K hS lF_X11_7 ((eM_0 G o) _) (by decide) rfl dX11_findWay_67 ?_
        refine lv_iconst (v := 4) hx hb dX11_findWay_70 (by decide) ?_
        refine g_iald (cx := 1) (j := 4) K hS (eM_1 G o) (by decide) (by decide) (by decide) dX11_findWay_71 ?_
        refine lv_iconst (v := 1) hx hb dX11_findWay_72 (by decide) ?_
        refine lv_isub hx hb dX11_findWay_73 ?_
        obtain ⟨x14, hx14, hf⟩ := gLet_some hf
        refine g_top hx14 ?_
        refine lv_istore (lv' := [(6, .int x14), (5, .int (-6)), (0, .ref (o + 0)), (2, .int w2), (3, .int w3), (4, .int v4)]) hx hb dX11_findWay_74 hl (by decide) rfl (fun ls hl => ?_)
        refine w_X11_findWay_L76 w2 w3 v4 _ K ?_ gFu (-6) x14 σ hf _ _ _ hS (lv_sub hl [2, 3, 4, 5, 1, 0] rfl)
        · intro k30 s31 hf H locs ls hS hl
          refine lv_aload_n hx hb dX11_findWay_165 rfl (lv_at hl 0 rfl) ?_
          refine g_get (cx := 0) K hS lF_X11_30 ((eM_0 G o) _) (by decide) rfl dX11_findWay_166 ?_
          refine lv_aload_n hx hb dX11_findWay_169 rfl (lv_at hl 0 rfl) ?_
          refine g_get (cx := 0) K hS lF_X11_125 ((eM_0 G o) _) (by decide) rfl dX11_findWay_170 ?_
          refine lv_iload hx hb dX11_findWay_173 (lv_at hl 4 rfl) ?_
          obtain ⟨h39, hf⟩ := gGd_some hf
          obtain ⟨s32, hs32, hf⟩ := gLet_some hf
          refine g_iast (cx := 7) K hS (eM_7 G o) (by decide) h39 rfl dX11_findWay_175 (fun H locs hS => ?_)
          rw [← hs32] at hS
          refine lv_aload_n hx hb dX11_findWay_176 rfl (lv_at hl 0 rfl) ?_
          refine lv_dup hx hb dX11_findWay_177 rfl ?_
          refine g_get (cx := 0) K hS lF_X11_125 ((eM_0 G o) _) (by decide) rfl dX11_findWay_178 ?_
          refine lv_iconst (v := 1) hx hb dX11_findWay_181 (by decide) ?_
          refine lv_iadd hx hb dX11_findWay_182 ?_
          obtain ⟨s33, hs33, hf⟩ := gLet_some hf
          refine g_put (cx := 0) K hS lP_X11_125 (eM_0 G o) (by decide) rfl (Nat.le_of_ble_eq_true rfl) rfl rfl dX11_findWay_183 (fun H locs hS => ?_)
          rw [← hs33] at hS
          refine lv_aload_n hx hb dX11_findWay_186 rfl (lv_at hl 0 rfl) ?_
          refine lv_dup hx hb dX11_findWay_187 rfl ?_
          refine g_get (cx := 0) K hS lF_X11_128 ((eM_0 G o) _) (by decide) rfl dX11_findWay_188 ?_
          refine lv_aload_n hx hb dX11_findWay_191 rfl (lv_at hl 0 rfl) ?_
          refine lv_iload hx hb dX11_findWay_192 (lv_at hl 4 rfl) ?_
          refine lv_iconst (v := 3) hx hb dX11_findWay_194 (by decide) ?_
          obtain ⟨q35, hq35, hf⟩ := Option.bind_eq_some_iff.mp hf
          refine g_Vi (cx := 0) (As := [.int k30, .int 3]) K hS lV_X11_65 (c_X11_ofBoard k30 3 s33 q35 hq35) ((eM_0 G o) _) (by decide) rfl rfl rfl (Nat.le_of_ble_eq_true rfl) ⟨⟨Nat.le_of_ble_eq_true rfl, Nat.le_of_ble_eq_true rfl⟩, rfl, rfl⟩ hl.1 ⟨Nat.zero_le _, Nat.zero_le _⟩ dX11_findWay_195 (fun H locs hS => ?_)
          refine lv_iadd hx hb dX11_findWay_198 ?_
          obtain ⟨s36, hs36, hf⟩ := gLet_some hf
          refine g_put (cx := 0) K hS lP_X11_128 (eM_0 G o) (by decide) rfl (Nat.le_of_ble_eq_true rfl) rfl rfl dX11_findWay_199 (fun H locs hS => ?_)
          rw [← hs36] at hS
          refine lv_aload_n hx hb dX11_findWay_202 rfl (lv_at hl 0 rfl) ?_
          refine lv_iload hx hb dX11_findWay_203 (lv_at hl 4 rfl) ?_
          refine lv_iload hx hb dX11_findWay_205 (lv_at hl 3 rfl) ?_
          obtain ⟨q38, hq38, hf⟩ := Option.bind_eq_some_iff.mp hf
          refine g_Vi (cx := 0) (As := [.int k30, .int v4]) K hS lV_X11_110 (c_X11_across k30 v4 s36 q38 hq38) ((eM_0 G o) _) (by decide) rfl rfl rfl (Nat.le_of_ble_eq_true rfl) ⟨⟨Nat.le_of_ble_eq_true rfl, Nat.le_of_ble_eq_true rfl⟩, rfl, rfl⟩ hl.1 ⟨Nat.zero_le _, Nat.zero_le _⟩ dX11_findWay_207 (fun H locs hS => ?_)
          refine lv_istore (lv' := [(4, .int q38.1), (0, .ref (o + 0)), (2, .int w2), (3, .int w3), (5, .int k30)]) hx hb dX11_findWay_210 hl (by decide) rfl (fun ls hl => ?_)
          refine lv_goto (tgt := 47) hx hb dX11_findWay_212 (by decide) ?_
          exact ih q38.1 q38.2 hf _ _ _ hS (lv_sub hl [1, 2, 3, 0] rfl)
set_option maxHeartbeats 4000000 in
set_option maxRecDepth 100000 in
theorem c_X11_findWay (p0 : Int32) (p1 : Int32) (σ : gS) (q : gS) (hf : f_X11_findWay p0 p1 σ = some q) : Met l yX11_findWay (gW yX11_findWay cX11_findWay 8 none) rmX11_findWay (gPc G (entM G o) o 9 [.ref (o + 0), .int p0, .int p1] σ) (gQv G (entM G o) o 9 q) 0 0 (gA o 9) := by
  refine g_met (by decide) ⟨rfl, rfl⟩ (fun p e s m args below meth c ls K hS hl => ?_) (Nat.le_of_ble_eq_true rfl)
  have K : gK p s m args meth c G cX11_findWay 8 RX11 none := K
  have hl : lv_has ls 8 [(0, .ref (o + 0)), (1, .int p0), (2, .int p1)] := hl
  obtain ⟨hx, hb, hml, hown, hts, -⟩ := id K
  unfold f_X11_findWay at hf
  refine lv_aload_n hx hb dX11_findWay_0 rfl (lv_at hl 0 rfl) ?_
  refine lv_iload_n hx hb dX11_findWay_1 rfl (lv_at hl 1 rfl) ?_
  obtain ⟨q1, hq1, hf⟩ := Option.bind_eq_some_iff.mp hf
  refine g_Vi (cx := 0) (As := [.int p0]) K hS lV_X11_122 (c_X11_freeTo p0 σ q1 hq1) ((eM_0 G o) _) (by decide) rfl rfl rfl (Nat.le_of_ble_eq_true rfl) ⟨⟨Nat.le_of_ble_eq_true rfl, Nat.le_of_ble_eq_true rfl⟩, rfl, rfl⟩ hl.1 ⟨Nat.zero_le _, Nat.zero_le _⟩ dX11_findWay_2 (fun H locs hS => ?_)
  refine lv_istore_n (lv' := [(3, .int q1.1), (0, .ref (o + 0)), (1, .int p0), (2, .int p1)]) hx hb dX11_findWay_5 rfl hl (by decide) rfl (fun ls hl => ?_)
  refine lv_aload_n hx hb dX11_findWay_6 rfl (lv_at hl 1 rfl) ?_
  refine lv_iload_n hx hb dX11_findWay_7 rfl (lv_at hl 3 rfl) ?_
  refine lv_iload_n hx hb dX11_findWay_8 rfl (lv_at hl 0 rfl) ?_
  refine lv_iconst (v := 1) hx hb dX11_findWay_9 (by decide) ?_
  obtain ⟨q2, hq2, hf⟩ := Option.bind_eq_some_iff.mp hf
  refine g_Vv (cx := 0) (As := [.int p1, .int q1.1, .int 1]) K hS lV_X11_73 (c_X11_measure p1 q1.1 1 q1.2 q2 hq2) ((eM_0 G o) _) (by decide) rfl rfl rfl (Nat.le_of_ble_eq_true rfl) ⟨⟨Nat.le_of_ble_eq_true rfl, Nat.le_of_ble_eq_true rfl⟩, rfl, rfl⟩ hl.1 ⟨Nat.zero_le _, Nat.zero_le _⟩ dX11_findWay_10 (fun H locs hS => ?_)
  refine lv_aload_n hx hb dX11_findWay_13 rfl (lv_at hl 1 rfl) ?_
  refine lv_iload_n hx hb dX11_findWay_14 rfl (lv_at hl 2 rfl) ?_
  obtain ⟨q3, hq3, hf⟩ := Option.bind_eq_some_iff.mp hf
  refine g_Vi (cx := 0) (As := [.int p0]) K hS lV_X11_107 (c_X11_roomOf p0 q2 q3 hq3) ((eM_0 G o) _) (by decide) rfl rfl rfl (Nat.le_of_ble_eq_true rfl) ⟨⟨Nat.le_of_ble_eq_true rfl, Nat.le_of_ble_eq_true rfl⟩, rfl, rfl⟩ hl.1 ⟨Nat.zero_le _, Nat.zero_le _⟩ dX11_findWay_15 (fun H locs hS => ?_)
  refine lv_istore (lv' := [(4, .int q3.1), (3, .int q1.1), (0, .ref (o + 0)), (1, .int p0), (2, .int p1)]) hx hb dX11_findWay_18 hl (by decide) rfl (fun ls hl => ?_)
  refine lv_aload_n hx hb dX11_findWay_20 rfl (lv_at hl 2 rfl) ?_
  refine lv_aload_n hx hb dX11_findWay_21 rfl (lv_at hl 2 rfl) ?_
  refine g_get (cx := 0) K hS lF_X11_27 ((eM_0 G o) _) (by decide) rfl dX11_findWay_22 ?_
  refine lv_iload hx hb dX11_findWay_25 (lv_at hl 0 rfl) ?_
  obtain ⟨h4, hf⟩ := gGd_some hf
  refine g_iald (cx := 6) K hS (eM_6 G o) (by decide) h4 rfl dX11_findWay_27 ?_
  refine lv_ldc (v := 1000000) hx hb hown (hts _ (gmem 863 (by decide +kernel) rfl)) dX11_findWay_28 ?_
  obtain ⟨J7, hJ7, hf⟩ := gLet_some hf
  have wJ7 : ∀ (j5 : Int32) (s6 : gS), J7 j5 s6 = some q → ∀ (H : Heap) (locs : List Loc) (ls : Array Slot), gSt G (entM G o) o 9 s s6 H locs → lv_has ls 8 [(0, .ref (o + 0)), (2, .int p1), (3, .int q1.1), (4, .int q3.1)] → W p l e rmX11_findWay s m args below meth c H locs 0 0 (MQ below (gQv G (entM G o) o 9 q) args s 0 0 (gA o 9)) (F0 m 39 ls [.int j5, .ref (o + 0)]) := by
    intro j5 s6 hf H locs ls hS hl
    rw [hJ7] at hf
    obtain ⟨s8, hs8, hf⟩ := gLet_some hf
    refine g_put (cx := 0) K hS lP_X11_125 (eM_0 G o) (by decide) rfl (Nat.le_of_ble_eq_true rfl) rfl rfl dX11_findWay_39 (fun H locs hS => ?_)
    rw [← hs8] at hS
    refine lv_aload_n hx hb dX11_findWay_42 rfl (lv_at hl 0 rfl) ?_
    refine lv_iconst (v := 0) hx hb dX11_findWay_43 (by decide) ?_
    obtain ⟨s10, hs10, hf⟩ := gLet_some hf
    refine g_put (cx := 0) K hS lP_X11_128 (eM_0 G o) (by decide) rfl (Nat.le_of_ble_eq_true rfl) rfl rfl dX11_findWay_44 (fun H locs hS => ?_)
    rw [← hs10] at hS
    refine w_X11_findWay_L47 p1 q1.1 K gFu q3.1 s10 hf _ _ _ hS (lv_sub hl [0, 1, 2, 3] rfl)
  clear hJ7
  refine lv_icmp_lt (tgt := 38) hx hb dX11_findWay_30 (by decide) (fun c40 => ?_) (fun c40 => ?_)
  · have hf := gIf_t c40 hf
    refine lv_iconst (v := 0) hx hb dX11_findWay_38 (by decide) ?_
    exact wJ7 0 q3.2 hf _ _ _ hS (lv_sub hl [2, 4, 1, 0] rfl)
  · have hf := gIf_f c40 hf
    refine lv_bipush (v := (-6)) hx hb dX11_findWay_33 (by decide) ?_
    refine lv_goto (tgt := 39) hx hb dX11_findWay_35 (by decide) ?_
    exact wJ7 (-6) q3.2 hf _ _ _ hS (lv_sub hl [2, 4, 1, 0] rfl)
abbrev rmX11_soonest : Room := { frames := 5, cells := 0, slots := 0, locals := 117 }
def f_X11_soonest (p0 : Int32) (p1 : Int32) (p2 : Int32) (σ : gS) : Option (Int32 × gS) := Option.bind (f_X11_isGhost p0 σ) (fun q1 => if q1.1 = 0 then (some ((-1), q1.2)) else (Option.bind (f_X11_isRoom p1 q1.2) (fun q3 => if q3.1 = 0 then (some ((-1), q3.2)) else (if 0 ≤ p2 then (Option.bind (f_X11_findWay p0 p1 q3.2) (fun q6 => if (q6 0 9) = (-6) then (some ((-6), q6)) else (if p2 = 0 then (some ((q6 0 10), q6)) else (if p2 = 1 then (some ((q6 0 9), q6)) else (if (q6 0 9) ≤ (p2 - 2) then (some ((-6), q6)) else (gGd (gin (p2 - 2) 10) (some ((q6 7 (gil (p2 - 2))), q6)))))))) else (some ((-2), q3.2))))))
set_option maxHeartbeats 4000000 in
set_option maxRecDepth 100000 in
theorem c_X11_soonest (p0 : Int32) (p1 : Int32) (p2 : Int32) (σ : gS) (q : Int32 × gS) (hf : f_X11_soonest p0 p1 p2 σ = some q) : Met l yX11_soonest (gW yX11_soonest cX11_soonest 4 (some .int)) rmX11_soonest (gPc G (entM G o) o 9 [.ref (o + 0), .int p0, .int p1, .int p2] σ) (gQi G (entM G o) o 9 q) 0 0 (gA o 9) := by
  refine g_met (by decide) ⟨rfl, rfl⟩ (fun p e s m args below meth c ls K hS hl => ?_) (Nat.le_of_ble_eq_true rfl)
  have K : gK p s m args meth c G cX11_soonest 4 RX11 (some .int) := K
  have hl : lv_has ls 4 [(0, .ref (o + 0)), (1, .int p0), (2, .int p1), (3, .int p2)] := hl
  obtain ⟨hx, hb, hml, hown, hts, -⟩ := id K
  unfold f_X11_soonest at hf
  refine lv_iload_n hx hb dX11_soonest_0 rfl (lv_at hl 1 rfl) ?_
  obtain ⟨q1, hq1, hf⟩ := Option.bind_eq_some_iff.mp hf
  refine g_Si (As := [.int p0]) K hS lS_X11_104 (c_X11_isGhost p0 σ q1 hq1) rfl rfl (Nat.le_of_ble_eq_true rfl) ⟨⟨Nat.le_of_ble_eq_true rfl, Nat.le_of_ble_eq_true rfl⟩, rfl, rfl⟩ hl.1 ⟨Nat.zero_le _, Nat.zero_le _⟩ dX11_soonest_1 (fun H locs hS => ?_)
  refine lv_if_eq (tgt := 14) hx hb dX11_soonest_4 (by decide) (fun c2 => ?_) (fun c2 => ?_)
  · have hf := gIf_t c2 hf
    refine lv_iconst (v := (-1)) hx hb dX11_soonest_14 (by decide) ?_
    exact g_iret K hS hf dX11_soonest_15
  · have hf := gIf_f c2 hf
    refine lv_iload_n hx hb dX11_soonest_7 rfl (lv_at hl 2 rfl) ?_
    obtain ⟨q3, hq3, hf⟩ := Option.bind_eq_some_iff.mp hf
    refine g_Si (As := [.int p1]) K hS lS_X11_51 (c_X11_isRoom p1 q1.2 q3 hq3) rfl rfl (Nat.le_of_ble_eq_true rfl) ⟨⟨Nat.le_of_ble_eq_true rfl, Nat.le_of_ble_eq_true rfl⟩, rfl, rfl⟩ hl.1 ⟨Nat.zero_le _, Nat.zero_le _⟩ dX11_soonest_8 (fun H locs hS => ?_)
    refine lv_if_ne (tgt := 16) hx hb dX11_soonest_11 (by decide) (fun c4 => ?_) (fun c4 => ?_)
    · have hf := gIf_f c4 hf
      refine lv_iload_n hx hb dX11_soonest_16 rfl (lv_at hl 3 rfl) ?_
      refine lv_if_ge (tgt := 23) hx hb dX11_soonest_17 (by decide) (fun c5 => ?_) (fun c5 => ?_)
      · have hf := gIf_t c5 hf
        refine lv_aload_n hx hb dX11_soonest_23 rfl (lv_at hl 0 rfl) ?_
        refine lv_iload_n hx hb dX11_soonest_24 rfl (lv_at hl 1 rfl) ?_
        refine lv_iload_n hx hb dX11_soonest_25 rfl (lv_at hl 2 rfl) ?_
        obtain ⟨q6, hq6, hf⟩ := Option.bind_eq_some_iff.mp hf
        refine g_Vv (cx := 0) (As := [.int p0, .int p1]) K hS lV_X11_131 (c_X11_findWay p0 p1 q3.2 q6 hq6) ((eM_0 G o) _) (by decide) rfl rfl rfl (Nat.le_of_ble_eq_true rfl) ⟨⟨Nat.le_of_ble_eq_true rfl, Nat.le_of_ble_eq_true rfl⟩, rfl, rfl⟩ hl.1 ⟨Nat.zero_le _, Nat.zero_le _⟩ dX11_soonest_26 (fun H locs hS => ?_)
        refine lv_aload_n hx hb dX11_soonest_29 rfl (lv_at hl 0 rfl) ?_
        refine g_get (cx := 0) K hS lF_X11_125 ((eM_0 G o) _) (by decide) rfl dX11_soonest_30 ?_
        refine lv_bipush (v := (-6)) hx hb dX11_soonest_33 (by decide) ?_
        refine lv_icmp_ne (tgt := 41) hx hb dX11_soonest_35 (by decide) (fun c7 => ?_) (fun c7 => ?_)
        · have hf := gIf_f c7 hf
          refine lv_iload_n hx hb dX11_soonest_41 rfl (lv_at hl 3 rfl) ?_
          refine lv_if_ne (tgt := 52) hx hb dX11_soonest_42 (by decide) (fun c8 => ?_) (fun c8 => ?_)
          · have hf := gIf_f c8 hf
            refine lv_iload_n hx hb dX11_soonest_52 rfl (lv_at hl 3 rfl) ?_
            refine lv_iconst (v := 1) hx hb dX11_soonest_53 (by decide) ?_
            refine lv_icmp_ne (tgt := 64) hx hb dX11_soonest_54 (by decide) (fun c9 => ?_) (fun c9 => ?_)
            · have hf := gIf_f c9 hf
              refine lv_iload_n hx hb dX11_soonest_64 rfl (lv_at hl 3 rfl) ?_
              refine lv_iconst (v := 2) hx hb dX11_soonest_65 (by decide) ?_
              refine lv_isub hx hb dX11_soonest_66 ?_
              refine lv_aload_n hx hb dX11_soonest_67 rfl (lv_at hl 0 rfl) ?_
              refine g_get (cx := 0) K hS lF_X11_125 ((eM_0 G o) _) (by decide) rfl dX11_soonest_68 ?_
              refine lv_icmp_ge (tgt := 85) hx hb dX11_soonest_71 (by decide) (fun c10 => ?_) (fun c10 => ?_)
              · have hf := gIf_t c10 hf
                refine lv_bipush (v := (-6)) hx hb dX11_soonest_85 (by decide) ?_
                exact g_iret K hS hf dX11_soonest_87
              · have hf := gIf_f c10 hf
                refine lv_aload_n hx hb dX11_soonest_74 rfl (lv_at hl 0 rfl) ?_
                refine g_get (cx := 0) K hS lF_X11_30 ((eM_0 G o) _) (by decide) rfl dX11_soonest_75 ?_
                refine lv_iload_n hx hb dX11_soonest_78 rfl (lv_at hl 3 rfl) ?_
                refine lv_iconst (v := 2) hx hb dX11_soonest_79 (by decide) ?_
                refine lv_isub hx hb dX11_soonest_80 ?_
                obtain ⟨h11, hf⟩ := gGd_some hf
                refine g_iald (cx := 7) K hS (eM_7 G o) (by decide) h11 rfl dX11_soonest_81 ?_
                refine lv_goto (tgt := 87) hx hb dX11_soonest_82 (by decide) ?_
                exact g_iret K hS hf dX11_soonest_87
            · have hf := gIf_t c9 hf
              refine lv_aload_n hx hb dX11_soonest_57 rfl (lv_at hl 0 rfl) ?_
              refine g_get (cx := 0) K hS lF_X11_125 ((eM_0 G o) _) (by decide) rfl dX11_soonest_58 ?_
              refine lv_goto (tgt := 87) hx hb dX11_soonest_61 (by decide) ?_
              exact g_iret K hS hf dX11_soonest_87
          · have hf := gIf_t c8 hf
            refine lv_aload_n hx hb dX11_soonest_45 rfl (lv_at hl 0 rfl) ?_
            refine g_get (cx := 0) K hS lF_X11_128 ((eM_0 G o) _) (by decide) rfl dX11_soonest_46 ?_
            refine lv_goto (tgt := 87) hx hb dX11_soonest_49 (by decide) ?_
            exact g_iret K hS hf dX11_soonest_87
        · have hf := gIf_t c7 hf
          refine lv_bipush (v := (-6)) hx hb dX11_soonest_38 (by decide) ?_
          exact g_iret K hS hf dX11_soonest_40
      · have hf := gIf_f c5 hf
        refine lv_bipush (v := (-2)) hx hb dX11_soonest_20 (by decide) ?_
        exact g_iret K hS hf dX11_soonest_22
    · have hf := gIf_t c4 hf
      refine lv_iconst (v := (-1)) hx hb dX11_soonest_14 (by decide) ?_
      exact g_iret K hS hf dX11_soonest_15
abbrev rmX11_go : Room := { frames := 5, cells := 0, slots := 0, locals := 122 }
def f_X11_go_L43 (w1 : Int32) (K92 : gS → Option (Int32 × gS)) : Nat → Int32 → Int32 → gS → Option (Int32 × gS)
  | 0, _, _, _ => none
  | n + 1, v3, v4, σ => if (σ 0 9) ≤ v4 then (K92 σ) else (if v3 = 0 then (K92 σ) else (gGd (gin v4 10) (Option.bind (f_X11_isFree w1 (σ 7 (gil v4)) σ) (fun q11 => if q11.1 = 0 then (f_X11_go_L43 w1 K92 n q11.1 (v4 + 1) q11.2) else (gGd (gin v4 10) (Option.bind (f_X11_glides w1 (q11.2 7 (gil v4)) q11.2) (fun q14 => f_X11_go_L43 w1 K92 n q11.1 (v4 + 1) q14.2)))))))
theorem f_X11_go_L43_s (w1 : Int32) (K92 : gS → Option (Int32 × gS)) (n : Nat) (v3 : Int32) (v4 : Int32) (σ : gS) : f_X11_go_L43 w1 K92 (n + 1) v3 v4 σ = (if (σ 0 9) ≤ v4 then (K92 σ) else (if v3 = 0 then (K92 σ) else (gGd (gin v4 10) (Option.bind (f_X11_isFree w1 (σ 7 (gil v4)) σ) (fun q11 => if q11.1 = 0 then (f_X11_go_L43 w1 K92 n q11.1 (v4 + 1) q11.2) else (gGd (gin v4 10) (Option.bind (f_X11_glides w1 (q11.2 7 (gil v4)) q11.2) (fun q14 => f_X11_go_L43 w1 K92 n q11.1 (v4 + 1) q14.2)))))))) := rfl
def f_X11_go (p0 : Int32) (p1 : Int32) (σ : gS) : Option (Int32 × gS) := Option.bind (f_X11_isGhost p0 σ) (fun q1 => if q1.1 = 0 then (some ((-1), q1.2)) else (Option.bind (f_X11_isRoom p1 q1.2) (fun q3 => if q3.1 = 0 then (some ((-1), q3.2)) else (Option.bind (f_X11_findWay p0 p1 q3.2) (fun q5 => if (q5 0 9) = (-6) then (some ((-5), q5)) else (Option.bind (f_X11_record q5) (fun q7 => f_X11_go_L43 p0 (fun (s15 : gS) => Option.bind (f_X11_roomOf p0 s15) (fun q16 => some (q16.1, q16.2))) gFu 1 0 q7)))))))
set_option maxHeartbeats 4000000 in
set_option maxRecDepth 100000 in
theorem w_X11_go_L43 (w1 : Int32) (K92 : gS → Option (Int32 × gS)) {q : Int32 × gS} (K : gK p s m args meth c G cX11_go 5 RX11 (some .int)) (hK92 : ∀ (σ : gS), K92 σ = some q → ∀ (H : Heap) (locs : List Loc) (ls : Array Slot), gSt G (entM G o) o 9 s σ H locs → lv_has ls 5 [(0, .ref (o + 0)), (1, .int w1)] → W p l e rmX11_go s m args below meth c H locs 0 0 (MQ below (gQi G (entM G o) o 9 q) args s 0 0 (gA o 9)) (F0 m 92 ls [])) : ∀ (n : Nat) (v3 : Int32) (v4 : Int32) (σ : gS), f_X11_go_L43 w1 K92 n v3 v4 σ = some q → ∀ (H : Heap) (locs : List Loc) (ls : Array Slot), gSt G (entM G o) o 9 s σ H locs → lv_has ls 5 [(0, .ref (o + 0)), (1, .int w1), (3, .int v3), (4, .int v4)] → W p l e rmX11_go s m args below meth c H locs 0 0 (MQ below (gQi G (entM G o) o 9 q) args s 0 0 (gA o 9)) (F0 m 43 ls []) := by
  obtain ⟨hx, hb, hml, hown, hts, -⟩ := id K
  intro n
  induction n with
  | zero =>
    intro v3 v4 σ hf
    exact absurd (show (none : Option _) = some q from hf) (by simp)
  | succ n ih =>
    intro v3 v4 σ hf H locs ls hS hl
    rw [f_X11_go_L43_s] at hf
    refine lv_iload hx hb dX11_go_43 (lv_at hl 3 rfl) ?_
    refine lv_aload_n hx hb dX11_go_45 rfl (lv_at hl 0 rfl) ?_
    refine g_get (cx := 0) K hS lF_X11_125 ((eM_0 G o) _) (by decide) rfl dX11_go_46 ?_
    refine lv_icmp_ge (tgt := 92) hx hb dX11_go_49 (by decide) (fun c8 => ?_) (fun c8 => ?_)
    · have hf := gIf_t c8 hf
      exact hK92 σ hf _ _ _ hS (lv_sub hl [0, 1] rfl)
    · have hf := gIf_f c8 hf
      refine lv_iload_n hx hb dX11_go_52 rfl (lv_at hl 2 rfl) ?_
      refine lv_if_eq (tgt := 92) hx hb dX11_go_53 (by decide) (fun c9 => ?_) (fun c9 => ?_)
      · have hf := gIf_t c9 hf
        exact hK92 σ hf _ _ _ hS (lv_sub hl [0, 1] rfl)
      · have hf := gIf_f c9 hf
        refine lv_aload_n hx hb dX11_go_56 rfl (lv_at hl 0 rfl) ?_
        refine lv_iload_n hx hb dX11_go_57 rfl (lv_at hl 1 rfl) ?_
        refine lv_aload_n hx hb dX11_go_58 rfl (lv_at hl 0 rfl) ?_
        refine g_get (cx := 0) K hS lF_X11_30 ((eM_0 G o) _) (by decide) rfl dX11_go_59 ?_
        refine lv_iload hx hb dX11_go_62 (lv_at hl 3 rfl) ?_
        obtain ⟨h10, hf⟩ := gGd_some hf
        refine g_iald (cx := 7) K hS (eM_7 G o) (by decide) h10 rfl dX11_go_64 ?_
        obtain ⟨q11, hq11, hf⟩ := Option.bind_eq_some_iff.mp hf
        refine g_Vi (cx := 0) (As := [.int w1, .int (σ 7 (gil v4))]) K hS lV_X11_96 (c_X11_isFree w1 (σ 7 (gil v4)) σ q11 hq11) ((eM_0 G o) _) (by decide) rfl rfl rfl (Nat.le_of_ble_eq_true rfl) ⟨⟨Nat.le_of_ble_eq_true rfl, Nat.le_of_ble_eq_true rfl⟩, rfl, rfl⟩ hl.1 ⟨Nat.zero_le _, Nat.zero_le _⟩ dX11_go_65 (fun H locs hS => ?_)
        refine lv_istore_n (lv' := [(3, .int q11.1), (0, .ref (o + 0)), (1, .int w1), (4, .int v4)]) hx hb dX11_go_68 rfl hl (by decide) rfl (fun ls hl => ?_)
        refine lv_iload_n hx hb dX11_go_69 rfl (lv_at hl 0 rfl) ?_
        refine lv_if_eq (tgt := 86) hx hb dX11_go_70 (by decide) (fun c12 => ?_) (fun c12 => ?_)
        · have hf := gIf_t c12 hf
          refine lv_iinc (v := (v4 + 1)) (lv' := [(4, .int (v4 + 1)), (3, .int q11.1), (0, .ref (o + 0)), (1, .int w1)]) hx hb dX11_go_86 hl (k := 3) rfl rfl (by decide) rfl (fun ls hl => ?_)
          refine lv_goto (tgt := 43) hx hb dX11_go_89 (by decide) ?_
          exact ih q11.1 (v4 + 1) q11.2 hf _ _ _ hS (lv_sub hl [2, 3, 1, 0] rfl)
        · have hf := gIf_f c12 hf
          refine lv_aload_n hx hb dX11_go_73 rfl (lv_at hl 1 rfl) ?_
          refine lv_iload_n hx hb dX11_go_74 rfl (lv_at hl 2 rfl) ?_
          refine lv_aload_n hx hb dX11_go_75 rfl (lv_at hl 1 rfl) ?_
          refine g_get (cx := 0) K hS lF_X11_30 ((eM_0 G o) _) (by decide) rfl dX11_go_76 ?_
          refine lv_iload hx hb dX11_go_79 (lv_at hl 3 rfl) ?_
          obtain ⟨h13, hf⟩ := gGd_some hf
          refine g_iald (cx := 7) K hS (eM_7 G o) (by decide) h13 rfl dX11_go_81 ?_
          obtain ⟨q14, hq14, hf⟩ := Option.bind_eq_some_iff.mp hf
          refine g_Vi (cx := 0) (As := [.int w1, .int (q11.2 7 (gil v4))]) K hS lV_X11_119 (c_X11_glides w1 (q11.2 7 (gil v4)) q11.2 q14 hq14) ((eM_0 G o) _) (by decide) rfl rfl rfl (Nat.le_of_ble_eq_true rfl) ⟨⟨Nat.le_of_ble_eq_true rfl, Nat.le_of_ble_eq_true rfl⟩, rfl, rfl⟩ hl.1 ⟨Nat.zero_le _, Nat.zero_le _⟩ dX11_go_82 (fun H locs hS => ?_)
          refine lv_pop hx hb dX11_go_85 rfl ?_
          refine lv_iinc (v := (v4 + 1)) (lv' := [(4, .int (v4 + 1)), (3, .int q11.1), (0, .ref (o + 0)), (1, .int w1)]) hx hb dX11_go_86 hl (k := 3) rfl rfl (by decide) rfl (fun ls hl => ?_)
          refine lv_goto (tgt := 43) hx hb dX11_go_89 (by decide) ?_
          exact ih q11.1 (v4 + 1) q14.2 hf _ _ _ hS (lv_sub hl [2, 3, 1, 0] rfl)
set_option maxHeartbeats 4000000 in
set_option maxRecDepth 100000 in
theorem c_X11_go (p0 : Int32) (p1 : Int32) (σ : gS) (q : Int32 × gS) (hf : f_X11_go p0 p1 σ = some q) : Met l yX11_go (gW yX11_go cX11_go 5 (some .int)) rmX11_go (gPc G (entM G o) o 9 [.ref (o + 0), .int p0, .int p1] σ) (gQi G (entM G o) o 9 q) 0 0 (gA o 9) := by
  refine g_met (by decide) ⟨rfl, rfl⟩ (fun p e s m args below meth c ls K hS hl => ?_) (Nat.le_of_ble_eq_true rfl)
  have K : gK p s m args meth c G cX11_go 5 RX11 (some .int) := K
  have hl : lv_has ls 5 [(0, .ref (o + 0)), (1, .int p0), (2, .int p1)] := hl
  obtain ⟨hx, hb, hml, hown, hts, -⟩ := id K
  unfold f_X11_go at hf
  refine lv_iload_n hx hb dX11_go_0 rfl (lv_at hl 1 rfl) ?_
  obtain ⟨q1, hq1, hf⟩ := Option.bind_eq_some_iff.mp hf
  refine g_Si (As := [.int p0]) K hS lS_X11_104 (c_X11_isGhost p0 σ q1 hq1) rfl rfl (Nat.le_of_ble_eq_true rfl) ⟨⟨Nat.le_of_ble_eq_true rfl, Nat.le_of_ble_eq_true rfl⟩, rfl, rfl⟩ hl.1 ⟨Nat.zero_le _, Nat.zero_le _⟩ dX11_go_1 (fun H locs hS => ?_)
  refine lv_if_eq (tgt := 14) hx hb dX11_go_4 (by decide) (fun c2 => ?_) (fun c2 => ?_)
  · have hf := gIf_t c2 hf
    refine lv_iconst (v := (-1)) hx hb dX11_go_14 (by decide) ?_
    exact g_iret K hS hf dX11_go_15
  · have hf := gIf_f c2 hf
    refine lv_iload_n hx hb dX11_go_7 rfl (lv_at hl 2 rfl) ?_
    obtain ⟨q3, hq3, hf⟩ := Option.bind_eq_some_iff.mp hf
    refine g_Si (As := [.int p1]) K hS lS_X11_51 (c_X11_isRoom p1 q1.2 q3 hq3) rfl rfl (Nat.le_of_ble_eq_true rfl) ⟨⟨Nat.le_of_ble_eq_true rfl, Nat.le_of_ble_eq_true rfl⟩, rfl, rfl⟩ hl.1 ⟨Nat.zero_le _, Nat.zero_le _⟩ dX11_go_8 (fun H locs hS => ?_)
    refine lv_if_ne (tgt := 16) hx hb dX11_go_11 (by decide) (fun c4 => ?_) (fun c4 => ?_)
    · have hf := gIf_f c4 hf
      refine lv_aload_n hx hb dX11_go_16 rfl (lv_at hl 0 rfl) ?_
      refine lv_iload_n hx hb dX11_go_17 rfl (lv_at hl 1 rfl) ?_
      refine lv_iload_n hx hb dX11_go_18 rfl (lv_at hl 2 rfl) ?_
      obtain ⟨q5, hq5, hf⟩ := Option.bind_eq_some_iff.mp hf
      refine g_Vv (cx := 0) (As := [.int p0, .int p1]) K hS lV_X11_131 (c_X11_findWay p0 p1 q3.2 q5 hq5) ((eM_0 G o) _) (by decide) rfl rfl rfl (Nat.le_of_ble_eq_true rfl) ⟨⟨Nat.le_of_ble_eq_true rfl, Nat.le_of_ble_eq_true rfl⟩, rfl, rfl⟩ hl.1 ⟨Nat.zero_le _, Nat.zero_le _⟩ dX11_go_19 (fun H locs hS => ?_)
      refine lv_aload_n hx hb dX11_go_22 rfl (lv_at hl 0 rfl) ?_
      refine g_get (cx := 0) K hS lF_X11_125 ((eM_0 G o) _) (by decide) rfl dX11_go_23 ?_
      refine lv_bipush (v := (-6)) hx hb dX11_go_26 (by decide) ?_
      refine lv_icmp_ne (tgt := 34) hx hb dX11_go_28 (by decide) (fun c6 => ?_) (fun c6 => ?_)
      · have hf := gIf_f c6 hf
        refine lv_aload_n hx hb dX11_go_34 rfl (lv_at hl 0 rfl) ?_
        obtain ⟨q7, hq7, hf⟩ := Option.bind_eq_some_iff.mp hf
        refine g_Vv (cx := 0) (As := []) K hS lV_X11_48 (c_X11_record q5 q7 hq7) ((eM_0 G o) _) (by decide) rfl rfl rfl (Nat.le_of_ble_eq_true rfl) ⟨⟨Nat.le_of_ble_eq_true rfl, Nat.le_of_ble_eq_true rfl⟩, rfl, rfl⟩ hl.1 ⟨Nat.zero_le _, Nat.zero_le _⟩ dX11_go_35 (fun H locs hS => ?_)
        refine lv_iconst (v := 1) hx hb dX11_go_38 (by decide) ?_
        refine lv_istore_n (lv' := [(3, .int 1), (0, .ref (o + 0)), (1, .int p0), (2, .int p1)]) hx hb dX11_go_39 rfl hl (by decide) rfl (fun ls hl => ?_)
        refine lv_iconst (v := 0) hx hb dX11_go_40 (by decide) ?_
        refine lv_istore (lv' := [(4, .int 0), (3, .int 1), (0, .ref (o + 0)), (1, .int p0), (2, .int p1)]) hx hb dX11_go_41 hl (by decide) rfl (fun ls hl => ?_)
        refine w_X11_go_L43 p0 _ K ?_ gFu 1 0 q7 hf _ _ _ hS (lv_sub hl [2, 3, 1, 0] rfl)
        · intro  s15 hf H locs ls hS hl
          refine lv_aload_n hx hb dX11_go_92 rfl (lv_at hl 0 rfl) ?_
          refine lv_iload_n hx hb dX11_go_93 rfl (lv_at hl 1 rfl) ?_
          obtain ⟨q16, hq16, hf⟩ := Option.bind_eq_some_iff.mp hf
          refine g_Vi (cx := 0) (As := [.int p0]) K hS lV_X11_107 (c_X11_roomOf p0 s15 q16 hq16) ((eM_0 G o) _) (by decide) rfl rfl rfl (Nat.le_of_ble_eq_true rfl) ⟨⟨Nat.le_of_ble_eq_true rfl, Nat.le_of_ble_eq_true rfl⟩, rfl, rfl⟩ hl.1 ⟨Nat.zero_le _, Nat.zero_le _⟩ dX11_go_94 (fun H locs hS => ?_)
          exact g_iret K hS hf dX11_go_97
      · have hf := gIf_t c6 hf
        refine lv_bipush (v := (-5)) hx hb dX11_go_31 (by decide) ?_
        exact g_iret K hS hf dX11_go_33
    · have hf := gIf_t c4 hf
      refine lv_iconst (v := (-1)) hx hb dX11_go_14 (by decide) ?_
      exact g_iret K hS hf dX11_go_15
abbrev rmX11_reached : Room := { frames := 2, cells := 0, slots := 0, locals := 50 }
def f_X11_reached_L12 : Nat → Int32 → Int32 → gS → Option (Int32 × gS)
  | 0, _, _, _ => none
  | n + 1, v3, v4, σ => if 10 ≤ v4 then (some (v3, σ)) else (gGd (gin v4 10) (if 1000000 ≤ (σ 6 (gil v4)) then (gLet (v3 ||| 0) (fun x5 => f_X11_reached_L12 n x5 (v4 + 1) σ)) else (gLet (v3 ||| (1 <<< (v4 &&& 31))) (fun x6 => f_X11_reached_L12 n x6 (v4 + 1) σ))))
theorem f_X11_reached_L12_s (n : Nat) (v3 : Int32) (v4 : Int32) (σ : gS) : f_X11_reached_L12 (n + 1) v3 v4 σ = (if 10 ≤ v4 then (some (v3, σ)) else (gGd (gin v4 10) (if 1000000 ≤ (σ 6 (gil v4)) then (gLet (v3 ||| 0) (fun x5 => f_X11_reached_L12 n x5 (v4 + 1) σ)) else (gLet (v3 ||| (1 <<< (v4 &&& 31))) (fun x6 => f_X11_reached_L12 n x6 (v4 + 1) σ))))) := rfl
def f_X11_reached (p0 : Int32) (p1 : Int32) (σ : gS) : Option (Int32 × gS) := Option.bind (f_X11_measure p0 p1 0 σ) (fun q1 => f_X11_reached_L12 gFu 0 0 q1)
set_option maxHeartbeats 4000000 in
set_option maxRecDepth 100000 in
theorem w_X11_reached_L12 {q : Int32 × gS} (K : gK p s m args meth c G cX11_reached 5 RX11 (some .int)) : ∀ (n : Nat) (v3 : Int32) (v4 : Int32) (σ : gS), f_X11_reached_L12 n v3 v4 σ = some q → ∀ (H : Heap) (locs : List Loc) (ls : Array Slot), gSt G (entM G o) o 9 s σ H locs → lv_has ls 5 [(0, .ref (o + 0)), (3, .int v3), (4, .int v4)] → W p l e rmX11_reached s m args below meth c H locs 0 0 (MQ below (gQi G (entM G o) o 9 q) args s 0 0 (gA o 9)) (F0 m 12 ls []) := by
  obtain ⟨hx, hb, hml, hown, hts, -⟩ := id K
  intro n
  induction n with
  | zero =>
    intro v3 v4 σ hf
    exact absurd (show (none : Option _) = some q from hf) (by simp)
  | succ n ih =>
    intro v3 v4 σ hf H locs ls hS hl
    rw [f_X11_reached_L12_s] at hf
    refine lv_iload hx hb dX11_reached_12 (lv_at hl 2 rfl) ?_
    refine lv_bipush (v := 10) hx hb dX11_reached_14 (by decide) ?_
    refine lv_icmp_ge (tgt := 48) hx hb dX11_reached_16 (by decide) (fun c2 => ?_) (fun c2 => ?_)
    · have hf := gIf_t c2 hf
      refine lv_iload_n hx hb dX11_reached_48 rfl (lv_at hl 1 rfl) ?_
      exact g_iret K hS hf dX11_reached_49
    · have hf := gIf_f c2 hf
      refine lv_iload_n hx hb dX11_reached_19 rfl (lv_at hl 1 rfl) ?_
      refine lv_aload_n hx hb dX11_reached_20 rfl (lv_at hl 0 rfl) ?_
      refine g_get (cx := 0) K hS lF_X11_27 ((eM_0 G o) _) (by decide) rfl dX11_reached_21 ?_
      refine lv_iload hx hb dX11_reached_24 (lv_at hl 2 rfl) ?_
      obtain ⟨h3, hf⟩ := gGd_some hf
      refine g_iald (cx := 6) K hS (eM_6 G o) (by decide) h3 rfl dX11_reached_26 ?_
      refine lv_ldc (v := 1000000) hx hb hown (hts _ (gmem 863 (by decide +kernel) rfl)) dX11_reached_27 ?_
      refine lv_icmp_ge (tgt := 39) hx hb dX11_reached_29 (by decide) (fun c4 => ?_) (fun c4 => ?_)
      · have hf := gIf_t c4 hf
        refine lv_iconst (v := 0) hx hb dX11_reached_39 (by decide) ?_
        refine lv_ior hx hb dX11_reached_40 ?_
        obtain ⟨x5, hx5, hf⟩ := gLet_some hf
        refine g_top hx5 ?_
        refine lv_istore_n (lv' := [(3, .int x5), (0, .ref (o + 0)), (4, .int v4)]) hx hb dX11_reached_41 rfl hl (by decide) rfl (fun ls hl => ?_)
        refine lv_iinc (v := (v4 + 1)) (lv' := [(4, .int (v4 + 1)), (3, .int x5), (0, .ref (o + 0))]) hx hb dX11_reached_42 hl (k := 2) rfl rfl (by decide) rfl (fun ls hl => ?_)
        refine lv_goto (tgt := 12) hx hb dX11_reached_45 (by decide) ?_
        exact ih x5 (v4 + 1) σ hf _ _ _ hS (lv_sub hl [2, 1, 0] rfl)
      · have hf := gIf_f c4 hf
        refine lv_iconst (v := 1) hx hb dX11_reached_32 (by decide) ?_
        refine lv_iload hx hb dX11_reached_33 (lv_at hl 2 rfl) ?_
        refine lv_ishl hx hb dX11_reached_35 ?_
        refine lv_goto (tgt := 40) hx hb dX11_reached_36 (by decide) ?_
        refine lv_ior hx hb dX11_reached_40 ?_
        obtain ⟨x6, hx6, hf⟩ := gLet_some hf
        refine g_top hx6 ?_
        refine lv_istore_n (lv' := [(3, .int x6), (0, .ref (o + 0)), (4, .int v4)]) hx hb dX11_reached_41 rfl hl (by decide) rfl (fun ls hl => ?_)
        refine lv_iinc (v := (v4 + 1)) (lv' := [(4, .int (v4 + 1)), (3, .int x6), (0, .ref (o + 0))]) hx hb dX11_reached_42 hl (k := 2) rfl rfl (by decide) rfl (fun ls hl => ?_)
        refine lv_goto (tgt := 12) hx hb dX11_reached_45 (by decide) ?_
        exact ih x6 (v4 + 1) σ hf _ _ _ hS (lv_sub hl [2, 1, 0] rfl)
set_option maxHeartbeats 4000000 in
set_option maxRecDepth 100000 in
theorem c_X11_reached (p0 : Int32) (p1 : Int32) (σ : gS) (q : Int32 × gS) (hf : f_X11_reached p0 p1 σ = some q) : Met l yX11_reached (gW yX11_reached cX11_reached 5 (some .int)) rmX11_reached (gPc G (entM G o) o 9 [.ref (o + 0), .int p0, .int p1] σ) (gQi G (entM G o) o 9 q) 0 0 (gA o 9) := by
  refine g_met (by decide) ⟨rfl, rfl⟩ (fun p e s m args below meth c ls K hS hl => ?_) (Nat.le_of_ble_eq_true rfl)
  have K : gK p s m args meth c G cX11_reached 5 RX11 (some .int) := K
  have hl : lv_has ls 5 [(0, .ref (o + 0)), (1, .int p0), (2, .int p1)] := hl
  obtain ⟨hx, hb, hml, hown, hts, -⟩ := id K
  unfold f_X11_reached at hf
  refine lv_aload_n hx hb dX11_reached_0 rfl (lv_at hl 0 rfl) ?_
  refine lv_iload_n hx hb dX11_reached_1 rfl (lv_at hl 1 rfl) ?_
  refine lv_iload_n hx hb dX11_reached_2 rfl (lv_at hl 2 rfl) ?_
  refine lv_iconst (v := 0) hx hb dX11_reached_3 (by decide) ?_
  obtain ⟨q1, hq1, hf⟩ := Option.bind_eq_some_iff.mp hf
  refine g_Vv (cx := 0) (As := [.int p0, .int p1, .int 0]) K hS lV_X11_73 (c_X11_measure p0 p1 0 σ q1 hq1) ((eM_0 G o) _) (by decide) rfl rfl rfl (Nat.le_of_ble_eq_true rfl) ⟨⟨Nat.le_of_ble_eq_true rfl, Nat.le_of_ble_eq_true rfl⟩, rfl, rfl⟩ hl.1 ⟨Nat.zero_le _, Nat.zero_le _⟩ dX11_reached_4 (fun H locs hS => ?_)
  refine lv_iconst (v := 0) hx hb dX11_reached_7 (by decide) ?_
  refine lv_istore_n (lv' := [(3, .int 0), (0, .ref (o + 0)), (1, .int p0), (2, .int p1)]) hx hb dX11_reached_8 rfl hl (by decide) rfl (fun ls hl => ?_)
  refine lv_iconst (v := 0) hx hb dX11_reached_9 (by decide) ?_
  refine lv_istore (lv' := [(4, .int 0), (3, .int 0), (0, .ref (o + 0)), (1, .int p0), (2, .int p1)]) hx hb dX11_reached_10 hl (by decide) rfl (fun ls hl => ?_)
  refine w_X11_reached_L12 K gFu 0 0 q1 hf _ _ _ hS (lv_sub hl [2, 1, 0] rfl)
abbrev rmX11_quietest : Room := { frames := 4, cells := 0, slots := 0, locals := 90 }
def f_X11_quietest_L49 (w1 : Int32) (w2 : Int32) (w3 : Int32) (w5 : Int32) (K101 : Int32 → gS → Option (Int32 × gS)) : Nat → Int32 → Int32 → gS → Option (Int32 × gS)
  | 0, _, _, _ => none
  | n + 1, v4, v6, σ => if (σ 1 4) ≤ v6 then (K101 v4 σ) else (if ((w3 >>> (v6 &&& 31)) &&& 1) = 1 then (Option.bind (f_X11_ofBoard v6 2 σ) (fun q12 => if q12.1 = w5 then (gLet (v4 ||| (1 <<< (v6 &&& 31))) (fun x15 => f_X11_quietest_L49 w1 w2 w3 w5 K101 n x15 (v6 + 1) q12.2)) else (gLet (v4 ||| 0) (fun x14 => f_X11_quietest_L49 w1 w2 w3 w5 K101 n x14 (v6 + 1) q12.2)))) else (gLet (v4 ||| 0) (fun x11 => f_X11_quietest_L49 w1 w2 w3 w5 K101 n x11 (v6 + 1) σ)))
theorem f_X11_quietest_L49_s (w1 : Int32) (w2 : Int32) (w3 : Int32) (w5 : Int32) (K101 : Int32 → gS → Option (Int32 × gS)) (n : Nat) (v4 : Int32) (v6 : Int32) (σ : gS) : f_X11_quietest_L49 w1 w2 w3 w5 K101 (n + 1) v4 v6 σ = (if (σ 1 4) ≤ v6 then (K101 v4 σ) else (if ((w3 >>> (v6 &&& 31)) &&& 1) = 1 then (Option.bind (f_X11_ofBoard v6 2 σ) (fun q12 => if q12.1 = w5 then (gLet (v4 ||| (1 <<< (v6 &&& 31))) (fun x15 => f_X11_quietest_L49 w1 w2 w3 w5 K101 n x15 (v6 + 1) q12.2)) else (gLet (v4 ||| 0) (fun x14 => f_X11_quietest_L49 w1 w2 w3 w5 K101 n x14 (v6 + 1) q12.2)))) else (gLet (v4 ||| 0) (fun x11 => f_X11_quietest_L49 w1 w2 w3 w5 K101 n x11 (v6 + 1) σ)))) := rfl
def f_X11_quietest_L39 (w1 : Int32) (w2 : Int32) (w3 : Int32) : Nat → Int32 → Int32 → gS → Option (Int32 × gS)
  | 0, _, _, _ => none
  | n + 1, v4, v5, σ => if 9 < v5 then (some ((-6), σ)) else (f_X11_quietest_L49 w1 w2 w3 v5 (fun (k16 : Int32) (s17 : gS) => Option.bind (f_X11_roomOf w1 s17) (fun q18 => Option.bind (f_X11_reached q18.1 k16 q18.2) (fun q19 => if ((q19.1 >>> (w2 &&& 31)) &&& 1) = 1 then (some (v5, q19.2)) else (f_X11_quietest_L39 w1 w2 w3 n k16 (v5 + 1) q19.2)))) gFu v4 0 σ)
theorem f_X11_quietest_L39_s (w1 : Int32) (w2 : Int32) (w3 : Int32) (n : Nat) (v4 : Int32) (v5 : Int32) (σ : gS) : f_X11_quietest_L39 w1 w2 w3 (n + 1) v4 v5 σ = (if 9 < v5 then (some ((-6), σ)) else (f_X11_quietest_L49 w1 w2 w3 v5 (fun (k16 : Int32) (s17 : gS) => Option.bind (f_X11_roomOf w1 s17) (fun q18 => Option.bind (f_X11_reached q18.1 k16 q18.2) (fun q19 => if ((q19.1 >>> (w2 &&& 31)) &&& 1) = 1 then (some (v5, q19.2)) else (f_X11_quietest_L39 w1 w2 w3 n k16 (v5 + 1) q19.2)))) gFu v4 0 σ)) := rfl
def f_X11_quietest (p0 : Int32) (p1 : Int32) (σ : gS) : Option (Int32 × gS) := Option.bind (f_X11_isGhost p0 σ) (fun q1 => if q1.1 = 0 then (some ((-1), q1.2)) else (Option.bind (f_X11_isRoom p1 q1.2) (fun q3 => if q3.1 = 0 then (some ((-1), q3.2)) else (Option.bind (f_X11_roomOf p0 q3.2) (fun q5 => if q5.1 = p1 then (some (0, q5.2)) else (Option.bind (f_X11_freeTo p0 q5.2) (fun q7 => f_X11_quietest_L39 p0 p1 q7.1 gFu 0 1 q7.2)))))))
set_option maxHeartbeats 4000000 in
set_option maxRecDepth 100000 in
theorem w_X11_quietest_L49 (w1 : Int32) (w2 : Int32) (w3 : Int32) (w5 : Int32) (K101 : Int32 → gS → Option (Int32 × gS)) {q : Int32 × gS} (K : gK p s m args meth c G cX11_quietest 7 RX11 (some .int)) (hK101 : ∀ (k4 : Int32) (σ : gS), K101 k4 σ = some q → ∀ (H : Heap) (locs : List Loc) (ls : Array Slot), gSt G (entM G o) o 9 s σ H locs → lv_has ls 7 [(0, .ref (o + 0)), (1, .int w1), (2, .int w2), (3, .int w3), (4, .int k4), (5, .int w5)] → W p l e rmX11_quietest s m args below meth c H locs 0 0 (MQ below (gQi G (entM G o) o 9 q) args s 0 0 (gA o 9)) (F0 m 101 ls [])) : ∀ (n : Nat) (v4 : Int32) (v6 : Int32) (σ : gS), f_X11_quietest_L49 w1 w2 w3 w5 K101 n v4 v6 σ = some q → ∀ (H : Heap) (locs : List Loc) (ls : Array Slot), gSt G (entM G o) o 9 s σ H locs → lv_has ls 7 [(0, .ref (o + 0)), (1, .int w1), (2, .int w2), (3, .int w3), (4, .int v4), (5, .int w5), (6, .int v6)] → W p l e rmX11_quietest s m args below meth c H locs 0 0 (MQ below (gQi G (entM G o) o 9 q) args s 0 0 (gA o 9)) (F0 m 49 ls []) := by
  obtain ⟨hx, hb, hml, hown, hts, -⟩ := id K
  intro n
  induction n with
  | zero =>
    intro v4 v6 σ hf
    exact absurd (show (none : Option _) = some q from hf) (by simp)
  | succ n ih =>
    intro v4 v6 σ hf H locs ls hS hl
    rw [f_X11_quietest_L49_s] at hf
    refine lv_iload hx hb dX11_quietest_49 (lv_at hl 6 rfl) ?_
    refine lv_aload_n hx hb dX11_quietest_51 rfl (lv_at hl 0 rfl) ?_
    refine g_get (cx := 0) K hS lF_X11_7 ((eM_0 G o) _) (by decide) rfl dX11_quietest_52 ?_
    refine lv_iconst (v := 4) hx hb dX11_quietest_55 (by decide) ?_
    refine g_iald (cx := 1) (j := 4) K hS (eM_1 G o) (by decide) (by decide) (by decide) dX11_quietest_56 ?_
    refine lv_icmp_ge (tgt := 101) hx hb dX11_quietest_57 (by decide) (fun c9 => ?_) (fun c9 => ?_)
    · have hf := gIf_t c9 hf
      exact hK101 v4 σ hf _ _ _ hS (lv_sub hl [0, 1, 2, 3, 4, 5] rfl)
    · have hf := gIf_f c9 hf
      refine lv_iload hx hb dX11_quietest_60 (lv_at hl 4 rfl) ?_
      refine lv_iload_n hx hb dX11_quietest_62 rfl (lv_at hl 3 rfl) ?_
      refine lv_iload hx hb dX11_quietest_63 (lv_at hl 6 rfl) ?_
      refine lv_ishr hx hb dX11_quietest_65 ?_
      refine lv_iconst (v := 1) hx hb dX11_quietest_66 (by decide) ?_
      refine lv_iand hx hb dX11_quietest_67 ?_
      refine lv_iconst (v := 1) hx hb dX11_quietest_68 (by decide) ?_
      refine lv_icmp_ne (tgt := 91) hx hb dX11_quietest_69 (by decide) (fun c10 => ?_) (fun c10 => ?_)
      · have hf := gIf_f c10 hf
        refine lv_iconst (v := 0) hx hb dX11_quietest_91 (by decide) ?_
        refine lv_ior hx hb dX11_quietest_92 ?_
        obtain ⟨x11, hx11, hf⟩ := gLet_some hf
        refine g_top hx11 ?_
        refine lv_istore (lv' := [(4, .int x11), (0, .ref (o + 0)), (1, .int w1), (2, .int w2), (3, .int w3), (5, .int w5), (6, .int v6)]) hx hb dX11_quietest_93 hl (by decide) rfl (fun ls hl => ?_)
        refine lv_iinc (v := (v6 + 1)) (lv' := [(6, .int (v6 + 1)), (4, .int x11), (0, .ref (o + 0)), (1, .int w1), (2, .int w2), (3, .int w3), (5, .int w5)]) hx hb dX11_quietest_95 hl (k := 6) rfl rfl (by decide) rfl (fun ls hl => ?_)
        refine lv_goto (tgt := 49) hx hb dX11_quietest_98 (by decide) ?_
        exact ih x11 (v6 + 1) σ hf _ _ _ hS (lv_sub hl [2, 3, 4, 5, 1, 6, 0] rfl)
      · have hf := gIf_t c10 hf
        refine lv_aload_n hx hb dX11_quietest_72 rfl (lv_at hl 0 rfl) ?_
        refine lv_iload hx hb dX11_quietest_73 (lv_at hl 6 rfl) ?_
        refine lv_iconst (v := 2) hx hb dX11_quietest_75 (by decide) ?_
        obtain ⟨q12, hq12, hf⟩ := Option.bind_eq_some_iff.mp hf
        refine g_Vi (cx := 0) (As := [.int v6, .int 2]) K hS lV_X11_65 (c_X11_ofBoard v6 2 σ q12 hq12) ((eM_0 G o) _) (by decide) rfl rfl rfl (Nat.le_of_ble_eq_true rfl) ⟨⟨Nat.le_of_ble_eq_true rfl, Nat.le_of_ble_eq_true rfl⟩, rfl, rfl⟩ hl.1 ⟨Nat.zero_le _, Nat.zero_le _⟩ dX11_quietest_76 (fun H locs hS => ?_)
        refine lv_iload hx hb dX11_quietest_79 (lv_at hl 5 rfl) ?_
        refine lv_icmp_ne (tgt := 91) hx hb dX11_quietest_81 (by decide) (fun c13 => ?_) (fun c13 => ?_)
        · have hf := gIf_f c13 hf
          refine lv_iconst (v := 0) hx hb dX11_quietest_91 (by decide) ?_
          refine lv_ior hx hb dX11_quietest_92 ?_
          obtain ⟨x14, hx14, hf⟩ := gLet_some hf
          refine g_top hx14 ?_
          refine lv_istore (lv' := [(4, .int x14), (0, .ref (o + 0)), (1, .int w1), (2, .int w2), (3, .int w3), (5, .int w5), (6, .int v6)]) hx hb dX11_quietest_93 hl (by decide) rfl (fun ls hl => ?_)
          refine lv_iinc (v := (v6 + 1)) (lv' := [(6, .int (v6 + 1)), (4, .int x14), (0, .ref (o + 0)), (1, .int w1), (2, .int w2), (3, .int w3), (5, .int w5)]) hx hb dX11_quietest_95 hl (k := 6) rfl rfl (by decide) rfl (fun ls hl => ?_)
          refine lv_goto (tgt := 49) hx hb dX11_quietest_98 (by decide) ?_
          exact ih x14 (v6 + 1) q12.2 hf _ _ _ hS (lv_sub hl [2, 3, 4, 5, 1, 6, 0] rfl)
        · have hf := gIf_t c13 hf
          refine lv_iconst (v := 1) hx hb dX11_quietest_84 (by decide) ?_
          refine lv_iload hx hb dX11_quietest_85 (lv_at hl 6 rfl) ?_
          refine lv_ishl hx hb dX11_quietest_87 ?_
          refine lv_goto (tgt := 92) hx hb dX11_quietest_88 (by decide) ?_
          refine lv_ior hx hb dX11_quietest_92 ?_
          obtain ⟨x15, hx15, hf⟩ := gLet_some hf
          refine g_top hx15 ?_
          refine lv_istore (lv' := [(4, .int x15), (0, .ref (o + 0)), (1, .int w1), (2, .int w2), (3, .int w3), (5, .int w5), (6, .int v6)]) hx hb dX11_quietest_93 hl (by decide) rfl (fun ls hl => ?_)
          refine lv_iinc (v := (v6 + 1)) (lv' := [(6, .int (v6 + 1)), (4, .int x15), (0, .ref (o + 0)), (1, .int w1), (2, .int w2), (3, .int w3), (5, .int w5)]) hx hb dX11_quietest_95 hl (k := 6) rfl rfl (by decide) rfl (fun ls hl => ?_)
          refine lv_goto (tgt := 49) hx hb dX11_quietest_98 (by decide) ?_
          exact ih x15 (v6 + 1) q12.2 hf _ _ _ hS (lv_sub hl [2, 3, 4, 5, 1, 6, 0] rfl)
set_option maxHeartbeats 4000000 in
set_option maxRecDepth 100000 in
theorem w_X11_quietest_L39 (w1 : Int32) (w2 : Int32) (w3 : Int32) {q : Int32 × gS} (K : gK p s m args meth c G cX11_quietest 7 RX11 (some .int)) : ∀ (n : Nat) (v4 : Int32) (v5 : Int32) (σ : gS), f_X11_quietest_L39 w1 w2 w3 n v4 v5 σ = some q → ∀ (H : Heap) (locs : List Loc) (ls : Array Slot), gSt G (entM G o) o 9 s σ H locs → lv_has ls 7 [(0, .ref (o + 0)), (1, .int w1), (2, .int w2), (3, .int w3), (4, .int v4), (5, .int v5)] → W p l e rmX11_quietest s m args below meth c H locs 0 0 (MQ below (gQi G (entM G o) o 9 q) args s 0 0 (gA o 9)) (F0 m 39 ls []) := by
  obtain ⟨hx, hb, hml, hown, hts, -⟩ := id K
  intro n
  induction n with
  | zero =>
    intro v4 v5 σ hf
    exact absurd (show (none : Option _) = some q from hf) (by simp)
  | succ n ih =>
    intro v4 v5 σ hf H locs ls hS hl
    rw [f_X11_quietest_L39_s] at hf
    refine lv_iload hx hb dX11_quietest_39 (lv_at hl 5 rfl) ?_
    refine lv_bipush (v := 9) hx hb dX11_quietest_41 (by decide) ?_
    refine lv_icmp_gt (tgt := 129) hx hb dX11_quietest_43 (by decide) (fun c8 => ?_) (fun c8 => ?_)
    · have hf := gIf_t c8 hf
      refine lv_bipush (v := (-6)) hx hb dX11_quietest_129 (by decide) ?_
      exact g_iret K hS hf dX11_quietest_131
    · have hf := gIf_f c8 hf
      refine lv_iconst (v := 0) hx hb dX11_quietest_46 (by decide) ?_
      refine lv_istore (lv' := [(6, .int 0), (0, .ref (o + 0)), (1, .int w1), (2, .int w2), (3, .int w3), (4, .int v4), (5, .int v5)]) hx hb dX11_quietest_47 hl (by decide) rfl (fun ls hl => ?_)
      refine w_X11_quietest_L49 w1 w2 w3 v5 _ K ?_ gFu v4 0 σ hf _ _ _ hS (lv_sub hl [1, 2, 3, 4, 5, 6, 0] rfl)
      · intro k16 s17 hf H locs ls hS hl
        refine lv_aload_n hx hb dX11_quietest_101 rfl (lv_at hl 0 rfl) ?_
        refine lv_aload_n hx hb dX11_quietest_102 rfl (lv_at hl 0 rfl) ?_
        refine lv_iload_n hx hb dX11_quietest_103 rfl (lv_at hl 1 rfl) ?_
        obtain ⟨q18, hq18, hf⟩ := Option.bind_eq_some_iff.mp hf
        refine g_Vi (cx := 0) (As := [.int w1]) K hS lV_X11_107 (c_X11_roomOf w1 s17 q18 hq18) ((eM_0 G o) _) (by decide) rfl rfl rfl (Nat.le_of_ble_eq_true rfl) ⟨⟨Nat.le_of_ble_eq_true rfl, Nat.le_of_ble_eq_true rfl⟩, rfl, rfl⟩ hl.1 ⟨Nat.zero_le _, Nat.zero_le _⟩ dX11_quietest_104 (fun H locs hS => ?_)
        refine lv_iload hx hb dX11_quietest_107 (lv_at hl 4 rfl) ?_
        obtain ⟨q19, hq19, hf⟩ := Option.bind_eq_some_iff.mp hf
        refine g_Vi (cx := 0) (As := [.int q18.1, .int k16]) K hS lV_X11_135 (c_X11_reached q18.1 k16 q18.2 q19 hq19) ((eM_0 G o) _) (by decide) rfl rfl rfl (Nat.le_of_ble_eq_true rfl) ⟨⟨Nat.le_of_ble_eq_true rfl, Nat.le_of_ble_eq_true rfl⟩, rfl, rfl⟩ hl.1 ⟨Nat.zero_le _, Nat.zero_le _⟩ dX11_quietest_109 (fun H locs hS => ?_)
        refine lv_iload_n hx hb dX11_quietest_112 rfl (lv_at hl 2 rfl) ?_
        refine lv_ishr hx hb dX11_quietest_113 ?_
        refine lv_iconst (v := 1) hx hb dX11_quietest_114 (by decide) ?_
        refine lv_iand hx hb dX11_quietest_115 ?_
        refine lv_iconst (v := 1) hx hb dX11_quietest_116 (by decide) ?_
        refine lv_icmp_ne (tgt := 123) hx hb dX11_quietest_117 (by decide) (fun c20 => ?_) (fun c20 => ?_)
        · have hf := gIf_f c20 hf
          refine lv_iinc (v := (v5 + 1)) (lv' := [(5, .int (v5 + 1)), (0, .ref (o + 0)), (1, .int w1), (2, .int w2), (3, .int w3), (4, .int k16)]) hx hb dX11_quietest_123 hl (k := 5) rfl rfl (by decide) rfl (fun ls hl => ?_)
          refine lv_goto (tgt := 39) hx hb dX11_quietest_126 (by decide) ?_
          exact ih k16 (v5 + 1) q19.2 hf _ _ _ hS (lv_sub hl [1, 2, 3, 4, 5, 0] rfl)
        · have hf := gIf_t c20 hf
          refine lv_iload hx hb dX11_quietest_120 (lv_at hl 5 rfl) ?_
          exact g_iret K hS hf dX11_quietest_122
set_option maxHeartbeats 4000000 in
set_option maxRecDepth 100000 in
theorem c_X11_quietest (p0 : Int32) (p1 : Int32) (σ : gS) (q : Int32 × gS) (hf : f_X11_quietest p0 p1 σ = some q) : Met l yX11_quietest (gW yX11_quietest cX11_quietest 7 (some .int)) rmX11_quietest (gPc G (entM G o) o 9 [.ref (o + 0), .int p0, .int p1] σ) (gQi G (entM G o) o 9 q) 0 0 (gA o 9) := by
  refine g_met (by decide) ⟨rfl, rfl⟩ (fun p e s m args below meth c ls K hS hl => ?_) (Nat.le_of_ble_eq_true rfl)
  have K : gK p s m args meth c G cX11_quietest 7 RX11 (some .int) := K
  have hl : lv_has ls 7 [(0, .ref (o + 0)), (1, .int p0), (2, .int p1)] := hl
  obtain ⟨hx, hb, hml, hown, hts, -⟩ := id K
  unfold f_X11_quietest at hf
  refine lv_iload_n hx hb dX11_quietest_0 rfl (lv_at hl 1 rfl) ?_
  obtain ⟨q1, hq1, hf⟩ := Option.bind_eq_some_iff.mp hf
  refine g_Si (As := [.int p0]) K hS lS_X11_104 (c_X11_isGhost p0 σ q1 hq1) rfl rfl (Nat.le_of_ble_eq_true rfl) ⟨⟨Nat.le_of_ble_eq_true rfl, Nat.le_of_ble_eq_true rfl⟩, rfl, rfl⟩ hl.1 ⟨Nat.zero_le _, Nat.zero_le _⟩ dX11_quietest_1 (fun H locs hS => ?_)
  refine lv_if_eq (tgt := 14) hx hb dX11_quietest_4 (by decide) (fun c2 => ?_) (fun c2 => ?_)
  · have hf := gIf_t c2 hf
    refine lv_iconst (v := (-1)) hx hb dX11_quietest_14 (by decide) ?_
    exact g_iret K hS hf dX11_quietest_15
  · have hf := gIf_f c2 hf
    refine lv_iload_n hx hb dX11_quietest_7 rfl (lv_at hl 2 rfl) ?_
    obtain ⟨q3, hq3, hf⟩ := Option.bind_eq_some_iff.mp hf
    refine g_Si (As := [.int p1]) K hS lS_X11_51 (c_X11_isRoom p1 q1.2 q3 hq3) rfl rfl (Nat.le_of_ble_eq_true rfl) ⟨⟨Nat.le_of_ble_eq_true rfl, Nat.le_of_ble_eq_true rfl⟩, rfl, rfl⟩ hl.1 ⟨Nat.zero_le _, Nat.zero_le _⟩ dX11_quietest_8 (fun H locs hS => ?_)
    refine lv_if_ne (tgt := 16) hx hb dX11_quietest_11 (by decide) (fun c4 => ?_) (fun c4 => ?_)
    · have hf := gIf_f c4 hf
      refine lv_aload_n hx hb dX11_quietest_16 rfl (lv_at hl 0 rfl) ?_
      refine lv_iload_n hx hb dX11_quietest_17 rfl (lv_at hl 1 rfl) ?_
      obtain ⟨q5, hq5, hf⟩ := Option.bind_eq_some_iff.mp hf
      refine g_Vi (cx := 0) (As := [.int p0]) K hS lV_X11_107 (c_X11_roomOf p0 q3.2 q5 hq5) ((eM_0 G o) _) (by decide) rfl rfl rfl (Nat.le_of_ble_eq_true rfl) ⟨⟨Nat.le_of_ble_eq_true rfl, Nat.le_of_ble_eq_true rfl⟩, rfl, rfl⟩ hl.1 ⟨Nat.zero_le _, Nat.zero_le _⟩ dX11_quietest_18 (fun H locs hS => ?_)
      refine lv_iload_n hx hb dX11_quietest_21 rfl (lv_at hl 2 rfl) ?_
      refine lv_icmp_ne (tgt := 27) hx hb dX11_quietest_22 (by decide) (fun c6 => ?_) (fun c6 => ?_)
      · have hf := gIf_f c6 hf
        refine lv_aload_n hx hb dX11_quietest_27 rfl (lv_at hl 0 rfl) ?_
        refine lv_iload_n hx hb dX11_quietest_28 rfl (lv_at hl 1 rfl) ?_
        obtain ⟨q7, hq7, hf⟩ := Option.bind_eq_some_iff.mp hf
        refine g_Vi (cx := 0) (As := [.int p0]) K hS lV_X11_122 (c_X11_freeTo p0 q5.2 q7 hq7) ((eM_0 G o) _) (by decide) rfl rfl rfl (Nat.le_of_ble_eq_true rfl) ⟨⟨Nat.le_of_ble_eq_true rfl, Nat.le_of_ble_eq_true rfl⟩, rfl, rfl⟩ hl.1 ⟨Nat.zero_le _, Nat.zero_le _⟩ dX11_quietest_29 (fun H locs hS => ?_)
        refine lv_istore_n (lv' := [(3, .int q7.1), (0, .ref (o + 0)), (1, .int p0), (2, .int p1)]) hx hb dX11_quietest_32 rfl hl (by decide) rfl (fun ls hl => ?_)
        refine lv_iconst (v := 0) hx hb dX11_quietest_33 (by decide) ?_
        refine lv_istore (lv' := [(4, .int 0), (3, .int q7.1), (0, .ref (o + 0)), (1, .int p0), (2, .int p1)]) hx hb dX11_quietest_34 hl (by decide) rfl (fun ls hl => ?_)
        refine lv_iconst (v := 1) hx hb dX11_quietest_36 (by decide) ?_
        refine lv_istore (lv' := [(5, .int 1), (4, .int 0), (3, .int q7.1), (0, .ref (o + 0)), (1, .int p0), (2, .int p1)]) hx hb dX11_quietest_37 hl (by decide) rfl (fun ls hl => ?_)
        refine w_X11_quietest_L39 p0 p1 q7.1 K gFu 0 1 q7.2 hf _ _ _ hS (lv_sub hl [3, 4, 5, 2, 1, 0] rfl)
      · have hf := gIf_t c6 hf
        refine lv_iconst (v := 0) hx hb dX11_quietest_25 (by decide) ?_
        exact g_iret K hS hf dX11_quietest_26
    · have hf := gIf_t c4 hf
      refine lv_iconst (v := (-1)) hx hb dX11_quietest_14 (by decide) ?_
      exact g_iret K hS hf dX11_quietest_15
abbrev rmX11_boardsAt : Room := { frames := 2, cells := 0, slots := 0, locals := 44 }
def f_X11_boardsAt_L5 (w1 : Int32) (w2 : Int32) : Nat → Int32 → Int32 → gS → Option (Int32 × gS)
  | 0, _, _, _ => none
  | n + 1, v3, v4, σ => if (σ 1 4) ≤ v4 then (some (v3, σ)) else (if ((w2 >>> (v4 &&& 31)) &&& 1) = 1 then (Option.bind (f_X11_isAt v4 w1 σ) (fun q3 => if q3.1 = 0 then (f_X11_boardsAt_L5 w1 w2 n (v3 + 0) (v4 + 1) q3.2) else (f_X11_boardsAt_L5 w1 w2 n (v3 + 1) (v4 + 1) q3.2))) else (f_X11_boardsAt_L5 w1 w2 n (v3 + 0) (v4 + 1) σ))
theorem f_X11_boardsAt_L5_s (w1 : Int32) (w2 : Int32) (n : Nat) (v3 : Int32) (v4 : Int32) (σ : gS) : f_X11_boardsAt_L5 w1 w2 (n + 1) v3 v4 σ = (if (σ 1 4) ≤ v4 then (some (v3, σ)) else (if ((w2 >>> (v4 &&& 31)) &&& 1) = 1 then (Option.bind (f_X11_isAt v4 w1 σ) (fun q3 => if q3.1 = 0 then (f_X11_boardsAt_L5 w1 w2 n (v3 + 0) (v4 + 1) q3.2) else (f_X11_boardsAt_L5 w1 w2 n (v3 + 1) (v4 + 1) q3.2))) else (f_X11_boardsAt_L5 w1 w2 n (v3 + 0) (v4 + 1) σ))) := rfl
def f_X11_boardsAt (p0 : Int32) (p1 : Int32) (σ : gS) : Option (Int32 × gS) := f_X11_boardsAt_L5 p0 p1 gFu 0 0 σ
set_option maxHeartbeats 4000000 in
set_option maxRecDepth 100000 in
theorem w_X11_boardsAt_L5 (w1 : Int32) (w2 : Int32) {q : Int32 × gS} (K : gK p s m args meth c G cX11_boardsAt 5 RX11 (some .int)) : ∀ (n : Nat) (v3 : Int32) (v4 : Int32) (σ : gS), f_X11_boardsAt_L5 w1 w2 n v3 v4 σ = some q → ∀ (H : Heap) (locs : List Loc) (ls : Array Slot), gSt G (entM G o) o 9 s σ H locs → lv_has ls 5 [(0, .ref (o + 0)), (1, .int w1), (2, .int w2), (3, .int v3), (4, .int v4)] → W p l e rmX11_boardsAt s m args below meth c H locs 0 0 (MQ below (gQi G (entM G o) o 9 q) args s 0 0 (gA o 9)) (F0 m 5 ls []) := by
  obtain ⟨hx, hb, hml, hown, hts, -⟩ := id K
  intro n
  induction n with
  | zero =>
    intro v3 v4 σ hf
    exact absurd (show (none : Option _) = some q from hf) (by simp)
  | succ n ih =>
    intro v3 v4 σ hf H locs ls hS hl
    rw [f_X11_boardsAt_L5_s] at hf
    refine lv_iload hx hb dX11_boardsAt_5 (lv_at hl 4 rfl) ?_
    refine lv_aload_n hx hb dX11_boardsAt_7 rfl (lv_at hl 0 rfl) ?_
    refine g_get (cx := 0) K hS lF_X11_7 ((eM_0 G o) _) (by decide) rfl dX11_boardsAt_8 ?_
    refine lv_iconst (v := 4) hx hb dX11_boardsAt_11 (by decide) ?_
    refine g_iald (cx := 1) (j := 4) K hS (eM_1 G o) (by decide) (by decide) (by decide) dX11_boardsAt_12 ?_
    refine lv_icmp_ge (tgt := 50) hx hb dX11_boardsAt_13 (by decide) (fun c1 => ?_) (fun c1 => ?_)
    · have hf := gIf_t c1 hf
      refine lv_iload_n hx hb dX11_boardsAt_50 rfl (lv_at hl 3 rfl) ?_
      exact g_iret K hS hf dX11_boardsAt_51
    · have hf := gIf_f c1 hf
      refine lv_iload_n hx hb dX11_boardsAt_16 rfl (lv_at hl 3 rfl) ?_
      refine lv_iload_n hx hb dX11_boardsAt_17 rfl (lv_at hl 2 rfl) ?_
      refine lv_iload hx hb dX11_boardsAt_18 (lv_at hl 4 rfl) ?_
      refine lv_ishr hx hb dX11_boardsAt_20 ?_
      refine lv_iconst (v := 1) hx hb dX11_boardsAt_21 (by decide) ?_
      refine lv_iand hx hb dX11_boardsAt_22 ?_
      refine lv_iconst (v := 1) hx hb dX11_boardsAt_23 (by decide) ?_
      refine lv_icmp_ne (tgt := 41) hx hb dX11_boardsAt_24 (by decide) (fun c2 => ?_) (fun c2 => ?_)
      · have hf := gIf_f c2 hf
        refine lv_iconst (v := 0) hx hb dX11_boardsAt_41 (by decide) ?_
        refine lv_iadd hx hb dX11_boardsAt_42 ?_
        refine lv_istore_n (lv' := [(3, .int (v3 + 0)), (0, .ref (o + 0)), (1, .int w1), (2, .int w2), (4, .int v4)]) hx hb dX11_boardsAt_43 rfl hl (by decide) rfl (fun ls hl => ?_)
        refine lv_iinc (v := (v4 + 1)) (lv' := [(4, .int (v4 + 1)), (3, .int (v3 + 0)), (0, .ref (o + 0)), (1, .int w1), (2, .int w2)]) hx hb dX11_boardsAt_44 hl (k := 4) rfl rfl (by decide) rfl (fun ls hl => ?_)
        refine lv_goto (tgt := 5) hx hb dX11_boardsAt_47 (by decide) ?_
        exact ih (v3 + 0) (v4 + 1) σ hf _ _ _ hS (lv_sub hl [2, 3, 4, 1, 0] rfl)
      · have hf := gIf_t c2 hf
        refine lv_aload_n hx hb dX11_boardsAt_27 rfl (lv_at hl 0 rfl) ?_
        refine lv_iload hx hb dX11_boardsAt_28 (lv_at hl 4 rfl) ?_
        refine lv_iload_n hx hb dX11_boardsAt_30 rfl (lv_at hl 1 rfl) ?_
        obtain ⟨q3, hq3, hf⟩ := Option.bind_eq_some_iff.mp hf
        refine g_Vi (cx := 0) (As := [.int v4, .int w1]) K hS lV_X11_116 (c_X11_isAt v4 w1 σ q3 hq3) ((eM_0 G o) _) (by decide) rfl rfl rfl (Nat.le_of_ble_eq_true rfl) ⟨⟨Nat.le_of_ble_eq_true rfl, Nat.le_of_ble_eq_true rfl⟩, rfl, rfl⟩ hl.1 ⟨Nat.zero_le _, Nat.zero_le _⟩ dX11_boardsAt_31 (fun H locs hS => ?_)
        refine lv_if_eq (tgt := 41) hx hb dX11_boardsAt_34 (by decide) (fun c4 => ?_) (fun c4 => ?_)
        · have hf := gIf_t c4 hf
          refine lv_iconst (v := 0) hx hb dX11_boardsAt_41 (by decide) ?_
          refine lv_iadd hx hb dX11_boardsAt_42 ?_
          refine lv_istore_n (lv' := [(3, .int (v3 + 0)), (0, .ref (o + 0)), (1, .int w1), (2, .int w2), (4, .int v4)]) hx hb dX11_boardsAt_43 rfl hl (by decide) rfl (fun ls hl => ?_)
          refine lv_iinc (v := (v4 + 1)) (lv' := [(4, .int (v4 + 1)), (3, .int (v3 + 0)), (0, .ref (o + 0)), (1, .int w1), (2, .int w2)]) hx hb dX11_boardsAt_44 hl (k := 4) rfl rfl (by decide) rfl (fun ls hl => ?_)
          refine lv_goto (tgt := 5) hx hb dX11_boardsAt_47 (by decide) ?_
          exact ih (v3 + 0) (v4 + 1) q3.2 hf _ _ _ hS (lv_sub hl [2, 3, 4, 1, 0] rfl)
        · have hf := gIf_f c4 hf
          refine lv_iconst (v := 1) hx hb dX11_boardsAt_37 (by decide) ?_
          refine lv_goto (tgt := 42) hx hb dX11_boardsAt_38 (by decide) ?_
          refine lv_iadd hx hb dX11_boardsAt_42 ?_
          refine lv_istore_n (lv' := [(3, .int (v3 + 1)), (0, .ref (o + 0)), (1, .int w1), (2, .int w2), (4, .int v4)]) hx hb dX11_boardsAt_43 rfl hl (by decide) rfl (fun ls hl => ?_)
          refine lv_iinc (v := (v4 + 1)) (lv' := [(4, .int (v4 + 1)), (3, .int (v3 + 1)), (0, .ref (o + 0)), (1, .int w1), (2, .int w2)]) hx hb dX11_boardsAt_44 hl (k := 4) rfl rfl (by decide) rfl (fun ls hl => ?_)
          refine lv_goto (tgt := 5) hx hb dX11_boardsAt_47 (by decide) ?_
          exact ih (v3 + 1) (v4 + 1) q3.2 hf _ _ _ hS (lv_sub hl [2, 3, 4, 1, 0] rfl)
set_option maxHeartbeats 4000000 in
set_option maxRecDepth 100000 in
theorem c_X11_boardsAt (p0 : Int32) (p1 : Int32) (σ : gS) (q : Int32 × gS) (hf : f_X11_boardsAt p0 p1 σ = some q) : Met l yX11_boardsAt (gW yX11_boardsAt cX11_boardsAt 5 (some .int)) rmX11_boardsAt (gPc G (entM G o) o 9 [.ref (o + 0), .int p0, .int p1] σ) (gQi G (entM G o) o 9 q) 0 0 (gA o 9) := by
  refine g_met (by decide) ⟨rfl, rfl⟩ (fun p e s m args below meth c ls K hS hl => ?_) (Nat.le_of_ble_eq_true rfl)
  have K : gK p s m args meth c G cX11_boardsAt 5 RX11 (some .int) := K
  have hl : lv_has ls 5 [(0, .ref (o + 0)), (1, .int p0), (2, .int p1)] := hl
  obtain ⟨hx, hb, hml, hown, hts, -⟩ := id K
  unfold f_X11_boardsAt at hf
  refine lv_iconst (v := 0) hx hb dX11_boardsAt_0 (by decide) ?_
  refine lv_istore_n (lv' := [(3, .int 0), (0, .ref (o + 0)), (1, .int p0), (2, .int p1)]) hx hb dX11_boardsAt_1 rfl hl (by decide) rfl (fun ls hl => ?_)
  refine lv_iconst (v := 0) hx hb dX11_boardsAt_2 (by decide) ?_
  refine lv_istore (lv' := [(4, .int 0), (3, .int 0), (0, .ref (o + 0)), (1, .int p0), (2, .int p1)]) hx hb dX11_boardsAt_3 hl (by decide) rfl (fun ls hl => ?_)
  refine w_X11_boardsAt_L5 p0 p1 K gFu 0 0 σ hf _ _ _ hS (lv_sub hl [2, 3, 4, 1, 0] rfl)
abbrev rmX11_whyNot : Room := { frames := 3, cells := 0, slots := 0, locals := 74 }
def f_X11_whyNot_L30 (w1 : Int32) (w2 : Int32) (w3 : Int32) (K77 : Int32 → gS → Option (Int32 × gS)) : Nat → Int32 → Int32 → gS → Option (Int32 × gS)
  | 0, _, _, _ => none
  | n + 1, v4, v5, σ => if 10 ≤ v5 then (K77 v4 σ) else (Option.bind (f_X11_boardsAt v5 w2 σ) (fun q6 => gLet (fun  (s7 : gS) => gLet (v4 + (q6.1 - q6.1 / 2 * 2)) (fun x9 => f_X11_whyNot_L30 w1 w2 w3 K77 n x9 (v5 + 1) s7)) (fun J8 => if q6.1 ≤ 0 then (J8 q6.2) else (if ((w3 >>> (v5 &&& 31)) &&& 1) = 0 then (some (3, q6.2)) else (J8 q6.2)))))
theorem f_X11_whyNot_L30_s (w1 : Int32) (w2 : Int32) (w3 : Int32) (K77 : Int32 → gS → Option (Int32 × gS)) (n : Nat) (v4 : Int32) (v5 : Int32) (σ : gS) : f_X11_whyNot_L30 w1 w2 w3 K77 (n + 1) v4 v5 σ = (if 10 ≤ v5 then (K77 v4 σ) else (Option.bind (f_X11_boardsAt v5 w2 σ) (fun q6 => gLet (fun (s7 : gS) => gLet (v4 + (q6.1 - q6.1 / 2 * 2)) (fun x9 => f_X11_whyNot_L30 w1 w2 w3 K77 n x9 (v5 + 1) s7)) (fun J8 => if q6.1 ≤ 0 then (J8 q6.2) else (if ((w3 >>> (v5 &&& 31)) &&& 1) = 0 then (some (3, q6.2)) else (J8 q6.2)))))) := rfl
def f_X11_whyNot (p0 : Int32) (p1 : Int32) (σ : gS) : Option (Int32 × gS) := if p1 = 0 then (some (1, σ)) else (Option.bind (f_X11_boardsAt p0 p1 σ) (fun q2 => if q2.1 = 0 then (some (2, q2.2)) else (Option.bind (f_X11_reached p0 p1 q2.2) (fun q4 => f_X11_whyNot_L30 p0 p1 q4.1 (fun (k12 : Int32) (s13 : gS) => if k12 ≤ 2 then (if k12 = 2 then (Option.bind (f_X11_boardsAt p0 p1 s13) (fun q16 => if (q16.1 - q16.1 / 2 * 2) = 0 then (some (5, q16.2)) else (some (0, q16.2)))) else (some (0, s13))) else (some (4, s13))) gFu 0 0 q4.2))))
set_option maxHeartbeats 4000000 in
set_option maxRecDepth 100000 in
theorem w_X11_whyNot_L30 (w1 : Int32) (w2 : Int32) (w3 : Int32) (K77 : Int32 → gS → Option (Int32 × gS)) {q : Int32 × gS} (K : gK p s m args meth c G cX11_whyNot 7 RX11 (some .int)) (hK77 : ∀ (k4 : Int32) (σ : gS), K77 k4 σ = some q → ∀ (H : Heap) (locs : List Loc) (ls : Array Slot), gSt G (entM G o) o 9 s σ H locs → lv_has ls 7 [(0, .ref (o + 0)), (1, .int w1), (2, .int w2), (4, .int k4)] → W p l e rmX11_whyNot s m args below meth c H locs 0 0 (MQ below (gQi G (entM G o) o 9 q) args s 0 0 (gA o 9)) (F0 m 77 ls [])) : ∀ (n : Nat) (v4 : Int32) (v5 : Int32) (σ : gS), f_X11_whyNot_L30 w1 w2 w3 K77 n v4 v5 σ = some q → ∀ (H : Heap) (locs : List Loc) (ls : Array Slot), gSt G (entM G o) o 9 s σ H locs → lv_has ls 7 [(0, .ref (o + 0)), (1, .int w1), (2, .int w2), (3, .int w3), (4, .int v4), (5, .int v5)] → W p l e rmX11_whyNot s m args below meth c H locs 0 0 (MQ below (gQi G (entM G o) o 9 q) args s 0 0 (gA o 9)) (F0 m 30 ls []) := by
  obtain ⟨hx, hb, hml, hown, hts, -⟩ := id K
  intro n
  induction n with
  | zero =>
    intro v4 v5 σ hf
    exact absurd (show (none : Option _) = some q from hf) (by simp)
  | succ n ih =>
    intro v4 v5 σ hf H locs ls hS hl
    rw [f_X11_whyNot_L30_s] at hf
    refine lv_iload hx hb dX11_whyNot_30 (lv_at hl 5 rfl) ?_
    refine lv_bipush (v := 10) hx hb dX11_whyNot_32 (by decide) ?_
    refine lv_icmp_ge (tgt := 77) hx hb dX11_whyNot_34 (by decide) (fun c5 => ?_) (fun c5 => ?_)
    · have hf := gIf_t c5 hf
      exact hK77 v4 σ hf _ _ _ hS (lv_sub hl [0, 1, 2, 4] rfl)
    · have hf := gIf_f c5 hf
      refine lv_aload_n hx hb dX11_whyNot_37 rfl (lv_at hl 0 rfl) ?_
      refine lv_iload hx hb dX11_whyNot_38 (lv_at hl 5 rfl) ?_
      refine lv_iload_n hx hb dX11_whyNot_40 rfl (lv_at hl 2 rfl) ?_
      obtain ⟨q6, hq6, hf⟩ := Option.bind_eq_some_iff.mp hf
      refine g_Vi (cx := 0) (As := [.int v5, .int w2]) K hS lV_X11_138 (c_X11_boardsAt v5 w2 σ q6 hq6) ((eM_0 G o) _) (by decide) rfl rfl rfl (Nat.le_of_ble_eq_true rfl) ⟨⟨Nat.le_of_ble_eq_true rfl, Nat.le_of_ble_eq_true rfl⟩, rfl, rfl⟩ hl.1 ⟨Nat.zero_le _, Nat.zero_le _⟩ dX11_whyNot_41 (fun H locs hS => ?_)
      refine lv_istore (lv' := [(6, .int q6.1), (0, .ref (o + 0)), (1, .int w1), (2, .int w2), (3, .int w3), (4, .int v4), (5, .int v5)]) hx hb dX11_whyNot_44 hl (by decide) rfl (fun ls hl => ?_)
      refine lv_iload hx hb dX11_whyNot_46 (lv_at hl 0 rfl) ?_
      obtain ⟨J8, hJ8, hf⟩ := gLet_some hf
      have wJ8 : ∀  (s7 : gS), J8  s7 = some q → ∀ (H : Heap) (locs : List Loc) (ls : Array Slot), gSt G (entM G o) o 9 s s7 H locs → lv_has ls 7 [(0, .ref (o + 0)), (1, .int w1), (2, .int w2), (3, .int w3), (4, .int v4), (5, .int v5), (6, .int q6.1)] → W p l e rmX11_whyNot s m args below meth c H locs 0 0 (MQ below (gQi G (entM G o) o 9 q) args s 0 0 (gA o 9)) (F0 m 62 ls []) := by
        intro  s7 hf H locs ls hS hl
        rw [hJ8] at hf
        refine lv_iload hx hb dX11_whyNot_62 (lv_at hl 4 rfl) ?_
        refine lv_iload hx hb dX11_whyNot_64 (lv_at hl 6 rfl) ?_
        refine lv_iconst (v := 2) hx hb dX11_whyNot_66 (by decide) ?_
        refine lv_irem hx hb dX11_whyNot_67 (by decide) ?_
        refine lv_iadd hx hb dX11_whyNot_68 ?_
        obtain ⟨x9, hx9, hf⟩ := gLet_some hf
        refine g_top hx9 ?_
        refine lv_istore (lv' := [(4, .int x9), (0, .ref (o + 0)), (1, .int w1), (2, .int w2), (3, .int w3), (5, .int v5), (6, .int q6.1)]) hx hb dX11_whyNot_69 hl (by decide) rfl (fun ls hl => ?_)
        refine lv_iinc (v := (v5 + 1)) (lv' := [(5, .int (v5 + 1)), (4, .int x9), (0, .ref (o + 0)), (1, .int w1), (2, .int w2), (3, .int w3), (6, .int q6.1)]) hx hb dX11_whyNot_71 hl (k := 5) rfl rfl (by decide) rfl (fun ls hl => ?_)
        refine lv_goto (tgt := 30) hx hb dX11_whyNot_74 (by decide) ?_
        exact ih x9 (v5 + 1) s7 hf _ _ _ hS (lv_sub hl [2, 3, 4, 5, 1, 0] rfl)
      clear hJ8
      refine lv_if_le (tgt := 62) hx hb dX11_whyNot_48 (by decide) (fun c10 => ?_) (fun c10 => ?_)
      · have hf := gIf_t c10 hf
        exact wJ8  q6.2 hf _ _ _ hS (lv_sub hl [1, 2, 3, 4, 5, 6, 0] rfl)
      · have hf := gIf_f c10 hf
        refine lv_iload_n hx hb dX11_whyNot_51 rfl (lv_at hl 4 rfl) ?_
        refine lv_iload hx hb dX11_whyNot_52 (lv_at hl 6 rfl) ?_
        refine lv_ishr hx hb dX11_whyNot_54 ?_
        refine lv_iconst (v := 1) hx hb dX11_whyNot_55 (by decide) ?_
        refine lv_iand hx hb dX11_whyNot_56 ?_
        refine lv_if_ne (tgt := 62) hx hb dX11_whyNot_57 (by decide) (fun c11 => ?_) (fun c11 => ?_)
        · have hf := gIf_f c11 hf
          exact wJ8  q6.2 hf _ _ _ hS (lv_sub hl [1, 2, 3, 4, 5, 6, 0] rfl)
        · have hf := gIf_t c11 hf
          refine lv_iconst (v := 3) hx hb dX11_whyNot_60 (by decide) ?_
          exact g_iret K hS hf dX11_whyNot_61
set_option maxHeartbeats 4000000 in
set_option maxRecDepth 100000 in
theorem c_X11_whyNot (p0 : Int32) (p1 : Int32) (σ : gS) (q : Int32 × gS) (hf : f_X11_whyNot p0 p1 σ = some q) : Met l yX11_whyNot (gW yX11_whyNot cX11_whyNot 7 (some .int)) rmX11_whyNot (gPc G (entM G o) o 9 [.ref (o + 0), .int p0, .int p1] σ) (gQi G (entM G o) o 9 q) 0 0 (gA o 9) := by
  refine g_met (by decide) ⟨rfl, rfl⟩ (fun p e s m args below meth c ls K hS hl => ?_) (Nat.le_of_ble_eq_true rfl)
  have K : gK p s m args meth c G cX11_whyNot 7 RX11 (some .int) := K
  have hl : lv_has ls 7 [(0, .ref (o + 0)), (1, .int p0), (2, .int p1)] := hl
  obtain ⟨hx, hb, hml, hown, hts, -⟩ := id K
  unfold f_X11_whyNot at hf
  refine lv_iload_n hx hb dX11_whyNot_0 rfl (lv_at hl 2 rfl) ?_
  refine lv_if_ne (tgt := 6) hx hb dX11_whyNot_1 (by decide) (fun c1 => ?_) (fun c1 => ?_)
  · have hf := gIf_f c1 hf
    refine lv_aload_n hx hb dX11_whyNot_6 rfl (lv_at hl 0 rfl) ?_
    refine lv_iload_n hx hb dX11_whyNot_7 rfl (lv_at hl 1 rfl) ?_
    refine lv_iload_n hx hb dX11_whyNot_8 rfl (lv_at hl 2 rfl) ?_
    obtain ⟨q2, hq2, hf⟩ := Option.bind_eq_some_iff.mp hf
    refine g_Vi (cx := 0) (As := [.int p0, .int p1]) K hS lV_X11_138 (c_X11_boardsAt p0 p1 σ q2 hq2) ((eM_0 G o) _) (by decide) rfl rfl rfl (Nat.le_of_ble_eq_true rfl) ⟨⟨Nat.le_of_ble_eq_true rfl, Nat.le_of_ble_eq_true rfl⟩, rfl, rfl⟩ hl.1 ⟨Nat.zero_le _, Nat.zero_le _⟩ dX11_whyNot_9 (fun H locs hS => ?_)
    refine lv_if_ne (tgt := 17) hx hb dX11_whyNot_12 (by decide) (fun c3 => ?_) (fun c3 => ?_)
    · have hf := gIf_f c3 hf
      refine lv_aload_n hx hb dX11_whyNot_17 rfl (lv_at hl 0 rfl) ?_
      refine lv_iload_n hx hb dX11_whyNot_18 rfl (lv_at hl 1 rfl) ?_
      refine lv_iload_n hx hb dX11_whyNot_19 rfl (lv_at hl 2 rfl) ?_
      obtain ⟨q4, hq4, hf⟩ := Option.bind_eq_some_iff.mp hf
      refine g_Vi (cx := 0) (As := [.int p0, .int p1]) K hS lV_X11_135 (c_X11_reached p0 p1 q2.2 q4 hq4) ((eM_0 G o) _) (by decide) rfl rfl rfl (Nat.le_of_ble_eq_true rfl) ⟨⟨Nat.le_of_ble_eq_true rfl, Nat.le_of_ble_eq_true rfl⟩, rfl, rfl⟩ hl.1 ⟨Nat.zero_le _, Nat.zero_le _⟩ dX11_whyNot_20 (fun H locs hS => ?_)
      refine lv_istore_n (lv' := [(3, .int q4.1), (0, .ref (o + 0)), (1, .int p0), (2, .int p1)]) hx hb dX11_whyNot_23 rfl hl (by decide) rfl (fun ls hl => ?_)
      refine lv_iconst (v := 0) hx hb dX11_whyNot_24 (by decide) ?_
      refine lv_istore (lv' := [(4, .int 0), (3, .int q4.1), (0, .ref (o + 0)), (1, .int p0), (2, .int p1)]) hx hb dX11_whyNot_25 hl (by decide) rfl (fun ls hl => ?_)
      refine lv_iconst (v := 0) hx hb dX11_whyNot_27 (by decide) ?_
      refine lv_istore (lv' := [(5, .int 0), (4, .int 0), (3, .int q4.1), (0, .ref (o + 0)), (1, .int p0), (2, .int p1)]) hx hb dX11_whyNot_28 hl (by decide) rfl (fun ls hl => ?_)
      refine w_X11_whyNot_L30 p0 p1 q4.1 _ K ?_ gFu 0 0 q4.2 hf _ _ _ hS (lv_sub hl [3, 4, 5, 2, 1, 0] rfl)
      · intro k12 s13 hf H locs ls hS hl
        refine lv_iload hx hb dX11_whyNot_77 (lv_at hl 3 rfl) ?_
        refine lv_iconst (v := 2) hx hb dX11_whyNot_79 (by decide) ?_
        refine lv_icmp_le (tgt := 87) hx hb dX11_whyNot_80 (by decide) (fun c14 => ?_) (fun c14 => ?_)
        · have hf := gIf_t c14 hf
          refine lv_iload hx hb dX11_whyNot_87 (lv_at hl 3 rfl) ?_
          refine lv_iconst (v := 2) hx hb dX11_whyNot_89 (by decide) ?_
          refine lv_icmp_ne (tgt := 108) hx hb dX11_whyNot_90 (by decide) (fun c15 => ?_) (fun c15 => ?_)
          · have hf := gIf_f c15 hf
            refine lv_iconst (v := 0) hx hb dX11_whyNot_108 (by decide) ?_
            exact g_iret K hS hf dX11_whyNot_109
          · have hf := gIf_t c15 hf
            refine lv_aload_n hx hb dX11_whyNot_93 rfl (lv_at hl 0 rfl) ?_
            refine lv_iload_n hx hb dX11_whyNot_94 rfl (lv_at hl 1 rfl) ?_
            refine lv_iload_n hx hb dX11_whyNot_95 rfl (lv_at hl 2 rfl) ?_
            obtain ⟨q16, hq16, hf⟩ := Option.bind_eq_some_iff.mp hf
            refine g_Vi (cx := 0) (As := [.int p0, .int p1]) K hS lV_X11_138 (c_X11_boardsAt p0 p1 s13 q16 hq16) ((eM_0 G o) _) (by decide) rfl rfl rfl (Nat.le_of_ble_eq_true rfl) ⟨⟨Nat.le_of_ble_eq_true rfl, Nat.le_of_ble_eq_true rfl⟩, rfl, rfl⟩ hl.1 ⟨Nat.zero_le _, Nat.zero_le _⟩ dX11_whyNot_96 (fun H locs hS => ?_)
            refine lv_iconst (v := 2) hx hb dX11_whyNot_99 (by decide) ?_
            refine lv_irem hx hb dX11_whyNot_100 (by decide) ?_
            refine lv_if_ne (tgt := 108) hx hb dX11_whyNot_101 (by decide) (fun c17 => ?_) (fun c17 => ?_)
            · have hf := gIf_f c17 hf
              refine lv_iconst (v := 0) hx hb dX11_whyNot_108 (by decide) ?_
              exact g_iret K hS hf dX11_whyNot_109
            · have hf := gIf_t c17 hf
              refine lv_iconst (v := 5) hx hb dX11_whyNot_104 (by decide) ?_
              refine lv_goto (tgt := 109) hx hb dX11_whyNot_105 (by decide) ?_
              exact g_iret K hS hf dX11_whyNot_109
        · have hf := gIf_f c14 hf
          refine lv_iconst (v := 4) hx hb dX11_whyNot_83 (by decide) ?_
          refine lv_goto (tgt := 109) hx hb dX11_whyNot_84 (by decide) ?_
          exact g_iret K hS hf dX11_whyNot_109
    · have hf := gIf_t c3 hf
      refine lv_iconst (v := 2) hx hb dX11_whyNot_15 (by decide) ?_
      exact g_iret K hS hf dX11_whyNot_16
  · have hf := gIf_t c1 hf
    refine lv_iconst (v := 1) hx hb dX11_whyNot_4 (by decide) ?_
    exact g_iret K hS hf dX11_whyNot_5
abbrev rmX11_left : Room := { frames := 1, cells := 0, slots := 0, locals := 22 }
def f_X11_left (p0 : Int32) (σ : gS) : Option (Int32 × gS) := Option.bind (f_X11_all σ) (fun q1 => Option.bind (f_X11_ofGhost p0 1 q1.2) (fun q2 => some ((q1.1 &&& (q2.1 ^^^ (-1))), q2.2)))
set_option maxHeartbeats 4000000 in
set_option maxRecDepth 100000 in
theorem c_X11_left (p0 : Int32) (σ : gS) (q : Int32 × gS) (hf : f_X11_left p0 σ = some q) : Met l yX11_left (gW yX11_left cX11_left 2 (some .int)) rmX11_left (gPc G (entM G o) o 9 [.ref (o + 0), .int p0] σ) (gQi G (entM G o) o 9 q) 0 0 (gA o 9) := by
  refine g_met (by decide) ⟨rfl, rfl⟩ (fun p e s m args below meth c ls K hS hl => ?_) (Nat.le_of_ble_eq_true rfl)
  have K : gK p s m args meth c G cX11_left 2 RX11 (some .int) := K
  have hl : lv_has ls 2 [(0, .ref (o + 0)), (1, .int p0)] := hl
  obtain ⟨hx, hb, hml, hown, hts, -⟩ := id K
  unfold f_X11_left at hf
  refine lv_aload_n hx hb dX11_left_0 rfl (lv_at hl 0 rfl) ?_
  obtain ⟨q1, hq1, hf⟩ := Option.bind_eq_some_iff.mp hf
  refine g_Vi (cx := 0) (As := []) K hS lV_X11_69 (c_X11_all σ q1 hq1) ((eM_0 G o) _) (by decide) rfl rfl rfl (Nat.le_of_ble_eq_true rfl) ⟨⟨Nat.le_of_ble_eq_true rfl, Nat.le_of_ble_eq_true rfl⟩, rfl, rfl⟩ hl.1 ⟨Nat.zero_le _, Nat.zero_le _⟩ dX11_left_1 (fun H locs hS => ?_)
  refine lv_aload_n hx hb dX11_left_4 rfl (lv_at hl 0 rfl) ?_
  refine lv_iload_n hx hb dX11_left_5 rfl (lv_at hl 1 rfl) ?_
  refine lv_iconst (v := 1) hx hb dX11_left_6 (by decide) ?_
  obtain ⟨q2, hq2, hf⟩ := Option.bind_eq_some_iff.mp hf
  refine g_Vi (cx := 0) (As := [.int p0, .int 1]) K hS lV_X11_40 (c_X11_ofGhost p0 1 q1.2 q2 hq2) ((eM_0 G o) _) (by decide) rfl rfl rfl (Nat.le_of_ble_eq_true rfl) ⟨⟨Nat.le_of_ble_eq_true rfl, Nat.le_of_ble_eq_true rfl⟩, rfl, rfl⟩ hl.1 ⟨Nat.zero_le _, Nat.zero_le _⟩ dX11_left_7 (fun H locs hS => ?_)
  refine lv_iconst (v := (-1)) hx hb dX11_left_10 (by decide) ?_
  refine lv_ixor hx hb dX11_left_11 ?_
  refine lv_iand hx hb dX11_left_12 ?_
  exact g_iret K hS hf dX11_left_13
abbrev rmX11_reason : Room := { frames := 4, cells := 0, slots := 0, locals := 100 }
def f_X11_reason (p0 : Int32) (σ : gS) : Option (Int32 × gS) := Option.bind (f_X11_isGhost p0 σ) (fun q1 => if q1.1 = 0 then (some ((-1), q1.2)) else (Option.bind (f_X11_roomOf p0 q1.2) (fun q3 => Option.bind (f_X11_left p0 q3.2) (fun q4 => Option.bind (f_X11_whyNot q3.1 q4.1 q4.2) (fun q5 => some (q5.1, q5.2))))))
set_option maxHeartbeats 4000000 in
set_option maxRecDepth 100000 in
theorem c_X11_reason (p0 : Int32) (σ : gS) (q : Int32 × gS) (hf : f_X11_reason p0 σ = some q) : Met l yX11_reason (gW yX11_reason cX11_reason 2 (some .int)) rmX11_reason (gPc G (entM G o) o 9 [.ref (o + 0), .int p0] σ) (gQi G (entM G o) o 9 q) 0 0 (gA o 9) := by
  refine g_met (by decide) ⟨rfl, rfl⟩ (fun p e s m args below meth c ls K hS hl => ?_) (Nat.le_of_ble_eq_true rfl)
  have K : gK p s m args meth c G cX11_reason 2 RX11 (some .int) := K
  have hl : lv_has ls 2 [(0, .ref (o + 0)), (1, .int p0)] := hl
  obtain ⟨hx, hb, hml, hown, hts, -⟩ := id K
  unfold f_X11_reason at hf
  refine lv_iload_n hx hb dX11_reason_0 rfl (lv_at hl 1 rfl) ?_
  obtain ⟨q1, hq1, hf⟩ := Option.bind_eq_some_iff.mp hf
  refine g_Si (As := [.int p0]) K hS lS_X11_104 (c_X11_isGhost p0 σ q1 hq1) rfl rfl (Nat.le_of_ble_eq_true rfl) ⟨⟨Nat.le_of_ble_eq_true rfl, Nat.le_of_ble_eq_true rfl⟩, rfl, rfl⟩ hl.1 ⟨Nat.zero_le _, Nat.zero_le _⟩ dX11_reason_1 (fun H locs hS => ?_)
  refine lv_if_eq (tgt := 24) hx hb dX11_reason_4 (by decide) (fun c2 => ?_) (fun c2 => ?_)
  · have hf := gIf_t c2 hf
    refine lv_iconst (v := (-1)) hx hb dX11_reason_24 (by decide) ?_
    exact g_iret K hS hf dX11_reason_25
  · have hf := gIf_f c2 hf
    refine lv_aload_n hx hb dX11_reason_7 rfl (lv_at hl 0 rfl) ?_
    refine lv_aload_n hx hb dX11_reason_8 rfl (lv_at hl 0 rfl) ?_
    refine lv_iload_n hx hb dX11_reason_9 rfl (lv_at hl 1 rfl) ?_
    obtain ⟨q3, hq3, hf⟩ := Option.bind_eq_some_iff.mp hf
    refine g_Vi (cx := 0) (As := [.int p0]) K hS lV_X11_107 (c_X11_roomOf p0 q1.2 q3 hq3) ((eM_0 G o) _) (by decide) rfl rfl rfl (Nat.le_of_ble_eq_true rfl) ⟨⟨Nat.le_of_ble_eq_true rfl, Nat.le_of_ble_eq_true rfl⟩, rfl, rfl⟩ hl.1 ⟨Nat.zero_le _, Nat.zero_le _⟩ dX11_reason_10 (fun H locs hS => ?_)
    refine lv_aload_n hx hb dX11_reason_13 rfl (lv_at hl 0 rfl) ?_
    refine lv_iload_n hx hb dX11_reason_14 rfl (lv_at hl 1 rfl) ?_
    obtain ⟨q4, hq4, hf⟩ := Option.bind_eq_some_iff.mp hf
    refine g_Vi (cx := 0) (As := [.int p0]) K hS lV_X11_141 (c_X11_left p0 q3.2 q4 hq4) ((eM_0 G o) _) (by decide) rfl rfl rfl (Nat.le_of_ble_eq_true rfl) ⟨⟨Nat.le_of_ble_eq_true rfl, Nat.le_of_ble_eq_true rfl⟩, rfl, rfl⟩ hl.1 ⟨Nat.zero_le _, Nat.zero_le _⟩ dX11_reason_15 (fun H locs hS => ?_)
    obtain ⟨q5, hq5, hf⟩ := Option.bind_eq_some_iff.mp hf
    refine g_Vi (cx := 0) (As := [.int q3.1, .int q4.1]) K hS lV_X11_144 (c_X11_whyNot q3.1 q4.1 q4.2 q5 hq5) ((eM_0 G o) _) (by decide) rfl rfl rfl (Nat.le_of_ble_eq_true rfl) ⟨⟨Nat.le_of_ble_eq_true rfl, Nat.le_of_ble_eq_true rfl⟩, rfl, rfl⟩ hl.1 ⟨Nat.zero_le _, Nat.zero_le _⟩ dX11_reason_18 (fun H locs hS => ?_)
    refine lv_goto (tgt := 25) hx hb dX11_reason_21 (by decide) ?_
    exact g_iret K hS hf dX11_reason_25
abbrev rmX11_trail : Room := { frames := 4, cells := 0, slots := 0, locals := 100 }
def f_X11_trail_L70 (w2 : Int32) (w3 : Int32) (w4 : Int32) (w6 : Int32) (K147 : Int32 → gS → Option (Int32 × gS)) : Nat → Int32 → Int32 → gS → Option (Int32 × gS)
  | 0, _, _, _ => none
  | n + 1, v5, v7, σ => if v7 < 0 then (K147 v5 σ) else (gLet (fun (j12 : Int32) (s13 : gS) => if j12 = 0 then (f_X11_trail_L70 w2 w3 w4 w6 K147 n v5 (v7 + (-1)) s13) else (Option.bind (f_X11_across v7 w4 s13) (fun q16 => Option.bind (f_X11_whyNot q16.1 (w3 &&& ((1 <<< (v7 &&& 31)) ^^^ (-1))) q16.2) (fun q17 => if 2 ≤ q17.1 then (f_X11_trail_L70 w2 w3 w4 w6 K147 n v5 (v7 + (-1)) q17.2) else (f_X11_trail_L70 w2 w3 w4 w6 K147 n v7 (v7 + (-1)) q17.2))))) (fun J14 => gLet (fun  (s19 : gS) => J14 0 s19) (fun J20 => if ((w3 >>> (v7 &&& 31)) &&& 1) = 1 then (Option.bind (f_X11_isAt v7 w4 σ) (fun q22 => if q22.1 = 0 then (J20 q22.2) else (J14 1 q22.2))) else (J20 σ))))
theorem f_X11_trail_L70_s (w2 : Int32) (w3 : Int32) (w4 : Int32) (w6 : Int32) (K147 : Int32 → gS → Option (Int32 × gS)) (n : Nat) (v5 : Int32) (v7 : Int32) (σ : gS) : f_X11_trail_L70 w2 w3 w4 w6 K147 (n + 1) v5 v7 σ = (if v7 < 0 then (K147 v5 σ) else (gLet (fun (j12 : Int32) (s13 : gS) => if j12 = 0 then (f_X11_trail_L70 w2 w3 w4 w6 K147 n v5 (v7 + (-1)) s13) else (Option.bind (f_X11_across v7 w4 s13) (fun q16 => Option.bind (f_X11_whyNot q16.1 (w3 &&& ((1 <<< (v7 &&& 31)) ^^^ (-1))) q16.2) (fun q17 => if 2 ≤ q17.1 then (f_X11_trail_L70 w2 w3 w4 w6 K147 n v5 (v7 + (-1)) q17.2) else (f_X11_trail_L70 w2 w3 w4 w6 K147 n v7 (v7 + (-1)) q17.2))))) (fun J14 => gLet (fun (s19 : gS) => J14 0 s19) (fun J20 => if ((w3 >>> (v7 &&& 31)) &&& 1) = 1 then (Option.bind (f_X11_isAt v7 w4 σ) (fun q22 => if q22.1 = 0 then (J20 q22.2) else (J14 1 q22.2))) else (J20 σ))))) := rfl
def f_X11_trail_L46 (w2 : Int32) : Nat → Int32 → Int32 → Int32 → Int32 → gS → Option (Int32 × gS)
  | 0, _, _, _, _, _ => none
  | n + 1, v3, v4, v5, v6, σ => if w2 < v6 then (some (v5, σ)) else (if v3 = 0 then (some (v5, σ)) else (gLet ((σ 1 4) - 1) (fun x10 => f_X11_trail_L70 w2 v3 v4 v6 (fun (k24 : Int32) (s25 : gS) => gLet (v3 &&& ((1 <<< (k24 &&& 31)) ^^^ (-1))) (fun x26 => Option.bind (f_X11_across k24 v4 s25) (fun q27 => if v6 = w2 then (f_X11_trail_L46 w2 n x26 q27.1 k24 (v6 + 1) q27.2) else (f_X11_trail_L46 w2 n x26 q27.1 (-6) (v6 + 1) q27.2)))) gFu (-6) x10 σ)))
theorem f_X11_trail_L46_s (w2 : Int32) (n : Nat) (v3 : Int32) (v4 : Int32) (v5 : Int32) (v6 : Int32) (σ : gS) : f_X11_trail_L46 w2 (n + 1) v3 v4 v5 v6 σ = (if w2 < v6 then (some (v5, σ)) else (if v3 = 0 then (some (v5, σ)) else (gLet ((σ 1 4) - 1) (fun x10 => f_X11_trail_L70 w2 v3 v4 v6 (fun (k24 : Int32) (s25 : gS) => gLet (v3 &&& ((1 <<< (k24 &&& 31)) ^^^ (-1))) (fun x26 => Option.bind (f_X11_across k24 v4 s25) (fun q27 => if v6 = w2 then (f_X11_trail_L46 w2 n x26 q27.1 k24 (v6 + 1) q27.2) else (f_X11_trail_L46 w2 n x26 q27.1 (-6) (v6 + 1) q27.2)))) gFu (-6) x10 σ)))) := rfl
def f_X11_trail (p0 : Int32) (p1 : Int32) (σ : gS) : Option (Int32 × gS) := Option.bind (f_X11_isGhost p0 σ) (fun q1 => if q1.1 = 0 then (some ((-1), q1.2)) else (if 0 ≤ p1 then (Option.bind (f_X11_left p0 q1.2) (fun q4 => Option.bind (f_X11_roomOf p0 q4.2) (fun q5 => Option.bind (f_X11_whyNot q5.1 q4.1 q5.2) (fun q6 => if q6.1 = 0 then (f_X11_trail_L46 p1 gFu q4.1 q5.1 (-6) 0 q6.2) else (some ((-5), q6.2)))))) else (some ((-1), q1.2))))
set_option maxHeartbeats 4000000 in
set_option maxRecDepth 100000 in
theorem w_X11_trail_L70 (w2 : Int32) (w3 : Int32) (w4 : Int32) (w6 : Int32) (K147 : Int32 → gS → Option (Int32 × gS)) {q : Int32 × gS} (K : gK p s m args meth c G cX11_trail 9 RX11 (some .int)) (hK147 : ∀ (k5 : Int32) (σ : gS), K147 k5 σ = some q → ∀ (H : Heap) (locs : List Loc) (ls : Array Slot), gSt G (entM G o) o 9 s σ H locs → lv_has ls 9 [(0, .ref (o + 0)), (2, .int w2), (3, .int w3), (4, .int w4), (5, .int k5), (6, .int w6)] → W p l e rmX11_trail s m args below meth c H locs 0 0 (MQ below (gQi G (entM G o) o 9 q) args s 0 0 (gA o 9)) (F0 m 147 ls [])) : ∀ (n : Nat) (v5 : Int32) (v7 : Int32) (σ : gS), f_X11_trail_L70 w2 w3 w4 w6 K147 n v5 v7 σ = some q → ∀ (H : Heap) (locs : List Loc) (ls : Array Slot), gSt G (entM G o) o 9 s σ H locs → lv_has ls 9 [(0, .ref (o + 0)), (2, .int w2), (3, .int w3), (4, .int w4), (5, .int v5), (6, .int w6), (7, .int v7)] → W p l e rmX11_trail s m args below meth c H locs 0 0 (MQ below (gQi G (entM G o) o 9 q) args s 0 0 (gA o 9)) (F0 m 70 ls []) := by
  obtain ⟨hx, hb, hml, hown, hts, -⟩ := id K
  intro n
  induction n with
  | zero =>
    intro v5 v7 σ hf
    exact absurd (show (none : Option _) = some q from hf) (by simp)
  | succ n ih =>
    intro v5 v7 σ hf H locs ls hS hl
    rw [f_X11_trail_L70_s] at hf
    refine lv_iload hx hb dX11_trail_70 (lv_at hl 6 rfl) ?_
    refine lv_if_lt (tgt := 147) hx hb dX11_trail_72 (by decide) (fun c11 => ?_) (fun c11 => ?_)
    · have hf := gIf_t c11 hf
      exact hK147 v5 σ hf _ _ _ hS (lv_sub hl [0, 1, 2, 3, 4, 5] rfl)
    · have hf := gIf_f c11 hf
      refine lv_iload_n hx hb dX11_trail_75 rfl (lv_at hl 2 rfl) ?_
      refine lv_iload hx hb dX11_trail_76 (lv_at hl 6 rfl) ?_
      refine lv_ishr hx hb dX11_trail_78 ?_
      refine lv_iconst (v := 1) hx hb dX11_trail_79 (by decide) ?_
      refine lv_iand hx hb dX11_trail_80 ?_
      refine lv_iconst (v := 1) hx hb dX11_trail_81 (by decide) ?_
      obtain ⟨J14, hJ14, hf⟩ := gLet_some hf
      have wJ14 : ∀ (j12 : Int32) (s13 : gS), J14 j12 s13 = some q → ∀ (H : Heap) (locs : List Loc) (ls : Array Slot), gSt G (entM G o) o 9 s s13 H locs → lv_has ls 9 [(0, .ref (o + 0)), (2, .int w2), (3, .int w3), (4, .int w4), (5, .int v5), (6, .int w6), (7, .int v7)] → W p l e rmX11_trail s m args below meth c H locs 0 0 (MQ below (gQi G (entM G o) o 9 q) args s 0 0 (gA o 9)) (F0 m 101 ls [.int j12]) := by
        intro j12 s13 hf H locs ls hS hl
        rw [hJ14] at hf
        refine lv_istore (lv' := [(8, .int j12), (0, .ref (o + 0)), (2, .int w2), (3, .int w3), (4, .int w4), (5, .int v5), (6, .int w6), (7, .int v7)]) hx hb dX11_trail_101 hl (by decide) rfl (fun ls hl => ?_)
        refine lv_iload hx hb dX11_trail_103 (lv_at hl 0 rfl) ?_
        refine lv_if_eq (tgt := 137) hx hb dX11_trail_105 (by decide) (fun c15 => ?_) (fun c15 => ?_)
        · have hf := gIf_t c15 hf
          refine lv_iload hx hb dX11_trail_137 (lv_at hl 5 rfl) ?_
          refine lv_istore (lv' := [(5, .int v5), (8, .int j12), (0, .ref (o + 0)), (2, .int w2), (3, .int w3), (4, .int w4), (6, .int w6), (7, .int v7)]) hx hb dX11_trail_139 hl (by decide) rfl (fun ls hl => ?_)
          refine lv_iinc (v := (v7 + (-1))) (lv' := [(7, .int (v7 + (-1))), (5, .int v5), (8, .int j12), (0, .ref (o + 0)), (2, .int w2), (3, .int w3), (4, .int w4), (6, .int w6)]) hx hb dX11_trail_141 hl (k := 7) rfl rfl (by decide) rfl (fun ls hl => ?_)
          refine lv_goto (tgt := 70) hx hb dX11_trail_144 (by decide) ?_
          exact ih v5 (v7 + (-1)) s13 hf _ _ _ hS (lv_sub hl [3, 4, 5, 6, 1, 7, 0] rfl)
        · have hf := gIf_f c15 hf
          refine lv_aload_n hx hb dX11_trail_108 rfl (lv_at hl 1 rfl) ?_
          refine lv_aload_n hx hb dX11_trail_109 rfl (lv_at hl 1 rfl) ?_
          refine lv_iload hx hb dX11_trail_110 (lv_at hl 7 rfl) ?_
          refine lv_iload hx hb dX11_trail_112 (lv_at hl 4 rfl) ?_
          obtain ⟨q16, hq16, hf⟩ := Option.bind_eq_some_iff.mp hf
          refine g_Vi (cx := 0) (As := [.int v7, .int w4]) K hS lV_X11_110 (c_X11_across v7 w4 s13 q16 hq16) ((eM_0 G o) _) (by decide) rfl rfl rfl (Nat.le_of_ble_eq_true rfl) ⟨⟨Nat.le_of_ble_eq_true rfl, Nat.le_of_ble_eq_true rfl⟩, rfl, rfl⟩ hl.1 ⟨Nat.zero_le _, Nat.zero_le _⟩ dX11_trail_114 (fun H locs hS => ?_)
          refine lv_iload_n hx hb dX11_trail_117 rfl (lv_at hl 3 rfl) ?_
          refine lv_iconst (v := 1) hx hb dX11_trail_118 (by decide) ?_
          refine lv_iload hx hb dX11_trail_119 (lv_at hl 7 rfl) ?_
          refine lv_ishl hx hb dX11_trail_121 ?_
          refine lv_iconst (v := (-1)) hx hb dX11_trail_122 (by decide) ?_
          refine lv_ixor hx hb dX11_trail_123 ?_
          refine lv_iand hx hb dX11_trail_124 ?_
          obtain ⟨q17, hq17, hf⟩ := Option.bind_eq_some_iff.mp hf
          refine g_Vi (cx := 0) (As := [.int q16.1, .int (w3 &&& ((1 <<< (v7 &&& 31)) ^^^ (-1)))]) K hS lV_X11_144 (c_X11_whyNot q16.1 (w3 &&& ((1 <<< (v7 &&& 31)) ^^^ (-1))) q16.2 q17 hq17) ((eM_0 G o) _) (by decide) rfl rfl rfl (Nat.le_of_ble_eq_true rfl) ⟨⟨Nat.le_of_ble_eq_true rfl, Nat.le_of_ble_eq_true rfl⟩, rfl, rfl⟩ hl.1 ⟨Nat.zero_le _, Nat.zero_le _⟩ dX11_trail_125 (fun H locs hS => ?_)
          refine lv_iconst (v := 2) hx hb dX11_trail_128 (by decide) ?_
          refine lv_icmp_ge (tgt := 137) hx hb dX11_trail_129 (by decide) (fun c18 => ?_) (fun c18 => ?_)
          · have hf := gIf_t c18 hf
            refine lv_iload hx hb dX11_trail_137 (lv_at hl 5 rfl) ?_
            refine lv_istore (lv' := [(5, .int v5), (8, .int j12), (0, .ref (o + 0)), (2, .int w2), (3, .int w3), (4, .int w4), (6, .int w6), (7, .int v7)]) hx hb dX11_trail_139 hl (by decide) rfl (fun ls hl => ?_)
            refine lv_iinc (v := (v7 + (-1))) (lv' := [(7, .int (v7 + (-1))), (5, .int v5), (8, .int j12), (0, .ref (o + 0)), (2, .int w2), (3, .int w3), (4, .int w4), (6, .int w6)]) hx hb dX11_trail_141 hl (k := 7) rfl rfl (by decide) rfl (fun ls hl => ?_)
            refine lv_goto (tgt := 70) hx hb dX11_trail_144 (by decide) ?_
            exact ih v5 (v7 + (-1)) q17.2 hf _ _ _ hS (lv_sub hl [3, 4, 5, 6, 1, 7, 0] rfl)
          · have hf := gIf_f c18 hf
            refine lv_iload hx hb dX11_trail_132 (lv_at hl 7 rfl) ?_
            refine lv_goto (tgt := 139) hx hb dX11_trail_134 (by decide) ?_
            refine lv_istore (lv' := [(5, .int v7), (8, .int j12), (0, .ref (o + 0)), (2, .int w2), (3, .int w3), (4, .int w4), (6, .int w6), (7, .int v7)]) hx hb dX11_trail_139 hl (by decide) rfl (fun ls hl => ?_)
            refine lv_iinc (v := (v7 + (-1))) (lv' := [(7, .int (v7 + (-1))), (5, .int v7), (8, .int j12), (0, .ref (o + 0)), (2, .int w2), (3, .int w3), (4, .int w4), (6, .int w6)]) hx hb dX11_trail_141 hl (k := 7) rfl rfl (by decide) rfl (fun ls hl => ?_)
            refine lv_goto (tgt := 70) hx hb dX11_trail_144 (by decide) ?_
            exact ih v7 (v7 + (-1)) q17.2 hf _ _ _ hS (lv_sub hl [3, 4, 5, 6, 1, 7, 0] rfl)
      clear hJ14
      obtain ⟨J20, hJ20, hf⟩ := gLet_some hf
      have wJ20 : ∀  (s19 : gS), J20  s19 = some q → ∀ (H : Heap) (locs : List Loc) (ls : Array Slot), gSt G (entM G o) o 9 s s19 H locs → lv_has ls 9 [(0, .ref (o + 0)), (2, .int w2), (3, .int w3), (4, .int w4), (5, .int v5), (6, .int w6), (7, .int v7)] → W p l e rmX11_trail s m args below meth c H locs 0 0 (MQ below (gQi G (entM G o) o 9 q) args s 0 0 (gA o 9)) (F0 m 100 ls []) := by
        intro  s19 hf H locs ls hS hl
        rw [hJ20] at hf
        refine lv_iconst (v := 0) hx hb dX11_trail_100 (by decide) ?_
        exact wJ14 0 s19 hf _ _ _ hS (lv_sub hl [0, 1, 2, 3, 4, 5, 6] rfl)
      clear hJ20
      refine lv_icmp_ne (tgt := 100) hx hb dX11_trail_82 (by decide) (fun c21 => ?_) (fun c21 => ?_)
      · have hf := gIf_f c21 hf
        exact wJ20  σ hf _ _ _ hS (lv_sub hl [0, 1, 2, 3, 4, 5, 6] rfl)
      · have hf := gIf_t c21 hf
        refine lv_aload_n hx hb dX11_trail_85 rfl (lv_at hl 0 rfl) ?_
        refine lv_iload hx hb dX11_trail_86 (lv_at hl 6 rfl) ?_
        refine lv_iload hx hb dX11_trail_88 (lv_at hl 3 rfl) ?_
        obtain ⟨q22, hq22, hf⟩ := Option.bind_eq_some_iff.mp hf
        refine g_Vi (cx := 0) (As := [.int v7, .int w4]) K hS lV_X11_116 (c_X11_isAt v7 w4 σ q22 hq22) ((eM_0 G o) _) (by decide) rfl rfl rfl (Nat.le_of_ble_eq_true rfl) ⟨⟨Nat.le_of_ble_eq_true rfl, Nat.le_of_ble_eq_true rfl⟩, rfl, rfl⟩ hl.1 ⟨Nat.zero_le _, Nat.zero_le _⟩ dX11_trail_90 (fun H locs hS => ?_)
        refine lv_if_eq (tgt := 100) hx hb dX11_trail_93 (by decide) (fun c23 => ?_) (fun c23 => ?_)
        · have hf := gIf_t c23 hf
          exact wJ20  q22.2 hf _ _ _ hS (lv_sub hl [0, 1, 2, 3, 4, 5, 6] rfl)
        · have hf := gIf_f c23 hf
          refine lv_iconst (v := 1) hx hb dX11_trail_96 (by decide) ?_
          refine lv_goto (tgt := 101) hx hb dX11_trail_97 (by decide) ?_
          exact wJ14 1 q22.2 hf _ _ _ hS (lv_sub hl [0, 1, 2, 3, 4, 5, 6] rfl)
set_option maxHeartbeats 4000000 in
set_option maxRecDepth 100000 in
theorem w_X11_trail_L46 (w2 : Int32) {q : Int32 × gS} (K : gK p s m args meth c G cX11_trail 9 RX11 (some .int)) : ∀ (n : Nat) (v3 : Int32) (v4 : Int32) (v5 : Int32) (v6 : Int32) (σ : gS), f_X11_trail_L46 w2 n v3 v4 v5 v6 σ = some q → ∀ (H : Heap) (locs : List Loc) (ls : Array Slot), gSt G (entM G o) o 9 s σ H locs → lv_has ls 9 [(0, .ref (o + 0)), (2, .int w2), (3, .int v3), (4, .int v4), (5, .int v5), (6, .int v6)] → W p l e rmX11_trail s m args below meth c H locs 0 0 (MQ below (gQi G (entM G o) o 9 q) args s 0 0 (gA o 9)) (F0 m 46 ls []) := by
  obtain ⟨hx, hb, hml, hown, hts, -⟩ := id K
  intro n
  induction n with
  | zero =>
    intro v3 v4 v5 v6 σ hf
    exact absurd (show (none : Option _) = some q from hf) (by simp)
  | succ n ih =>
    intro v3 v4 v5 v6 σ hf H locs ls hS hl
    rw [f_X11_trail_L46_s] at hf
    refine lv_iload hx hb dX11_trail_46 (lv_at hl 5 rfl) ?_
    refine lv_iload_n hx hb dX11_trail_48 rfl (lv_at hl 1 rfl) ?_
    refine lv_icmp_gt (tgt := 187) hx hb dX11_trail_49 (by decide) (fun c8 => ?_) (fun c8 => ?_)
    · have hf := gIf_t c8 hf
      refine lv_iload hx hb dX11_trail_187 (lv_at hl 4 rfl) ?_
      exact g_iret K hS hf dX11_trail_189
    · have hf := gIf_f c8 hf
      refine lv_iload_n hx hb dX11_trail_52 rfl (lv_at hl 2 rfl) ?_
      refine lv_if_eq (tgt := 187) hx hb dX11_trail_53 (by decide) (fun c9 => ?_) (fun c9 => ?_)
      · have hf := gIf_t c9 hf
        refine lv_iload hx hb dX11_trail_187 (lv_at hl 4 rfl) ?_
        exact g_iret K hS hf dX11_trail_189
      · have hf := gIf_f c9 hf
        refine lv_bipush (v := (-6)) hx hb dX11_trail_56 (by decide) ?_
        refine lv_istore (lv' := [(5, .int (-6)), (0, .ref (o + 0)), (2, .int w2), (3, .int v3), (4, .int v4), (6, .int v6)]) hx hb dX11_trail_58 hl (by decide) rfl (fun ls hl => ?_)
        refine lv_aload_n hx hb dX11_trail_60 rfl (lv_at hl 1 rfl) ?_
        refine g_get (cx := 0) K hS lF_X11_7 ((eM_0 G o) _) (by decide) rfl dX11_trail_61 ?_
        refine lv_iconst (v := 4) hx hb dX11_trail_64 (by decide) ?_
        refine g_iald (cx := 1) (j := 4) K hS (eM_1 G o) (by decide) (by decide) (by decide) dX11_trail_65 ?_
        refine lv_iconst (v := 1) hx hb dX11_trail_66 (by decide) ?_
        refine lv_isub hx hb dX11_trail_67 ?_
        obtain ⟨x10, hx10, hf⟩ := gLet_some hf
        refine g_top hx10 ?_
        refine lv_istore (lv' := [(7, .int x10), (5, .int (-6)), (0, .ref (o + 0)), (2, .int w2), (3, .int v3), (4, .int v4), (6, .int v6)]) hx hb dX11_trail_68 hl (by decide) rfl (fun ls hl => ?_)
        refine w_X11_trail_L70 w2 v3 v4 v6 _ K ?_ gFu (-6) x10 σ hf _ _ _ hS (lv_sub hl [2, 3, 4, 5, 1, 6, 0] rfl)
        · intro k24 s25 hf H locs ls hS hl
          refine lv_iload_n hx hb dX11_trail_147 rfl (lv_at hl 2 rfl) ?_
          refine lv_iconst (v := 1) hx hb dX11_trail_148 (by decide) ?_
          refine lv_iload hx hb dX11_trail_149 (lv_at hl 4 rfl) ?_
          refine lv_ishl hx hb dX11_trail_151 ?_
          refine lv_iconst (v := (-1)) hx hb dX11_trail_152 (by decide) ?_
          refine lv_ixor hx hb dX11_trail_153 ?_
          refine lv_iand hx hb dX11_trail_154 ?_
          obtain ⟨x26, hx26, hf⟩ := gLet_some hf
          refine g_top hx26 ?_
          refine lv_istore_n (lv' := [(3, .int x26), (0, .ref (o + 0)), (2, .int w2), (4, .int v4), (5, .int k24), (6, .int v6)]) hx hb dX11_trail_155 rfl hl (by decide) rfl (fun ls hl => ?_)
          refine lv_aload_n hx hb dX11_trail_156 rfl (lv_at hl 1 rfl) ?_
          refine lv_iload hx hb dX11_trail_157 (lv_at hl 4 rfl) ?_
          refine lv_iload hx hb dX11_trail_159 (lv_at hl 3 rfl) ?_
          obtain ⟨q27, hq27, hf⟩ := Option.bind_eq_some_iff.mp hf
          refine g_Vi (cx := 0) (As := [.int k24, .int v4]) K hS lV_X11_110 (c_X11_across k24 v4 s25 q27 hq27) ((eM_0 G o) _) (by decide) rfl rfl rfl (Nat.le_of_ble_eq_true rfl) ⟨⟨Nat.le_of_ble_eq_true rfl, Nat.le_of_ble_eq_true rfl⟩, rfl, rfl⟩ hl.1 ⟨Nat.zero_le _, Nat.zero_le _⟩ dX11_trail_161 (fun H locs hS => ?_)
          refine lv_istore (lv' := [(4, .int q27.1), (3, .int x26), (0, .ref (o + 0)), (2, .int w2), (5, .int k24), (6, .int v6)]) hx hb dX11_trail_164 hl (by decide) rfl (fun ls hl => ?_)
          refine lv_iload hx hb dX11_trail_166 (lv_at hl 5 rfl) ?_
          refine lv_iload_n hx hb dX11_trail_168 rfl (lv_at hl 3 rfl) ?_
          refine lv_icmp_ne (tgt := 177) hx hb dX11_trail_169 (by decide) (fun c28 => ?_) (fun c28 => ?_)
          · have hf := gIf_f c28 hf
            refine lv_bipush (v := (-6)) hx hb dX11_trail_177 (by decide) ?_
            refine lv_istore (lv' := [(5, .int (-6)), (4, .int q27.1), (3, .int x26), (0, .ref (o + 0)), (2, .int w2), (6, .int v6)]) hx hb dX11_trail_179 hl (by decide) rfl (fun ls hl => ?_)
            refine lv_iinc (v := (v6 + 1)) (lv' := [(6, .int (v6 + 1)), (5, .int (-6)), (4, .int q27.1), (3, .int x26), (0, .ref (o + 0)), (2, .int w2)]) hx hb dX11_trail_181 hl (k := 5) rfl rfl (by decide) rfl (fun ls hl => ?_)
            refine lv_goto (tgt := 46) hx hb dX11_trail_184 (by decide) ?_
            exact ih x26 q27.1 (-6) (v6 + 1) q27.2 hf _ _ _ hS (lv_sub hl [4, 5, 3, 2, 1, 0] rfl)
          · have hf := gIf_t c28 hf
            refine lv_iload hx hb dX11_trail_172 (lv_at hl 4 rfl) ?_
            refine lv_goto (tgt := 179) hx hb dX11_trail_174 (by decide) ?_
            refine lv_istore (lv' := [(5, .int k24), (4, .int q27.1), (3, .int x26), (0, .ref (o + 0)), (2, .int w2), (6, .int v6)]) hx hb dX11_trail_179 hl (by decide) rfl (fun ls hl => ?_)
            refine lv_iinc (v := (v6 + 1)) (lv' := [(6, .int (v6 + 1)), (5, .int k24), (4, .int q27.1), (3, .int x26), (0, .ref (o + 0)), (2, .int w2)]) hx hb dX11_trail_181 hl (k := 5) rfl rfl (by decide) rfl (fun ls hl => ?_)
            refine lv_goto (tgt := 46) hx hb dX11_trail_184 (by decide) ?_
            exact ih x26 q27.1 k24 (v6 + 1) q27.2 hf _ _ _ hS (lv_sub hl [4, 5, 3, 2, 1, 0] rfl)
set_option maxHeartbeats 4000000 in
set_option maxRecDepth 100000 in
theorem c_X11_trail (p0 : Int32) (p1 : Int32) (σ : gS) (q : Int32 × gS) (hf : f_X11_trail p0 p1 σ = some q) : Met l yX11_trail (gW yX11_trail cX11_trail 9 (some .int)) rmX11_trail (gPc G (entM G o) o 9 [.ref (o + 0), .int p0, .int p1] σ) (gQi G (entM G o) o 9 q) 0 0 (gA o 9) := by
  refine g_met (by decide) ⟨rfl, rfl⟩ (fun p e s m args below meth c ls K hS hl => ?_) (Nat.le_of_ble_eq_true rfl)
  have K : gK p s m args meth c G cX11_trail 9 RX11 (some .int) := K
  have hl : lv_has ls 9 [(0, .ref (o + 0)), (1, .int p0), (2, .int p1)] := hl
  obtain ⟨hx, hb, hml, hown, hts, -⟩ := id K
  unfold f_X11_trail at hf
  refine lv_iload_n hx hb dX11_trail_0 rfl (lv_at hl 1 rfl) ?_
  obtain ⟨q1, hq1, hf⟩ := Option.bind_eq_some_iff.mp hf
  refine g_Si (As := [.int p0]) K hS lS_X11_104 (c_X11_isGhost p0 σ q1 hq1) rfl rfl (Nat.le_of_ble_eq_true rfl) ⟨⟨Nat.le_of_ble_eq_true rfl, Nat.le_of_ble_eq_true rfl⟩, rfl, rfl⟩ hl.1 ⟨Nat.zero_le _, Nat.zero_le _⟩ dX11_trail_1 (fun H locs hS => ?_)
  refine lv_if_eq (tgt := 11) hx hb dX11_trail_4 (by decide) (fun c2 => ?_) (fun c2 => ?_)
  · have hf := gIf_t c2 hf
    refine lv_iconst (v := (-1)) hx hb dX11_trail_11 (by decide) ?_
    exact g_iret K hS hf dX11_trail_12
  · have hf := gIf_f c2 hf
    refine lv_iload_n hx hb dX11_trail_7 rfl (lv_at hl 2 rfl) ?_
    refine lv_if_ge (tgt := 13) hx hb dX11_trail_8 (by decide) (fun c3 => ?_) (fun c3 => ?_)
    · have hf := gIf_t c3 hf
      refine lv_aload_n hx hb dX11_trail_13 rfl (lv_at hl 0 rfl) ?_
      refine lv_iload_n hx hb dX11_trail_14 rfl (lv_at hl 1 rfl) ?_
      obtain ⟨q4, hq4, hf⟩ := Option.bind_eq_some_iff.mp hf
      refine g_Vi (cx := 0) (As := [.int p0]) K hS lV_X11_141 (c_X11_left p0 q1.2 q4 hq4) ((eM_0 G o) _) (by decide) rfl rfl rfl (Nat.le_of_ble_eq_true rfl) ⟨⟨Nat.le_of_ble_eq_true rfl, Nat.le_of_ble_eq_true rfl⟩, rfl, rfl⟩ hl.1 ⟨Nat.zero_le _, Nat.zero_le _⟩ dX11_trail_15 (fun H locs hS => ?_)
      refine lv_istore_n (lv' := [(3, .int q4.1), (0, .ref (o + 0)), (1, .int p0), (2, .int p1)]) hx hb dX11_trail_18 rfl hl (by decide) rfl (fun ls hl => ?_)
      refine lv_aload_n hx hb dX11_trail_19 rfl (lv_at hl 1 rfl) ?_
      refine lv_iload_n hx hb dX11_trail_20 rfl (lv_at hl 2 rfl) ?_
      obtain ⟨q5, hq5, hf⟩ := Option.bind_eq_some_iff.mp hf
      refine g_Vi (cx := 0) (As := [.int p0]) K hS lV_X11_107 (c_X11_roomOf p0 q4.2 q5 hq5) ((eM_0 G o) _) (by decide) rfl rfl rfl (Nat.le_of_ble_eq_true rfl) ⟨⟨Nat.le_of_ble_eq_true rfl, Nat.le_of_ble_eq_true rfl⟩, rfl, rfl⟩ hl.1 ⟨Nat.zero_le _, Nat.zero_le _⟩ dX11_trail_21 (fun H locs hS => ?_)
      refine lv_istore (lv' := [(4, .int q5.1), (3, .int q4.1), (0, .ref (o + 0)), (1, .int p0), (2, .int p1)]) hx hb dX11_trail_24 hl (by decide) rfl (fun ls hl => ?_)
      refine lv_aload_n hx hb dX11_trail_26 rfl (lv_at hl 2 rfl) ?_
      refine lv_iload hx hb dX11_trail_27 (lv_at hl 0 rfl) ?_
      refine lv_iload_n hx hb dX11_trail_29 rfl (lv_at hl 1 rfl) ?_
      obtain ⟨q6, hq6, hf⟩ := Option.bind_eq_some_iff.mp hf
      refine g_Vi (cx := 0) (As := [.int q5.1, .int q4.1]) K hS lV_X11_144 (c_X11_whyNot q5.1 q4.1 q5.2 q6 hq6) ((eM_0 G o) _) (by decide) rfl rfl rfl (Nat.le_of_ble_eq_true rfl) ⟨⟨Nat.le_of_ble_eq_true rfl, Nat.le_of_ble_eq_true rfl⟩, rfl, rfl⟩ hl.1 ⟨Nat.zero_le _, Nat.zero_le _⟩ dX11_trail_30 (fun H locs hS => ?_)
      refine lv_if_eq (tgt := 39) hx hb dX11_trail_33 (by decide) (fun c7 => ?_) (fun c7 => ?_)
      · have hf := gIf_t c7 hf
        refine lv_bipush (v := (-6)) hx hb dX11_trail_39 (by decide) ?_
        refine lv_istore (lv' := [(5, .int (-6)), (4, .int q5.1), (3, .int q4.1), (0, .ref (o + 0)), (1, .int p0), (2, .int p1)]) hx hb dX11_trail_41 hl (by decide) rfl (fun ls hl => ?_)
        refine lv_iconst (v := 0) hx hb dX11_trail_43 (by decide) ?_
        refine lv_istore (lv' := [(6, .int 0), (5, .int (-6)), (4, .int q5.1), (3, .int q4.1), (0, .ref (o + 0)), (1, .int p0), (2, .int p1)]) hx hb dX11_trail_44 hl (by decide) rfl (fun ls hl => ?_)
        refine w_X11_trail_L46 p1 K gFu q4.1 q5.1 (-6) 0 q6.2 hf _ _ _ hS (lv_sub hl [4, 6, 3, 2, 1, 0] rfl)
      · have hf := gIf_f c7 hf
        refine lv_bipush (v := (-5)) hx hb dX11_trail_36 (by decide) ?_
        exact g_iret K hS hf dX11_trail_38
    · have hf := gIf_f c3 hf
      refine lv_iconst (v := (-1)) hx hb dX11_trail_11 (by decide) ?_
      exact g_iret K hS hf dX11_trail_12
abbrev rmX11_pairs : Room := { frames := 3, cells := 0, slots := 0, locals := 74 }
def f_X11_pairs_L23 (w1 : Int32) (w3 : Int32) (w4 : Int32) (K46 : Int32 → gS → Option (Int32 × gS)) : Nat → Int32 → Int32 → gS → Option (Int32 × gS)
  | 0, _, _, _ => none
  | n + 1, v2, v5, σ => if 10 ≤ v5 then (K46 v2 σ) else (gLet (v2 + ((w4 >>> (v5 &&& 31)) &&& 1)) (fun x4 => f_X11_pairs_L23 w1 w3 w4 K46 n x4 (v5 + 1) σ))
theorem f_X11_pairs_L23_s (w1 : Int32) (w3 : Int32) (w4 : Int32) (K46 : Int32 → gS → Option (Int32 × gS)) (n : Nat) (v2 : Int32) (v5 : Int32) (σ : gS) : f_X11_pairs_L23 w1 w3 w4 K46 (n + 1) v2 v5 σ = (if 10 ≤ v5 then (K46 v2 σ) else (gLet (v2 + ((w4 >>> (v5 &&& 31)) &&& 1)) (fun x4 => f_X11_pairs_L23 w1 w3 w4 K46 n x4 (v5 + 1) σ))) := rfl
def f_X11_pairs_L4 (w1 : Int32) : Nat → Int32 → Int32 → gS → Option (Int32 × gS)
  | 0, _, _, _ => none
  | n + 1, v2, v3, σ => if 10 ≤ v3 then (some (v2, σ)) else (Option.bind (f_X11_reached v3 w1 σ) (fun q2 => f_X11_pairs_L23 w1 v3 q2.1 (fun (k5 : Int32) (s6 : gS) => f_X11_pairs_L4 w1 n k5 (v3 + 1) s6) gFu v2 (v3 + 1) q2.2))
theorem f_X11_pairs_L4_s (w1 : Int32) (n : Nat) (v2 : Int32) (v3 : Int32) (σ : gS) : f_X11_pairs_L4 w1 (n + 1) v2 v3 σ = (if 10 ≤ v3 then (some (v2, σ)) else (Option.bind (f_X11_reached v3 w1 σ) (fun q2 => f_X11_pairs_L23 w1 v3 q2.1 (fun (k5 : Int32) (s6 : gS) => f_X11_pairs_L4 w1 n k5 (v3 + 1) s6) gFu v2 (v3 + 1) q2.2))) := rfl
def f_X11_pairs (p0 : Int32) (σ : gS) : Option (Int32 × gS) := f_X11_pairs_L4 p0 gFu 0 0 σ
set_option maxHeartbeats 4000000 in
set_option maxRecDepth 100000 in
theorem w_X11_pairs_L23 (w1 : Int32) (w3 : Int32) (w4 : Int32) (K46 : Int32 → gS → Option (Int32 × gS)) {q : Int32 × gS} (K : gK p s m args meth c G cX11_pairs 6 RX11 (some .int)) (hK46 : ∀ (k2 : Int32) (σ : gS), K46 k2 σ = some q → ∀ (H : Heap) (locs : List Loc) (ls : Array Slot), gSt G (entM G o) o 9 s σ H locs → lv_has ls 6 [(0, .ref (o + 0)), (1, .int w1), (2, .int k2), (3, .int w3)] → W p l e rmX11_pairs s m args below meth c H locs 0 0 (MQ below (gQi G (entM G o) o 9 q) args s 0 0 (gA o 9)) (F0 m 46 ls [])) : ∀ (n : Nat) (v2 : Int32) (v5 : Int32) (σ : gS), f_X11_pairs_L23 w1 w3 w4 K46 n v2 v5 σ = some q → ∀ (H : Heap) (locs : List Loc) (ls : Array Slot), gSt G (entM G o) o 9 s σ H locs → lv_has ls 6 [(0, .ref (o + 0)), (1, .int w1), (2, .int v2), (3, .int w3), (4, .int w4), (5, .int v5)] → W p l e rmX11_pairs s m args below meth c H locs 0 0 (MQ below (gQi G (entM G o) o 9 q) args s 0 0 (gA o 9)) (F0 m 23 ls []) := by
  obtain ⟨hx, hb, hml, hown, hts, -⟩ := id K
  intro n
  induction n with
  | zero =>
    intro v2 v5 σ hf
    exact absurd (show (none : Option _) = some q from hf) (by simp)
  | succ n ih =>
    intro v2 v5 σ hf H locs ls hS hl
    rw [f_X11_pairs_L23_s] at hf
    refine lv_iload hx hb dX11_pairs_23 (lv_at hl 5 rfl) ?_
    refine lv_bipush (v := 10) hx hb dX11_pairs_25 (by decide) ?_
    refine lv_icmp_ge (tgt := 46) hx hb dX11_pairs_27 (by decide) (fun c3 => ?_) (fun c3 => ?_)
    · have hf := gIf_t c3 hf
      exact hK46 v2 σ hf _ _ _ hS (lv_sub hl [0, 1, 2, 3] rfl)
    · have hf := gIf_f c3 hf
      refine lv_iload_n hx hb dX11_pairs_30 rfl (lv_at hl 2 rfl) ?_
      refine lv_iload hx hb dX11_pairs_31 (lv_at hl 4 rfl) ?_
      refine lv_iload hx hb dX11_pairs_33 (lv_at hl 5 rfl) ?_
      refine lv_ishr hx hb dX11_pairs_35 ?_
      refine lv_iconst (v := 1) hx hb dX11_pairs_36 (by decide) ?_
      refine lv_iand hx hb dX11_pairs_37 ?_
      refine lv_iadd hx hb dX11_pairs_38 ?_
      obtain ⟨x4, hx4, hf⟩ := gLet_some hf
      refine g_top hx4 ?_
      refine lv_istore_n (lv' := [(2, .int x4), (0, .ref (o + 0)), (1, .int w1), (3, .int w3), (4, .int w4), (5, .int v5)]) hx hb dX11_pairs_39 rfl hl (by decide) rfl (fun ls hl => ?_)
      refine lv_iinc (v := (v5 + 1)) (lv' := [(5, .int (v5 + 1)), (2, .int x4), (0, .ref (o + 0)), (1, .int w1), (3, .int w3), (4, .int w4)]) hx hb dX11_pairs_40 hl (k := 5) rfl rfl (by decide) rfl (fun ls hl => ?_)
      refine lv_goto (tgt := 23) hx hb dX11_pairs_43 (by decide) ?_
      exact ih x4 (v5 + 1) σ hf _ _ _ hS (lv_sub hl [2, 3, 1, 4, 5, 0] rfl)
set_option maxHeartbeats 4000000 in
set_option maxRecDepth 100000 in
theorem w_X11_pairs_L4 (w1 : Int32) {q : Int32 × gS} (K : gK p s m args meth c G cX11_pairs 6 RX11 (some .int)) : ∀ (n : Nat) (v2 : Int32) (v3 : Int32) (σ : gS), f_X11_pairs_L4 w1 n v2 v3 σ = some q → ∀ (H : Heap) (locs : List Loc) (ls : Array Slot), gSt G (entM G o) o 9 s σ H locs → lv_has ls 6 [(0, .ref (o + 0)), (1, .int w1), (2, .int v2), (3, .int v3)] → W p l e rmX11_pairs s m args below meth c H locs 0 0 (MQ below (gQi G (entM G o) o 9 q) args s 0 0 (gA o 9)) (F0 m 4 ls []) := by
  obtain ⟨hx, hb, hml, hown, hts, -⟩ := id K
  intro n
  induction n with
  | zero =>
    intro v2 v3 σ hf
    exact absurd (show (none : Option _) = some q from hf) (by simp)
  | succ n ih =>
    intro v2 v3 σ hf H locs ls hS hl
    rw [f_X11_pairs_L4_s] at hf
    refine lv_iload_n hx hb dX11_pairs_4 rfl (lv_at hl 3 rfl) ?_
    refine lv_bipush (v := 10) hx hb dX11_pairs_5 (by decide) ?_
    refine lv_icmp_ge (tgt := 52) hx hb dX11_pairs_7 (by decide) (fun c1 => ?_) (fun c1 => ?_)
    · have hf := gIf_t c1 hf
      refine lv_iload_n hx hb dX11_pairs_52 rfl (lv_at hl 2 rfl) ?_
      exact g_iret K hS hf dX11_pairs_53
    · have hf := gIf_f c1 hf
      refine lv_aload_n hx hb dX11_pairs_10 rfl (lv_at hl 0 rfl) ?_
      refine lv_iload_n hx hb dX11_pairs_11 rfl (lv_at hl 3 rfl) ?_
      refine lv_iload_n hx hb dX11_pairs_12 rfl (lv_at hl 1 rfl) ?_
      obtain ⟨q2, hq2, hf⟩ := Option.bind_eq_some_iff.mp hf
      refine g_Vi (cx := 0) (As := [.int v3, .int w1]) K hS lV_X11_135 (c_X11_reached v3 w1 σ q2 hq2) ((eM_0 G o) _) (by decide) rfl rfl rfl (Nat.le_of_ble_eq_true rfl) ⟨⟨Nat.le_of_ble_eq_true rfl, Nat.le_of_ble_eq_true rfl⟩, rfl, rfl⟩ hl.1 ⟨Nat.zero_le _, Nat.zero_le _⟩ dX11_pairs_13 (fun H locs hS => ?_)
      refine lv_istore (lv' := [(4, .int q2.1), (0, .ref (o + 0)), (1, .int w1), (2, .int v2), (3, .int v3)]) hx hb dX11_pairs_16 hl (by decide) rfl (fun ls hl => ?_)
      refine lv_iload_n hx hb dX11_pairs_18 rfl (lv_at hl 4 rfl) ?_
      refine lv_iconst (v := 1) hx hb dX11_pairs_19 (by decide) ?_
      refine lv_iadd hx hb dX11_pairs_20 ?_
      refine lv_istore (lv' := [(5, .int (v3 + 1)), (4, .int q2.1), (0, .ref (o + 0)), (1, .int w1), (2, .int v2), (3, .int v3)]) hx hb dX11_pairs_21 hl (by decide) rfl (fun ls hl => ?_)
      refine w_X11_pairs_L23 w1 v3 q2.1 _ K ?_ gFu v2 (v3 + 1) q2.2 hf _ _ _ hS (lv_sub hl [2, 3, 4, 5, 1, 0] rfl)
      · intro k5 s6 hf H locs ls hS hl
        refine lv_iinc (v := (v3 + 1)) (lv' := [(3, .int (v3 + 1)), (0, .ref (o + 0)), (1, .int w1), (2, .int k5)]) hx hb dX11_pairs_46 hl (k := 3) rfl rfl (by decide) rfl (fun ls hl => ?_)
        refine lv_goto (tgt := 4) hx hb dX11_pairs_49 (by decide) ?_
        exact ih k5 (v3 + 1) s6 hf _ _ _ hS (lv_sub hl [1, 2, 3, 0] rfl)
set_option maxHeartbeats 4000000 in
set_option maxRecDepth 100000 in
theorem c_X11_pairs (p0 : Int32) (σ : gS) (q : Int32 × gS) (hf : f_X11_pairs p0 σ = some q) : Met l yX11_pairs (gW yX11_pairs cX11_pairs 6 (some .int)) rmX11_pairs (gPc G (entM G o) o 9 [.ref (o + 0), .int p0] σ) (gQi G (entM G o) o 9 q) 0 0 (gA o 9) := by
  refine g_met (by decide) ⟨rfl, rfl⟩ (fun p e s m args below meth c ls K hS hl => ?_) (Nat.le_of_ble_eq_true rfl)
  have K : gK p s m args meth c G cX11_pairs 6 RX11 (some .int) := K
  have hl : lv_has ls 6 [(0, .ref (o + 0)), (1, .int p0)] := hl
  obtain ⟨hx, hb, hml, hown, hts, -⟩ := id K
  unfold f_X11_pairs at hf
  refine lv_iconst (v := 0) hx hb dX11_pairs_0 (by decide) ?_
  refine lv_istore_n (lv' := [(2, .int 0), (0, .ref (o + 0)), (1, .int p0)]) hx hb dX11_pairs_1 rfl hl (by decide) rfl (fun ls hl => ?_)
  refine lv_iconst (v := 0) hx hb dX11_pairs_2 (by decide) ?_
  refine lv_istore_n (lv' := [(3, .int 0), (2, .int 0), (0, .ref (o + 0)), (1, .int p0)]) hx hb dX11_pairs_3 rfl hl (by decide) rfl (fun ls hl => ?_)
  refine w_X11_pairs_L4 p0 K gFu 0 0 σ hf _ _ _ hS (lv_sub hl [2, 3, 1, 0] rfl)
abbrev rmX11_worstGap : Room := { frames := 4, cells := 0, slots := 0, locals := 99 }
def f_X11_worstGap_L30 (w1 : Int32) (w2 : Int32) (K96 : Int32 → Int32 → gS → Option (Int32 × gS)) : Nat → Int32 → Int32 → Int32 → gS → Option (Int32 × gS)
  | 0, _, _, _, _ => none
  | n + 1, v3, v4, v5, σ => if (σ 1 4) ≤ v5 then (K96 v3 v4 σ) else (Option.bind (f_X11_all σ) (fun q6 => Option.bind (f_X11_pairs (q6.1 &&& ((1 <<< (v5 &&& 31)) ^^^ (-1))) q6.2) (fun q7 => gLet (w2 - q7.1) (fun x8 => gLet (fun (j9 : Int32) (s10 : gS) => if x8 ≤ v4 then (f_X11_worstGap_L30 w1 w2 K96 n j9 v4 (v5 + 1) s10) else (f_X11_worstGap_L30 w1 w2 K96 n j9 x8 (v5 + 1) s10)) (fun J11 => if x8 ≤ v4 then (J11 v3 q7.2) else (J11 v5 q7.2))))))
theorem f_X11_worstGap_L30_s (w1 : Int32) (w2 : Int32) (K96 : Int32 → Int32 → gS → Option (Int32 × gS)) (n : Nat) (v3 : Int32) (v4 : Int32) (v5 : Int32) (σ : gS) : f_X11_worstGap_L30 w1 w2 K96 (n + 1) v3 v4 v5 σ = (if (σ 1 4) ≤ v5 then (K96 v3 v4 σ) else (Option.bind (f_X11_all σ) (fun q6 => Option.bind (f_X11_pairs (q6.1 &&& ((1 <<< (v5 &&& 31)) ^^^ (-1))) q6.2) (fun q7 => gLet (w2 - q7.1) (fun x8 => gLet (fun (j9 : Int32) (s10 : gS) => if x8 ≤ v4 then (f_X11_worstGap_L30 w1 w2 K96 n j9 v4 (v5 + 1) s10) else (f_X11_worstGap_L30 w1 w2 K96 n j9 x8 (v5 + 1) s10)) (fun J11 => if x8 ≤ v4 then (J11 v3 q7.2) else (J11 v5 q7.2))))))) := rfl
def f_X11_worstGap (p0 : Int32) (σ : gS) : Option (Int32 × gS) := Option.bind (f_X11_in p0 0 1 σ) (fun q1 => if q1.1 = 0 then (some ((-2), q1.2)) else (Option.bind (f_X11_all q1.2) (fun q3 => Option.bind (f_X11_pairs q3.1 q3.2) (fun q4 => f_X11_worstGap_L30 p0 q4.1 (fun (k14 : Int32) (k15 : Int32) (s16 : gS) => if k14 = (-6) then (some ((-6), s16)) else (if p0 = 0 then (some (k14, s16)) else (some (k15, s16)))) gFu (-6) 0 0 q4.2))))
set_option maxHeartbeats 4000000 in
set_option maxRecDepth 100000 in
theorem w_X11_worstGap_L30 (w1 : Int32) (w2 : Int32) (K96 : Int32 → Int32 → gS → Option (Int32 × gS)) {q : Int32 × gS} (K : gK p s m args meth c G cX11_worstGap 7 RX11 (some .int)) (hK96 : ∀ (k3 : Int32) (k4 : Int32) (σ : gS), K96 k3 k4 σ = some q → ∀ (H : Heap) (locs : List Loc) (ls : Array Slot), gSt G (entM G o) o 9 s σ H locs → lv_has ls 7 [(1, .int w1), (3, .int k3), (4, .int k4)] → W p l e rmX11_worstGap s m args below meth c H locs 0 0 (MQ below (gQi G (entM G o) o 9 q) args s 0 0 (gA o 9)) (F0 m 96 ls [])) : ∀ (n : Nat) (v3 : Int32) (v4 : Int32) (v5 : Int32) (σ : gS), f_X11_worstGap_L30 w1 w2 K96 n v3 v4 v5 σ = some q → ∀ (H : Heap) (locs : List Loc) (ls : Array Slot), gSt G (entM G o) o 9 s σ H locs → lv_has ls 7 [(0, .ref (o + 0)), (1, .int w1), (2, .int w2), (3, .int v3), (4, .int v4), (5, .int v5)] → W p l e rmX11_worstGap s m args below meth c H locs 0 0 (MQ below (gQi G (entM G o) o 9 q) args s 0 0 (gA o 9)) (F0 m 30 ls []) := by
  obtain ⟨hx, hb, hml, hown, hts, -⟩ := id K
  intro n
  induction n with
  | zero =>
    intro v3 v4 v5 σ hf
    exact absurd (show (none : Option _) = some q from hf) (by simp)
  | succ n ih =>
    intro v3 v4 v5 σ hf H locs ls hS hl
    rw [f_X11_worstGap_L30_s] at hf
    refine lv_iload hx hb dX11_worstGap_30 (lv_at hl 5 rfl) ?_
    refine lv_aload_n hx hb dX11_worstGap_32 rfl (lv_at hl 0 rfl) ?_
    refine g_get (cx := 0) K hS lF_X11_7 ((eM_0 G o) _) (by decide) rfl dX11_worstGap_33 ?_
    refine lv_iconst (v := 4) hx hb dX11_worstGap_36 (by decide) ?_
    refine g_iald (cx := 1) (j := 4) K hS (eM_1 G o) (by decide) (by decide) (by decide) dX11_worstGap_37 ?_
    refine lv_icmp_ge (tgt := 96) hx hb dX11_worstGap_38 (by decide) (fun c5 => ?_) (fun c5 => ?_)
    · have hf := gIf_t c5 hf
      exact hK96 v3 v4 σ hf _ _ _ hS (lv_sub hl [1, 3, 4] rfl)
    · have hf := gIf_f c5 hf
      refine lv_iload_n hx hb dX11_worstGap_41 rfl (lv_at hl 2 rfl) ?_
      refine lv_aload_n hx hb dX11_worstGap_42 rfl (lv_at hl 0 rfl) ?_
      refine lv_aload_n hx hb dX11_worstGap_43 rfl (lv_at hl 0 rfl) ?_
      obtain ⟨q6, hq6, hf⟩ := Option.bind_eq_some_iff.mp hf
      refine g_Vi (cx := 0) (As := []) K hS lV_X11_69 (c_X11_all σ q6 hq6) ((eM_0 G o) _) (by decide) rfl rfl rfl (Nat.le_of_ble_eq_true rfl) ⟨⟨Nat.le_of_ble_eq_true rfl, Nat.le_of_ble_eq_true rfl⟩, rfl, rfl⟩ hl.1 ⟨Nat.zero_le _, Nat.zero_le _⟩ dX11_worstGap_44 (fun H locs hS => ?_)
      refine lv_iconst (v := 1) hx hb dX11_worstGap_47 (by decide) ?_
      refine lv_iload hx hb dX11_worstGap_48 (lv_at hl 5 rfl) ?_
      refine lv_ishl hx hb dX11_worstGap_50 ?_
      refine lv_iconst (v := (-1)) hx hb dX11_worstGap_51 (by decide) ?_
      refine lv_ixor hx hb dX11_worstGap_52 ?_
      refine lv_iand hx hb dX11_worstGap_53 ?_
      obtain ⟨q7, hq7, hf⟩ := Option.bind_eq_some_iff.mp hf
      refine g_Vi (cx := 0) (As := [.int (q6.1 &&& ((1 <<< (v5 &&& 31)) ^^^ (-1)))]) K hS lV_X11_147 (c_X11_pairs (q6.1 &&& ((1 <<< (v5 &&& 31)) ^^^ (-1))) q6.2 q7 hq7) ((eM_0 G o) _) (by decide) rfl rfl rfl (Nat.le_of_ble_eq_true rfl) ⟨⟨Nat.le_of_ble_eq_true rfl, Nat.le_of_ble_eq_true rfl⟩, rfl, rfl⟩ hl.1 ⟨Nat.zero_le _, Nat.zero_le _⟩ dX11_worstGap_54 (fun H locs hS => ?_)
      refine lv_isub hx hb dX11_worstGap_57 ?_
      obtain ⟨x8, hx8, hf⟩ := gLet_some hf
      refine g_top hx8 ?_
      refine lv_istore (lv' := [(6, .int x8), (0, .ref (o + 0)), (1, .int w1), (2, .int w2), (3, .int v3), (4, .int v4), (5, .int v5)]) hx hb dX11_worstGap_58 hl (by decide) rfl (fun ls hl => ?_)
      refine lv_iload hx hb dX11_worstGap_60 (lv_at hl 0 rfl) ?_
      refine lv_iload hx hb dX11_worstGap_62 (lv_at hl 5 rfl) ?_
      obtain ⟨J11, hJ11, hf⟩ := gLet_some hf
      have wJ11 : ∀ (j9 : Int32) (s10 : gS), J11 j9 s10 = some q → ∀ (H : Heap) (locs : List Loc) (ls : Array Slot), gSt G (entM G o) o 9 s s10 H locs → lv_has ls 7 [(0, .ref (o + 0)), (1, .int w1), (2, .int w2), (4, .int v4), (5, .int v5), (6, .int x8)] → W p l e rmX11_worstGap s m args below meth c H locs 0 0 (MQ below (gQi G (entM G o) o 9 q) args s 0 0 (gA o 9)) (F0 m 73 ls [.int j9]) := by
        intro j9 s10 hf H locs ls hS hl
        rw [hJ11] at hf
        refine lv_istore_n (lv' := [(3, .int j9), (0, .ref (o + 0)), (1, .int w1), (2, .int w2), (4, .int v4), (5, .int v5), (6, .int x8)]) hx hb dX11_worstGap_73 rfl hl (by decide) rfl (fun ls hl => ?_)
        refine lv_iload hx hb dX11_worstGap_74 (lv_at hl 6 rfl) ?_
        refine lv_iload hx hb dX11_worstGap_76 (lv_at hl 4 rfl) ?_
        refine lv_icmp_le (tgt := 86) hx hb dX11_worstGap_78 (by decide) (fun c12 => ?_) (fun c12 => ?_)
        · have hf := gIf_t c12 hf
          refine lv_iload hx hb dX11_worstGap_86 (lv_at hl 4 rfl) ?_
          refine lv_istore (lv' := [(4, .int v4), (3, .int j9), (0, .ref (o + 0)), (1, .int w1), (2, .int w2), (5, .int v5), (6, .int x8)]) hx hb dX11_worstGap_88 hl (by decide) rfl (fun ls hl => ?_)
          refine lv_iinc (v := (v5 + 1)) (lv' := [(5, .int (v5 + 1)), (4, .int v4), (3, .int j9), (0, .ref (o + 0)), (1, .int w1), (2, .int w2), (6, .int x8)]) hx hb dX11_worstGap_90 hl (k := 5) rfl rfl (by decide) rfl (fun ls hl => ?_)
          refine lv_goto (tgt := 30) hx hb dX11_worstGap_93 (by decide) ?_
          exact ih j9 v4 (v5 + 1) s10 hf _ _ _ hS (lv_sub hl [3, 4, 5, 2, 1, 0] rfl)
        · have hf := gIf_f c12 hf
          refine lv_iload hx hb dX11_worstGap_81 (lv_at hl 6 rfl) ?_
          refine lv_goto (tgt := 88) hx hb dX11_worstGap_83 (by decide) ?_
          refine lv_istore (lv' := [(4, .int x8), (3, .int j9), (0, .ref (o + 0)), (1, .int w1), (2, .int w2), (5, .int v5), (6, .int x8)]) hx hb dX11_worstGap_88 hl (by decide) rfl (fun ls hl => ?_)
          refine lv_iinc (v := (v5 + 1)) (lv' := [(5, .int (v5 + 1)), (4, .int x8), (3, .int j9), (0, .ref (o + 0)), (1, .int w1), (2, .int w2), (6, .int x8)]) hx hb dX11_worstGap_90 hl (k := 5) rfl rfl (by decide) rfl (fun ls hl => ?_)
          refine lv_goto (tgt := 30) hx hb dX11_worstGap_93 (by decide) ?_
          exact ih j9 x8 (v5 + 1) s10 hf _ _ _ hS (lv_sub hl [3, 4, 5, 2, 1, 0] rfl)
      clear hJ11
      refine lv_icmp_le (tgt := 72) hx hb dX11_worstGap_64 (by decide) (fun c13 => ?_) (fun c13 => ?_)
      · have hf := gIf_t c13 hf
        refine lv_iload_n hx hb dX11_worstGap_72 rfl (lv_at hl 4 rfl) ?_
        exact wJ11 v3 q7.2 hf _ _ _ hS (lv_sub hl [1, 2, 3, 5, 6, 0] rfl)
      · have hf := gIf_f c13 hf
        refine lv_iload hx hb dX11_worstGap_67 (lv_at hl 6 rfl) ?_
        refine lv_goto (tgt := 73) hx hb dX11_worstGap_69 (by decide) ?_
        exact wJ11 v5 q7.2 hf _ _ _ hS (lv_sub hl [1, 2, 3, 5, 6, 0] rfl)
set_option maxHeartbeats 4000000 in
set_option maxRecDepth 100000 in
theorem c_X11_worstGap (p0 : Int32) (σ : gS) (q : Int32 × gS) (hf : f_X11_worstGap p0 σ = some q) : Met l yX11_worstGap (gW yX11_worstGap cX11_worstGap 7 (some .int)) rmX11_worstGap (gPc G (entM G o) o 9 [.ref (o + 0), .int p0] σ) (gQi G (entM G o) o 9 q) 0 0 (gA o 9) := by
  refine g_met (by decide) ⟨rfl, rfl⟩ (fun p e s m args below meth c ls K hS hl => ?_) (Nat.le_of_ble_eq_true rfl)
  have K : gK p s m args meth c G cX11_worstGap 7 RX11 (some .int) := K
  have hl : lv_has ls 7 [(0, .ref (o + 0)), (1, .int p0)] := hl
  obtain ⟨hx, hb, hml, hown, hts, -⟩ := id K
  unfold f_X11_worstGap at hf
  refine lv_iload_n hx hb dX11_worstGap_0 rfl (lv_at hl 1 rfl) ?_
  refine lv_iconst (v := 0) hx hb dX11_worstGap_1 (by decide) ?_
  refine lv_iconst (v := 1) hx hb dX11_worstGap_2 (by decide) ?_
  obtain ⟨q1, hq1, hf⟩ := Option.bind_eq_some_iff.mp hf
  refine g_Si (As := [.int p0, .int 0, .int 1]) K hS lS_X11_36 (c_X11_in p0 0 1 σ q1 hq1) rfl rfl (Nat.le_of_ble_eq_true rfl) ⟨⟨Nat.le_of_ble_eq_true rfl, Nat.le_of_ble_eq_true rfl⟩, rfl, rfl⟩ hl.1 ⟨Nat.zero_le _, Nat.zero_le _⟩ dX11_worstGap_3 (fun H locs hS => ?_)
  refine lv_if_ne (tgt := 12) hx hb dX11_worstGap_6 (by decide) (fun c2 => ?_) (fun c2 => ?_)
  · have hf := gIf_f c2 hf
    refine lv_aload_n hx hb dX11_worstGap_12 rfl (lv_at hl 0 rfl) ?_
    refine lv_aload_n hx hb dX11_worstGap_13 rfl (lv_at hl 0 rfl) ?_
    obtain ⟨q3, hq3, hf⟩ := Option.bind_eq_some_iff.mp hf
    refine g_Vi (cx := 0) (As := []) K hS lV_X11_69 (c_X11_all q1.2 q3 hq3) ((eM_0 G o) _) (by decide) rfl rfl rfl (Nat.le_of_ble_eq_true rfl) ⟨⟨Nat.le_of_ble_eq_true rfl, Nat.le_of_ble_eq_true rfl⟩, rfl, rfl⟩ hl.1 ⟨Nat.zero_le _, Nat.zero_le _⟩ dX11_worstGap_14 (fun H locs hS => ?_)
    obtain ⟨q4, hq4, hf⟩ := Option.bind_eq_some_iff.mp hf
    refine g_Vi (cx := 0) (As := [.int q3.1]) K hS lV_X11_147 (c_X11_pairs q3.1 q3.2 q4 hq4) ((eM_0 G o) _) (by decide) rfl rfl rfl (Nat.le_of_ble_eq_true rfl) ⟨⟨Nat.le_of_ble_eq_true rfl, Nat.le_of_ble_eq_true rfl⟩, rfl, rfl⟩ hl.1 ⟨Nat.zero_le _, Nat.zero_le _⟩ dX11_worstGap_17 (fun H locs hS => ?_)
    refine lv_istore_n (lv' := [(2, .int q4.1), (0, .ref (o + 0)), (1, .int p0)]) hx hb dX11_worstGap_20 rfl hl (by decide) rfl (fun ls hl => ?_)
    refine lv_bipush (v := (-6)) hx hb dX11_worstGap_21 (by decide) ?_
    refine lv_istore_n (lv' := [(3, .int (-6)), (2, .int q4.1), (0, .ref (o + 0)), (1, .int p0)]) hx hb dX11_worstGap_23 rfl hl (by decide) rfl (fun ls hl => ?_)
    refine lv_iconst (v := 0) hx hb dX11_worstGap_24 (by decide) ?_
    refine lv_istore (lv' := [(4, .int 0), (3, .int (-6)), (2, .int q4.1), (0, .ref (o + 0)), (1, .int p0)]) hx hb dX11_worstGap_25 hl (by decide) rfl (fun ls hl => ?_)
    refine lv_iconst (v := 0) hx hb dX11_worstGap_27 (by decide) ?_
    refine lv_istore (lv' := [(5, .int 0), (4, .int 0), (3, .int (-6)), (2, .int q4.1), (0, .ref (o + 0)), (1, .int p0)]) hx hb dX11_worstGap_28 hl (by decide) rfl (fun ls hl => ?_)
    refine w_X11_worstGap_L30 p0 q4.1 _ K ?_ gFu (-6) 0 0 q4.2 hf _ _ _ hS (lv_sub hl [4, 5, 3, 2, 1, 0] rfl)
    · intro k14 k15 s16 hf H locs ls hS hl
      refine lv_iload_n hx hb dX11_worstGap_96 rfl (lv_at hl 1 rfl) ?_
      refine lv_bipush (v := (-6)) hx hb dX11_worstGap_97 (by decide) ?_
      refine lv_icmp_ne (tgt := 107) hx hb dX11_worstGap_99 (by decide) (fun c17 => ?_) (fun c17 => ?_)
      · have hf := gIf_f c17 hf
        refine lv_iload_n hx hb dX11_worstGap_107 rfl (lv_at hl 0 rfl) ?_
        refine lv_if_ne (tgt := 115) hx hb dX11_worstGap_108 (by decide) (fun c18 => ?_) (fun c18 => ?_)
        · have hf := gIf_f c18 hf
          refine lv_iload hx hb dX11_worstGap_115 (lv_at hl 2 rfl) ?_
          exact g_iret K hS hf dX11_worstGap_117
        · have hf := gIf_t c18 hf
          refine lv_iload_n hx hb dX11_worstGap_111 rfl (lv_at hl 1 rfl) ?_
          refine lv_goto (tgt := 117) hx hb dX11_worstGap_112 (by decide) ?_
          exact g_iret K hS hf dX11_worstGap_117
      · have hf := gIf_t c17 hf
        refine lv_bipush (v := (-6)) hx hb dX11_worstGap_102 (by decide) ?_
        refine lv_goto (tgt := 117) hx hb dX11_worstGap_104 (by decide) ?_
        exact g_iret K hS hf dX11_worstGap_117
  · have hf := gIf_t c2 hf
    refine lv_bipush (v := (-2)) hx hb dX11_worstGap_9 (by decide) ?_
    exact g_iret K hS hf dX11_worstGap_11
abbrev rmX11_crossers : Room := { frames := 3, cells := 0, slots := 0, locals := 67 }
def f_X11_crossers_L5 (w1 : Int32) (w2 : Int32) : Nat → Int32 → Int32 → gS → Option (Int32 × gS)
  | 0, _, _, _ => none
  | n + 1, v3, v4, σ => if 4 ≤ v4 then (some (v3, σ)) else (gLet (fun (j2 : Int32) (s3 : gS) => gLet (j2 ||| (1 <<< (v4 &&& 31))) (fun x5 => f_X11_crossers_L5 w1 w2 n x5 (v4 + 1) s3)) (fun J4 => if w2 = 0 then (Option.bind (f_X11_hasCrossed v4 w1 σ) (fun q7 => if q7.1 = 0 then (gLet (v3 ||| 0) (fun x9 => f_X11_crossers_L5 w1 w2 n x9 (v4 + 1) q7.2)) else (J4 v3 q7.2))) else (Option.bind (f_X11_isFree v4 w1 σ) (fun q10 => if q10.1 = 0 then (gLet (v3 ||| 0) (fun x12 => f_X11_crossers_L5 w1 w2 n x12 (v4 + 1) q10.2)) else (J4 v3 q10.2)))))
theorem f_X11_crossers_L5_s (w1 : Int32) (w2 : Int32) (n : Nat) (v3 : Int32) (v4 : Int32) (σ : gS) : f_X11_crossers_L5 w1 w2 (n + 1) v3 v4 σ = (if 4 ≤ v4 then (some (v3, σ)) else (gLet (fun (j2 : Int32) (s3 : gS) => gLet (j2 ||| (1 <<< (v4 &&& 31))) (fun x5 => f_X11_crossers_L5 w1 w2 n x5 (v4 + 1) s3)) (fun J4 => if w2 = 0 then (Option.bind (f_X11_hasCrossed v4 w1 σ) (fun q7 => if q7.1 = 0 then (gLet (v3 ||| 0) (fun x9 => f_X11_crossers_L5 w1 w2 n x9 (v4 + 1) q7.2)) else (J4 v3 q7.2))) else (Option.bind (f_X11_isFree v4 w1 σ) (fun q10 => if q10.1 = 0 then (gLet (v3 ||| 0) (fun x12 => f_X11_crossers_L5 w1 w2 n x12 (v4 + 1) q10.2)) else (J4 v3 q10.2)))))) := rfl
def f_X11_crossers (p0 : Int32) (p1 : Int32) (σ : gS) : Option (Int32 × gS) := f_X11_crossers_L5 p0 p1 gFu 0 0 σ
set_option maxHeartbeats 4000000 in
set_option maxRecDepth 100000 in
theorem w_X11_crossers_L5 (w1 : Int32) (w2 : Int32) {q : Int32 × gS} (K : gK p s m args meth c G cX11_crossers 5 RX11 (some .int)) : ∀ (n : Nat) (v3 : Int32) (v4 : Int32) (σ : gS), f_X11_crossers_L5 w1 w2 n v3 v4 σ = some q → ∀ (H : Heap) (locs : List Loc) (ls : Array Slot), gSt G (entM G o) o 9 s σ H locs → lv_has ls 5 [(0, .ref (o + 0)), (1, .int w1), (2, .int w2), (3, .int v3), (4, .int v4)] → W p l e rmX11_crossers s m args below meth c H locs 0 0 (MQ below (gQi G (entM G o) o 9 q) args s 0 0 (gA o 9)) (F0 m 5 ls []) := by
  obtain ⟨hx, hb, hml, hown, hts, -⟩ := id K
  intro n
  induction n with
  | zero =>
    intro v3 v4 σ hf
    exact absurd (show (none : Option _) = some q from hf) (by simp)
  | succ n ih =>
    intro v3 v4 σ hf H locs ls hS hl
    rw [f_X11_crossers_L5_s] at hf
    refine lv_iload hx hb dX11_crossers_5 (lv_at hl 4 rfl) ?_
    refine lv_iconst (v := 4) hx hb dX11_crossers_7 (by decide) ?_
    refine lv_icmp_ge (tgt := 55) hx hb dX11_crossers_8 (by decide) (fun c1 => ?_) (fun c1 => ?_)
    · have hf := gIf_t c1 hf
      refine lv_iload_n hx hb dX11_crossers_55 rfl (lv_at hl 3 rfl) ?_
      exact g_iret K hS hf dX11_crossers_56
    · have hf := gIf_f c1 hf
      refine lv_iload_n hx hb dX11_crossers_11 rfl (lv_at hl 3 rfl) ?_
      refine lv_iload_n hx hb dX11_crossers_12 rfl (lv_at hl 2 rfl) ?_
      obtain ⟨J4, hJ4, hf⟩ := gLet_some hf
      have wJ4 : ∀ (j2 : Int32) (s3 : gS), J4 j2 s3 = some q → ∀ (H : Heap) (locs : List Loc) (ls : Array Slot), gSt G (entM G o) o 9 s s3 H locs → lv_has ls 5 [(0, .ref (o + 0)), (1, .int w1), (2, .int w2), (4, .int v4)] → W p l e rmX11_crossers s m args below meth c H locs 0 0 (MQ below (gQi G (entM G o) o 9 q) args s 0 0 (gA o 9)) (F0 m 39 ls [.int j2]) := by
        intro j2 s3 hf H locs ls hS hl
        rw [hJ4] at hf
        refine lv_iconst (v := 1) hx hb dX11_crossers_39 (by decide) ?_
        refine lv_iload hx hb dX11_crossers_40 (lv_at hl 3 rfl) ?_
        refine lv_ishl hx hb dX11_crossers_42 ?_
        refine lv_goto (tgt := 47) hx hb dX11_crossers_43 (by decide) ?_
        refine lv_ior hx hb dX11_crossers_47 ?_
        obtain ⟨x5, hx5, hf⟩ := gLet_some hf
        refine g_top hx5 ?_
        refine lv_istore_n (lv' := [(3, .int x5), (0, .ref (o + 0)), (1, .int w1), (2, .int w2), (4, .int v4)]) hx hb dX11_crossers_48 rfl hl (by decide) rfl (fun ls hl => ?_)
        refine lv_iinc (v := (v4 + 1)) (lv' := [(4, .int (v4 + 1)), (3, .int x5), (0, .ref (o + 0)), (1, .int w1), (2, .int w2)]) hx hb dX11_crossers_49 hl (k := 4) rfl rfl (by decide) rfl (fun ls hl => ?_)
        refine lv_goto (tgt := 5) hx hb dX11_crossers_52 (by decide) ?_
        exact ih x5 (v4 + 1) s3 hf _ _ _ hS (lv_sub hl [2, 3, 4, 1, 0] rfl)
      clear hJ4
      refine lv_if_eq (tgt := 29) hx hb dX11_crossers_13 (by decide) (fun c6 => ?_) (fun c6 => ?_)
      · have hf := gIf_t c6 hf
        refine lv_aload_n hx hb dX11_crossers_29 rfl (lv_at hl 0 rfl) ?_
        refine lv_iload hx hb dX11_crossers_30 (lv_at hl 4 rfl) ?_
        refine lv_iload_n hx hb dX11_crossers_32 rfl (lv_at hl 1 rfl) ?_
        obtain ⟨q7, hq7, hf⟩ := Option.bind_eq_some_iff.mp hf
        refine g_Vi (cx := 0) (As := [.int v4, .int w1]) K hS lV_X11_92 (c_X11_hasCrossed v4 w1 σ q7 hq7) ((eM_0 G o) _) (by decide) rfl rfl rfl (Nat.le_of_ble_eq_true rfl) ⟨⟨Nat.le_of_ble_eq_true rfl, Nat.le_of_ble_eq_true rfl⟩, rfl, rfl⟩ hl.1 ⟨Nat.zero_le _, Nat.zero_le _⟩ dX11_crossers_33 (fun H locs hS => ?_)
        refine lv_if_eq (tgt := 46) hx hb dX11_crossers_36 (by decide) (fun c8 => ?_) (fun c8 => ?_)
        · have hf := gIf_t c8 hf
          refine lv_iconst (v := 0) hx hb dX11_crossers_46 (by decide) ?_
          refine lv_ior hx hb dX11_crossers_47 ?_
          obtain ⟨x9, hx9, hf⟩ := gLet_some hf
          refine g_top hx9 ?_
          refine lv_istore_n (lv' := [(3, .int x9), (0, .ref (o + 0)), (1, .int w1), (2, .int w2), (4, .int v4)]) hx hb dX11_crossers_48 rfl hl (by decide) rfl (fun ls hl => ?_)
          refine lv_iinc (v := (v4 + 1)) (lv' := [(4, .int (v4 + 1)), (3, .int x9), (0, .ref (o + 0)), (1, .int w1), (2, .int w2)]) hx hb dX11_crossers_49 hl (k := 4) rfl rfl (by decide) rfl (fun ls hl => ?_)
          refine lv_goto (tgt := 5) hx hb dX11_crossers_52 (by decide) ?_
          exact ih x9 (v4 + 1) q7.2 hf _ _ _ hS (lv_sub hl [2, 3, 4, 1, 0] rfl)
        · have hf := gIf_f c8 hf
          exact wJ4 v3 q7.2 hf _ _ _ hS (lv_sub hl [0, 1, 2, 4] rfl)
      · have hf := gIf_f c6 hf
        refine lv_aload_n hx hb dX11_crossers_16 rfl (lv_at hl 0 rfl) ?_
        refine lv_iload hx hb dX11_crossers_17 (lv_at hl 4 rfl) ?_
        refine lv_iload_n hx hb dX11_crossers_19 rfl (lv_at hl 1 rfl) ?_
        obtain ⟨q10, hq10, hf⟩ := Option.bind_eq_some_iff.mp hf
        refine g_Vi (cx := 0) (As := [.int v4, .int w1]) K hS lV_X11_96 (c_X11_isFree v4 w1 σ q10 hq10) ((eM_0 G o) _) (by decide) rfl rfl rfl (Nat.le_of_ble_eq_true rfl) ⟨⟨Nat.le_of_ble_eq_true rfl, Nat.le_of_ble_eq_true rfl⟩, rfl, rfl⟩ hl.1 ⟨Nat.zero_le _, Nat.zero_le _⟩ dX11_crossers_20 (fun H locs hS => ?_)
        refine lv_if_eq (tgt := 46) hx hb dX11_crossers_23 (by decide) (fun c11 => ?_) (fun c11 => ?_)
        · have hf := gIf_t c11 hf
          refine lv_iconst (v := 0) hx hb dX11_crossers_46 (by decide) ?_
          refine lv_ior hx hb dX11_crossers_47 ?_
          obtain ⟨x12, hx12, hf⟩ := gLet_some hf
          refine g_top hx12 ?_
          refine lv_istore_n (lv' := [(3, .int x12), (0, .ref (o + 0)), (1, .int w1), (2, .int w2), (4, .int v4)]) hx hb dX11_crossers_48 rfl hl (by decide) rfl (fun ls hl => ?_)
          refine lv_iinc (v := (v4 + 1)) (lv' := [(4, .int (v4 + 1)), (3, .int x12), (0, .ref (o + 0)), (1, .int w1), (2, .int w2)]) hx hb dX11_crossers_49 hl (k := 4) rfl rfl (by decide) rfl (fun ls hl => ?_)
          refine lv_goto (tgt := 5) hx hb dX11_crossers_52 (by decide) ?_
          exact ih x12 (v4 + 1) q10.2 hf _ _ _ hS (lv_sub hl [2, 3, 4, 1, 0] rfl)
        · have hf := gIf_f c11 hf
          refine lv_goto (tgt := 39) hx hb dX11_crossers_26 (by decide) ?_
          exact wJ4 v3 q10.2 hf _ _ _ hS (lv_sub hl [0, 1, 2, 4] rfl)
set_option maxHeartbeats 4000000 in
set_option maxRecDepth 100000 in
theorem c_X11_crossers (p0 : Int32) (p1 : Int32) (σ : gS) (q : Int32 × gS) (hf : f_X11_crossers p0 p1 σ = some q) : Met l yX11_crossers (gW yX11_crossers cX11_crossers 5 (some .int)) rmX11_crossers (gPc G (entM G o) o 9 [.ref (o + 0), .int p0, .int p1] σ) (gQi G (entM G o) o 9 q) 0 0 (gA o 9) := by
  refine g_met (by decide) ⟨rfl, rfl⟩ (fun p e s m args below meth c ls K hS hl => ?_) (Nat.le_of_ble_eq_true rfl)
  have K : gK p s m args meth c G cX11_crossers 5 RX11 (some .int) := K
  have hl : lv_has ls 5 [(0, .ref (o + 0)), (1, .int p0), (2, .int p1)] := hl
  obtain ⟨hx, hb, hml, hown, hts, -⟩ := id K
  unfold f_X11_crossers at hf
  refine lv_iconst (v := 0) hx hb dX11_crossers_0 (by decide) ?_
  refine lv_istore_n (lv' := [(3, .int 0), (0, .ref (o + 0)), (1, .int p0), (2, .int p1)]) hx hb dX11_crossers_1 rfl hl (by decide) rfl (fun ls hl => ?_)
  refine lv_iconst (v := 0) hx hb dX11_crossers_2 (by decide) ?_
  refine lv_istore (lv' := [(4, .int 0), (3, .int 0), (0, .ref (o + 0)), (1, .int p0), (2, .int p1)]) hx hb dX11_crossers_3 hl (by decide) rfl (fun ls hl => ?_)
  refine w_X11_crossers_L5 p0 p1 K gFu 0 0 σ hf _ _ _ hS (lv_sub hl [2, 3, 4, 1, 0] rfl)
abbrev rmX11_board : Room := { frames := 4, cells := 0, slots := 0, locals := 91 }
def f_X11_board (p0 : Int32) (p1 : Int32) (σ : gS) : Option (Int32 × gS) := Option.bind (f_X11_isBoard p0 σ) (fun q1 => if q1.1 = 0 then (some ((-1), q1.2)) else (gLet (fun (s3 : gS) => Option.bind (f_X11_ofBoard p0 p1 s3) (fun q5 => some (q5.1, q5.2))) (fun J4 => gLet (fun (s6 : gS) => gLet (fun (j8 : Int32) (j9 : Int32) (s10 : gS) => Option.bind (f_X11_crossers j8 j9 s10) (fun q12 => some (q12.1, q12.2))) (fun J11 => if p1 = 5 then (J11 p0 1 s6) else (J11 p0 0 s6))) (fun J7 => if p1 = 0 then (J4 q1.2) else (if p1 = 1 then (J4 q1.2) else (if p1 = 2 then (J4 q1.2) else (if p1 = 3 then (J4 q1.2) else (if p1 = 4 then (J7 q1.2) else (if p1 = 5 then (J7 q1.2) else (if p1 = 6 then (Option.bind (f_X11_ofBoard p0 4 q1.2) (fun q21 => some (q21.1, q21.2))) else (some ((-2), q1.2))))))))))))
set_option maxHeartbeats 4000000 in
set_option maxRecDepth 100000 in
theorem c_X11_board (p0 : Int32) (p1 : Int32) (σ : gS) (q : Int32 × gS) (hf : f_X11_board p0 p1 σ = some q) : Met l yX11_board (gW yX11_board cX11_board 3 (some .int)) rmX11_board (gPc G (entM G o) o 9 [.ref (o + 0), .int p0, .int p1] σ) (gQi G (entM G o) o 9 q) 0 0 (gA o 9) := by
  refine g_met (by decide) ⟨rfl, rfl⟩ (fun p e s m args below meth c ls K hS hl => ?_) (Nat.le_of_ble_eq_true rfl)
  have K : gK p s m args meth c G cX11_board 3 RX11 (some .int) := K
  have hl : lv_has ls 3 [(0, .ref (o + 0)), (1, .int p0), (2, .int p1)] := hl
  obtain ⟨hx, hb, hml, hown, hts, -⟩ := id K
  unfold f_X11_board at hf
  refine lv_aload_n hx hb dX11_board_0 rfl (lv_at hl 0 rfl) ?_
  refine lv_iload_n hx hb dX11_board_1 rfl (lv_at hl 1 rfl) ?_
  obtain ⟨q1, hq1, hf⟩ := Option.bind_eq_some_iff.mp hf
  refine g_Vi (cx := 0) (As := [.int p0]) K hS lV_X11_62 (c_X11_isBoard p0 σ q1 hq1) ((eM_0 G o) _) (by decide) rfl rfl rfl (Nat.le_of_ble_eq_true rfl) ⟨⟨Nat.le_of_ble_eq_true rfl, Nat.le_of_ble_eq_true rfl⟩, rfl, rfl⟩ hl.1 ⟨Nat.zero_le _, Nat.zero_le _⟩ dX11_board_2 (fun H locs hS => ?_)
  refine lv_if_ne (tgt := 10) hx hb dX11_board_5 (by decide) (fun c2 => ?_) (fun c2 => ?_)
  · have hf := gIf_f c2 hf
    refine lv_iload_n hx hb dX11_board_10 rfl (lv_at hl 2 rfl) ?_
    obtain ⟨J4, hJ4, hf⟩ := gLet_some hf
    have wJ4 : ∀  (s3 : gS), J4  s3 = some q → ∀ (H : Heap) (locs : List Loc) (ls : Array Slot), gSt G (entM G o) o 9 s s3 H locs → lv_has ls 3 [(0, .ref (o + 0)), (1, .int p0), (2, .int p1)] → W p l e rmX11_board s m args below meth c H locs 0 0 (MQ below (gQi G (entM G o) o 9 q) args s 0 0 (gA o 9)) (F0 m 52 ls []) := by
      intro  s3 hf H locs ls hS hl
      rw [hJ4] at hf
      refine lv_aload_n hx hb dX11_board_52 rfl (lv_at hl 0 rfl) ?_
      refine lv_iload_n hx hb dX11_board_53 rfl (lv_at hl 1 rfl) ?_
      refine lv_iload_n hx hb dX11_board_54 rfl (lv_at hl 2 rfl) ?_
      obtain ⟨q5, hq5, hf⟩ := Option.bind_eq_some_iff.mp hf
      refine g_Vi (cx := 0) (As := [.int p0, .int p1]) K hS lV_X11_65 (c_X11_ofBoard p0 p1 s3 q5 hq5) ((eM_0 G o) _) (by decide) rfl rfl rfl (Nat.le_of_ble_eq_true rfl) ⟨⟨Nat.le_of_ble_eq_true rfl, Nat.le_of_ble_eq_true rfl⟩, rfl, rfl⟩ hl.1 ⟨Nat.zero_le _, Nat.zero_le _⟩ dX11_board_55 (fun H locs hS => ?_)
      exact g_iret K hS hf dX11_board_58
    clear hJ4
    obtain ⟨J7, hJ7, hf⟩ := gLet_some hf
    have wJ7 : ∀  (s6 : gS), J7  s6 = some q → ∀ (H : Heap) (locs : List Loc) (ls : Array Slot), gSt G (entM G o) o 9 s s6 H locs → lv_has ls 3 [(0, .ref (o + 0)), (1, .int p0), (2, .int p1)] → W p l e rmX11_board s m args below meth c H locs 0 0 (MQ below (gQi G (entM G o) o 9 q) args s 0 0 (gA o 9)) (F0 m 59 ls []) := by
      intro  s6 hf H locs ls hS hl
      rw [hJ7] at hf
      refine lv_aload_n hx hb dX11_board_59 rfl (lv_at hl 0 rfl) ?_
      refine lv_iload_n hx hb dX11_board_60 rfl (lv_at hl 1 rfl) ?_
      refine lv_iload_n hx hb dX11_board_61 rfl (lv_at hl 2 rfl) ?_
      refine lv_iconst (v := 5) hx hb dX11_board_62 (by decide) ?_
      obtain ⟨J11, hJ11, hf⟩ := gLet_some hf
      have wJ11 : ∀ (j8 : Int32) (j9 : Int32) (s10 : gS), J11 j8 j9 s10 = some q → ∀ (H : Heap) (locs : List Loc) (ls : Array Slot), gSt G (entM G o) o 9 s s10 H locs → lv_has ls 3 [] → W p l e rmX11_board s m args below meth c H locs 0 0 (MQ below (gQi G (entM G o) o 9 q) args s 0 0 (gA o 9)) (F0 m 71 ls [.int j9, .int j8, .ref (o + 0)]) := by
        intro j8 j9 s10 hf H locs ls hS hl
        rw [hJ11] at hf
        obtain ⟨q12, hq12, hf⟩ := Option.bind_eq_some_iff.mp hf
        refine g_Vi (cx := 0) (As := [.int j8, .int j9]) K hS lV_X11_150 (c_X11_crossers j8 j9 s10 q12 hq12) ((eM_0 G o) _) (by decide) rfl rfl rfl (Nat.le_of_ble_eq_true rfl) ⟨⟨Nat.le_of_ble_eq_true rfl, Nat.le_of_ble_eq_true rfl⟩, rfl, rfl⟩ hl.1 ⟨Nat.zero_le _, Nat.zero_le _⟩ dX11_board_71 (fun H locs hS => ?_)
        exact g_iret K hS hf dX11_board_74
      clear hJ11
      refine lv_icmp_ne (tgt := 70) hx hb dX11_board_63 (by decide) (fun c13 => ?_) (fun c13 => ?_)
      · have hf := gIf_f c13 hf
        refine lv_iconst (v := 0) hx hb dX11_board_70 (by decide) ?_
        exact wJ11 p0 0 s6 hf _ _ _ hS (lv_sub hl [] rfl)
      · have hf := gIf_t c13 hf
        refine lv_iconst (v := 1) hx hb dX11_board_66 (by decide) ?_
        refine lv_goto (tgt := 71) hx hb dX11_board_67 (by decide) ?_
        exact wJ11 p0 1 s6 hf _ _ _ hS (lv_sub hl [] rfl)
    clear hJ7
    by_cases c14 : p1 = 0
    · have hf := gIf_t c14 hf
      refine g_tab c14 (off := 41) (tgt := 52) hx hb dX11_board_11 (by decide) (by decide) (by decide) (by decide) ?_
      exact wJ4  q1.2 hf _ _ _ hS (lv_sub hl [0, 1, 2] rfl)
    have hf := gIf_f c14 hf
    by_cases c15 : p1 = 1
    · have hf := gIf_t c15 hf
      refine g_tab c15 (off := 41) (tgt := 52) hx hb dX11_board_11 (by decide) (by decide) (by decide) (by decide) ?_
      exact wJ4  q1.2 hf _ _ _ hS (lv_sub hl [0, 1, 2] rfl)
    have hf := gIf_f c15 hf
    by_cases c16 : p1 = 2
    · have hf := gIf_t c16 hf
      refine g_tab c16 (off := 41) (tgt := 52) hx hb dX11_board_11 (by decide) (by decide) (by decide) (by decide) ?_
      exact wJ4  q1.2 hf _ _ _ hS (lv_sub hl [0, 1, 2] rfl)
    have hf := gIf_f c16 hf
    by_cases c17 : p1 = 3
    · have hf := gIf_t c17 hf
      refine g_tab c17 (off := 41) (tgt := 52) hx hb dX11_board_11 (by decide) (by decide) (by decide) (by decide) ?_
      exact wJ4  q1.2 hf _ _ _ hS (lv_sub hl [0, 1, 2] rfl)
    have hf := gIf_f c17 hf
    by_cases c18 : p1 = 4
    · have hf := gIf_t c18 hf
      refine g_tab c18 (off := 48) (tgt := 59) hx hb dX11_board_11 (by decide) (by decide) (by decide) (by decide) ?_
      exact wJ7  q1.2 hf _ _ _ hS (lv_sub hl [0, 1, 2] rfl)
    have hf := gIf_f c18 hf
    by_cases c19 : p1 = 5
    · have hf := gIf_t c19 hf
      refine g_tab c19 (off := 48) (tgt := 59) hx hb dX11_board_11 (by decide) (by decide) (by decide) (by decide) ?_
      exact wJ7  q1.2 hf _ _ _ hS (lv_sub hl [0, 1, 2] rfl)
    have hf := gIf_f c19 hf
    by_cases c20 : p1 = 6
    · have hf := gIf_t c20 hf
      refine g_tab c20 (off := 64) (tgt := 75) hx hb dX11_board_11 (by decide) (by decide) (by decide) (by decide) ?_
      refine lv_aload_n hx hb dX11_board_75 rfl (lv_at hl 0 rfl) ?_
      refine lv_iload_n hx hb dX11_board_76 rfl (lv_at hl 1 rfl) ?_
      refine lv_iconst (v := 4) hx hb dX11_board_77 (by decide) ?_
      obtain ⟨q21, hq21, hf⟩ := Option.bind_eq_some_iff.mp hf
      refine g_Vi (cx := 0) (As := [.int p0, .int 4]) K hS lV_X11_65 (c_X11_ofBoard p0 4 q1.2 q21 hq21) ((eM_0 G o) _) (by decide) rfl rfl rfl (Nat.le_of_ble_eq_true rfl) ⟨⟨Nat.le_of_ble_eq_true rfl, Nat.le_of_ble_eq_true rfl⟩, rfl, rfl⟩ hl.1 ⟨Nat.zero_le _, Nat.zero_le _⟩ dX11_board_78 (fun H locs hS => ?_)
      exact g_iret K hS hf dX11_board_81
    have hf := gIf_f c20 hf
    refine lv_tableOut (tgt := 82) hx hb dX11_board_11 (g_tabOut 6 (fun k hk => by
      rcases (show k = 0 ∨ k = 1 ∨ k = 2 ∨ k = 3 ∨ k = 4 ∨ k = 5 ∨ k = 6 by omega) with rfl | rfl | rfl | rfl | rfl | rfl | rfl
      · exact c14
      · exact c15
      · exact c16
      · exact c17
      · exact c18
      · exact c19
      · exact c20
      )) (by decide) ?_
    refine lv_bipush (v := (-2)) hx hb dX11_board_82 (by decide) ?_
    exact g_iret K hS hf dX11_board_84
  · have hf := gIf_t c2 hf
    refine lv_iconst (v := (-1)) hx hb dX11_board_8 (by decide) ?_
    exact g_iret K hS hf dX11_board_9
abbrev rmX11_ghost : Room := { frames := 4, cells := 0, slots := 0, locals := 90 }
def f_X11_ghost_L56 (w1 : Int32) : Nat → Int32 → Int32 → gS → Option (Int32 × gS)
  | 0, _, _, _ => none
  | n + 1, v3, v4, σ => if (σ 1 4) ≤ v4 then (some (v3, σ)) else (Option.bind (f_X11_roomOf w1 σ) (fun q10 => Option.bind (f_X11_isAt v4 q10.1 q10.2) (fun q11 => if q11.1 = 0 then (gLet (v3 ||| 0) (fun x13 => f_X11_ghost_L56 w1 n x13 (v4 + 1) q11.2)) else (Option.bind (f_X11_isFree w1 v4 q11.2) (fun q14 => if q14.1 = 0 then (gLet (v3 ||| 0) (fun x16 => f_X11_ghost_L56 w1 n x16 (v4 + 1) q14.2)) else (gLet (v3 ||| (1 <<< (v4 &&& 31))) (fun x17 => f_X11_ghost_L56 w1 n x17 (v4 + 1) q14.2)))))))
theorem f_X11_ghost_L56_s (w1 : Int32) (n : Nat) (v3 : Int32) (v4 : Int32) (σ : gS) : f_X11_ghost_L56 w1 (n + 1) v3 v4 σ = (if (σ 1 4) ≤ v4 then (some (v3, σ)) else (Option.bind (f_X11_roomOf w1 σ) (fun q10 => Option.bind (f_X11_isAt v4 q10.1 q10.2) (fun q11 => if q11.1 = 0 then (gLet (v3 ||| 0) (fun x13 => f_X11_ghost_L56 w1 n x13 (v4 + 1) q11.2)) else (Option.bind (f_X11_isFree w1 v4 q11.2) (fun q14 => if q14.1 = 0 then (gLet (v3 ||| 0) (fun x16 => f_X11_ghost_L56 w1 n x16 (v4 + 1) q14.2)) else (gLet (v3 ||| (1 <<< (v4 &&& 31))) (fun x17 => f_X11_ghost_L56 w1 n x17 (v4 + 1) q14.2)))))))) := rfl
def f_X11_ghost (p0 : Int32) (p1 : Int32) (σ : gS) : Option (Int32 × gS) := Option.bind (f_X11_isGhost p0 σ) (fun q1 => if q1.1 = 0 then (some ((-1), q1.2)) else (gLet (fun (s3 : gS) => Option.bind (f_X11_ofGhost p0 p1 s3) (fun q5 => some (q5.1, q5.2))) (fun J4 => if p1 = 0 then (J4 q1.2) else (if p1 = 1 then (J4 q1.2) else (if p1 = 2 then (f_X11_ghost_L56 p0 gFu 0 0 q1.2) else (if p1 = 3 then (Option.bind (f_X11_roomOf p0 q1.2) (fun q19 => Option.bind (f_X11_freeTo p0 q19.2) (fun q20 => Option.bind (f_X11_reached q19.1 q20.1 q20.2) (fun q21 => some (q21.1, q21.2))))) else (if p1 = 4 then (Option.bind (f_X11_ofGhost p0 2 q1.2) (fun q23 => some (q23.1, q23.2))) else (some ((-2), q1.2)))))))))
set_option maxHeartbeats 4000000 in
set_option maxRecDepth 100000 in
theorem w_X11_ghost_L56 (w1 : Int32) {q : Int32 × gS} (K : gK p s m args meth c G cX11_ghost 5 RX11 (some .int)) : ∀ (n : Nat) (v3 : Int32) (v4 : Int32) (σ : gS), f_X11_ghost_L56 w1 n v3 v4 σ = some q → ∀ (H : Heap) (locs : List Loc) (ls : Array Slot), gSt G (entM G o) o 9 s σ H locs → lv_has ls 5 [(0, .ref (o + 0)), (1, .int w1), (3, .int v3), (4, .int v4)] → W p l e rmX11_ghost s m args below meth c H locs 0 0 (MQ below (gQi G (entM G o) o 9 q) args s 0 0 (gA o 9)) (F0 m 56 ls []) := by
  obtain ⟨hx, hb, hml, hown, hts, -⟩ := id K
  intro n
  induction n with
  | zero =>
    intro v3 v4 σ hf
    exact absurd (show (none : Option _) = some q from hf) (by simp)
  | succ n ih =>
    intro v3 v4 σ hf H locs ls hS hl
    rw [f_X11_ghost_L56_s] at hf
    refine lv_iload hx hb dX11_ghost_56 (lv_at hl 3 rfl) ?_
    refine lv_aload_n hx hb dX11_ghost_58 rfl (lv_at hl 0 rfl) ?_
    refine g_get (cx := 0) K hS lF_X11_7 ((eM_0 G o) _) (by decide) rfl dX11_ghost_59 ?_
    refine lv_iconst (v := 4) hx hb dX11_ghost_62 (by decide) ?_
    refine g_iald (cx := 1) (j := 4) K hS (eM_1 G o) (by decide) (by decide) (by decide) dX11_ghost_63 ?_
    refine lv_icmp_ge (tgt := 108) hx hb dX11_ghost_64 (by decide) (fun c9 => ?_) (fun c9 => ?_)
    · have hf := gIf_t c9 hf
      refine lv_iload_n hx hb dX11_ghost_108 rfl (lv_at hl 2 rfl) ?_
      exact g_iret K hS hf dX11_ghost_109
    · have hf := gIf_f c9 hf
      refine lv_iload_n hx hb dX11_ghost_67 rfl (lv_at hl 2 rfl) ?_
      refine lv_aload_n hx hb dX11_ghost_68 rfl (lv_at hl 0 rfl) ?_
      refine lv_iload hx hb dX11_ghost_69 (lv_at hl 3 rfl) ?_
      refine lv_aload_n hx hb dX11_ghost_71 rfl (lv_at hl 0 rfl) ?_
      refine lv_iload_n hx hb dX11_ghost_72 rfl (lv_at hl 1 rfl) ?_
      obtain ⟨q10, hq10, hf⟩ := Option.bind_eq_some_iff.mp hf
      refine g_Vi (cx := 0) (As := [.int w1]) K hS lV_X11_107 (c_X11_roomOf w1 σ q10 hq10) ((eM_0 G o) _) (by decide) rfl rfl rfl (Nat.le_of_ble_eq_true rfl) ⟨⟨Nat.le_of_ble_eq_true rfl, Nat.le_of_ble_eq_true rfl⟩, rfl, rfl⟩ hl.1 ⟨Nat.zero_le _, Nat.zero_le _⟩ dX11_ghost_73 (fun H locs hS => ?_)
      obtain ⟨q11, hq11, hf⟩ := Option.bind_eq_some_iff.mp hf
      refine g_Vi (cx := 0) (As := [.int v4, .int q10.1]) K hS lV_X11_116 (c_X11_isAt v4 q10.1 q10.2 q11 hq11) ((eM_0 G o) _) (by decide) rfl rfl rfl (Nat.le_of_ble_eq_true rfl) ⟨⟨Nat.le_of_ble_eq_true rfl, Nat.le_of_ble_eq_true rfl⟩, rfl, rfl⟩ hl.1 ⟨Nat.zero_le _, Nat.zero_le _⟩ dX11_ghost_76 (fun H locs hS => ?_)
      refine lv_if_eq (tgt := 99) hx hb dX11_ghost_79 (by decide) (fun c12 => ?_) (fun c12 => ?_)
      · have hf := gIf_t c12 hf
        refine lv_iconst (v := 0) hx hb dX11_ghost_99 (by decide) ?_
        refine lv_ior hx hb dX11_ghost_100 ?_
        obtain ⟨x13, hx13, hf⟩ := gLet_some hf
        refine g_top hx13 ?_
        refine lv_istore_n (lv' := [(3, .int x13), (0, .ref (o + 0)), (1, .int w1), (4, .int v4)]) hx hb dX11_ghost_101 rfl hl (by decide) rfl (fun ls hl => ?_)
        refine lv_iinc (v := (v4 + 1)) (lv' := [(4, .int (v4 + 1)), (3, .int x13), (0, .ref (o + 0)), (1, .int w1)]) hx hb dX11_ghost_102 hl (k := 3) rfl rfl (by decide) rfl (fun ls hl => ?_)
        refine lv_goto (tgt := 56) hx hb dX11_ghost_105 (by decide) ?_
        exact ih x13 (v4 + 1) q11.2 hf _ _ _ hS (lv_sub hl [2, 3, 1, 0] rfl)
      · have hf := gIf_f c12 hf
        refine lv_aload_n hx hb dX11_ghost_82 rfl (lv_at hl 0 rfl) ?_
        refine lv_iload_n hx hb dX11_ghost_83 rfl (lv_at hl 1 rfl) ?_
        refine lv_iload hx hb dX11_ghost_84 (lv_at hl 3 rfl) ?_
        obtain ⟨q14, hq14, hf⟩ := Option.bind_eq_some_iff.mp hf
        refine g_Vi (cx := 0) (As := [.int w1, .int v4]) K hS lV_X11_96 (c_X11_isFree w1 v4 q11.2 q14 hq14) ((eM_0 G o) _) (by decide) rfl rfl rfl (Nat.le_of_ble_eq_true rfl) ⟨⟨Nat.le_of_ble_eq_true rfl, Nat.le_of_ble_eq_true rfl⟩, rfl, rfl⟩ hl.1 ⟨Nat.zero_le _, Nat.zero_le _⟩ dX11_ghost_86 (fun H locs hS => ?_)
        refine lv_if_eq (tgt := 99) hx hb dX11_ghost_89 (by decide) (fun c15 => ?_) (fun c15 => ?_)
        · have hf := gIf_t c15 hf
          refine lv_iconst (v := 0) hx hb dX11_ghost_99 (by decide) ?_
          refine lv_ior hx hb dX11_ghost_100 ?_
          obtain ⟨x16, hx16, hf⟩ := gLet_some hf
          refine g_top hx16 ?_
          refine lv_istore_n (lv' := [(3, .int x16), (0, .ref (o + 0)), (1, .int w1), (4, .int v4)]) hx hb dX11_ghost_101 rfl hl (by decide) rfl (fun ls hl => ?_)
          refine lv_iinc (v := (v4 + 1)) (lv' := [(4, .int (v4 + 1)), (3, .int x16), (0, .ref (o + 0)), (1, .int w1)]) hx hb dX11_ghost_102 hl (k := 3) rfl rfl (by decide) rfl (fun ls hl => ?_)
          refine lv_goto (tgt := 56) hx hb dX11_ghost_105 (by decide) ?_
          exact ih x16 (v4 + 1) q14.2 hf _ _ _ hS (lv_sub hl [2, 3, 1, 0] rfl)
        · have hf := gIf_f c15 hf
          refine lv_iconst (v := 1) hx hb dX11_ghost_92 (by decide) ?_
          refine lv_iload hx hb dX11_ghost_93 (lv_at hl 3 rfl) ?_
          refine lv_ishl hx hb dX11_ghost_95 ?_
          refine lv_goto (tgt := 100) hx hb dX11_ghost_96 (by decide) ?_
          refine lv_ior hx hb dX11_ghost_100 ?_
          obtain ⟨x17, hx17, hf⟩ := gLet_some hf
          refine g_top hx17 ?_
          refine lv_istore_n (lv' := [(3, .int x17), (0, .ref (o + 0)), (1, .int w1), (4, .int v4)]) hx hb dX11_ghost_101 rfl hl (by decide) rfl (fun ls hl => ?_)
          refine lv_iinc (v := (v4 + 1)) (lv' := [(4, .int (v4 + 1)), (3, .int x17), (0, .ref (o + 0)), (1, .int w1)]) hx hb dX11_ghost_102 hl (k := 3) rfl rfl (by decide) rfl (fun ls hl => ?_)
          refine lv_goto (tgt := 56) hx hb dX11_ghost_105 (by decide) ?_
          exact ih x17 (v4 + 1) q14.2 hf _ _ _ hS (lv_sub hl [2, 3, 1, 0] rfl)
set_option maxHeartbeats 4000000 in
set_option maxRecDepth 100000 in
theorem c_X11_ghost (p0 : Int32) (p1 : Int32) (σ : gS) (q : Int32 × gS) (hf : f_X11_ghost p0 p1 σ = some q) : Met l yX11_ghost (gW yX11_ghost cX11_ghost 5 (some .int)) rmX11_ghost (gPc G (entM G o) o 9 [.ref (o + 0), .int p0, .int p1] σ) (gQi G (entM G o) o 9 q) 0 0 (gA o 9) := by
  refine g_met (by decide) ⟨rfl, rfl⟩ (fun p e s m args below meth c ls K hS hl => ?_) (Nat.le_of_ble_eq_true rfl)
  have K : gK p s m args meth c G cX11_ghost 5 RX11 (some .int) := K
  have hl : lv_has ls 5 [(0, .ref (o + 0)), (1, .int p0), (2, .int p1)] := hl
  obtain ⟨hx, hb, hml, hown, hts, -⟩ := id K
  unfold f_X11_ghost at hf
  refine lv_iload_n hx hb dX11_ghost_0 rfl (lv_at hl 1 rfl) ?_
  obtain ⟨q1, hq1, hf⟩ := Option.bind_eq_some_iff.mp hf
  refine g_Si (As := [.int p0]) K hS lS_X11_104 (c_X11_isGhost p0 σ q1 hq1) rfl rfl (Nat.le_of_ble_eq_true rfl) ⟨⟨Nat.le_of_ble_eq_true rfl, Nat.le_of_ble_eq_true rfl⟩, rfl, rfl⟩ hl.1 ⟨Nat.zero_le _, Nat.zero_le _⟩ dX11_ghost_1 (fun H locs hS => ?_)
  refine lv_if_ne (tgt := 9) hx hb dX11_ghost_4 (by decide) (fun c2 => ?_) (fun c2 => ?_)
  · have hf := gIf_f c2 hf
    refine lv_iload_n hx hb dX11_ghost_9 rfl (lv_at hl 2 rfl) ?_
    obtain ⟨J4, hJ4, hf⟩ := gLet_some hf
    have wJ4 : ∀  (s3 : gS), J4  s3 = some q → ∀ (H : Heap) (locs : List Loc) (ls : Array Slot), gSt G (entM G o) o 9 s s3 H locs → lv_has ls 5 [(0, .ref (o + 0)), (1, .int p0), (2, .int p1)] → W p l e rmX11_ghost s m args below meth c H locs 0 0 (MQ below (gQi G (entM G o) o 9 q) args s 0 0 (gA o 9)) (F0 m 44 ls []) := by
      intro  s3 hf H locs ls hS hl
      rw [hJ4] at hf
      refine lv_aload_n hx hb dX11_ghost_44 rfl (lv_at hl 0 rfl) ?_
      refine lv_iload_n hx hb dX11_ghost_45 rfl (lv_at hl 1 rfl) ?_
      refine lv_iload_n hx hb dX11_ghost_46 rfl (lv_at hl 2 rfl) ?_
      obtain ⟨q5, hq5, hf⟩ := Option.bind_eq_some_iff.mp hf
      refine g_Vi (cx := 0) (As := [.int p0, .int p1]) K hS lV_X11_40 (c_X11_ofGhost p0 p1 s3 q5 hq5) ((eM_0 G o) _) (by decide) rfl rfl rfl (Nat.le_of_ble_eq_true rfl) ⟨⟨Nat.le_of_ble_eq_true rfl, Nat.le_of_ble_eq_true rfl⟩, rfl, rfl⟩ hl.1 ⟨Nat.zero_le _, Nat.zero_le _⟩ dX11_ghost_47 (fun H locs hS => ?_)
      exact g_iret K hS hf dX11_ghost_50
    clear hJ4
    by_cases c6 : p1 = 0
    · have hf := gIf_t c6 hf
      refine g_tab c6 (off := 34) (tgt := 44) hx hb dX11_ghost_10 (by decide) (by decide) (by decide) (by decide) ?_
      exact wJ4  q1.2 hf _ _ _ hS (lv_sub hl [0, 1, 2] rfl)
    have hf := gIf_f c6 hf
    by_cases c7 : p1 = 1
    · have hf := gIf_t c7 hf
      refine g_tab c7 (off := 34) (tgt := 44) hx hb dX11_ghost_10 (by decide) (by decide) (by decide) (by decide) ?_
      exact wJ4  q1.2 hf _ _ _ hS (lv_sub hl [0, 1, 2] rfl)
    have hf := gIf_f c7 hf
    by_cases c8 : p1 = 2
    · have hf := gIf_t c8 hf
      refine g_tab c8 (off := 41) (tgt := 51) hx hb dX11_ghost_10 (by decide) (by decide) (by decide) (by decide) ?_
      refine lv_iconst (v := 0) hx hb dX11_ghost_51 (by decide) ?_
      refine lv_istore_n (lv' := [(3, .int 0), (0, .ref (o + 0)), (1, .int p0), (2, .int p1)]) hx hb dX11_ghost_52 rfl hl (by decide) rfl (fun ls hl => ?_)
      refine lv_iconst (v := 0) hx hb dX11_ghost_53 (by decide) ?_
      refine lv_istore (lv' := [(4, .int 0), (3, .int 0), (0, .ref (o + 0)), (1, .int p0), (2, .int p1)]) hx hb dX11_ghost_54 hl (by decide) rfl (fun ls hl => ?_)
      refine w_X11_ghost_L56 p0 K gFu 0 0 q1.2 hf _ _ _ hS (lv_sub hl [2, 3, 1, 0] rfl)
    have hf := gIf_f c8 hf
    by_cases c18 : p1 = 3
    · have hf := gIf_t c18 hf
      refine g_tab c18 (off := 100) (tgt := 110) hx hb dX11_ghost_10 (by decide) (by decide) (by decide) (by decide) ?_
      refine lv_aload_n hx hb dX11_ghost_110 rfl (lv_at hl 0 rfl) ?_
      refine lv_aload_n hx hb dX11_ghost_111 rfl (lv_at hl 0 rfl) ?_
      refine lv_iload_n hx hb dX11_ghost_112 rfl (lv_at hl 1 rfl) ?_
      obtain ⟨q19, hq19, hf⟩ := Option.bind_eq_some_iff.mp hf
      refine g_Vi (cx := 0) (As := [.int p0]) K hS lV_X11_107 (c_X11_roomOf p0 q1.2 q19 hq19) ((eM_0 G o) _) (by decide) rfl rfl rfl (Nat.le_of_ble_eq_true rfl) ⟨⟨Nat.le_of_ble_eq_true rfl, Nat.le_of_ble_eq_true rfl⟩, rfl, rfl⟩ hl.1 ⟨Nat.zero_le _, Nat.zero_le _⟩ dX11_ghost_113 (fun H locs hS => ?_)
      refine lv_aload_n hx hb dX11_ghost_116 rfl (lv_at hl 0 rfl) ?_
      refine lv_iload_n hx hb dX11_ghost_117 rfl (lv_at hl 1 rfl) ?_
      obtain ⟨q20, hq20, hf⟩ := Option.bind_eq_some_iff.mp hf
      refine g_Vi (cx := 0) (As := [.int p0]) K hS lV_X11_122 (c_X11_freeTo p0 q19.2 q20 hq20) ((eM_0 G o) _) (by decide) rfl rfl rfl (Nat.le_of_ble_eq_true rfl) ⟨⟨Nat.le_of_ble_eq_true rfl, Nat.le_of_ble_eq_true rfl⟩, rfl, rfl⟩ hl.1 ⟨Nat.zero_le _, Nat.zero_le _⟩ dX11_ghost_118 (fun H locs hS => ?_)
      obtain ⟨q21, hq21, hf⟩ := Option.bind_eq_some_iff.mp hf
      refine g_Vi (cx := 0) (As := [.int q19.1, .int q20.1]) K hS lV_X11_135 (c_X11_reached q19.1 q20.1 q20.2 q21 hq21) ((eM_0 G o) _) (by decide) rfl rfl rfl (Nat.le_of_ble_eq_true rfl) ⟨⟨Nat.le_of_ble_eq_true rfl, Nat.le_of_ble_eq_true rfl⟩, rfl, rfl⟩ hl.1 ⟨Nat.zero_le _, Nat.zero_le _⟩ dX11_ghost_121 (fun H locs hS => ?_)
      exact g_iret K hS hf dX11_ghost_124
    have hf := gIf_f c18 hf
    by_cases c22 : p1 = 4
    · have hf := gIf_t c22 hf
      refine g_tab c22 (off := 115) (tgt := 125) hx hb dX11_ghost_10 (by decide) (by decide) (by decide) (by decide) ?_
      refine lv_aload_n hx hb dX11_ghost_125 rfl (lv_at hl 0 rfl) ?_
      refine lv_iload_n hx hb dX11_ghost_126 rfl (lv_at hl 1 rfl) ?_
      refine lv_iconst (v := 2) hx hb dX11_ghost_127 (by decide) ?_
      obtain ⟨q23, hq23, hf⟩ := Option.bind_eq_some_iff.mp hf
      refine g_Vi (cx := 0) (As := [.int p0, .int 2]) K hS lV_X11_40 (c_X11_ofGhost p0 2 q1.2 q23 hq23) ((eM_0 G o) _) (by decide) rfl rfl rfl (Nat.le_of_ble_eq_true rfl) ⟨⟨Nat.le_of_ble_eq_true rfl, Nat.le_of_ble_eq_true rfl⟩, rfl, rfl⟩ hl.1 ⟨Nat.zero_le _, Nat.zero_le _⟩ dX11_ghost_128 (fun H locs hS => ?_)
      exact g_iret K hS hf dX11_ghost_131
    have hf := gIf_f c22 hf
    refine lv_tableOut (tgt := 132) hx hb dX11_ghost_10 (g_tabOut 4 (fun k hk => by
      rcases (show k = 0 ∨ k = 1 ∨ k = 2 ∨ k = 3 ∨ k = 4 by omega) with rfl | rfl | rfl | rfl | rfl
      · exact c6
      · exact c7
      · exact c8
      · exact c18
      · exact c22
      )) (by decide) ?_
    refine lv_bipush (v := (-2)) hx hb dX11_ghost_132 (by decide) ?_
    exact g_iret K hS hf dX11_ghost_134
  · have hf := gIf_t c2 hf
    refine lv_iconst (v := (-1)) hx hb dX11_ghost_7 (by decide) ?_
    exact g_iret K hS hf dX11_ghost_8
abbrev rmX11_sleeperOf : Room := { frames := 3, cells := 0, slots := 0, locals := 75 }
def f_X11_sleeperOf_L39 (w1 : Int32) : Nat → Int32 → Int32 → gS → Option (Int32 × gS)
  | 0, _, _, _ => none
  | n + 1, v3, v4, σ => if (σ 1 4) ≤ v4 then (some (v3, σ)) else (Option.bind (f_X11_loud v4 w1 σ) (fun q7 => Option.bind (f_X11_ofSleeper w1 1 q7.2) (fun q8 => if q7.1 < q8.1 then (gLet (v3 ||| 0) (fun x10 => f_X11_sleeperOf_L39 w1 n x10 (v4 + 1) q8.2)) else (gLet (v3 ||| (1 <<< (v4 &&& 31))) (fun x11 => f_X11_sleeperOf_L39 w1 n x11 (v4 + 1) q8.2)))))
theorem f_X11_sleeperOf_L39_s (w1 : Int32) (n : Nat) (v3 : Int32) (v4 : Int32) (σ : gS) : f_X11_sleeperOf_L39 w1 (n + 1) v3 v4 σ = (if (σ 1 4) ≤ v4 then (some (v3, σ)) else (Option.bind (f_X11_loud v4 w1 σ) (fun q7 => Option.bind (f_X11_ofSleeper w1 1 q7.2) (fun q8 => if q7.1 < q8.1 then (gLet (v3 ||| 0) (fun x10 => f_X11_sleeperOf_L39 w1 n x10 (v4 + 1) q8.2)) else (gLet (v3 ||| (1 <<< (v4 &&& 31))) (fun x11 => f_X11_sleeperOf_L39 w1 n x11 (v4 + 1) q8.2)))))) := rfl
def f_X11_sleeperOf (p0 : Int32) (p1 : Int32) (σ : gS) : Option (Int32 × gS) := Option.bind (f_X11_isSleeper p0 σ) (fun q1 => if q1.1 = 0 then (some ((-1), q1.2)) else (Option.bind (f_X11_in p1 0 3 q1.2) (fun q3 => if q3.1 = 0 then (if p1 = 4 then (f_X11_sleeperOf_L39 p0 gFu 0 0 q3.2) else (some ((-2), q3.2))) else (Option.bind (f_X11_ofSleeper p0 p1 q3.2) (fun q12 => some (q12.1, q12.2))))))
set_option maxHeartbeats 4000000 in
set_option maxRecDepth 100000 in
theorem w_X11_sleeperOf_L39 (w1 : Int32) {q : Int32 × gS} (K : gK p s m args meth c G cX11_sleeperOf 5 RX11 (some .int)) : ∀ (n : Nat) (v3 : Int32) (v4 : Int32) (σ : gS), f_X11_sleeperOf_L39 w1 n v3 v4 σ = some q → ∀ (H : Heap) (locs : List Loc) (ls : Array Slot), gSt G (entM G o) o 9 s σ H locs → lv_has ls 5 [(0, .ref (o + 0)), (1, .int w1), (3, .int v3), (4, .int v4)] → W p l e rmX11_sleeperOf s m args below meth c H locs 0 0 (MQ below (gQi G (entM G o) o 9 q) args s 0 0 (gA o 9)) (F0 m 39 ls []) := by
  obtain ⟨hx, hb, hml, hown, hts, -⟩ := id K
  intro n
  induction n with
  | zero =>
    intro v3 v4 σ hf
    exact absurd (show (none : Option _) = some q from hf) (by simp)
  | succ n ih =>
    intro v3 v4 σ hf H locs ls hS hl
    rw [f_X11_sleeperOf_L39_s] at hf
    refine lv_iload hx hb dX11_sleeperOf_39 (lv_at hl 3 rfl) ?_
    refine lv_aload_n hx hb dX11_sleeperOf_41 rfl (lv_at hl 0 rfl) ?_
    refine g_get (cx := 0) K hS lF_X11_7 ((eM_0 G o) _) (by decide) rfl dX11_sleeperOf_42 ?_
    refine lv_iconst (v := 4) hx hb dX11_sleeperOf_45 (by decide) ?_
    refine g_iald (cx := 1) (j := 4) K hS (eM_1 G o) (by decide) (by decide) (by decide) dX11_sleeperOf_46 ?_
    refine lv_icmp_ge (tgt := 83) hx hb dX11_sleeperOf_47 (by decide) (fun c6 => ?_) (fun c6 => ?_)
    · have hf := gIf_t c6 hf
      refine lv_iload_n hx hb dX11_sleeperOf_83 rfl (lv_at hl 2 rfl) ?_
      exact g_iret K hS hf dX11_sleeperOf_84
    · have hf := gIf_f c6 hf
      refine lv_iload_n hx hb dX11_sleeperOf_50 rfl (lv_at hl 2 rfl) ?_
      refine lv_aload_n hx hb dX11_sleeperOf_51 rfl (lv_at hl 0 rfl) ?_
      refine lv_iload hx hb dX11_sleeperOf_52 (lv_at hl 3 rfl) ?_
      refine lv_iload_n hx hb dX11_sleeperOf_54 rfl (lv_at hl 1 rfl) ?_
      obtain ⟨q7, hq7, hf⟩ := Option.bind_eq_some_iff.mp hf
      refine g_Vi (cx := 0) (As := [.int v4, .int w1]) K hS lV_X11_86 (c_X11_loud v4 w1 σ q7 hq7) ((eM_0 G o) _) (by decide) rfl rfl rfl (Nat.le_of_ble_eq_true rfl) ⟨⟨Nat.le_of_ble_eq_true rfl, Nat.le_of_ble_eq_true rfl⟩, rfl, rfl⟩ hl.1 ⟨Nat.zero_le _, Nat.zero_le _⟩ dX11_sleeperOf_55 (fun H locs hS => ?_)
      refine lv_aload_n hx hb dX11_sleeperOf_58 rfl (lv_at hl 0 rfl) ?_
      refine lv_iload_n hx hb dX11_sleeperOf_59 rfl (lv_at hl 1 rfl) ?_
      refine lv_iconst (v := 1) hx hb dX11_sleeperOf_60 (by decide) ?_
      obtain ⟨q8, hq8, hf⟩ := Option.bind_eq_some_iff.mp hf
      refine g_Vi (cx := 0) (As := [.int w1, .int 1]) K hS lV_X11_80 (c_X11_ofSleeper w1 1 q7.2 q8 hq8) ((eM_0 G o) _) (by decide) rfl rfl rfl (Nat.le_of_ble_eq_true rfl) ⟨⟨Nat.le_of_ble_eq_true rfl, Nat.le_of_ble_eq_true rfl⟩, rfl, rfl⟩ hl.1 ⟨Nat.zero_le _, Nat.zero_le _⟩ dX11_sleeperOf_61 (fun H locs hS => ?_)
      refine lv_icmp_lt (tgt := 74) hx hb dX11_sleeperOf_64 (by decide) (fun c9 => ?_) (fun c9 => ?_)
      · have hf := gIf_t c9 hf
        refine lv_iconst (v := 0) hx hb dX11_sleeperOf_74 (by decide) ?_
        refine lv_ior hx hb dX11_sleeperOf_75 ?_
        obtain ⟨x10, hx10, hf⟩ := gLet_some hf
        refine g_top hx10 ?_
        refine lv_istore_n (lv' := [(3, .int x10), (0, .ref (o + 0)), (1, .int w1), (4, .int v4)]) hx hb dX11_sleeperOf_76 rfl hl (by decide) rfl (fun ls hl => ?_)
        refine lv_iinc (v := (v4 + 1)) (lv' := [(4, .int (v4 + 1)), (3, .int x10), (0, .ref (o + 0)), (1, .int w1)]) hx hb dX11_sleeperOf_77 hl (k := 3) rfl rfl (by decide) rfl (fun ls hl => ?_)
        refine lv_goto (tgt := 39) hx hb dX11_sleeperOf_80 (by decide) ?_
        exact ih x10 (v4 + 1) q8.2 hf _ _ _ hS (lv_sub hl [2, 3, 1, 0] rfl)
      · have hf := gIf_f c9 hf
        refine lv_iconst (v := 1) hx hb dX11_sleeperOf_67 (by decide) ?_
        refine lv_iload hx hb dX11_sleeperOf_68 (lv_at hl 3 rfl) ?_
        refine lv_ishl hx hb dX11_sleeperOf_70 ?_
        refine lv_goto (tgt := 75) hx hb dX11_sleeperOf_71 (by decide) ?_
        refine lv_ior hx hb dX11_sleeperOf_75 ?_
        obtain ⟨x11, hx11, hf⟩ := gLet_some hf
        refine g_top hx11 ?_
        refine lv_istore_n (lv' := [(3, .int x11), (0, .ref (o + 0)), (1, .int w1), (4, .int v4)]) hx hb dX11_sleeperOf_76 rfl hl (by decide) rfl (fun ls hl => ?_)
        refine lv_iinc (v := (v4 + 1)) (lv' := [(4, .int (v4 + 1)), (3, .int x11), (0, .ref (o + 0)), (1, .int w1)]) hx hb dX11_sleeperOf_77 hl (k := 3) rfl rfl (by decide) rfl (fun ls hl => ?_)
        refine lv_goto (tgt := 39) hx hb dX11_sleeperOf_80 (by decide) ?_
        exact ih x11 (v4 + 1) q8.2 hf _ _ _ hS (lv_sub hl [2, 3, 1, 0] rfl)
set_option maxHeartbeats 4000000 in
set_option maxRecDepth 100000 in
theorem c_X11_sleeperOf (p0 : Int32) (p1 : Int32) (σ : gS) (q : Int32 × gS) (hf : f_X11_sleeperOf p0 p1 σ = some q) : Met l yX11_sleeperOf (gW yX11_sleeperOf cX11_sleeperOf 5 (some .int)) rmX11_sleeperOf (gPc G (entM G o) o 9 [.ref (o + 0), .int p0, .int p1] σ) (gQi G (entM G o) o 9 q) 0 0 (gA o 9) := by
  refine g_met (by decide) ⟨rfl, rfl⟩ (fun p e s m args below meth c ls K hS hl => ?_) (Nat.le_of_ble_eq_true rfl)
  have K : gK p s m args meth c G cX11_sleeperOf 5 RX11 (some .int) := K
  have hl : lv_has ls 5 [(0, .ref (o + 0)), (1, .int p0), (2, .int p1)] := hl
  obtain ⟨hx, hb, hml, hown, hts, -⟩ := id K
  unfold f_X11_sleeperOf at hf
  refine lv_aload_n hx hb dX11_sleeperOf_0 rfl (lv_at hl 0 rfl) ?_
  refine lv_iload_n hx hb dX11_sleeperOf_1 rfl (lv_at hl 1 rfl) ?_
  obtain ⟨q1, hq1, hf⟩ := Option.bind_eq_some_iff.mp hf
  refine g_Vi (cx := 0) (As := [.int p0]) K hS lV_X11_83 (c_X11_isSleeper p0 σ q1 hq1) ((eM_0 G o) _) (by decide) rfl rfl rfl (Nat.le_of_ble_eq_true rfl) ⟨⟨Nat.le_of_ble_eq_true rfl, Nat.le_of_ble_eq_true rfl⟩, rfl, rfl⟩ hl.1 ⟨Nat.zero_le _, Nat.zero_le _⟩ dX11_sleeperOf_2 (fun H locs hS => ?_)
  refine lv_if_ne (tgt := 10) hx hb dX11_sleeperOf_5 (by decide) (fun c2 => ?_) (fun c2 => ?_)
  · have hf := gIf_f c2 hf
    refine lv_iload_n hx hb dX11_sleeperOf_10 rfl (lv_at hl 2 rfl) ?_
    refine lv_iconst (v := 0) hx hb dX11_sleeperOf_11 (by decide) ?_
    refine lv_iconst (v := 3) hx hb dX11_sleeperOf_12 (by decide) ?_
    obtain ⟨q3, hq3, hf⟩ := Option.bind_eq_some_iff.mp hf
    refine g_Si (As := [.int p1, .int 0, .int 3]) K hS lS_X11_36 (c_X11_in p1 0 3 q1.2 q3 hq3) rfl rfl (Nat.le_of_ble_eq_true rfl) ⟨⟨Nat.le_of_ble_eq_true rfl, Nat.le_of_ble_eq_true rfl⟩, rfl, rfl⟩ hl.1 ⟨Nat.zero_le _, Nat.zero_le _⟩ dX11_sleeperOf_13 (fun H locs hS => ?_)
    refine lv_if_eq (tgt := 26) hx hb dX11_sleeperOf_16 (by decide) (fun c4 => ?_) (fun c4 => ?_)
    · have hf := gIf_t c4 hf
      refine lv_iload_n hx hb dX11_sleeperOf_26 rfl (lv_at hl 2 rfl) ?_
      refine lv_iconst (v := 4) hx hb dX11_sleeperOf_27 (by decide) ?_
      refine lv_icmp_eq (tgt := 34) hx hb dX11_sleeperOf_28 (by decide) (fun c5 => ?_) (fun c5 => ?_)
      · have hf := gIf_t c5 hf
        refine lv_iconst (v := 0) hx hb dX11_sleeperOf_34 (by decide) ?_
        refine lv_istore_n (lv' := [(3, .int 0), (0, .ref (o + 0)), (1, .int p0), (2, .int p1)]) hx hb dX11_sleeperOf_35 rfl hl (by decide) rfl (fun ls hl => ?_)
        refine lv_iconst (v := 0) hx hb dX11_sleeperOf_36 (by decide) ?_
        refine lv_istore (lv' := [(4, .int 0), (3, .int 0), (0, .ref (o + 0)), (1, .int p0), (2, .int p1)]) hx hb dX11_sleeperOf_37 hl (by decide) rfl (fun ls hl => ?_)
        refine w_X11_sleeperOf_L39 p0 K gFu 0 0 q3.2 hf _ _ _ hS (lv_sub hl [2, 3, 1, 0] rfl)
      · have hf := gIf_f c5 hf
        refine lv_bipush (v := (-2)) hx hb dX11_sleeperOf_31 (by decide) ?_
        exact g_iret K hS hf dX11_sleeperOf_33
    · have hf := gIf_f c4 hf
      refine lv_aload_n hx hb dX11_sleeperOf_19 rfl (lv_at hl 0 rfl) ?_
      refine lv_iload_n hx hb dX11_sleeperOf_20 rfl (lv_at hl 1 rfl) ?_
      refine lv_iload_n hx hb dX11_sleeperOf_21 rfl (lv_at hl 2 rfl) ?_
      obtain ⟨q12, hq12, hf⟩ := Option.bind_eq_some_iff.mp hf
      refine g_Vi (cx := 0) (As := [.int p0, .int p1]) K hS lV_X11_80 (c_X11_ofSleeper p0 p1 q3.2 q12 hq12) ((eM_0 G o) _) (by decide) rfl rfl rfl (Nat.le_of_ble_eq_true rfl) ⟨⟨Nat.le_of_ble_eq_true rfl, Nat.le_of_ble_eq_true rfl⟩, rfl, rfl⟩ hl.1 ⟨Nat.zero_le _, Nat.zero_le _⟩ dX11_sleeperOf_22 (fun H locs hS => ?_)
      exact g_iret K hS hf dX11_sleeperOf_25
  · have hf := gIf_t c2 hf
    refine lv_iconst (v := (-1)) hx hb dX11_sleeperOf_8 (by decide) ?_
    exact g_iret K hS hf dX11_sleeperOf_9
abbrev rmX11_awake : Room := { frames := 1, cells := 0, slots := 0, locals := 22 }
def f_X11_awake_L4 : Nat → Int32 → Int32 → gS → Option (Int32 × gS)
  | 0, _, _, _ => none
  | n + 1, v1, v2, σ => if (σ 1 5) ≤ v2 then (some (v1, σ)) else (Option.bind (f_X11_ofSleeper v2 2 σ) (fun q2 => if q2.1 ≤ 0 then (gLet (v1 ||| 0) (fun x4 => f_X11_awake_L4 n x4 (v2 + 1) q2.2)) else (gLet (v1 ||| (1 <<< (v2 &&& 31))) (fun x5 => f_X11_awake_L4 n x5 (v2 + 1) q2.2))))
theorem f_X11_awake_L4_s (n : Nat) (v1 : Int32) (v2 : Int32) (σ : gS) : f_X11_awake_L4 (n + 1) v1 v2 σ = (if (σ 1 5) ≤ v2 then (some (v1, σ)) else (Option.bind (f_X11_ofSleeper v2 2 σ) (fun q2 => if q2.1 ≤ 0 then (gLet (v1 ||| 0) (fun x4 => f_X11_awake_L4 n x4 (v2 + 1) q2.2)) else (gLet (v1 ||| (1 <<< (v2 &&& 31))) (fun x5 => f_X11_awake_L4 n x5 (v2 + 1) q2.2))))) := rfl
def f_X11_awake (σ : gS) : Option (Int32 × gS) := f_X11_awake_L4 gFu 0 0 σ
set_option maxHeartbeats 4000000 in
set_option maxRecDepth 100000 in
theorem w_X11_awake_L4 {q : Int32 × gS} (K : gK p s m args meth c G cX11_awake 3 RX11 (some .int)) : ∀ (n : Nat) (v1 : Int32) (v2 : Int32) (σ : gS), f_X11_awake_L4 n v1 v2 σ = some q → ∀ (H : Heap) (locs : List Loc) (ls : Array Slot), gSt G (entM G o) o 9 s σ H locs → lv_has ls 3 [(0, .ref (o + 0)), (1, .int v1), (2, .int v2)] → W p l e rmX11_awake s m args below meth c H locs 0 0 (MQ below (gQi G (entM G o) o 9 q) args s 0 0 (gA o 9)) (F0 m 4 ls []) := by
  obtain ⟨hx, hb, hml, hown, hts, -⟩ := id K
  intro n
  induction n with
  | zero =>
    intro v1 v2 σ hf
    exact absurd (show (none : Option _) = some q from hf) (by simp)
  | succ n ih =>
    intro v1 v2 σ hf H locs ls hS hl
    rw [f_X11_awake_L4_s] at hf
    refine lv_iload_n hx hb dX11_awake_4 rfl (lv_at hl 2 rfl) ?_
    refine lv_aload_n hx hb dX11_awake_5 rfl (lv_at hl 0 rfl) ?_
    refine g_get (cx := 0) K hS lF_X11_7 ((eM_0 G o) _) (by decide) rfl dX11_awake_6 ?_
    refine lv_iconst (v := 5) hx hb dX11_awake_9 (by decide) ?_
    refine g_iald (cx := 1) (j := 5) K hS (eM_1 G o) (by decide) (by decide) (by decide) dX11_awake_10 ?_
    refine lv_icmp_ge (tgt := 39) hx hb dX11_awake_11 (by decide) (fun c1 => ?_) (fun c1 => ?_)
    · have hf := gIf_t c1 hf
      refine lv_iload_n hx hb dX11_awake_39 rfl (lv_at hl 1 rfl) ?_
      exact g_iret K hS hf dX11_awake_40
    · have hf := gIf_f c1 hf
      refine lv_iload_n hx hb dX11_awake_14 rfl (lv_at hl 1 rfl) ?_
      refine lv_aload_n hx hb dX11_awake_15 rfl (lv_at hl 0 rfl) ?_
      refine lv_iload_n hx hb dX11_awake_16 rfl (lv_at hl 2 rfl) ?_
      refine lv_iconst (v := 2) hx hb dX11_awake_17 (by decide) ?_
      obtain ⟨q2, hq2, hf⟩ := Option.bind_eq_some_iff.mp hf
      refine g_Vi (cx := 0) (As := [.int v2, .int 2]) K hS lV_X11_80 (c_X11_ofSleeper v2 2 σ q2 hq2) ((eM_0 G o) _) (by decide) rfl rfl rfl (Nat.le_of_ble_eq_true rfl) ⟨⟨Nat.le_of_ble_eq_true rfl, Nat.le_of_ble_eq_true rfl⟩, rfl, rfl⟩ hl.1 ⟨Nat.zero_le _, Nat.zero_le _⟩ dX11_awake_18 (fun H locs hS => ?_)
      refine lv_if_le (tgt := 30) hx hb dX11_awake_21 (by decide) (fun c3 => ?_) (fun c3 => ?_)
      · have hf := gIf_t c3 hf
        refine lv_iconst (v := 0) hx hb dX11_awake_30 (by decide) ?_
        refine lv_ior hx hb dX11_awake_31 ?_
        obtain ⟨x4, hx4, hf⟩ := gLet_some hf
        refine g_top hx4 ?_
        refine lv_istore_n (lv' := [(1, .int x4), (0, .ref (o + 0)), (2, .int v2)]) hx hb dX11_awake_32 rfl hl (by decide) rfl (fun ls hl => ?_)
        refine lv_iinc (v := (v2 + 1)) (lv' := [(2, .int (v2 + 1)), (1, .int x4), (0, .ref (o + 0))]) hx hb dX11_awake_33 hl (k := 2) rfl rfl (by decide) rfl (fun ls hl => ?_)
        refine lv_goto (tgt := 4) hx hb dX11_awake_36 (by decide) ?_
        exact ih x4 (v2 + 1) q2.2 hf _ _ _ hS (lv_sub hl [2, 1, 0] rfl)
      · have hf := gIf_f c3 hf
        refine lv_iconst (v := 1) hx hb dX11_awake_24 (by decide) ?_
        refine lv_iload_n hx hb dX11_awake_25 rfl (lv_at hl 2 rfl) ?_
        refine lv_ishl hx hb dX11_awake_26 ?_
        refine lv_goto (tgt := 31) hx hb dX11_awake_27 (by decide) ?_
        refine lv_ior hx hb dX11_awake_31 ?_
        obtain ⟨x5, hx5, hf⟩ := gLet_some hf
        refine g_top hx5 ?_
        refine lv_istore_n (lv' := [(1, .int x5), (0, .ref (o + 0)), (2, .int v2)]) hx hb dX11_awake_32 rfl hl (by decide) rfl (fun ls hl => ?_)
        refine lv_iinc (v := (v2 + 1)) (lv' := [(2, .int (v2 + 1)), (1, .int x5), (0, .ref (o + 0))]) hx hb dX11_awake_33 hl (k := 2) rfl rfl (by decide) rfl (fun ls hl => ?_)
        refine lv_goto (tgt := 4) hx hb dX11_awake_36 (by decide) ?_
        exact ih x5 (v2 + 1) q2.2 hf _ _ _ hS (lv_sub hl [2, 1, 0] rfl)
set_option maxHeartbeats 4000000 in
set_option maxRecDepth 100000 in
theorem c_X11_awake (σ : gS) (q : Int32 × gS) (hf : f_X11_awake σ = some q) : Met l yX11_awake (gW yX11_awake cX11_awake 3 (some .int)) rmX11_awake (gPc G (entM G o) o 9 [.ref (o + 0)] σ) (gQi G (entM G o) o 9 q) 0 0 (gA o 9) := by
  refine g_met (by decide) ⟨rfl, rfl⟩ (fun p e s m args below meth c ls K hS hl => ?_) (Nat.le_of_ble_eq_true rfl)
  have K : gK p s m args meth c G cX11_awake 3 RX11 (some .int) := K
  have hl : lv_has ls 3 [(0, .ref (o + 0))] := hl
  obtain ⟨hx, hb, hml, hown, hts, -⟩ := id K
  unfold f_X11_awake at hf
  refine lv_iconst (v := 0) hx hb dX11_awake_0 (by decide) ?_
  refine lv_istore_n (lv' := [(1, .int 0), (0, .ref (o + 0))]) hx hb dX11_awake_1 rfl hl (by decide) rfl (fun ls hl => ?_)
  refine lv_iconst (v := 0) hx hb dX11_awake_2 (by decide) ?_
  refine lv_istore_n (lv' := [(2, .int 0), (1, .int 0), (0, .ref (o + 0))]) hx hb dX11_awake_3 rfl hl (by decide) rfl (fun ls hl => ?_)
  refine w_X11_awake_L4 K gFu 0 0 σ hf _ _ _ hS (lv_sub hl [2, 1, 0] rfl)
abbrev rmX11_count : Room := { frames := 2, cells := 0, slots := 0, locals := 44 }
def f_X11_count (p0 : Int32) (σ : gS) : Option (Int32 × gS) := gLet (fun (s1 : gS) => gGd (gin p0 138) (some ((s1 1 (gil p0)), s1))) (fun J2 => if p0 = 0 then (J2 σ) else (if p0 = 1 then (J2 σ) else (if p0 = 2 then (J2 σ) else (if p0 = 3 then (some ((σ 1 4), σ)) else (if p0 = 4 then (some ((σ 1 5), σ)) else (if p0 = 5 then (Option.bind (f_X11_awake σ) (fun q10 => some (q10.1, q10.2))) else (if p0 = 6 then (Option.bind (f_X11_watched σ) (fun q12 => some (q12.1, q12.2))) else (if p0 = 7 then (some ((σ 1 3), σ)) else (if p0 = 8 then (gGd (gne (σ 1 0)) (some (((σ 1 0) - ((σ 1 2) - (σ 1 2) / (σ 1 0) * (σ 1 0))), σ))) else (if p0 = 9 then (some ((σ 0 6), σ)) else (if p0 = 10 then (some ((σ 0 2), σ)) else (some ((-2), σ)))))))))))))
set_option maxHeartbeats 4000000 in
set_option maxRecDepth 100000 in
theorem c_X11_count (p0 : Int32) (σ : gS) (q : Int32 × gS) (hf : f_X11_count p0 σ = some q) : Met l yX11_count (gW yX11_count cX11_count 2 (some .int)) rmX11_count (gPc G (entM G o) o 9 [.ref (o + 0), .int p0] σ) (gQi G (entM G o) o 9 q) 0 0 (gA o 9) := by
  refine g_met (by decide) ⟨rfl, rfl⟩ (fun p e s m args below meth c ls K hS hl => ?_) (Nat.le_of_ble_eq_true rfl)
  have K : gK p s m args meth c G cX11_count 2 RX11 (some .int) := K
  have hl : lv_has ls 2 [(0, .ref (o + 0)), (1, .int p0)] := hl
  obtain ⟨hx, hb, hml, hown, hts, -⟩ := id K
  unfold f_X11_count at hf
  refine lv_iload_n hx hb dX11_count_0 rfl (lv_at hl 1 rfl) ?_
  obtain ⟨J2, hJ2, hf⟩ := gLet_some hf
  have wJ2 : ∀  (s1 : gS), J2  s1 = some q → ∀ (H : Heap) (locs : List Loc) (ls : Array Slot), gSt G (entM G o) o 9 s s1 H locs → lv_has ls 2 [(0, .ref (o + 0)), (1, .int p0)] → W p l e rmX11_count s m args below meth c H locs 0 0 (MQ below (gQi G (entM G o) o 9 q) args s 0 0 (gA o 9)) (F0 m 60 ls []) := by
    intro  s1 hf H locs ls hS hl
    rw [hJ2] at hf
    refine lv_aload_n hx hb dX11_count_60 rfl (lv_at hl 0 rfl) ?_
    refine g_get (cx := 0) K hS lF_X11_7 ((eM_0 G o) _) (by decide) rfl dX11_count_61 ?_
    refine lv_iload_n hx hb dX11_count_64 rfl (lv_at hl 1 rfl) ?_
    obtain ⟨h3, hf⟩ := gGd_some hf
    refine g_iald (cx := 1) K hS (eM_1 G o) (by decide) h3 rfl dX11_count_65 ?_
    exact g_iret K hS hf dX11_count_66
  clear hJ2
  by_cases c4 : p0 = 0
  · have hf := gIf_t c4 hf
    refine g_tab c4 (off := 59) (tgt := 60) hx hb dX11_count_1 (by decide) (by decide) (by decide) (by decide) ?_
    exact wJ2  σ hf _ _ _ hS (lv_sub hl [0, 1] rfl)
  have hf := gIf_f c4 hf
  by_cases c5 : p0 = 1
  · have hf := gIf_t c5 hf
    refine g_tab c5 (off := 59) (tgt := 60) hx hb dX11_count_1 (by decide) (by decide) (by decide) (by decide) ?_
    exact wJ2  σ hf _ _ _ hS (lv_sub hl [0, 1] rfl)
  have hf := gIf_f c5 hf
  by_cases c6 : p0 = 2
  · have hf := gIf_t c6 hf
    refine g_tab c6 (off := 59) (tgt := 60) hx hb dX11_count_1 (by decide) (by decide) (by decide) (by decide) ?_
    exact wJ2  σ hf _ _ _ hS (lv_sub hl [0, 1] rfl)
  have hf := gIf_f c6 hf
  by_cases c7 : p0 = 3
  · have hf := gIf_t c7 hf
    refine g_tab c7 (off := 66) (tgt := 67) hx hb dX11_count_1 (by decide) (by decide) (by decide) (by decide) ?_
    refine lv_aload_n hx hb dX11_count_67 rfl (lv_at hl 0 rfl) ?_
    refine g_get (cx := 0) K hS lF_X11_7 ((eM_0 G o) _) (by decide) rfl dX11_count_68 ?_
    refine lv_iconst (v := 4) hx hb dX11_count_71 (by decide) ?_
    refine g_iald (cx := 1) (j := 4) K hS (eM_1 G o) (by decide) (by decide) (by decide) dX11_count_72 ?_
    exact g_iret K hS hf dX11_count_73
  have hf := gIf_f c7 hf
  by_cases c8 : p0 = 4
  · have hf := gIf_t c8 hf
    refine g_tab c8 (off := 73) (tgt := 74) hx hb dX11_count_1 (by decide) (by decide) (by decide) (by decide) ?_
    refine lv_aload_n hx hb dX11_count_74 rfl (lv_at hl 0 rfl) ?_
    refine g_get (cx := 0) K hS lF_X11_7 ((eM_0 G o) _) (by decide) rfl dX11_count_75 ?_
    refine lv_iconst (v := 5) hx hb dX11_count_78 (by decide) ?_
    refine g_iald (cx := 1) (j := 5) K hS (eM_1 G o) (by decide) (by decide) (by decide) dX11_count_79 ?_
    exact g_iret K hS hf dX11_count_80
  have hf := gIf_f c8 hf
  by_cases c9 : p0 = 5
  · have hf := gIf_t c9 hf
    refine g_tab c9 (off := 80) (tgt := 81) hx hb dX11_count_1 (by decide) (by decide) (by decide) (by decide) ?_
    refine lv_aload_n hx hb dX11_count_81 rfl (lv_at hl 0 rfl) ?_
    obtain ⟨q10, hq10, hf⟩ := Option.bind_eq_some_iff.mp hf
    refine g_Vi (cx := 0) (As := []) K hS lV_X11_154 (c_X11_awake σ q10 hq10) ((eM_0 G o) _) (by decide) rfl rfl rfl (Nat.le_of_ble_eq_true rfl) ⟨⟨Nat.le_of_ble_eq_true rfl, Nat.le_of_ble_eq_true rfl⟩, rfl, rfl⟩ hl.1 ⟨Nat.zero_le _, Nat.zero_le _⟩ dX11_count_82 (fun H locs hS => ?_)
    exact g_iret K hS hf dX11_count_85
  have hf := gIf_f c9 hf
  by_cases c11 : p0 = 6
  · have hf := gIf_t c11 hf
    refine g_tab c11 (off := 85) (tgt := 86) hx hb dX11_count_1 (by decide) (by decide) (by decide) (by decide) ?_
    refine lv_aload_n hx hb dX11_count_86 rfl (lv_at hl 0 rfl) ?_
    obtain ⟨q12, hq12, hf⟩ := Option.bind_eq_some_iff.mp hf
    refine g_Vi (cx := 0) (As := []) K hS lV_X11_89 (c_X11_watched σ q12 hq12) ((eM_0 G o) _) (by decide) rfl rfl rfl (Nat.le_of_ble_eq_true rfl) ⟨⟨Nat.le_of_ble_eq_true rfl, Nat.le_of_ble_eq_true rfl⟩, rfl, rfl⟩ hl.1 ⟨Nat.zero_le _, Nat.zero_le _⟩ dX11_count_87 (fun H locs hS => ?_)
    exact g_iret K hS hf dX11_count_90
  have hf := gIf_f c11 hf
  by_cases c13 : p0 = 7
  · have hf := gIf_t c13 hf
    refine g_tab c13 (off := 90) (tgt := 91) hx hb dX11_count_1 (by decide) (by decide) (by decide) (by decide) ?_
    refine lv_aload_n hx hb dX11_count_91 rfl (lv_at hl 0 rfl) ?_
    refine g_get (cx := 0) K hS lF_X11_7 ((eM_0 G o) _) (by decide) rfl dX11_count_92 ?_
    refine lv_iconst (v := 3) hx hb dX11_count_95 (by decide) ?_
    refine g_iald (cx := 1) (j := 3) K hS (eM_1 G o) (by decide) (by decide) (by decide) dX11_count_96 ?_
    exact g_iret K hS hf dX11_count_97
  have hf := gIf_f c13 hf
  by_cases c14 : p0 = 8
  · have hf := gIf_t c14 hf
    refine g_tab c14 (off := 97) (tgt := 98) hx hb dX11_count_1 (by decide) (by decide) (by decide) (by decide) ?_
    refine lv_aload_n hx hb dX11_count_98 rfl (lv_at hl 0 rfl) ?_
    refine g_get (cx := 0) K hS lF_X11_7 ((eM_0 G o) _) (by decide) rfl dX11_count_99 ?_
    refine lv_iconst (v := 0) hx hb dX11_count_102 (by decide) ?_
    refine g_iald (cx := 1) (j := 0) K hS (eM_1 G o) (by decide) (by decide) (by decide) dX11_count_103 ?_
    refine lv_aload_n hx hb dX11_count_104 rfl (lv_at hl 0 rfl) ?_
    refine g_get (cx := 0) K hS lF_X11_7 ((eM_0 G o) _) (by decide) rfl dX11_count_105 ?_
    refine lv_iconst (v := 2) hx hb dX11_count_108 (by decide) ?_
    refine g_iald (cx := 1) (j := 2) K hS (eM_1 G o) (by decide) (by decide) (by decide) dX11_count_109 ?_
    refine lv_aload_n hx hb dX11_count_110 rfl (lv_at hl 0 rfl) ?_
    refine g_get (cx := 0) K hS lF_X11_7 ((eM_0 G o) _) (by decide) rfl dX11_count_111 ?_
    refine lv_iconst (v := 0) hx hb dX11_count_114 (by decide) ?_
    refine g_iald (cx := 1) (j := 0) K hS (eM_1 G o) (by decide) (by decide) (by decide) dX11_count_115 ?_
    obtain ⟨h15, hf⟩ := gGd_some hf
    refine lv_irem hx hb dX11_count_116 (gne_ne h15) ?_
    refine lv_isub hx hb dX11_count_117 ?_
    exact g_iret K hS hf dX11_count_118
  have hf := gIf_f c14 hf
  by_cases c16 : p0 = 9
  · have hf := gIf_t c16 hf
    refine g_tab c16 (off := 118) (tgt := 119) hx hb dX11_count_1 (by decide) (by decide) (by decide) (by decide) ?_
    refine lv_aload_n hx hb dX11_count_119 rfl (lv_at hl 0 rfl) ?_
    refine g_get (cx := 0) K hS lF_X11_157 ((eM_0 G o) _) (by decide) rfl dX11_count_120 ?_
    exact g_iret K hS hf dX11_count_123
  have hf := gIf_f c16 hf
  by_cases c17 : p0 = 10
  · have hf := gIf_t c17 hf
    refine g_tab c17 (off := 123) (tgt := 124) hx hb dX11_count_1 (by decide) (by decide) (by decide) (by decide) ?_
    refine lv_aload_n hx hb dX11_count_124 rfl (lv_at hl 0 rfl) ?_
    refine g_get (cx := 0) K hS lF_X11_44 ((eM_0 G o) _) (by decide) rfl dX11_count_125 ?_
    exact g_iret K hS hf dX11_count_128
  have hf := gIf_f c17 hf
  refine lv_tableOut (tgt := 129) hx hb dX11_count_1 (g_tabOut 10 (fun k hk => by
    rcases (show k = 0 ∨ k = 1 ∨ k = 2 ∨ k = 3 ∨ k = 4 ∨ k = 5 ∨ k = 6 ∨ k = 7 ∨ k = 8 ∨ k = 9 ∨ k = 10 by omega) with rfl | rfl | rfl | rfl | rfl | rfl | rfl | rfl | rfl | rfl | rfl
    · exact c4
    · exact c5
    · exact c6
    · exact c7
    · exact c8
    · exact c9
    · exact c11
    · exact c13
    · exact c14
    · exact c16
    · exact c17
    )) (by decide) ?_
  refine lv_bipush (v := (-2)) hx hb dX11_count_129 (by decide) ?_
  exact g_iret K hS hf dX11_count_131
abbrev rmX11_letter : Room := { frames := 0, cells := 0, slots := 0, locals := 0 }
def f_X11_letter (σ : gS) : Option (Int32 × gS) := if (σ 0 6) ≤ (σ 0 13) then (some ((-6), σ)) else (gGd (gin (σ 0 13) 60) (some ((σ 5 (gil (σ 0 13))), σ)))
set_option maxHeartbeats 4000000 in
set_option maxRecDepth 100000 in
theorem c_X11_letter (σ : gS) (q : Int32 × gS) (hf : f_X11_letter σ = some q) : Met l yX11_letter (gW yX11_letter cX11_letter 1 (some .int)) rmX11_letter (gPc G (entM G o) o 9 [.ref (o + 0)] σ) (gQi G (entM G o) o 9 q) 0 0 (gA o 9) := by
  refine g_met (by decide) ⟨rfl, rfl⟩ (fun p e s m args below meth c ls K hS hl => ?_) (Nat.le_of_ble_eq_true rfl)
  have K : gK p s m args meth c G cX11_letter 1 RX11 (some .int) := K
  have hl : lv_has ls 1 [(0, .ref (o + 0))] := hl
  obtain ⟨hx, hb, hml, hown, hts, -⟩ := id K
  unfold f_X11_letter at hf
  refine lv_aload_n hx hb dX11_letter_0 rfl (lv_at hl 0 rfl) ?_
  refine g_get (cx := 0) K hS lF_X11_160 ((eM_0 G o) _) (by decide) rfl dX11_letter_1 ?_
  refine lv_aload_n hx hb dX11_letter_4 rfl (lv_at hl 0 rfl) ?_
  refine g_get (cx := 0) K hS lF_X11_157 ((eM_0 G o) _) (by decide) rfl dX11_letter_5 ?_
  refine lv_icmp_ge (tgt := 23) hx hb dX11_letter_8 (by decide) (fun c1 => ?_) (fun c1 => ?_)
  · have hf := gIf_t c1 hf
    refine lv_bipush (v := (-6)) hx hb dX11_letter_23 (by decide) ?_
    exact g_iret K hS hf dX11_letter_25
  · have hf := gIf_f c1 hf
    refine lv_aload_n hx hb dX11_letter_11 rfl (lv_at hl 0 rfl) ?_
    refine g_get (cx := 0) K hS lF_X11_23 ((eM_0 G o) _) (by decide) rfl dX11_letter_12 ?_
    refine lv_aload_n hx hb dX11_letter_15 rfl (lv_at hl 0 rfl) ?_
    refine g_get (cx := 0) K hS lF_X11_160 ((eM_0 G o) _) (by decide) rfl dX11_letter_16 ?_
    obtain ⟨h2, hf⟩ := gGd_some hf
    refine g_cald (cx := 5) K hS (eM_5 G o) (by decide) h2 rfl dX11_letter_19 ?_
    refine lv_goto (tgt := 25) hx hb dX11_letter_20 (by decide) ?_
    exact g_iret K hS hf dX11_letter_25
abbrev rmX11_wants : Room := { frames := 0, cells := 0, slots := 0, locals := 0 }
def f_X11_wants (p0 : Int32) (σ : gS) : Option (gS) := if (σ 0 14) = (-6) then (gLet (fun (j2 : Int32) (s3 : gS) => gLet (up2 s3 0 14 j2) (fun s5 => gLet (up2 s5 0 13 ((s5 0 13) + 1)) (fun s7 => some s7))) (fun J4 => if p0 = 0 then (J4 (σ 0 13) σ) else (J4 (-6) σ))) else (some σ)
set_option maxHeartbeats 4000000 in
set_option maxRecDepth 100000 in
theorem c_X11_wants (p0 : Int32) (σ : gS) (q : gS) (hf : f_X11_wants p0 σ = some q) : Met l yX11_wants (gW yX11_wants cX11_wants 2 none) rmX11_wants (gPc G (entM G o) o 9 [.ref (o + 0), .int p0] σ) (gQv G (entM G o) o 9 q) 0 0 (gA o 9) := by
  refine g_met (by decide) ⟨rfl, rfl⟩ (fun p e s m args below meth c ls K hS hl => ?_) (Nat.le_of_ble_eq_true rfl)
  have K : gK p s m args meth c G cX11_wants 2 RX11 none := K
  have hl : lv_has ls 2 [(0, .ref (o + 0)), (1, .int p0)] := hl
  obtain ⟨hx, hb, hml, hown, hts, -⟩ := id K
  unfold f_X11_wants at hf
  refine lv_aload_n hx hb dX11_wants_0 rfl (lv_at hl 0 rfl) ?_
  refine g_get (cx := 0) K hS lF_X11_163 ((eM_0 G o) _) (by decide) rfl dX11_wants_1 ?_
  refine lv_bipush (v := (-6)) hx hb dX11_wants_4 (by decide) ?_
  refine lv_icmp_ne (tgt := 36) hx hb dX11_wants_6 (by decide) (fun c1 => ?_) (fun c1 => ?_)
  · have hf := gIf_f c1 hf
    exact g_vret K hS hf dX11_wants_36
  · have hf := gIf_t c1 hf
    refine lv_aload_n hx hb dX11_wants_9 rfl (lv_at hl 0 rfl) ?_
    refine lv_iload_n hx hb dX11_wants_10 rfl (lv_at hl 1 rfl) ?_
    obtain ⟨J4, hJ4, hf⟩ := gLet_some hf
    have wJ4 : ∀ (j2 : Int32) (s3 : gS), J4 j2 s3 = some q → ∀ (H : Heap) (locs : List Loc) (ls : Array Slot), gSt G (entM G o) o 9 s s3 H locs → lv_has ls 2 [(0, .ref (o + 0))] → W p l e rmX11_wants s m args below meth c H locs 0 0 (MQ below (gQv G (entM G o) o 9 q) args s 0 0 (gA o 9)) (F0 m 23 ls [.int j2, .ref (o + 0)]) := by
      intro j2 s3 hf H locs ls hS hl
      rw [hJ4] at hf
      obtain ⟨s5, hs5, hf⟩ := gLet_some hf
      refine g_put (cx := 0) K hS lP_X11_163 (eM_0 G o) (by decide) rfl (Nat.le_of_ble_eq_true rfl) rfl rfl dX11_wants_23 (fun H locs hS => ?_)
      rw [← hs5] at hS
      refine lv_aload_n hx hb dX11_wants_26 rfl (lv_at hl 0 rfl) ?_
      refine lv_dup hx hb dX11_wants_27 rfl ?_
      refine g_get (cx := 0) K hS lF_X11_160 ((eM_0 G o) _) (by decide) rfl dX11_wants_28 ?_
      refine lv_iconst (v := 1) hx hb dX11_wants_31 (by decide) ?_
      refine lv_iadd hx hb dX11_wants_32 ?_
      obtain ⟨s7, hs7, hf⟩ := gLet_some hf
      refine g_put (cx := 0) K hS lP_X11_160 (eM_0 G o) (by decide) rfl (Nat.le_of_ble_eq_true rfl) rfl rfl dX11_wants_33 (fun H locs hS => ?_)
      rw [← hs7] at hS
      exact g_vret K hS hf dX11_wants_36
    clear hJ4
    refine lv_if_eq (tgt := 19) hx hb dX11_wants_11 (by decide) (fun c9 => ?_) (fun c9 => ?_)
    · have hf := gIf_t c9 hf
      refine lv_aload_n hx hb dX11_wants_19 rfl (lv_at hl 0 rfl) ?_
      refine g_get (cx := 0) K hS lF_X11_160 ((eM_0 G o) _) (by decide) rfl dX11_wants_20 ?_
      exact wJ4 (σ 0 13) σ hf _ _ _ hS (lv_sub hl [0] rfl)
    · have hf := gIf_f c9 hf
      refine lv_bipush (v := (-6)) hx hb dX11_wants_14 (by decide) ?_
      refine lv_goto (tgt := 23) hx hb dX11_wants_16 (by decide) ?_
      exact wJ4 (-6) σ hf _ _ _ hS (lv_sub hl [0] rfl)
abbrev rmX11_roomRead : Room := { frames := 2, cells := 0, slots := 0, locals := 42 }
def f_X11_roomRead (p0 : Int32) (σ : gS) : Option (Int32 × gS) := Option.bind (f_X11_letter σ) (fun q1 => Option.bind (f_X11_isRoom (q1.1 - 97) q1.2) (fun q2 => gLet (fun (j3 : Int32) (s4 : gS) => Option.bind (f_X11_wants j3 s4) (fun q6 => some ((q1.1 - 97), q6))) (fun J5 => gLet (fun (s7 : gS) => J5 0 s7) (fun J8 => if q2.1 = 0 then (J8 q2.2) else (if (q1.1 - 97) = p0 then (J8 q2.2) else (J5 1 q2.2))))))
set_option maxHeartbeats 4000000 in
set_option maxRecDepth 100000 in
theorem c_X11_roomRead (p0 : Int32) (σ : gS) (q : Int32 × gS) (hf : f_X11_roomRead p0 σ = some q) : Met l yX11_roomRead (gW yX11_roomRead cX11_roomRead 3 (some .int)) rmX11_roomRead (gPc G (entM G o) o 9 [.ref (o + 0), .int p0] σ) (gQi G (entM G o) o 9 q) 0 0 (gA o 9) := by
  refine g_met (by decide) ⟨rfl, rfl⟩ (fun p e s m args below meth c ls K hS hl => ?_) (Nat.le_of_ble_eq_true rfl)
  have K : gK p s m args meth c G cX11_roomRead 3 RX11 (some .int) := K
  have hl : lv_has ls 3 [(0, .ref (o + 0)), (1, .int p0)] := hl
  obtain ⟨hx, hb, hml, hown, hts, -⟩ := id K
  unfold f_X11_roomRead at hf
  refine lv_aload_n hx hb dX11_roomRead_0 rfl (lv_at hl 0 rfl) ?_
  obtain ⟨q1, hq1, hf⟩ := Option.bind_eq_some_iff.mp hf
  refine g_Vi (cx := 0) (As := []) K hS lV_X11_166 (c_X11_letter σ q1 hq1) ((eM_0 G o) _) (by decide) rfl rfl rfl (Nat.le_of_ble_eq_true rfl) ⟨⟨Nat.le_of_ble_eq_true rfl, Nat.le_of_ble_eq_true rfl⟩, rfl, rfl⟩ hl.1 ⟨Nat.zero_le _, Nat.zero_le _⟩ dX11_roomRead_1 (fun H locs hS => ?_)
  refine lv_bipush (v := 97) hx hb dX11_roomRead_4 (by decide) ?_
  refine lv_isub hx hb dX11_roomRead_6 ?_
  refine lv_istore_n (lv' := [(2, .int (q1.1 - 97)), (0, .ref (o + 0)), (1, .int p0)]) hx hb dX11_roomRead_7 rfl hl (by decide) rfl (fun ls hl => ?_)
  refine lv_aload_n hx hb dX11_roomRead_8 rfl (lv_at hl 1 rfl) ?_
  refine lv_iload_n hx hb dX11_roomRead_9 rfl (lv_at hl 0 rfl) ?_
  obtain ⟨q2, hq2, hf⟩ := Option.bind_eq_some_iff.mp hf
  refine g_Si (As := [.int (q1.1 - 97)]) K hS lS_X11_51 (c_X11_isRoom (q1.1 - 97) q1.2 q2 hq2) rfl rfl (Nat.le_of_ble_eq_true rfl) ⟨⟨Nat.le_of_ble_eq_true rfl, Nat.le_of_ble_eq_true rfl⟩, rfl, rfl⟩ hl.1 ⟨Nat.zero_le _, Nat.zero_le _⟩ dX11_roomRead_10 (fun H locs hS => ?_)
  obtain ⟨J5, hJ5, hf⟩ := gLet_some hf
  have wJ5 : ∀ (j3 : Int32) (s4 : gS), J5 j3 s4 = some q → ∀ (H : Heap) (locs : List Loc) (ls : Array Slot), gSt G (entM G o) o 9 s s4 H locs → lv_has ls 3 [(2, .int (q1.1 - 97))] → W p l e rmX11_roomRead s m args below meth c H locs 0 0 (MQ below (gQi G (entM G o) o 9 q) args s 0 0 (gA o 9)) (F0 m 26 ls [.int j3, .ref (o + 0)]) := by
    intro j3 s4 hf H locs ls hS hl
    rw [hJ5] at hf
    obtain ⟨q6, hq6, hf⟩ := Option.bind_eq_some_iff.mp hf
    refine g_Vv (cx := 0) (As := [.int j3]) K hS lV_X11_169 (c_X11_wants j3 s4 q6 hq6) ((eM_0 G o) _) (by decide) rfl rfl rfl (Nat.le_of_ble_eq_true rfl) ⟨⟨Nat.le_of_ble_eq_true rfl, Nat.le_of_ble_eq_true rfl⟩, rfl, rfl⟩ hl.1 ⟨Nat.zero_le _, Nat.zero_le _⟩ dX11_roomRead_26 (fun H locs hS => ?_)
    refine lv_iload_n hx hb dX11_roomRead_29 rfl (lv_at hl 0 rfl) ?_
    exact g_iret K hS hf dX11_roomRead_30
  clear hJ5
  obtain ⟨J8, hJ8, hf⟩ := gLet_some hf
  have wJ8 : ∀  (s7 : gS), J8  s7 = some q → ∀ (H : Heap) (locs : List Loc) (ls : Array Slot), gSt G (entM G o) o 9 s s7 H locs → lv_has ls 3 [(2, .int (q1.1 - 97))] → W p l e rmX11_roomRead s m args below meth c H locs 0 0 (MQ below (gQi G (entM G o) o 9 q) args s 0 0 (gA o 9)) (F0 m 25 ls [.ref (o + 0)]) := by
    intro  s7 hf H locs ls hS hl
    rw [hJ8] at hf
    refine lv_iconst (v := 0) hx hb dX11_roomRead_25 (by decide) ?_
    exact wJ5 0 s7 hf _ _ _ hS (lv_sub hl [0] rfl)
  clear hJ8
  refine lv_if_eq (tgt := 25) hx hb dX11_roomRead_13 (by decide) (fun c9 => ?_) (fun c9 => ?_)
  · have hf := gIf_t c9 hf
    exact wJ8  q2.2 hf _ _ _ hS (lv_sub hl [0] rfl)
  · have hf := gIf_f c9 hf
    refine lv_iload_n hx hb dX11_roomRead_16 rfl (lv_at hl 0 rfl) ?_
    refine lv_iload_n hx hb dX11_roomRead_17 rfl (lv_at hl 2 rfl) ?_
    refine lv_icmp_eq (tgt := 25) hx hb dX11_roomRead_18 (by decide) (fun c10 => ?_) (fun c10 => ?_)
    · have hf := gIf_t c10 hf
      exact wJ8  q2.2 hf _ _ _ hS (lv_sub hl [0] rfl)
    · have hf := gIf_f c10 hf
      refine lv_iconst (v := 1) hx hb dX11_roomRead_21 (by decide) ?_
      refine lv_goto (tgt := 26) hx hb dX11_roomRead_22 (by decide) ?_
      exact wJ5 1 q2.2 hf _ _ _ hS (lv_sub hl [0] rfl)
abbrev rmX11_digit : Room := { frames := 1, cells := 0, slots := 0, locals := 22 }
def f_X11_digit (σ : gS) : Option (Int32 × gS) := Option.bind (f_X11_letter σ) (fun q1 => Option.bind (f_X11_in (q1.1 - 48) 1 9 q1.2) (fun q2 => Option.bind (f_X11_wants q2.1 q2.2) (fun q3 => some ((q1.1 - 48), q3))))
set_option maxHeartbeats 4000000 in
set_option maxRecDepth 100000 in
theorem c_X11_digit (σ : gS) (q : Int32 × gS) (hf : f_X11_digit σ = some q) : Met l yX11_digit (gW yX11_digit cX11_digit 2 (some .int)) rmX11_digit (gPc G (entM G o) o 9 [.ref (o + 0)] σ) (gQi G (entM G o) o 9 q) 0 0 (gA o 9) := by
  refine g_met (by decide) ⟨rfl, rfl⟩ (fun p e s m args below meth c ls K hS hl => ?_) (Nat.le_of_ble_eq_true rfl)
  have K : gK p s m args meth c G cX11_digit 2 RX11 (some .int) := K
  have hl : lv_has ls 2 [(0, .ref (o + 0))] := hl
  obtain ⟨hx, hb, hml, hown, hts, -⟩ := id K
  unfold f_X11_digit at hf
  refine lv_aload_n hx hb dX11_digit_0 rfl (lv_at hl 0 rfl) ?_
  obtain ⟨q1, hq1, hf⟩ := Option.bind_eq_some_iff.mp hf
  refine g_Vi (cx := 0) (As := []) K hS lV_X11_166 (c_X11_letter σ q1 hq1) ((eM_0 G o) _) (by decide) rfl rfl rfl (Nat.le_of_ble_eq_true rfl) ⟨⟨Nat.le_of_ble_eq_true rfl, Nat.le_of_ble_eq_true rfl⟩, rfl, rfl⟩ hl.1 ⟨Nat.zero_le _, Nat.zero_le _⟩ dX11_digit_1 (fun H locs hS => ?_)
  refine lv_bipush (v := 48) hx hb dX11_digit_4 (by decide) ?_
  refine lv_isub hx hb dX11_digit_6 ?_
  refine lv_istore_n (lv' := [(1, .int (q1.1 - 48)), (0, .ref (o + 0))]) hx hb dX11_digit_7 rfl hl (by decide) rfl (fun ls hl => ?_)
  refine lv_aload_n hx hb dX11_digit_8 rfl (lv_at hl 1 rfl) ?_
  refine lv_iload_n hx hb dX11_digit_9 rfl (lv_at hl 0 rfl) ?_
  refine lv_iconst (v := 1) hx hb dX11_digit_10 (by decide) ?_
  refine lv_bipush (v := 9) hx hb dX11_digit_11 (by decide) ?_
  obtain ⟨q2, hq2, hf⟩ := Option.bind_eq_some_iff.mp hf
  refine g_Si (As := [.int (q1.1 - 48), .int 1, .int 9]) K hS lS_X11_36 (c_X11_in (q1.1 - 48) 1 9 q1.2 q2 hq2) rfl rfl (Nat.le_of_ble_eq_true rfl) ⟨⟨Nat.le_of_ble_eq_true rfl, Nat.le_of_ble_eq_true rfl⟩, rfl, rfl⟩ hl.1 ⟨Nat.zero_le _, Nat.zero_le _⟩ dX11_digit_13 (fun H locs hS => ?_)
  obtain ⟨q3, hq3, hf⟩ := Option.bind_eq_some_iff.mp hf
  refine g_Vv (cx := 0) (As := [.int q2.1]) K hS lV_X11_169 (c_X11_wants q2.1 q2.2 q3 hq3) ((eM_0 G o) _) (by decide) rfl rfl rfl (Nat.le_of_ble_eq_true rfl) ⟨⟨Nat.le_of_ble_eq_true rfl, Nat.le_of_ble_eq_true rfl⟩, rfl, rfl⟩ hl.1 ⟨Nat.zero_le _, Nat.zero_le _⟩ dX11_digit_16 (fun H locs hS => ?_)
  refine lv_iload_n hx hb dX11_digit_19 rfl (lv_at hl 0 rfl) ?_
  exact g_iret K hS hf dX11_digit_20
abbrev rmX11_readPad : Room := { frames := 3, cells := 0, slots := 0, locals := 64 }
def f_X11_readPad_L18 : Nat → Int32 → gS → Option (Int32 × gS)
  | 0, _, _ => none
  | n + 1, v1, σ => if v1 = 0 then (some ((σ 0 14), σ)) else (gLet (4 * (σ 0 12)) (fun x8 => Option.bind (f_X11_roomRead (-6) σ) (fun q9 => gGd (gin x8 64) (gLet (up2 q9.2 8 (gil x8) q9.1) (fun s10 => gGd (gin x8 64) (Option.bind (f_X11_roomRead (s10 8 (gil x8)) s10) (fun q12 => gGd (gin (x8 + 1) 64) (gLet (up2 q12.2 8 (gil (x8 + 1)) q12.1) (fun s13 => Option.bind (f_X11_digit s13) (fun q14 => gGd (gin (x8 + 2) 64) (gLet (up2 q14.2 8 (gil (x8 + 2)) q14.1) (fun s15 => Option.bind (f_X11_digit s15) (fun q16 => gGd (gin (x8 + 3) 64) (gLet (up2 q16.2 8 (gil (x8 + 3)) q16.1) (fun s17 => gLet (up2 s17 0 12 ((s17 0 12) + 1)) (fun s18 => gLet (fun (j20 : Int32) (s21 : gS) => if j20 = 0 then (f_X11_readPad_L18 n j20 s21) else (Option.bind (f_X11_letter s21) (fun q24 => gLet (fun (j25 : Int32) (s26 : gS) => Option.bind (f_X11_wants j25 s26) (fun q28 => if (q28 0 14) = (-6) then (f_X11_readPad_L18 n 1 q28) else (f_X11_readPad_L18 n 0 q28))) (fun J27 => if q24.1 = 59 then (J27 1 q24.2) else (J27 0 q24.2))))) (fun J22 => gLet (fun  (s31 : gS) => J22 0 s31) (fun J32 => if (s18 0 14) = (-6) then (if (s18 0 6) ≤ (s18 0 13) then (J32 s18) else (J22 1 s18)) else (J32 s18)))))))))))))))))))
theorem f_X11_readPad_L18_s (n : Nat) (v1 : Int32) (σ : gS) : f_X11_readPad_L18 (n + 1) v1 σ = (if v1 = 0 then (some ((σ 0 14), σ)) else (gLet (4 * (σ 0 12)) (fun x8 => Option.bind (f_X11_roomRead (-6) σ) (fun q9 => gGd (gin x8 64) (gLet (up2 q9.2 8 (gil x8) q9.1) (fun s10 => gGd (gin x8 64) (Option.bind (f_X11_roomRead (s10 8 (gil x8)) s10) (fun q12 => gGd (gin (x8 + 1) 64) (gLet (up2 q12.2 8 (gil (x8 + 1)) q12.1) (fun s13 => Option.bind (f_X11_digit s13) (fun q14 => gGd (gin (x8 + 2) 64) (gLet (up2 q14.2 8 (gil (x8 + 2)) q14.1) (fun s15 => Option.bind (f_X11_digit s15) (fun q16 => gGd (gin (x8 + 3) 64) (gLet (up2 q16.2 8 (gil (x8 + 3)) q16.1) (fun s17 => gLet (up2 s17 0 12 ((s17 0 12) + 1)) (fun s18 => gLet (fun (j20 : Int32) (s21 : gS) => if j20 = 0 then (f_X11_readPad_L18 n j20 s21) else (Option.bind (f_X11_letter s21) (fun q24 => gLet (fun (j25 : Int32) (s26 : gS) => Option.bind (f_X11_wants j25 s26) (fun q28 => if (q28 0 14) = (-6) then (f_X11_readPad_L18 n 1 q28) else (f_X11_readPad_L18 n 0 q28))) (fun J27 => if q24.1 = 59 then (J27 1 q24.2) else (J27 0 q24.2))))) (fun J22 => gLet (fun (s31 : gS) => J22 0 s31) (fun J32 => if (s18 0 14) = (-6) then (if (s18 0 6) ≤ (s18 0 13) then (J32 s18) else (J22 1 s18)) else (J32 s18)))))))))))))))))))) := rfl
def f_X11_readPad (σ : gS) : Option (Int32 × gS) := gLet (up2 σ 0 12 0) (fun s1 => gLet (up2 s1 0 13 0) (fun s3 => gLet (up2 s3 0 14 (-6)) (fun s5 => f_X11_readPad_L18 gFu 1 s5)))
set_option maxHeartbeats 4000000 in
set_option maxRecDepth 100000 in
theorem w_X11_readPad_L18 {q : Int32 × gS} (K : gK p s m args meth c G cX11_readPad 3 RX11 (some .int)) : ∀ (n : Nat) (v1 : Int32) (σ : gS), f_X11_readPad_L18 n v1 σ = some q → ∀ (H : Heap) (locs : List Loc) (ls : Array Slot), gSt G (entM G o) o 9 s σ H locs → lv_has ls 3 [(0, .ref (o + 0)), (1, .int v1)] → W p l e rmX11_readPad s m args below meth c H locs 0 0 (MQ below (gQi G (entM G o) o 9 q) args s 0 0 (gA o 9)) (F0 m 18 ls []) := by
  obtain ⟨hx, hb, hml, hown, hts, -⟩ := id K
  intro n
  induction n with
  | zero =>
    intro v1 σ hf
    exact absurd (show (none : Option _) = some q from hf) (by simp)
  | succ n ih =>
    intro v1 σ hf H locs ls hS hl
    rw [f_X11_readPad_L18_s] at hf
    refine lv_iload_n hx hb dX11_readPad_18 rfl (lv_at hl 1 rfl) ?_
    refine lv_if_eq (tgt := 159) hx hb dX11_readPad_19 (by decide) (fun c7 => ?_) (fun c7 => ?_)
    · have hf := gIf_t c7 hf
      refine lv_aload_n hx hb dX11_readPad_159 rfl (lv_at hl 0 rfl) ?_
      refine g_get (cx := 0) K hS lF_X11_163 ((eM_0 G o) _) (by decide) rfl dX11_readPad_160 ?_
      exact g_iret K hS hf dX11_readPad_163
    · have hf := gIf_f c7 hf
      refine lv_iconst (v := 4) hx hb dX11_readPad_22 (by decide) ?_
      refine lv_aload_n hx hb dX11_readPad_23 rfl (lv_at hl 0 rfl) ?_
      refine g_get (cx := 0) K hS lF_X11_173 ((eM_0 G o) _) (by decide) rfl dX11_readPad_24 ?_
      refine lv_imul hx hb dX11_readPad_27 ?_
      obtain ⟨x8, hx8, hf⟩ := gLet_some hf
      refine g_top hx8 ?_
      refine lv_istore_n (lv' := [(2, .int x8), (0, .ref (o + 0)), (1, .int v1)]) hx hb dX11_readPad_28 rfl hl (by decide) rfl (fun ls hl => ?_)
      refine lv_aload_n hx hb dX11_readPad_29 rfl (lv_at hl 1 rfl) ?_
      refine g_get (cx := 0) K hS lF_X11_33 ((eM_0 G o) _) (by decide) rfl dX11_readPad_30 ?_
      refine lv_iload_n hx hb dX11_readPad_33 rfl (lv_at hl 0 rfl) ?_
      refine lv_aload_n hx hb dX11_readPad_34 rfl (lv_at hl 1 rfl) ?_
      refine lv_bipush (v := (-6)) hx hb dX11_readPad_35 (by decide) ?_
      obtain ⟨q9, hq9, hf⟩ := Option.bind_eq_some_iff.mp hf
      refine g_Vi (cx := 0) (As := [.int (-6)]) K hS lV_X11_176 (c_X11_roomRead (-6) σ q9 hq9) ((eM_0 G o) _) (by decide) rfl rfl rfl (Nat.le_of_ble_eq_true rfl) ⟨⟨Nat.le_of_ble_eq_true rfl, Nat.le_of_ble_eq_true rfl⟩, rfl, rfl⟩ hl.1 ⟨Nat.zero_le _, Nat.zero_le _⟩ dX11_readPad_37 (fun H locs hS => ?_)
      obtain ⟨h38, hf⟩ := gGd_some hf
      obtain ⟨s10, hs10, hf⟩ := gLet_some hf
      refine g_iast (cx := 8) K hS (eM_8 G o) (by decide) h38 rfl dX11_readPad_40 (fun H locs hS => ?_)
      rw [← hs10] at hS
      refine lv_aload_n hx hb dX11_readPad_41 rfl (lv_at hl 1 rfl) ?_
      refine g_get (cx := 0) K hS lF_X11_33 ((eM_0 G o) _) (by decide) rfl dX11_readPad_42 ?_
      refine lv_iload_n hx hb dX11_readPad_45 rfl (lv_at hl 0 rfl) ?_
      refine lv_iconst (v := 1) hx hb dX11_readPad_46 (by decide) ?_
      refine lv_iadd hx hb dX11_readPad_47 ?_
      refine lv_aload_n hx hb dX11_readPad_48 rfl (lv_at hl 1 rfl) ?_
      refine lv_aload_n hx hb dX11_readPad_49 rfl (lv_at hl 1 rfl) ?_
      refine g_get (cx := 0) K hS lF_X11_33 ((eM_0 G o) _) (by decide) rfl dX11_readPad_50 ?_
      refine lv_iload_n hx hb dX11_readPad_53 rfl (lv_at hl 0 rfl) ?_
      obtain ⟨h11, hf⟩ := gGd_some hf
      refine g_iald (cx := 8) K hS (eM_8 G o) (by decide) h11 rfl dX11_readPad_54 ?_
      obtain ⟨q12, hq12, hf⟩ := Option.bind_eq_some_iff.mp hf
      refine g_Vi (cx := 0) (As := [.int (s10 8 (gil x8))]) K hS lV_X11_176 (c_X11_roomRead (s10 8 (gil x8)) s10 q12 hq12) ((eM_0 G o) _) (by decide) rfl rfl rfl (Nat.le_of_ble_eq_true rfl) ⟨⟨Nat.le_of_ble_eq_true rfl, Nat.le_of_ble_eq_true rfl⟩, rfl, rfl⟩ hl.1 ⟨Nat.zero_le _, Nat.zero_le _⟩ dX11_readPad_55 (fun H locs hS => ?_)
      obtain ⟨h37, hf⟩ := gGd_some hf
      obtain ⟨s13, hs13, hf⟩ := gLet_some hf
      refine g_iast (cx := 8) K hS (eM_8 G o) (by decide) h37 rfl dX11_readPad_58 (fun H locs hS => ?_)
      rw [← hs13] at hS
      refine lv_aload_n hx hb dX11_readPad_59 rfl (lv_at hl 1 rfl) ?_
      refine g_get (cx := 0) K hS lF_X11_33 ((eM_0 G o) _) (by decide) rfl dX11_readPad_60 ?_
      refine lv_iload_n hx hb dX11_readPad_63 rfl (lv_at hl 0 rfl) ?_
      refine lv_iconst (v := 2) hx hb dX11_readPad_64 (by decide) ?_
      refine lv_iadd hx hb dX11_readPad_65 ?_
      refine lv_aload_n hx hb dX11_readPad_66 rfl (lv_at hl 1 rfl) ?_
      obtain ⟨q14, hq14, hf⟩ := Option.bind_eq_some_iff.mp hf
      refine g_Vi (cx := 0) (As := []) K hS lV_X11_179 (c_X11_digit s13 q14 hq14) ((eM_0 G o) _) (by decide) rfl rfl rfl (Nat.le_of_ble_eq_true rfl) ⟨⟨Nat.le_of_ble_eq_true rfl, Nat.le_of_ble_eq_true rfl⟩, rfl, rfl⟩ hl.1 ⟨Nat.zero_le _, Nat.zero_le _⟩ dX11_readPad_67 (fun H locs hS => ?_)
      obtain ⟨h36, hf⟩ := gGd_some hf
      obtain ⟨s15, hs15, hf⟩ := gLet_some hf
      refine g_iast (cx := 8) K hS (eM_8 G o) (by decide) h36 rfl dX11_readPad_70 (fun H locs hS => ?_)
      rw [← hs15] at hS
      refine lv_aload_n hx hb dX11_readPad_71 rfl (lv_at hl 1 rfl) ?_
      refine g_get (cx := 0) K hS lF_X11_33 ((eM_0 G o) _) (by decide) rfl dX11_readPad_72 ?_
      refine lv_iload_n hx hb dX11_readPad_75 rfl (lv_at hl 0 rfl) ?_
      refine lv_iconst (v := 3) hx hb dX11_readPad_76 (by decide) ?_
      refine lv_iadd hx hb dX11_readPad_77 ?_
      refine lv_aload_n hx hb dX11_readPad_78 rfl (lv_at hl 1 rfl) ?_
      obtain ⟨q16, hq16, hf⟩ := Option.bind_eq_some_iff.mp hf
      refine g_Vi (cx := 0) (As := []) K hS lV_X11_179 (c_X11_digit s15 q16 hq16) ((eM_0 G o) _) (by decide) rfl rfl rfl (Nat.le_of_ble_eq_true rfl) ⟨⟨Nat.le_of_ble_eq_true rfl, Nat.le_of_ble_eq_true rfl⟩, rfl, rfl⟩ hl.1 ⟨Nat.zero_le _, Nat.zero_le _⟩ dX11_readPad_79 (fun H locs hS => ?_)
      obtain ⟨h35, hf⟩ := gGd_some hf
      obtain ⟨s17, hs17, hf⟩ := gLet_some hf
      refine g_iast (cx := 8) K hS (eM_8 G o) (by decide) h35 rfl dX11_readPad_82 (fun H locs hS => ?_)
      rw [← hs17] at hS
      refine lv_aload_n hx hb dX11_readPad_83 rfl (lv_at hl 1 rfl) ?_
      refine lv_dup hx hb dX11_readPad_84 rfl ?_
      refine g_get (cx := 0) K hS lF_X11_173 ((eM_0 G o) _) (by decide) rfl dX11_readPad_85 ?_
      refine lv_iconst (v := 1) hx hb dX11_readPad_88 (by decide) ?_
      refine lv_iadd hx hb dX11_readPad_89 ?_
      obtain ⟨s18, hs18, hf⟩ := gLet_some hf
      refine g_put (cx := 0) K hS lP_X11_173 (eM_0 G o) (by decide) rfl (Nat.le_of_ble_eq_true rfl) rfl rfl dX11_readPad_90 (fun H locs hS => ?_)
      rw [← hs18] at hS
      refine lv_aload_n hx hb dX11_readPad_93 rfl (lv_at hl 1 rfl) ?_
      refine g_get (cx := 0) K hS lF_X11_163 ((eM_0 G o) _) (by decide) rfl dX11_readPad_94 ?_
      refine lv_bipush (v := (-6)) hx hb dX11_readPad_97 (by decide) ?_
      obtain ⟨J22, hJ22, hf⟩ := gLet_some hf
      have wJ22 : ∀ (j20 : Int32) (s21 : gS), J22 j20 s21 = some q → ∀ (H : Heap) (locs : List Loc) (ls : Array Slot), gSt G (entM G o) o 9 s s21 H locs → lv_has ls 3 [(0, .ref (o + 0))] → W p l e rmX11_readPad s m args below meth c H locs 0 0 (MQ below (gQi G (entM G o) o 9 q) args s 0 0 (gA o 9)) (F0 m 118 ls [.int j20]) := by
        intro j20 s21 hf H locs ls hS hl
        rw [hJ22] at hf
        refine lv_istore_n (lv' := [(1, .int j20), (0, .ref (o + 0))]) hx hb dX11_readPad_118 rfl hl (by decide) rfl (fun ls hl => ?_)
        refine lv_iload_n hx hb dX11_readPad_119 rfl (lv_at hl 0 rfl) ?_
        refine lv_if_eq (tgt := 156) hx hb dX11_readPad_120 (by decide) (fun c23 => ?_) (fun c23 => ?_)
        · have hf := gIf_t c23 hf
          refine lv_goto (tgt := 18) hx hb dX11_readPad_156 (by decide) ?_
          exact ih j20 s21 hf _ _ _ hS (lv_sub hl [1, 0] rfl)
        · have hf := gIf_f c23 hf
          refine lv_aload_n hx hb dX11_readPad_123 rfl (lv_at hl 1 rfl) ?_
          refine lv_aload_n hx hb dX11_readPad_124 rfl (lv_at hl 1 rfl) ?_
          obtain ⟨q24, hq24, hf⟩ := Option.bind_eq_some_iff.mp hf
          refine g_Vi (cx := 0) (As := []) K hS lV_X11_166 (c_X11_letter s21 q24 hq24) ((eM_0 G o) _) (by decide) rfl rfl rfl (Nat.le_of_ble_eq_true rfl) ⟨⟨Nat.le_of_ble_eq_true rfl, Nat.le_of_ble_eq_true rfl⟩, rfl, rfl⟩ hl.1 ⟨Nat.zero_le _, Nat.zero_le _⟩ dX11_readPad_125 (fun H locs hS => ?_)
          refine lv_bipush (v := 59) hx hb dX11_readPad_128 (by decide) ?_
          obtain ⟨J27, hJ27, hf⟩ := gLet_some hf
          have wJ27 : ∀ (j25 : Int32) (s26 : gS), J27 j25 s26 = some q → ∀ (H : Heap) (locs : List Loc) (ls : Array Slot), gSt G (entM G o) o 9 s s26 H locs → lv_has ls 3 [(0, .ref (o + 0))] → W p l e rmX11_readPad s m args below meth c H locs 0 0 (MQ below (gQi G (entM G o) o 9 q) args s 0 0 (gA o 9)) (F0 m 138 ls [.int j25, .ref (o + 0)]) := by
            intro j25 s26 hf H locs ls hS hl
            rw [hJ27] at hf
            obtain ⟨q28, hq28, hf⟩ := Option.bind_eq_some_iff.mp hf
            refine g_Vv (cx := 0) (As := [.int j25]) K hS lV_X11_169 (c_X11_wants j25 s26 q28 hq28) ((eM_0 G o) _) (by decide) rfl rfl rfl (Nat.le_of_ble_eq_true rfl) ⟨⟨Nat.le_of_ble_eq_true rfl, Nat.le_of_ble_eq_true rfl⟩, rfl, rfl⟩ hl.1 ⟨Nat.zero_le _, Nat.zero_le _⟩ dX11_readPad_138 (fun H locs hS => ?_)
            refine lv_aload_n hx hb dX11_readPad_141 rfl (lv_at hl 0 rfl) ?_
            refine g_get (cx := 0) K hS lF_X11_163 ((eM_0 G o) _) (by decide) rfl dX11_readPad_142 ?_
            refine lv_bipush (v := (-6)) hx hb dX11_readPad_145 (by decide) ?_
            refine lv_icmp_ne (tgt := 154) hx hb dX11_readPad_147 (by decide) (fun c29 => ?_) (fun c29 => ?_)
            · have hf := gIf_f c29 hf
              refine lv_iconst (v := 0) hx hb dX11_readPad_154 (by decide) ?_
              refine lv_istore_n (lv' := [(1, .int 0), (0, .ref (o + 0))]) hx hb dX11_readPad_155 rfl hl (by decide) rfl (fun ls hl => ?_)
              refine lv_goto (tgt := 18) hx hb dX11_readPad_156 (by decide) ?_
              exact ih 0 q28 hf _ _ _ hS (lv_sub hl [1, 0] rfl)
            · have hf := gIf_t c29 hf
              refine lv_iconst (v := 1) hx hb dX11_readPad_150 (by decide) ?_
              refine lv_goto (tgt := 155) hx hb dX11_readPad_151 (by decide) ?_
              refine lv_istore_n (lv' := [(1, .int 1), (0, .ref (o + 0))]) hx hb dX11_readPad_155 rfl hl (by decide) rfl (fun ls hl => ?_)
              refine lv_goto (tgt := 18) hx hb dX11_readPad_156 (by decide) ?_
              exact ih 1 q28 hf _ _ _ hS (lv_sub hl [1, 0] rfl)
          clear hJ27
          refine lv_icmp_ne (tgt := 137) hx hb dX11_readPad_130 (by decide) (fun c30 => ?_) (fun c30 => ?_)
          · have hf := gIf_f c30 hf
            refine lv_iconst (v := 0) hx hb dX11_readPad_137 (by decide) ?_
            exact wJ27 0 q24.2 hf _ _ _ hS (lv_sub hl [1] rfl)
          · have hf := gIf_t c30 hf
            refine lv_iconst (v := 1) hx hb dX11_readPad_133 (by decide) ?_
            refine lv_goto (tgt := 138) hx hb dX11_readPad_134 (by decide) ?_
            exact wJ27 1 q24.2 hf _ _ _ hS (lv_sub hl [1] rfl)
      clear hJ22
      obtain ⟨J32, hJ32, hf⟩ := gLet_some hf
      have wJ32 : ∀  (s31 : gS), J32  s31 = some q → ∀ (H : Heap) (locs : List Loc) (ls : Array Slot), gSt G (entM G o) o 9 s s31 H locs → lv_has ls 3 [(0, .ref (o + 0))] → W p l e rmX11_readPad s m args below meth c H locs 0 0 (MQ below (gQi G (entM G o) o 9 q) args s 0 0 (gA o 9)) (F0 m 117 ls []) := by
        intro  s31 hf H locs ls hS hl
        rw [hJ32] at hf
        refine lv_iconst (v := 0) hx hb dX11_readPad_117 (by decide) ?_
        exact wJ22 0 s31 hf _ _ _ hS (lv_sub hl [0] rfl)
      clear hJ32
      refine lv_icmp_ne (tgt := 117) hx hb dX11_readPad_99 (by decide) (fun c33 => ?_) (fun c33 => ?_)
      · have hf := gIf_f c33 hf
        exact wJ32  s18 hf _ _ _ hS (lv_sub hl [1] rfl)
      · have hf := gIf_t c33 hf
        refine lv_aload_n hx hb dX11_readPad_102 rfl (lv_at hl 1 rfl) ?_
        refine g_get (cx := 0) K hS lF_X11_160 ((eM_0 G o) _) (by decide) rfl dX11_readPad_103 ?_
        refine lv_aload_n hx hb dX11_readPad_106 rfl (lv_at hl 1 rfl) ?_
        refine g_get (cx := 0) K hS lF_X11_157 ((eM_0 G o) _) (by decide) rfl dX11_readPad_107 ?_
        refine lv_icmp_ge (tgt := 117) hx hb dX11_readPad_110 (by decide) (fun c34 => ?_) (fun c34 => ?_)
        · have hf := gIf_t c34 hf
          exact wJ32  s18 hf _ _ _ hS (lv_sub hl [1] rfl)
        · have hf := gIf_f c34 hf
          refine lv_iconst (v := 1) hx hb dX11_readPad_113 (by decide) ?_
          refine lv_goto (tgt := 118) hx hb dX11_readPad_114 (by decide) ?_
          exact wJ22 1 s18 hf _ _ _ hS (lv_sub hl [1] rfl)
set_option maxHeartbeats 4000000 in
set_option maxRecDepth 100000 in
theorem c_X11_readPad (σ : gS) (q : Int32 × gS) (hf : f_X11_readPad σ = some q) : Met l yX11_readPad (gW yX11_readPad cX11_readPad 3 (some .int)) rmX11_readPad (gPc G (entM G o) o 9 [.ref (o + 0)] σ) (gQi G (entM G o) o 9 q) 0 0 (gA o 9) := by
  refine g_met (by decide) ⟨rfl, rfl⟩ (fun p e s m args below meth c ls K hS hl => ?_) (Nat.le_of_ble_eq_true rfl)
  have K : gK p s m args meth c G cX11_readPad 3 RX11 (some .int) := K
  have hl : lv_has ls 3 [(0, .ref (o + 0))] := hl
  obtain ⟨hx, hb, hml, hown, hts, -⟩ := id K
  unfold f_X11_readPad at hf
  refine lv_aload_n hx hb dX11_readPad_0 rfl (lv_at hl 0 rfl) ?_
  refine lv_iconst (v := 0) hx hb dX11_readPad_1 (by decide) ?_
  obtain ⟨s1, hs1, hf⟩ := gLet_some hf
  refine g_put (cx := 0) K hS lP_X11_173 (eM_0 G o) (by decide) rfl (Nat.le_of_ble_eq_true rfl) rfl rfl dX11_readPad_2 (fun H locs hS => ?_)
  rw [← hs1] at hS
  refine lv_aload_n hx hb dX11_readPad_5 rfl (lv_at hl 0 rfl) ?_
  refine lv_iconst (v := 0) hx hb dX11_readPad_6 (by decide) ?_
  obtain ⟨s3, hs3, hf⟩ := gLet_some hf
  refine g_put (cx := 0) K hS lP_X11_160 (eM_0 G o) (by decide) rfl (Nat.le_of_ble_eq_true rfl) rfl rfl dX11_readPad_7 (fun H locs hS => ?_)
  rw [← hs3] at hS
  refine lv_aload_n hx hb dX11_readPad_10 rfl (lv_at hl 0 rfl) ?_
  refine lv_bipush (v := (-6)) hx hb dX11_readPad_11 (by decide) ?_
  obtain ⟨s5, hs5, hf⟩ := gLet_some hf
  refine g_put (cx := 0) K hS lP_X11_163 (eM_0 G o) (by decide) rfl (Nat.le_of_ble_eq_true rfl) rfl rfl dX11_readPad_13 (fun H locs hS => ?_)
  rw [← hs5] at hS
  refine lv_iconst (v := 1) hx hb dX11_readPad_16 (by decide) ?_
  refine lv_istore_n (lv' := [(1, .int 1), (0, .ref (o + 0))]) hx hb dX11_readPad_17 rfl hl (by decide) rfl (fun ls hl => ?_)
  refine w_X11_readPad_L18 K gFu 1 s5 hf _ _ _ hS (lv_sub hl [1, 0] rfl)
abbrev rmX11_fault : Room := { frames := 4, cells := 0, slots := 0, locals := 86 }
def f_X11_fault (σ : gS) : Option (Int32 × gS) := Option.bind (f_X11_readPad σ) (fun q1 => some (q1.1, q1.2))
set_option maxHeartbeats 4000000 in
set_option maxRecDepth 100000 in
theorem c_X11_fault (σ : gS) (q : Int32 × gS) (hf : f_X11_fault σ = some q) : Met l yX11_fault (gW yX11_fault cX11_fault 1 (some .int)) rmX11_fault (gPc G (entM G o) o 9 [.ref (o + 0)] σ) (gQi G (entM G o) o 9 q) 0 0 (gA o 9) := by
  refine g_met (by decide) ⟨rfl, rfl⟩ (fun p e s m args below meth c ls K hS hl => ?_) (Nat.le_of_ble_eq_true rfl)
  have K : gK p s m args meth c G cX11_fault 1 RX11 (some .int) := K
  have hl : lv_has ls 1 [(0, .ref (o + 0))] := hl
  obtain ⟨hx, hb, hml, hown, hts, -⟩ := id K
  unfold f_X11_fault at hf
  refine lv_aload_n hx hb dX11_fault_0 rfl (lv_at hl 0 rfl) ?_
  obtain ⟨q1, hq1, hf⟩ := Option.bind_eq_some_iff.mp hf
  refine g_Vi (cx := 0) (As := []) K hS lV_X11_182 (c_X11_readPad σ q1 hq1) ((eM_0 G o) _) (by decide) rfl rfl rfl (Nat.le_of_ble_eq_true rfl) ⟨⟨Nat.le_of_ble_eq_true rfl, Nat.le_of_ble_eq_true rfl⟩, rfl, rfl⟩ hl.1 ⟨Nat.zero_le _, Nat.zero_le _⟩ dX11_fault_1 (fun H locs hS => ?_)
  exact g_iret K hS hf dX11_fault_4
abbrev rmX11_read : Room := { frames := 4, cells := 0, slots := 0, locals := 86 }
def f_X11_read_L37 (K88 : gS → Option (Int32 × gS)) : Nat → Int32 → gS → Option (Int32 × gS)
  | 0, _, _ => none
  | n + 1, v1, σ => if (4 * (σ 0 12)) ≤ v1 then (K88 σ) else (gGd (gin v1 64) (gGd (gin (v1 + 1) 64) (gGd (gin (v1 + 2) 64) (gGd (gin (v1 + 3) 64) (Option.bind (f_X11_lies (σ 8 (gil v1)) (σ 8 (gil (v1 + 1))) (σ 8 (gil (v1 + 2))) (σ 8 (gil (v1 + 3))) σ) (fun q10 => f_X11_read_L37 K88 n (v1 + 4) q10.2))))))
theorem f_X11_read_L37_s (K88 : gS → Option (Int32 × gS)) (n : Nat) (v1 : Int32) (σ : gS) : f_X11_read_L37 K88 (n + 1) v1 σ = (if (4 * (σ 0 12)) ≤ v1 then (K88 σ) else (gGd (gin v1 64) (gGd (gin (v1 + 1) 64) (gGd (gin (v1 + 2) 64) (gGd (gin (v1 + 3) 64) (Option.bind (f_X11_lies (σ 8 (gil v1)) (σ 8 (gil (v1 + 1))) (σ 8 (gil (v1 + 2))) (σ 8 (gil (v1 + 3))) σ) (fun q10 => f_X11_read_L37 K88 n (v1 + 4) q10.2))))))) := rfl
def f_X11_read (σ : gS) : Option (Int32 × gS) := Option.bind (f_X11_readPad σ) (fun q1 => if q1.1 = (-6) then (if ((q1.2 1 4) + (q1.2 0 12)) ≤ 20 then (Option.bind (f_X11_record q1.2) (fun q4 => f_X11_read_L37 (fun (s11 : gS) => gLet (up2 s11 0 6 0) (fun s12 => some ((s12 1 4), s12))) gFu 0 q4)) else (some ((-4), q1.2))) else (some ((-3), q1.2)))
set_option maxHeartbeats 4000000 in
set_option maxRecDepth 100000 in
theorem w_X11_read_L37 (K88 : gS → Option (Int32 × gS)) {q : Int32 × gS} (K : gK p s m args meth c G cX11_read 2 RX11 (some .int)) (hK88 : ∀ (σ : gS), K88 σ = some q → ∀ (H : Heap) (locs : List Loc) (ls : Array Slot), gSt G (entM G o) o 9 s σ H locs → lv_has ls 2 [(0, .ref (o + 0))] → W p l e rmX11_read s m args below meth c H locs 0 0 (MQ below (gQi G (entM G o) o 9 q) args s 0 0 (gA o 9)) (F0 m 88 ls [])) : ∀ (n : Nat) (v1 : Int32) (σ : gS), f_X11_read_L37 K88 n v1 σ = some q → ∀ (H : Heap) (locs : List Loc) (ls : Array Slot), gSt G (entM G o) o 9 s σ H locs → lv_has ls 2 [(0, .ref (o + 0)), (1, .int v1)] → W p l e rmX11_read s m args below meth c H locs 0 0 (MQ below (gQi G (entM G o) o 9 q) args s 0 0 (gA o 9)) (F0 m 37 ls []) := by
  obtain ⟨hx, hb, hml, hown, hts, -⟩ := id K
  intro n
  induction n with
  | zero =>
    intro v1 σ hf
    exact absurd (show (none : Option _) = some q from hf) (by simp)
  | succ n ih =>
    intro v1 σ hf H locs ls hS hl
    rw [f_X11_read_L37_s] at hf
    refine lv_iload_n hx hb dX11_read_37 rfl (lv_at hl 1 rfl) ?_
    refine lv_iconst (v := 4) hx hb dX11_read_38 (by decide) ?_
    refine lv_aload_n hx hb dX11_read_39 rfl (lv_at hl 0 rfl) ?_
    refine g_get (cx := 0) K hS lF_X11_173 ((eM_0 G o) _) (by decide) rfl dX11_read_40 ?_
    refine lv_imul hx hb dX11_read_43 ?_
    refine lv_icmp_ge (tgt := 88) hx hb dX11_read_44 (by decide) (fun c5 => ?_) (fun c5 => ?_)
    · have hf := gIf_t c5 hf
      exact hK88 σ hf _ _ _ hS (lv_sub hl [0] rfl)
    · have hf := gIf_f c5 hf
      refine lv_aload_n hx hb dX11_read_47 rfl (lv_at hl 0 rfl) ?_
      refine lv_aload_n hx hb dX11_read_48 rfl (lv_at hl 0 rfl) ?_
      refine g_get (cx := 0) K hS lF_X11_33 ((eM_0 G o) _) (by decide) rfl dX11_read_49 ?_
      refine lv_iload_n hx hb dX11_read_52 rfl (lv_at hl 1 rfl) ?_
      obtain ⟨h6, hf⟩ := gGd_some hf
      refine g_iald (cx := 8) K hS (eM_8 G o) (by decide) h6 rfl dX11_read_53 ?_
      refine lv_aload_n hx hb dX11_read_54 rfl (lv_at hl 0 rfl) ?_
      refine g_get (cx := 0) K hS lF_X11_33 ((eM_0 G o) _) (by decide) rfl dX11_read_55 ?_
      refine lv_iload_n hx hb dX11_read_58 rfl (lv_at hl 1 rfl) ?_
      refine lv_iconst (v := 1) hx hb dX11_read_59 (by decide) ?_
      refine lv_iadd hx hb dX11_read_60 ?_
      obtain ⟨h7, hf⟩ := gGd_some hf
      refine g_iald (cx := 8) K hS (eM_8 G o) (by decide) h7 rfl dX11_read_61 ?_
      refine lv_aload_n hx hb dX11_read_62 rfl (lv_at hl 0 rfl) ?_
      refine g_get (cx := 0) K hS lF_X11_33 ((eM_0 G o) _) (by decide) rfl dX11_read_63 ?_
      refine lv_iload_n hx hb dX11_read_66 rfl (lv_at hl 1 rfl) ?_
      refine lv_iconst (v := 2) hx hb dX11_read_67 (by decide) ?_
      refine lv_iadd hx hb dX11_read_68 ?_
      obtain ⟨h8, hf⟩ := gGd_some hf
      refine g_iald (cx := 8) K hS (eM_8 G o) (by decide) h8 rfl dX11_read_69 ?_
      refine lv_aload_n hx hb dX11_read_70 rfl (lv_at hl 0 rfl) ?_
      refine g_get (cx := 0) K hS lF_X11_33 ((eM_0 G o) _) (by decide) rfl dX11_read_71 ?_
      refine lv_iload_n hx hb dX11_read_74 rfl (lv_at hl 1 rfl) ?_
      refine lv_iconst (v := 3) hx hb dX11_read_75 (by decide) ?_
      refine lv_iadd hx hb dX11_read_76 ?_
      obtain ⟨h9, hf⟩ := gGd_some hf
      refine g_iald (cx := 8) K hS (eM_8 G o) (by decide) h9 rfl dX11_read_77 ?_
      obtain ⟨q10, hq10, hf⟩ := Option.bind_eq_some_iff.mp hf
      refine g_Vi (cx := 0) (As := [.int (σ 8 (gil v1)), .int (σ 8 (gil (v1 + 1))), .int (σ 8 (gil (v1 + 2))), .int (σ 8 (gil (v1 + 3)))]) K hS lV_X11_59 (c_X11_lies (σ 8 (gil v1)) (σ 8 (gil (v1 + 1))) (σ 8 (gil (v1 + 2))) (σ 8 (gil (v1 + 3))) σ q10 hq10) ((eM_0 G o) _) (by decide) rfl rfl rfl (Nat.le_of_ble_eq_true rfl) ⟨⟨Nat.le_of_ble_eq_true rfl, Nat.le_of_ble_eq_true rfl⟩, rfl, rfl⟩ hl.1 ⟨Nat.zero_le _, Nat.zero_le _⟩ dX11_read_78 (fun H locs hS => ?_)
      refine lv_pop hx hb dX11_read_81 rfl ?_
      refine lv_iinc (v := (v1 + 4)) (lv' := [(1, .int (v1 + 4)), (0, .ref (o + 0))]) hx hb dX11_read_82 hl (k := 1) rfl rfl (by decide) rfl (fun ls hl => ?_)
      refine lv_goto (tgt := 37) hx hb dX11_read_85 (by decide) ?_
      exact ih (v1 + 4) q10.2 hf _ _ _ hS (lv_sub hl [1, 0] rfl)
set_option maxHeartbeats 4000000 in
set_option maxRecDepth 100000 in
theorem c_X11_read (σ : gS) (q : Int32 × gS) (hf : f_X11_read σ = some q) : Met l yX11_read (gW yX11_read cX11_read 2 (some .int)) rmX11_read (gPc G (entM G o) o 9 [.ref (o + 0)] σ) (gQi G (entM G o) o 9 q) 0 0 (gA o 9) := by
  refine g_met (by decide) ⟨rfl, rfl⟩ (fun p e s m args below meth c ls K hS hl => ?_) (Nat.le_of_ble_eq_true rfl)
  have K : gK p s m args meth c G cX11_read 2 RX11 (some .int) := K
  have hl : lv_has ls 2 [(0, .ref (o + 0))] := hl
  obtain ⟨hx, hb, hml, hown, hts, -⟩ := id K
  unfold f_X11_read at hf
  refine lv_aload_n hx hb dX11_read_0 rfl (lv_at hl 0 rfl) ?_
  obtain ⟨q1, hq1, hf⟩ := Option.bind_eq_some_iff.mp hf
  refine g_Vi (cx := 0) (As := []) K hS lV_X11_182 (c_X11_readPad σ q1 hq1) ((eM_0 G o) _) (by decide) rfl rfl rfl (Nat.le_of_ble_eq_true rfl) ⟨⟨Nat.le_of_ble_eq_true rfl, Nat.le_of_ble_eq_true rfl⟩, rfl, rfl⟩ hl.1 ⟨Nat.zero_le _, Nat.zero_le _⟩ dX11_read_1 (fun H locs hS => ?_)
  refine lv_bipush (v := (-6)) hx hb dX11_read_4 (by decide) ?_
  refine lv_icmp_eq (tgt := 12) hx hb dX11_read_6 (by decide) (fun c2 => ?_) (fun c2 => ?_)
  · have hf := gIf_t c2 hf
    refine lv_aload_n hx hb dX11_read_12 rfl (lv_at hl 0 rfl) ?_
    refine g_get (cx := 0) K hS lF_X11_7 ((eM_0 G o) _) (by decide) rfl dX11_read_13 ?_
    refine lv_iconst (v := 4) hx hb dX11_read_16 (by decide) ?_
    refine g_iald (cx := 1) (j := 4) K hS (eM_1 G o) (by decide) (by decide) (by decide) dX11_read_17 ?_
    refine lv_aload_n hx hb dX11_read_18 rfl (lv_at hl 0 rfl) ?_
    refine g_get (cx := 0) K hS lF_X11_173 ((eM_0 G o) _) (by decide) rfl dX11_read_19 ?_
    refine lv_iadd hx hb dX11_read_22 ?_
    refine lv_bipush (v := 20) hx hb dX11_read_23 (by decide) ?_
    refine lv_icmp_le (tgt := 31) hx hb dX11_read_25 (by decide) (fun c3 => ?_) (fun c3 => ?_)
    · have hf := gIf_t c3 hf
      refine lv_aload_n hx hb dX11_read_31 rfl (lv_at hl 0 rfl) ?_
      obtain ⟨q4, hq4, hf⟩ := Option.bind_eq_some_iff.mp hf
      refine g_Vv (cx := 0) (As := []) K hS lV_X11_48 (c_X11_record q1.2 q4 hq4) ((eM_0 G o) _) (by decide) rfl rfl rfl (Nat.le_of_ble_eq_true rfl) ⟨⟨Nat.le_of_ble_eq_true rfl, Nat.le_of_ble_eq_true rfl⟩, rfl, rfl⟩ hl.1 ⟨Nat.zero_le _, Nat.zero_le _⟩ dX11_read_32 (fun H locs hS => ?_)
      refine lv_iconst (v := 0) hx hb dX11_read_35 (by decide) ?_
      refine lv_istore_n (lv' := [(1, .int 0), (0, .ref (o + 0))]) hx hb dX11_read_36 rfl hl (by decide) rfl (fun ls hl => ?_)
      refine w_X11_read_L37 _ K ?_ gFu 0 q4 hf _ _ _ hS (lv_sub hl [1, 0] rfl)
      · intro  s11 hf H locs ls hS hl
        refine lv_aload_n hx hb dX11_read_88 rfl (lv_at hl 0 rfl) ?_
        refine lv_iconst (v := 0) hx hb dX11_read_89 (by decide) ?_
        obtain ⟨s12, hs12, hf⟩ := gLet_some hf
        refine g_put (cx := 0) K hS lP_X11_157 (eM_0 G o) (by decide) rfl (Nat.le_of_ble_eq_true rfl) rfl rfl dX11_read_90 (fun H locs hS => ?_)
        rw [← hs12] at hS
        refine lv_aload_n hx hb dX11_read_93 rfl (lv_at hl 0 rfl) ?_
        refine g_get (cx := 0) K hS lF_X11_7 ((eM_0 G o) _) (by decide) rfl dX11_read_94 ?_
        refine lv_iconst (v := 4) hx hb dX11_read_97 (by decide) ?_
        refine g_iald (cx := 1) (j := 4) K hS (eM_1 G o) (by decide) (by decide) (by decide) dX11_read_98 ?_
        exact g_iret K hS hf dX11_read_99
    · have hf := gIf_f c3 hf
      refine lv_bipush (v := (-4)) hx hb dX11_read_28 (by decide) ?_
      exact g_iret K hS hf dX11_read_30
  · have hf := gIf_f c2 hf
    refine lv_bipush (v := (-3)) hx hb dX11_read_9 (by decide) ?_
    exact g_iret K hS hf dX11_read_11
abbrev rmX11_write : Room := { frames := 1, cells := 0, slots := 0, locals := 22 }
def f_X11_write_L8 (w1 : Int64) (K49 : Int32 → Int32 → gS → Option (Int32 × gS)) : Nat → Int32 → Int64 → Int32 → gS → Option (Int32 × gS)
  | 0, _, _, _, _ => none
  | n + 1, v3, v4, v6, σ => if (lg_cmp v4 0) = 0 then (K49 v3 v6 σ) else (if v6 = 0 then (K49 v3 v6 σ) else (Option.bind (f_X11_in (Int64.toInt32 (v4 &&& 255)) 33 126 σ) (fun q3 => gLet (gushL v4 8) (fun x4 => f_X11_write_L8 w1 K49 n (v3 + 1) x4 q3.1 q3.2))))
theorem f_X11_write_L8_s (w1 : Int64) (K49 : Int32 → Int32 → gS → Option (Int32 × gS)) (n : Nat) (v3 : Int32) (v4 : Int64) (v6 : Int32) (σ : gS) : f_X11_write_L8 w1 K49 (n + 1) v3 v4 v6 σ = (if (lg_cmp v4 0) = 0 then (K49 v3 v6 σ) else (if v6 = 0 then (K49 v3 v6 σ) else (Option.bind (f_X11_in (Int64.toInt32 (v4 &&& 255)) 33 126 σ) (fun q3 => gLet (gushL v4 8) (fun x4 => f_X11_write_L8 w1 K49 n (v3 + 1) x4 q3.1 q3.2))))) := rfl
def f_X11_write_L80 (w1 : Int64) : Nat → Int32 → gS → Option (Int32 × gS)
  | 0, _, _ => none
  | n + 1, v7, σ => if v7 < 0 then (some ((σ 0 6), σ)) else (gGd (gin (σ 0 6) 60) (gLet (up2 σ 5 (gil (σ 0 6)) (vp_nar .char (gi2c (Int64.toInt32 ((gushL w1 (8 * v7)) &&& 255))))) (fun s12 => gLet (up2 s12 0 6 ((s12 0 6) + 1)) (fun s13 => f_X11_write_L80 w1 n (v7 + (-1)) s13))))
theorem f_X11_write_L80_s (w1 : Int64) (n : Nat) (v7 : Int32) (σ : gS) : f_X11_write_L80 w1 (n + 1) v7 σ = (if v7 < 0 then (some ((σ 0 6), σ)) else (gGd (gin (σ 0 6) 60) (gLet (up2 σ 5 (gil (σ 0 6)) (vp_nar .char (gi2c (Int64.toInt32 ((gushL w1 (8 * v7)) &&& 255))))) (fun s12 => gLet (up2 s12 0 6 ((s12 0 6) + 1)) (fun s13 => f_X11_write_L80 w1 n (v7 + (-1)) s13))))) := rfl
def f_X11_write (p0 : Int64) (σ : gS) : Option (Int32 × gS) := f_X11_write_L8 p0 (fun (k5 : Int32) (k6 : Int32) (s7 : gS) => if k5 = 0 then (some ((-2), s7)) else (if k6 = 0 then (some ((-2), s7)) else (if ((s7 0 6) + k5) ≤ 60 then (f_X11_write_L80 p0 gFu (k5 - 1) s7) else (some ((-4), s7))))) gFu 0 p0 1 σ
set_option maxHeartbeats 4000000 in
set_option maxRecDepth 100000 in
theorem w_X11_write_L8 (w1 : Int64) (K49 : Int32 → Int32 → gS → Option (Int32 × gS)) {q : Int32 × gS} (K : gK p s m args meth c G cX11_write 8 RX11 (some .int)) (hK49 : ∀ (k3 : Int32) (k6 : Int32) (σ : gS), K49 k3 k6 σ = some q → ∀ (H : Heap) (locs : List Loc) (ls : Array Slot), gSt G (entM G o) o 9 s σ H locs → lv_has ls 8 [(0, .ref (o + 0)), (1, .long w1), (3, .int k3), (6, .int k6)] → W p l e rmX11_write s m args below meth c H locs 0 0 (MQ below (gQi G (entM G o) o 9 q) args s 0 0 (gA o 9)) (F0 m 49 ls [])) : ∀ (n : Nat) (v3 : Int32) (v4 : Int64) (v6 : Int32) (σ : gS), f_X11_write_L8 w1 K49 n v3 v4 v6 σ = some q → ∀ (H : Heap) (locs : List Loc) (ls : Array Slot), gSt G (entM G o) o 9 s σ H locs → lv_has ls 8 [(0, .ref (o + 0)), (1, .long w1), (3, .int v3), (4, .long v4), (6, .int v6)] → W p l e rmX11_write s m args below meth c H locs 0 0 (MQ below (gQi G (entM G o) o 9 q) args s 0 0 (gA o 9)) (F0 m 8 ls []) := by
  obtain ⟨hx, hb, hml, hown, hts, -⟩ := id K
  intro n
  induction n with
  | zero =>
    intro v3 v4 v6 σ hf
    exact absurd (show (none : Option _) = some q from hf) (by simp)
  | succ n ih =>
    intro v3 v4 v6 σ hf H locs ls hS hl
    rw [f_X11_write_L8_s] at hf
    refine lv_lload hx hb dX11_write_8 (lv_at hl 3 rfl) ?_
    refine lv_lconst (v := 0) hx hb dX11_write_10 (by decide) ?_
    refine W.lcmp hx hb dX11_write_11 ?_
    refine lv_if_eq (tgt := 49) hx hb dX11_write_12 (by decide) (fun c1 => ?_) (fun c1 => ?_)
    · have hf := gIf_t c1 hf
      exact hK49 v3 v6 σ hf _ _ _ hS (lv_sub hl [0, 1, 2, 4] rfl)
    · have hf := gIf_f c1 hf
      refine lv_iload hx hb dX11_write_15 (lv_at hl 4 rfl) ?_
      refine lv_if_eq (tgt := 49) hx hb dX11_write_17 (by decide) (fun c2 => ?_) (fun c2 => ?_)
      · have hf := gIf_t c2 hf
        exact hK49 v3 v6 σ hf _ _ _ hS (lv_sub hl [0, 1, 2, 4] rfl)
      · have hf := gIf_f c2 hf
        refine lv_lload hx hb dX11_write_20 (lv_at hl 3 rfl) ?_
        refine lv_ldc2 (v := 255) hx hb hown (hts _ (gmem 1048 (by decide +kernel) rfl)) dX11_write_22 ?_
        refine lv_land hx hb dX11_write_25 ?_
        refine lv_l2i hx hb dX11_write_26 rfl ?_
        refine lv_bipush (v := 33) hx hb dX11_write_27 (by decide) ?_
        refine lv_bipush (v := 126) hx hb dX11_write_29 (by decide) ?_
        obtain ⟨q3, hq3, hf⟩ := Option.bind_eq_some_iff.mp hf
        refine g_Si (As := [.int (Int64.toInt32 (v4 &&& 255)), .int 33, .int 126]) K hS lS_X11_36 (c_X11_in (Int64.toInt32 (v4 &&& 255)) 33 126 σ q3 hq3) rfl rfl (Nat.le_of_ble_eq_true rfl) ⟨⟨Nat.le_of_ble_eq_true rfl, Nat.le_of_ble_eq_true rfl⟩, rfl, rfl⟩ hl.1 ⟨Nat.zero_le _, Nat.zero_le _⟩ dX11_write_31 (fun H locs hS => ?_)
        refine lv_istore (lv' := [(6, .int q3.1), (0, .ref (o + 0)), (1, .long w1), (3, .int v3), (4, .long v4)]) hx hb dX11_write_34 hl (by decide) rfl (fun ls hl => ?_)
        refine lv_lload hx hb dX11_write_36 (lv_at hl 4 rfl) ?_
        refine lv_bipush (v := 8) hx hb dX11_write_38 (by decide) ?_
        refine lv_lushr (v := gushL v4 8) hx hb dX11_write_40 rfl ?_
        obtain ⟨x4, hx4, hf⟩ := gLet_some hf
        refine g_topl hx4 ?_
        refine lv_lstore (lv' := [(4, .long x4), (6, .int q3.1), (0, .ref (o + 0)), (1, .long w1), (3, .int v3)]) hx hb dX11_write_41 hl (by decide) rfl (fun ls hl => ?_)
        refine lv_iinc (v := (v3 + 1)) (lv' := [(3, .int (v3 + 1)), (4, .long x4), (6, .int q3.1), (0, .ref (o + 0)), (1, .long w1)]) hx hb dX11_write_43 hl (k := 4) rfl rfl (by decide) rfl (fun ls hl => ?_)
        refine lv_goto (tgt := 8) hx hb dX11_write_46 (by decide) ?_
        exact ih (v3 + 1) x4 q3.1 q3.2 hf _ _ _ hS (lv_sub hl [3, 4, 0, 1, 2] rfl)
set_option maxHeartbeats 4000000 in
set_option maxRecDepth 100000 in
theorem w_X11_write_L80 (w1 : Int64) {q : Int32 × gS} (K : gK p s m args meth c G cX11_write 8 RX11 (some .int)) : ∀ (n : Nat) (v7 : Int32) (σ : gS), f_X11_write_L80 w1 n v7 σ = some q → ∀ (H : Heap) (locs : List Loc) (ls : Array Slot), gSt G (entM G o) o 9 s σ H locs → lv_has ls 8 [(0, .ref (o + 0)), (1, .long w1), (7, .int v7)] → W p l e rmX11_write s m args below meth c H locs 0 0 (MQ below (gQi G (entM G o) o 9 q) args s 0 0 (gA o 9)) (F0 m 80 ls []) := by
  obtain ⟨hx, hb, hml, hown, hts, -⟩ := id K
  intro n
  induction n with
  | zero =>
    intro v7 σ hf
    exact absurd (show (none : Option _) = some q from hf) (by simp)
  | succ n ih =>
    intro v7 σ hf H locs ls hS hl
    rw [f_X11_write_L80_s] at hf
    refine lv_iload hx hb dX11_write_80 (lv_at hl 2 rfl) ?_
    refine lv_if_lt (tgt := 123) hx hb dX11_write_82 (by decide) (fun c11 => ?_) (fun c11 => ?_)
    · have hf := gIf_t c11 hf
      refine lv_aload_n hx hb dX11_write_123 rfl (lv_at hl 0 rfl) ?_
      refine g_get (cx := 0) K hS lF_X11_157 ((eM_0 G o) _) (by decide) rfl dX11_write_124 ?_
      exact g_iret K hS hf dX11_write_127
    · have hf := gIf_f c11 hf
      refine lv_aload_n hx hb dX11_write_85 rfl (lv_at hl 0 rfl) ?_
      refine g_get (cx := 0) K hS lF_X11_23 ((eM_0 G o) _) (by decide) rfl dX11_write_86 ?_
      refine lv_aload_n hx hb dX11_write_89 rfl (lv_at hl 0 rfl) ?_
      refine g_get (cx := 0) K hS lF_X11_157 ((eM_0 G o) _) (by decide) rfl dX11_write_90 ?_
      refine lv_lload_n hx hb dX11_write_93 rfl (lv_at hl 1 rfl) ?_
      refine lv_bipush (v := 8) hx hb dX11_write_94 (by decide) ?_
      refine lv_iload hx hb dX11_write_96 (lv_at hl 2 rfl) ?_
      refine lv_imul hx hb dX11_write_98 ?_
      refine lv_lushr (v := gushL w1 (8 * v7)) hx hb dX11_write_99 rfl ?_
      refine lv_ldc2 (v := 255) hx hb hown (hts _ (gmem 1048 (by decide +kernel) rfl)) dX11_write_100 ?_
      refine lv_land hx hb dX11_write_103 ?_
      refine lv_l2i hx hb dX11_write_104 rfl ?_
      refine lv_i2c (v := gi2c (Int64.toInt32 ((gushL w1 (8 * v7)) &&& 255))) hx hb dX11_write_105 rfl ?_
      obtain ⟨h15, hf⟩ := gGd_some hf
      obtain ⟨s12, hs12, hf⟩ := gLet_some hf
      refine g_cast (cx := 5) K hS (eM_5 G o) (by decide) h15 rfl dX11_write_106 (fun H locs hS => ?_)
      rw [← hs12] at hS
      refine lv_aload_n hx hb dX11_write_107 rfl (lv_at hl 0 rfl) ?_
      refine lv_dup hx hb dX11_write_108 rfl ?_
      refine g_get (cx := 0) K hS lF_X11_157 ((eM_0 G o) _) (by decide) rfl dX11_write_109 ?_
      refine lv_iconst (v := 1) hx hb dX11_write_112 (by decide) ?_
      refine lv_iadd hx hb dX11_write_113 ?_
      obtain ⟨s13, hs13, hf⟩ := gLet_some hf
      refine g_put (cx := 0) K hS lP_X11_157 (eM_0 G o) (by decide) rfl (Nat.le_of_ble_eq_true rfl) rfl rfl dX11_write_114 (fun H locs hS => ?_)
      rw [← hs13] at hS
      refine lv_iinc (v := (v7 + (-1))) (lv' := [(7, .int (v7 + (-1))), (0, .ref (o + 0)), (1, .long w1)]) hx hb dX11_write_117 hl (k := 2) rfl rfl (by decide) rfl (fun ls hl => ?_)
      refine lv_goto (tgt := 80) hx hb dX11_write_120 (by decide) ?_
      exact ih (v7 + (-1)) s13 hf _ _ _ hS (lv_sub hl [1, 2, 0] rfl)
set_option maxHeartbeats 4000000 in
set_option maxRecDepth 100000 in
theorem c_X11_write (p0 : Int64) (σ : gS) (q : Int32 × gS) (hf : f_X11_write p0 σ = some q) : Met l yX11_write (gW yX11_write cX11_write 8 (some .int)) rmX11_write (gPc G (entM G o) o 9 [.ref (o + 0), .long p0] σ) (gQi G (entM G o) o 9 q) 0 0 (gA o 9) := by
  refine g_met (by decide) ⟨rfl, rfl⟩ (fun p e s m args below meth c ls K hS hl => ?_) (Nat.le_of_ble_eq_true rfl)
  have K : gK p s m args meth c G cX11_write 8 RX11 (some .int) := K
  have hl : lv_has ls 8 [(0, .ref (o + 0)), (1, .long p0)] := hl
  obtain ⟨hx, hb, hml, hown, hts, -⟩ := id K
  unfold f_X11_write at hf
  refine lv_iconst (v := 0) hx hb dX11_write_0 (by decide) ?_
  refine lv_istore_n (lv' := [(3, .int 0), (0, .ref (o + 0)), (1, .long p0)]) hx hb dX11_write_1 rfl hl (by decide) rfl (fun ls hl => ?_)
  refine lv_lload_n hx hb dX11_write_2 rfl (lv_at hl 2 rfl) ?_
  refine lv_lstore (lv' := [(4, .long p0), (3, .int 0), (0, .ref (o + 0)), (1, .long p0)]) hx hb dX11_write_3 hl (by decide) rfl (fun ls hl => ?_)
  refine lv_iconst (v := 1) hx hb dX11_write_5 (by decide) ?_
  refine lv_istore (lv' := [(6, .int 1), (4, .long p0), (3, .int 0), (0, .ref (o + 0)), (1, .long p0)]) hx hb dX11_write_6 hl (by decide) rfl (fun ls hl => ?_)
  refine w_X11_write_L8 p0 _ K ?_ gFu 0 p0 1 σ hf _ _ _ hS (lv_sub hl [3, 4, 2, 1, 0] rfl)
  · intro k5 k6 s7 hf H locs ls hS hl
    refine lv_iload_n hx hb dX11_write_49 rfl (lv_at hl 2 rfl) ?_
    refine lv_if_eq (tgt := 58) hx hb dX11_write_50 (by decide) (fun c8 => ?_) (fun c8 => ?_)
    · have hf := gIf_t c8 hf
      refine lv_bipush (v := (-2)) hx hb dX11_write_58 (by decide) ?_
      exact g_iret K hS hf dX11_write_60
    · have hf := gIf_f c8 hf
      refine lv_iload hx hb dX11_write_53 (lv_at hl 3 rfl) ?_
      refine lv_if_ne (tgt := 61) hx hb dX11_write_55 (by decide) (fun c9 => ?_) (fun c9 => ?_)
      · have hf := gIf_f c9 hf
        refine lv_aload_n hx hb dX11_write_61 rfl (lv_at hl 0 rfl) ?_
        refine g_get (cx := 0) K hS lF_X11_157 ((eM_0 G o) _) (by decide) rfl dX11_write_62 ?_
        refine lv_iload_n hx hb dX11_write_65 rfl (lv_at hl 2 rfl) ?_
        refine lv_iadd hx hb dX11_write_66 ?_
        refine lv_bipush (v := 60) hx hb dX11_write_67 (by decide) ?_
        refine lv_icmp_le (tgt := 75) hx hb dX11_write_69 (by decide) (fun c10 => ?_) (fun c10 => ?_)
        · have hf := gIf_t c10 hf
          refine lv_iload_n hx hb dX11_write_75 rfl (lv_at hl 2 rfl) ?_
          refine lv_iconst (v := 1) hx hb dX11_write_76 (by decide) ?_
          refine lv_isub hx hb dX11_write_77 ?_
          refine lv_istore (lv' := [(7, .int (k5 - 1)), (0, .ref (o + 0)), (1, .long p0), (3, .int k5), (6, .int k6)]) hx hb dX11_write_78 hl (by decide) rfl (fun ls hl => ?_)
          refine w_X11_write_L80 p0 K gFu (k5 - 1) s7 hf _ _ _ hS (lv_sub hl [1, 2, 0] rfl)
        · have hf := gIf_f c10 hf
          refine lv_bipush (v := (-4)) hx hb dX11_write_72 (by decide) ?_
          exact g_iret K hS hf dX11_write_74
      · have hf := gIf_t c9 hf
        refine lv_bipush (v := (-2)) hx hb dX11_write_58 (by decide) ?_
        exact g_iret K hS hf dX11_write_60
abbrev rmX11_wipe : Room := { frames := 0, cells := 0, slots := 0, locals := 0 }
def f_X11_wipe (σ : gS) : Option (Int32 × gS) := gLet (σ 0 6) (fun x1 => gLet (up2 σ 0 6 0) (fun s2 => some (x1, s2)))
set_option maxHeartbeats 4000000 in
set_option maxRecDepth 100000 in
theorem c_X11_wipe (σ : gS) (q : Int32 × gS) (hf : f_X11_wipe σ = some q) : Met l yX11_wipe (gW yX11_wipe cX11_wipe 2 (some .int)) rmX11_wipe (gPc G (entM G o) o 9 [.ref (o + 0)] σ) (gQi G (entM G o) o 9 q) 0 0 (gA o 9) := by
  refine g_met (by decide) ⟨rfl, rfl⟩ (fun p e s m args below meth c ls K hS hl => ?_) (Nat.le_of_ble_eq_true rfl)
  have K : gK p s m args meth c G cX11_wipe 2 RX11 (some .int) := K
  have hl : lv_has ls 2 [(0, .ref (o + 0))] := hl
  obtain ⟨hx, hb, hml, hown, hts, -⟩ := id K
  unfold f_X11_wipe at hf
  refine lv_aload_n hx hb dX11_wipe_0 rfl (lv_at hl 0 rfl) ?_
  refine g_get (cx := 0) K hS lF_X11_157 ((eM_0 G o) _) (by decide) rfl dX11_wipe_1 ?_
  obtain ⟨x1, hx1, hf⟩ := gLet_some hf
  refine g_top hx1 ?_
  refine lv_istore_n (lv' := [(1, .int x1), (0, .ref (o + 0))]) hx hb dX11_wipe_4 rfl hl (by decide) rfl (fun ls hl => ?_)
  refine lv_aload_n hx hb dX11_wipe_5 rfl (lv_at hl 1 rfl) ?_
  refine lv_iconst (v := 0) hx hb dX11_wipe_6 (by decide) ?_
  obtain ⟨s2, hs2, hf⟩ := gLet_some hf
  refine g_put (cx := 0) K hS lP_X11_157 (eM_0 G o) (by decide) rfl (Nat.le_of_ble_eq_true rfl) rfl rfl dX11_wipe_7 (fun H locs hS => ?_)
  rw [← hs2] at hS
  refine lv_iload_n hx hb dX11_wipe_10 rfl (lv_at hl 0 rfl) ?_
  exact g_iret K hS hf dX11_wipe_11
end
