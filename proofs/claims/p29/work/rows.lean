section
-- ===== PART A: goes FIRST, ahead of the names: the tables' words, and 'selects' of the private methods out of them =====
/-- a private method of a class that the tables say can be made, by its rows of tables_1 -/
def lw_okq (q : MethodName × Nat) : Prop := (q.1.cls ≠ "java/lang/invoke/MethodHandle" ∧ q.1.cls ≠ "java/lang/invoke/VarHandle") ∧ Cond.instantiable q.1.cls q.2 ∈ tables_1 ∧ Cond.privateMethod q.1 ∈ tables_1 ∧ Cond.instanceMethod q.1 ∈ tables_1
theorem lw_p0 : lw_okq (⟨"CreakingGhosts$Shelf", "has", "(I)Z"⟩, 1) := ⟨⟨by decide +kernel, by decide +kernel⟩, List.mem_of_getElem? (i := 194) (by decide +kernel), List.mem_of_getElem? (i := 285) (by decide +kernel), List.mem_of_getElem? (i := 286) (by decide +kernel)⟩
theorem lw_p1 : lw_okq (⟨"CreakingGhosts$Attic", "letCreak", "(I)I"⟩, 6) := ⟨⟨by decide +kernel, by decide +kernel⟩, List.mem_of_getElem? (i := 24) (by decide +kernel), List.mem_of_getElem? (i := 416) (by decide +kernel), List.mem_of_getElem? (i := 417) (by decide +kernel)⟩
theorem lw_p2 : lw_okq (⟨"CreakingGhosts$Attic", "minutesBetweenBells", "()I"⟩, 6) := ⟨⟨by decide +kernel, by decide +kernel⟩, List.mem_of_getElem? (i := 24) (by decide +kernel), List.mem_of_getElem? (i := 449) (by decide +kernel), List.mem_of_getElem? (i := 450) (by decide +kernel)⟩
theorem lw_p3 : lw_okq (⟨"CreakingGhosts", "findWay", "(II)V"⟩, 6) := ⟨⟨by decide +kernel, by decide +kernel⟩, List.mem_of_getElem? (i := 16) (by decide +kernel), List.mem_of_getElem? (i := 476) (by decide +kernel), List.mem_of_getElem? (i := 477) (by decide +kernel)⟩
theorem lw_p4 : lw_okq (⟨"CreakingGhosts$Way", "weigh", "(LCreakingGhosts$Boards;II)V"⟩, 5) := ⟨⟨by decide +kernel, by decide +kernel⟩, List.mem_of_getElem? (i := 221) (by decide +kernel), List.mem_of_getElem? (i := 485) (by decide +kernel), List.mem_of_getElem? (i := 486) (by decide +kernel)⟩
theorem lw_p5 : lw_okq (⟨"CreakingGhosts$Way", "lowerCosts", "(LCreakingGhosts$Boards;I)Z"⟩, 5) := ⟨⟨by decide +kernel, by decide +kernel⟩, List.mem_of_getElem? (i := 221) (by decide +kernel), List.mem_of_getElem? (i := 493) (by decide +kernel), List.mem_of_getElem? (i := 494) (by decide +kernel)⟩
theorem lw_p6 : lw_okq (⟨"CreakingGhosts$Way", "firstStep", "(LCreakingGhosts$Boards;II)I"⟩, 5) := ⟨⟨by decide +kernel, by decide +kernel⟩, List.mem_of_getElem? (i := 221) (by decide +kernel), List.mem_of_getElem? (i := 501) (by decide +kernel), List.mem_of_getElem? (i := 502) (by decide +kernel)⟩
def lw_privs_1 : List (MethodName × Nat) := [(⟨"CreakingGhosts$Shelf", "has", "(I)Z"⟩, 1), (⟨"CreakingGhosts$Attic", "letCreak", "(I)I"⟩, 6), (⟨"CreakingGhosts$Attic", "minutesBetweenBells", "()I"⟩, 6), (⟨"CreakingGhosts", "findWay", "(II)V"⟩, 6), (⟨"CreakingGhosts$Way", "weigh", "(LCreakingGhosts$Boards;II)V"⟩, 5), (⟨"CreakingGhosts$Way", "lowerCosts", "(LCreakingGhosts$Boards;I)Z"⟩, 5), (⟨"CreakingGhosts$Way", "firstStep", "(LCreakingGhosts$Boards;II)I"⟩, 5)]
theorem lw_r1 : ∀ q ∈ lw_privs_1, lw_okq q := List.forall_mem_cons.mpr ⟨lw_p0, List.forall_mem_cons.mpr ⟨lw_p1, List.forall_mem_cons.mpr ⟨lw_p2, List.forall_mem_cons.mpr ⟨lw_p3, List.forall_mem_cons.mpr ⟨lw_p4, List.forall_mem_cons.mpr ⟨lw_p5, List.forall_mem_cons.mpr ⟨lw_p6, fun _ h => absurd h List.not_mem_nil⟩⟩⟩⟩⟩⟩⟩
def lw_privs : List (MethodName × Nat) := lw_privs_1
def lw_tbl : List Cond := k2_sels lw_privs ++ tables_1
theorem lw_privs_ok : ∀ q ∈ lw_privs, lw_okq q := lw_r1
end
section
def RX0 : String := "CreakingGhosts$Attic"
def TX0 : u_T := fun k => match k with
  | 0 => ("CreakingGhosts$Attic", "minutes", "I", false)
  | 1 => ("CreakingGhosts$Attic", "bells", "I", false)
  | 2 => ("CreakingGhosts$Attic", "settings", "LCreakingGhosts$Row;", true)
  | 3 => ("CreakingGhosts$Attic", "boards", "LCreakingGhosts$Boards;", true)
  | 4 => ("CreakingGhosts$Attic", "ghosts", "LCreakingGhosts$Ghosts;", true)
  | _ => ("CreakingGhosts$Attic", "sleepers", "LCreakingGhosts$Sleepers;", true)
def tyX0 : Nat → FieldType := fun k => match k with
  | 0 => .int
  | 1 => .int
  | 2 => .object "CreakingGhosts$Row"
  | 3 => .object "CreakingGhosts$Boards"
  | 4 => .object "CreakingGhosts$Ghosts"
  | _ => .object "CreakingGhosts$Sleepers"
abbrev wsX00 : List Cond := u_ws RX0 TX0 6
theorem nmX0 : ∀ a, a < 6 → ∀ b, b < 6 → a ≠ b → (TX0 a).2.1 ≠ (TX0 b).2.1 := by decide +kernel
theorem tyX0_ok : ∀ k, k < 6 → parseFieldDescriptor (TX0 k).2.2.1 = some (tyX0 k) := by decide +kernel
abbrev cX0_init : ByteArray := prog_2_method_1_code
def yX0_init : MethodName := ⟨RX0, "<init>", "()V"⟩
abbrev cX0_copyFrom : ByteArray := prog_2_method_2_code
def yX0_copyFrom : MethodName := ⟨RX0, "copyFrom", "(LCreakingGhosts$Attic;)V"⟩
abbrev cX0_minutesBetweenBells : ByteArray := prog_2_method_3_code
def yX0_minutesBetweenBells : MethodName := ⟨RX0, "minutesBetweenBells", "()I"⟩
abbrev cX0_minutesToBell : ByteArray := prog_2_method_4_code
def yX0_minutesToBell : MethodName := ⟨RX0, "minutesToBell", "()I"⟩
abbrev cX0_leftTo : ByteArray := prog_2_method_5_code
def yX0_leftTo : MethodName := ⟨RX0, "leftTo", "(I)I"⟩
abbrev cX0_freeTo : ByteArray := prog_2_method_6_code
def yX0_freeTo : MethodName := ⟨RX0, "freeTo", "(I)I"⟩
abbrev cX0_freeAtRoomOf : ByteArray := prog_2_method_7_code
def yX0_freeAtRoomOf : MethodName := ⟨RX0, "freeAtRoomOf", "(I)I"⟩
abbrev cX0_ghostsFreeFor : ByteArray := prog_2_method_8_code
def yX0_ghostsFreeFor : MethodName := ⟨RX0, "ghostsFreeFor", "(I)I"⟩
abbrev cX0_boardsThatWake : ByteArray := prog_2_method_9_code
def yX0_boardsThatWake : MethodName := ⟨RX0, "boardsThatWake", "(I)I"⟩
abbrev cX0_letCreak : ByteArray := prog_2_method_10_code
def yX0_letCreak : MethodName := ⟨RX0, "letCreak", "(I)I"⟩
abbrev cX0_letPass : ByteArray := prog_2_method_11_code
def yX0_letPass : MethodName := ⟨RX0, "letPass", "(I)I"⟩
abbrev cX0_letGlide : ByteArray := prog_2_method_12_code
def yX0_letGlide : MethodName := ⟨RX0, "letGlide", "(II)I"⟩
def RX1 : String := "CreakingGhosts$Boards"
def TX1 : u_T := fun k => match k with
  | 0 => ("CreakingGhosts$Boards", "laid", "I", false)
  | 1 => ("CreakingGhosts$Boards", "lower", "LCreakingGhosts$Row;", true)
  | 2 => ("CreakingGhosts$Boards", "greater", "LCreakingGhosts$Row;", true)
  | 3 => ("CreakingGhosts$Boards", "ends", "LCreakingGhosts$Row;", true)
  | 4 => ("CreakingGhosts$Boards", "creak", "LCreakingGhosts$Row;", true)
  | 5 => ("CreakingGhosts$Boards", "minutes", "LCreakingGhosts$Row;", true)
  | _ => ("CreakingGhosts$Boards", "creaked", "LCreakingGhosts$Row;", true)
def tyX1 : Nat → FieldType := fun k => match k with
  | 0 => .int
  | 1 => .object "CreakingGhosts$Row"
  | 2 => .object "CreakingGhosts$Row"
  | 3 => .object "CreakingGhosts$Row"
  | 4 => .object "CreakingGhosts$Row"
  | 5 => .object "CreakingGhosts$Row"
  | _ => .object "CreakingGhosts$Row"
abbrev wsX10 : List Cond := u_ws RX1 TX1 7
theorem nmX1 : ∀ a, a < 7 → ∀ b, b < 7 → a ≠ b → (TX1 a).2.1 ≠ (TX1 b).2.1 := by decide +kernel
theorem tyX1_ok : ∀ k, k < 7 → parseFieldDescriptor (TX1 k).2.2.1 = some (tyX1 k) := by decide +kernel
abbrev cX1_init : ByteArray := prog_3_method_1_code
def yX1_init : MethodName := ⟨RX1, "<init>", "()V"⟩
abbrev cX1_copyFrom : ByteArray := prog_3_method_2_code
def yX1_copyFrom : MethodName := ⟨RX1, "copyFrom", "(LCreakingGhosts$Boards;)V"⟩
abbrev cX1_has : ByteArray := prog_3_method_3_code
def yX1_has : MethodName := ⟨RX1, "has", "(I)Z"⟩
abbrev cX1_append : ByteArray := prog_3_method_4_code
def yX1_append : MethodName := ⟨RX1, "append", "(IIII)V"⟩
abbrev cX1_remove : ByteArray := prog_3_method_5_code
def yX1_remove : MethodName := ⟨RX1, "remove", "(I)V"⟩
abbrev cX1_all : ByteArray := prog_3_method_6_code
def yX1_all : MethodName := ⟨RX1, "all", "()I"⟩
abbrev cX1_beyond : ByteArray := prog_3_method_7_code
def yX1_beyond : MethodName := ⟨RX1, "beyond", "(II)I"⟩
abbrev cX1_touching : ByteArray := prog_3_method_8_code
def yX1_touching : MethodName := ⟨RX1, "touching", "(I)I"⟩
abbrev cX1_atMostAsLoud : ByteArray := prog_3_method_9_code
def yX1_atMostAsLoud : MethodName := ⟨RX1, "atMostAsLoud", "(I)I"⟩
abbrev cX1_widened : ByteArray := prog_3_method_10_code
def yX1_widened : MethodName := ⟨RX1, "widened", "(II)I"⟩
abbrev cX1_roomsFrom : ByteArray := prog_3_method_11_code
def yX1_roomsFrom : MethodName := ⟨RX1, "roomsFrom", "(II)I"⟩
abbrev cX1_fewestTo : ByteArray := prog_3_method_12_code
def yX1_fewestTo : MethodName := ⟨RX1, "fewestTo", "(II)I"⟩
abbrev cX1_loudnessIn : ByteArray := prog_3_method_13_code
def yX1_loudnessIn : MethodName := ⟨RX1, "loudnessIn", "(II)I"⟩
abbrev cX1_pairsApartWithout : ByteArray := prog_3_method_14_code
def yX1_pairsApartWithout : MethodName := ⟨RX1, "pairsApartWithout", "(I)I"⟩
def RX2 : String := "CreakingGhosts$Ghosts"
def TX2 : u_T := fun k => match k with
  | 0 => ("CreakingGhosts$Ghosts", "room", "LCreakingGhosts$Row;", true)
  | 1 => ("CreakingGhosts$Ghosts", "crossed", "LCreakingGhosts$Row;", true)
  | _ => ("CreakingGhosts$Ghosts", "crossings", "LCreakingGhosts$Row;", true)
def tyX2 : Nat → FieldType := fun k => match k with
  | 0 => .object "CreakingGhosts$Row"
  | 1 => .object "CreakingGhosts$Row"
  | _ => .object "CreakingGhosts$Row"
abbrev wsX20 : List Cond := u_ws RX2 TX2 3
theorem nmX2 : ∀ a, a < 3 → ∀ b, b < 3 → a ≠ b → (TX2 a).2.1 ≠ (TX2 b).2.1 := by decide +kernel
theorem tyX2_ok : ∀ k, k < 3 → parseFieldDescriptor (TX2 k).2.2.1 = some (tyX2 k) := by decide +kernel
abbrev cX2_init : ByteArray := prog_4_method_1_code
def yX2_init : MethodName := ⟨RX2, "<init>", "()V"⟩
abbrev cX2_copyFrom : ByteArray := prog_4_method_2_code
def yX2_copyFrom : MethodName := ⟨RX2, "copyFrom", "(LCreakingGhosts$Ghosts;)V"⟩
abbrev cX2_whoCrossed : ByteArray := prog_4_method_3_code
def yX2_whoCrossed : MethodName := ⟨RX2, "whoCrossed", "(I)I"⟩
abbrev cX2_cross : ByteArray := prog_4_method_4_code
def yX2_cross : MethodName := ⟨RX2, "cross", "(III)V"⟩
abbrev cX2_forgetBoard : ByteArray := prog_4_method_5_code
def yX2_forgetBoard : MethodName := ⟨RX2, "forgetBoard", "(I)V"⟩
def RX3 : String := "CreakingGhosts$History"
def TX3 : u_T := fun k => match k with
  | 0 => ("CreakingGhosts$History", "states", "LCreakingGhosts$Shelf;", true)
  | 1 => ("CreakingGhosts$History", "next", "I", false)
  | _ => ("CreakingGhosts$History", "kept", "I", false)
def tyX3 : Nat → FieldType := fun k => match k with
  | 0 => .object "CreakingGhosts$Shelf"
  | 1 => .int
  | _ => .int
abbrev wsX30 : List Cond := u_ws RX3 TX3 3
theorem nmX3 : ∀ a, a < 3 → ∀ b, b < 3 → a ≠ b → (TX3 a).2.1 ≠ (TX3 b).2.1 := by decide +kernel
theorem tyX3_ok : ∀ k, k < 3 → parseFieldDescriptor (TX3 k).2.2.1 = some (tyX3 k) := by decide +kernel
abbrev cX3_init : ByteArray := prog_5_method_1_code
def yX3_init : MethodName := ⟨RX3, "<init>", "()V"⟩
abbrev cX3_remember : ByteArray := prog_5_method_2_code
def yX3_remember : MethodName := ⟨RX3, "remember", "(LCreakingGhosts$Attic;)V"⟩
def RX4 : String := "CreakingGhosts$Pad"
def TX4 : u_T := fun k => match k with
  | 0 => ("CreakingGhosts$Pad", "length", "I", false)
  | _ => ("CreakingGhosts$Pad", "signs", "LCreakingGhosts$Row;", true)
def tyX4 : Nat → FieldType := fun k => match k with
  | 0 => .int
  | _ => .object "CreakingGhosts$Row"
abbrev wsX40 : List Cond := u_ws RX4 TX4 2
theorem nmX4 : ∀ a, a < 2 → ∀ b, b < 2 → a ≠ b → (TX4 a).2.1 ≠ (TX4 b).2.1 := by decide +kernel
theorem tyX4_ok : ∀ k, k < 2 → parseFieldDescriptor (TX4 k).2.2.1 = some (tyX4 k) := by decide +kernel
abbrev cX4_init : ByteArray := prog_6_method_1_code
def yX4_init : MethodName := ⟨RX4, "<init>", "()V"⟩
def RX5 : String := "CreakingGhosts$Row"
def TX5 : u_T := fun k => match k with
  | _ => ("CreakingGhosts$Row", "cells", "[I", true)
def tyX5 : Nat → FieldType := fun k => match k with
  | _ => .array .int
abbrev wsX50 : List Cond := u_ws RX5 TX5 1
theorem nmX5 : ∀ a, a < 1 → ∀ b, b < 1 → a ≠ b → (TX5 a).2.1 ≠ (TX5 b).2.1 := by decide +kernel
theorem tyX5_ok : ∀ k, k < 1 → parseFieldDescriptor (TX5 k).2.2.1 = some (tyX5 k) := by decide +kernel
abbrev cX5_init : ByteArray := prog_7_method_1_code
def yX5_init : MethodName := ⟨RX5, "<init>", "(I)V"⟩
abbrev cX5_at : ByteArray := prog_7_method_2_code
def yX5_at : MethodName := ⟨RX5, "at", "(I)I"⟩
abbrev cX5_store : ByteArray := prog_7_method_3_code
def yX5_store : MethodName := ⟨RX5, "store", "(II)V"⟩
abbrev cX5_increase : ByteArray := prog_7_method_4_code
def yX5_increase : MethodName := ⟨RX5, "increase", "(I)V"⟩
abbrev cX5_fill : ByteArray := prog_7_method_5_code
def yX5_fill : MethodName := ⟨RX5, "fill", "(I)V"⟩
abbrev cX5_moveUpBehind : ByteArray := prog_7_method_6_code
def yX5_moveUpBehind : MethodName := ⟨RX5, "moveUpBehind", "(I)V"⟩
abbrev cX5_copyFrom : ByteArray := prog_7_method_7_code
def yX5_copyFrom : MethodName := ⟨RX5, "copyFrom", "(LCreakingGhosts$Row;)V"⟩
def RX6 : String := "CreakingGhosts$Shelf"
def TX6 : u_T := fun k => match k with
  | _ => ("CreakingGhosts$Shelf", "copies", "[LCreakingGhosts$Attic;", true)
def tyX6 : Nat → FieldType := fun k => match k with
  | _ => .array (.object "CreakingGhosts$Attic")
abbrev wsX60 : List Cond := u_ws RX6 TX6 1
theorem nmX6 : ∀ a, a < 1 → ∀ b, b < 1 → a ≠ b → (TX6 a).2.1 ≠ (TX6 b).2.1 := by decide +kernel
theorem tyX6_ok : ∀ k, k < 1 → parseFieldDescriptor (TX6 k).2.2.1 = some (tyX6 k) := by decide +kernel
abbrev cX6_init : ByteArray := prog_8_method_1_code
def yX6_init : MethodName := ⟨RX6, "<init>", "(I)V"⟩
abbrev cX6_has : ByteArray := prog_8_method_2_code
def yX6_has : MethodName := ⟨RX6, "has", "(I)Z"⟩
abbrev cX6_keep : ByteArray := prog_8_method_3_code
def yX6_keep : MethodName := ⟨RX6, "keep", "(ILCreakingGhosts$Attic;)V"⟩
def RX7 : String := "CreakingGhosts$Sleepers"
def TX7 : u_T := fun k => match k with
  | 0 => ("CreakingGhosts$Sleepers", "come", "I", false)
  | 1 => ("CreakingGhosts$Sleepers", "room", "LCreakingGhosts$Row;", true)
  | 2 => ("CreakingGhosts$Sleepers", "ear", "LCreakingGhosts$Row;", true)
  | 3 => ("CreakingGhosts$Sleepers", "awake", "LCreakingGhosts$Row;", true)
  | _ => ("CreakingGhosts$Sleepers", "woke", "LCreakingGhosts$Row;", true)
def tyX7 : Nat → FieldType := fun k => match k with
  | 0 => .int
  | 1 => .object "CreakingGhosts$Row"
  | 2 => .object "CreakingGhosts$Row"
  | 3 => .object "CreakingGhosts$Row"
  | _ => .object "CreakingGhosts$Row"
abbrev wsX70 : List Cond := u_ws RX7 TX7 5
theorem nmX7 : ∀ a, a < 5 → ∀ b, b < 5 → a ≠ b → (TX7 a).2.1 ≠ (TX7 b).2.1 := by decide +kernel
theorem tyX7_ok : ∀ k, k < 5 → parseFieldDescriptor (TX7 k).2.2.1 = some (tyX7 k) := by decide +kernel
abbrev cX7_init : ByteArray := prog_9_method_1_code
def yX7_init : MethodName := ⟨RX7, "<init>", "()V"⟩
abbrev cX7_copyFrom : ByteArray := prog_9_method_2_code
def yX7_copyFrom : MethodName := ⟨RX7, "copyFrom", "(LCreakingGhosts$Sleepers;)V"⟩
abbrev cX7_has : ByteArray := prog_9_method_3_code
def yX7_has : MethodName := ⟨RX7, "has", "(I)Z"⟩
abbrev cX7_append : ByteArray := prog_9_method_4_code
def yX7_append : MethodName := ⟨RX7, "append", "(II)V"⟩
abbrev cX7_whoAreAwake : ByteArray := prog_9_method_5_code
def yX7_whoAreAwake : MethodName := ⟨RX7, "whoAreAwake", "()I"⟩
abbrev cX7_watchedRooms : ByteArray := prog_9_method_6_code
def yX7_watchedRooms : MethodName := ⟨RX7, "watchedRooms", "()I"⟩
abbrev cX7_wake : ByteArray := prog_9_method_7_code
def yX7_wake : MethodName := ⟨RX7, "wake", "(II)V"⟩
abbrev cX7_tire : ByteArray := prog_9_method_8_code
def yX7_tire : MethodName := ⟨RX7, "tire", "(I)V"⟩
def RX8 : String := "CreakingGhosts$Trail"
def TX8 : u_T := fun k => match k with
  | _ => ("", "", "", false)
def tyX8 : Nat → FieldType := fun k => match k with
  | _ => .int
abbrev wsX80 : List Cond := u_ws RX8 TX8 0
theorem nmX8 : ∀ a, a < 0 → ∀ b, b < 0 → a ≠ b → (TX8 a).2.1 ≠ (TX8 b).2.1 := by decide +kernel
theorem tyX8_ok : ∀ k, k < 0 → parseFieldDescriptor (TX8 k).2.2.1 = some (tyX8 k) := by decide +kernel
abbrev cX8_whyNot : ByteArray := prog_10_method_2_code
def yX8_whyNot : MethodName := ⟨RX8, "whyNot", "(LCreakingGhosts$Boards;II)I"⟩
abbrev cX8_boardAt : ByteArray := prog_10_method_3_code
def yX8_boardAt : MethodName := ⟨RX8, "boardAt", "(LCreakingGhosts$Boards;III)I"⟩
abbrev cX8_firstBoard : ByteArray := prog_10_method_4_code
def yX8_firstBoard : MethodName := ⟨RX8, "firstBoard", "(LCreakingGhosts$Boards;II)I"⟩
def RX9 : String := "CreakingGhosts$Way"
def TX9 : u_T := fun k => match k with
  | 0 => ("CreakingGhosts$Way", "costs", "LCreakingGhosts$Row;", true)
  | 1 => ("CreakingGhosts$Way", "steps", "LCreakingGhosts$Row;", true)
  | 2 => ("CreakingGhosts$Way", "found", "Z", false)
  | 3 => ("CreakingGhosts$Way", "minutes", "I", false)
  | _ => ("CreakingGhosts$Way", "length", "I", false)
def tyX9 : Nat → FieldType := fun k => match k with
  | 0 => .object "CreakingGhosts$Row"
  | 1 => .object "CreakingGhosts$Row"
  | 2 => .boolean
  | 3 => .int
  | _ => .int
abbrev wsX90 : List Cond := u_ws RX9 TX9 5
theorem nmX9 : ∀ a, a < 5 → ∀ b, b < 5 → a ≠ b → (TX9 a).2.1 ≠ (TX9 b).2.1 := by decide +kernel
theorem tyX9_ok : ∀ k, k < 5 → parseFieldDescriptor (TX9 k).2.2.1 = some (tyX9 k) := by decide +kernel
abbrev cX9_init : ByteArray := prog_11_method_1_code
def yX9_init : MethodName := ⟨RX9, "<init>", "()V"⟩
abbrev cX9_find : ByteArray := prog_11_method_2_code
def yX9_find : MethodName := ⟨RX9, "find", "(LCreakingGhosts$Boards;III)V"⟩
abbrev cX9_weigh : ByteArray := prog_11_method_3_code
def yX9_weigh : MethodName := ⟨RX9, "weigh", "(LCreakingGhosts$Boards;II)V"⟩
abbrev cX9_lowerCosts : ByteArray := prog_11_method_4_code
def yX9_lowerCosts : MethodName := ⟨RX9, "lowerCosts", "(LCreakingGhosts$Boards;I)Z"⟩
abbrev cX9_priceOf : ByteArray := prog_11_method_5_code
def yX9_priceOf : MethodName := ⟨RX9, "priceOf", "(LCreakingGhosts$Boards;I)I"⟩
abbrev cX9_firstStep : ByteArray := prog_11_method_6_code
def yX9_firstStep : MethodName := ⟨RX9, "firstStep", "(LCreakingGhosts$Boards;II)I"⟩
def RX10 : String := "CreakingGhosts"
def TX10 : u_T := fun k => match k with
  | 0 => ("CreakingGhosts", "attic", "LCreakingGhosts$Attic;", true)
  | 1 => ("CreakingGhosts", "pad", "LCreakingGhosts$Pad;", true)
  | 2 => ("CreakingGhosts", "history", "LCreakingGhosts$History;", true)
  | 3 => ("CreakingGhosts", "slots", "LCreakingGhosts$Shelf;", true)
  | 4 => ("CreakingGhosts", "savedSlots", "I", false)
  | _ => ("CreakingGhosts", "way", "LCreakingGhosts$Way;", true)
def tyX10 : Nat → FieldType := fun k => match k with
  | 0 => .object "CreakingGhosts$Attic"
  | 1 => .object "CreakingGhosts$Pad"
  | 2 => .object "CreakingGhosts$History"
  | 3 => .object "CreakingGhosts$Shelf"
  | 4 => .int
  | _ => .object "CreakingGhosts$Way"
abbrev wsX100 : List Cond := u_ws RX10 TX10 6
theorem nmX10 : ∀ a, a < 6 → ∀ b, b < 6 → a ≠ b → (TX10 a).2.1 ≠ (TX10 b).2.1 := by decide +kernel
theorem tyX10_ok : ∀ k, k < 6 → parseFieldDescriptor (TX10 k).2.2.1 = some (tyX10 k) := by decide +kernel
abbrev cX10_init : ByteArray := prog_1_method_1_code
def yX10_init : MethodName := ⟨RX10, "<init>", "()V"⟩
abbrev cX10_set : ByteArray := prog_1_method_2_code
def yX10_set : MethodName := ⟨RX10, "set", "(II)I"⟩
abbrev cX10_lay : ByteArray := prog_1_method_3_code
def yX10_lay : MethodName := ⟨RX10, "lay", "(IIII)I"⟩
abbrev cX10_takeUp : ByteArray := prog_1_method_5_code
def yX10_takeUp : MethodName := ⟨RX10, "takeUp", "(I)I"⟩
abbrev cX10_sleeper : ByteArray := prog_1_method_6_code
def yX10_sleeper : MethodName := ⟨RX10, "sleeper", "(II)I"⟩
abbrev cX10_put : ByteArray := prog_1_method_7_code
def yX10_put : MethodName := ⟨RX10, "put", "(II)I"⟩
abbrev cX10_glide : ByteArray := prog_1_method_8_code
def yX10_glide : MethodName := ⟨RX10, "glide", "(II)I"⟩
abbrev cX10_go : ByteArray := prog_1_method_9_code
def yX10_go : MethodName := ⟨RX10, "go", "(II)I"⟩
abbrev cX10_pass : ByteArray := prog_1_method_10_code
def yX10_pass : MethodName := ⟨RX10, "pass", "(I)I"⟩
abbrev cX10_board : ByteArray := prog_1_method_11_code
def yX10_board : MethodName := ⟨RX10, "board", "(II)I"⟩
abbrev cX10_ghost : ByteArray := prog_1_method_12_code
def yX10_ghost : MethodName := ⟨RX10, "ghost", "(II)I"⟩
abbrev cX10_sleeperOf : ByteArray := prog_1_method_13_code
def yX10_sleeperOf : MethodName := ⟨RX10, "sleeperOf", "(II)I"⟩
abbrev cX10_loudness : ByteArray := prog_1_method_14_code
def yX10_loudness : MethodName := ⟨RX10, "loudness", "(II)I"⟩
abbrev cX10_far : ByteArray := prog_1_method_15_code
def yX10_far : MethodName := ⟨RX10, "far", "(II)I"⟩
abbrev cX10_count : ByteArray := prog_1_method_16_code
def yX10_count : MethodName := ⟨RX10, "count", "(I)I"⟩
abbrev cX10_soonest : ByteArray := prog_1_method_17_code
def yX10_soonest : MethodName := ⟨RX10, "soonest", "(III)I"⟩
abbrev cX10_quietest : ByteArray := prog_1_method_18_code
def yX10_quietest : MethodName := ⟨RX10, "quietest", "(II)I"⟩
abbrev cX10_reason : ByteArray := prog_1_method_19_code
def yX10_reason : MethodName := ⟨RX10, "reason", "(I)I"⟩
abbrev cX10_trail : ByteArray := prog_1_method_20_code
def yX10_trail : MethodName := ⟨RX10, "trail", "(II)I"⟩
abbrev cX10_worstGap : ByteArray := prog_1_method_21_code
def yX10_worstGap : MethodName := ⟨RX10, "worstGap", "(I)I"⟩
abbrev cX10_findWay : ByteArray := prog_1_method_28_code
def yX10_findWay : MethodName := ⟨RX10, "findWay", "(II)V"⟩
abbrev cX10_isWithin : ByteArray := prog_1_method_29_code
def yX10_isWithin : MethodName := ⟨RX10, "isWithin", "(III)Z"⟩
abbrev cX10_isSetting : ByteArray := prog_1_method_30_code
def yX10_isSetting : MethodName := ⟨RX10, "isSetting", "(II)Z"⟩
abbrev cX10_isRoom : ByteArray := prog_1_method_31_code
def yX10_isRoom : MethodName := ⟨RX10, "isRoom", "(I)Z"⟩
abbrev cX10_isGhost : ByteArray := prog_1_method_32_code
def yX10_isGhost : MethodName := ⟨RX10, "isGhost", "(I)Z"⟩
abbrev cX10_holds : ByteArray := prog_1_method_34_code
def yX10_holds : MethodName := ⟨RX10, "holds", "(II)Z"⟩
def RX11 : String := "CreakingGhostsModel"
def TX11 : u_T := fun k => match k with
  | _ => ("", "", "", false)
def tyX11 : Nat → FieldType := fun k => match k with
  | _ => .int
abbrev wsX110 : List Cond := u_ws RX11 TX11 0
theorem nmX11 : ∀ a, a < 0 → ∀ b, b < 0 → a ≠ b → (TX11 a).2.1 ≠ (TX11 b).2.1 := by decide +kernel
theorem tyX11_ok : ∀ k, k < 0 → parseFieldDescriptor (TX11 k).2.2.1 = some (tyX11 k) := by decide +kernel
def RJ6 : String := "java/lang/Integer"
def TJ6 : u_T := fun k => match k with
  | _ => ("", "", "", false)
def tyJ6 : Nat → FieldType := fun k => match k with
  | _ => .int
abbrev wsJ60 : List Cond := u_ws RJ6 TJ6 0
theorem nmJ6 : ∀ a, a < 0 → ∀ b, b < 0 → a ≠ b → (TJ6 a).2.1 ≠ (TJ6 b).2.1 := by decide +kernel
theorem tyJ6_ok : ∀ k, k < 0 → parseFieldDescriptor (TJ6 k).2.2.1 = some (tyJ6 k) := by decide +kernel
abbrev cJ6_bitCount_0f7a4 : ByteArray := prog_14_method_49_code
def yJ6_bitCount_0f7a4 : MethodName := ⟨RJ6, "bitCount", "(I)I"⟩
def RJ9 : String := "java/lang/Math"
def TJ9 : u_T := fun k => match k with
  | _ => ("", "", "", false)
def tyJ9 : Nat → FieldType := fun k => match k with
  | _ => .int
abbrev wsJ90 : List Cond := u_ws RJ9 TJ9 0
theorem nmJ9 : ∀ a, a < 0 → ∀ b, b < 0 → a ≠ b → (TJ9 a).2.1 ≠ (TJ9 b).2.1 := by decide +kernel
theorem tyJ9_ok : ∀ k, k < 0 → parseFieldDescriptor (TJ9 k).2.2.1 = some (tyJ9 k) := by decide +kernel
abbrev cJ9_max_7cf53 : ByteArray := prog_15_method_65_code
def yJ9_max_7cf53 : MethodName := ⟨RJ9, "max", "(II)I"⟩
abbrev cJ9_min_7cf53 : ByteArray := prog_15_method_69_code
def yJ9_min_7cf53 : MethodName := ⟨RJ9, "min", "(II)I"⟩
def RJ10 : String := "java/lang/System"
def TJ10 : u_T := fun k => match k with
  | _ => ("", "", "", false)
def tyJ10 : Nat → FieldType := fun k => match k with
  | _ => .int
abbrev wsJ100 : List Cond := u_ws RJ10 TJ10 0
theorem nmJ10 : ∀ a, a < 0 → ∀ b, b < 0 → a ≠ b → (TJ10 a).2.1 ≠ (TJ10 b).2.1 := by decide +kernel
theorem tyJ10_ok : ∀ k, k < 0 → parseFieldDescriptor (TJ10 k).2.2.1 = some (tyJ10 k) := by decide +kernel
def RL : String := "CreakingGhostsLaw"
abbrev cL_cell : ByteArray := method_2_code
def yL_cell : MethodName := ⟨RL, "cell", "([II)I"⟩
abbrev cL_low : ByteArray := method_3_code
def yL_low : MethodName := ⟨RL, "low", "(II)I"⟩
abbrev cL_one : ByteArray := method_4_code
def yL_one : MethodName := ⟨RL, "one", "([II)I"⟩
abbrev cL_two : ByteArray := method_5_code
def yL_two : MethodName := ⟨RL, "two", "([II)I"⟩
abbrev cL_creak : ByteArray := method_6_code
def yL_creak : MethodName := ⟨RL, "creak", "([II)I"⟩
abbrev cL_minutes : ByteArray := method_7_code
def yL_minutes : MethodName := ⟨RL, "minutes", "([II)I"⟩
abbrev cL_reach : ByteArray := method_8_code
def yL_reach : MethodName := ⟨RL, "reach", "([I[IIII)I"⟩
abbrev cL_all : ByteArray := method_9_code
def yL_all : MethodName := ⟨RL, "all", "([I)I"⟩
abbrev cL_far : ByteArray := method_10_code
def yL_far : MethodName := ⟨RL, "far", "([I[III)I"⟩
abbrev cL_loud : ByteArray := method_11_code
def yL_loud : MethodName := ⟨RL, "loud", "([I[I[III)I"⟩
abbrev cL_watched : ByteArray := method_12_code
def yL_watched : MethodName := ⟨RL, "watched", "([I[I)I"⟩
abbrev cL_free : ByteArray := method_13_code
def yL_free : MethodName := ⟨RL, "free", "([I[I[I[III)Z"⟩
abbrev cL_open : ByteArray := method_14_code
def yL_open : MethodName := ⟨RL, "open", "([I[I[I[II)I"⟩
abbrev cL_pass : ByteArray := method_15_code
def yL_pass : MethodName := ⟨RL, "pass", "([I[I[II)I"⟩
abbrev cL_glide : ByteArray := method_16_code
def yL_glide : MethodName := ⟨RL, "glide", "([I[I[I[I[III)I"⟩
abbrev cL_costs : ByteArray := method_17_code
def yL_costs : MethodName := ⟨RL, "costs", "([I[III)[I"⟩
abbrev cL_first : ByteArray := method_18_code
def yL_first : MethodName := ⟨RL, "first", "([I[I[III)I"⟩
abbrev cL_ways : ByteArray := method_19_code
def yL_ways : MethodName := ⟨RL, "ways", "(LCreakingGhosts;[I[I[I[III)Z"⟩
abbrev cL_degree : ByteArray := method_20_code
def yL_degree : MethodName := ⟨RL, "degree", "([I[III)I"⟩
abbrev cL_reason : ByteArray := method_21_code
def yL_reason : MethodName := ⟨RL, "reason", "([I[III)I"⟩
abbrev cL_trail : ByteArray := method_22_code
def yL_trail : MethodName := ⟨RL, "trail", "(LCreakingGhosts;[I[I[II)Z"⟩
abbrev cL_pairs : ByteArray := method_23_code
def yL_pairs : MethodName := ⟨RL, "pairs", "([I[II)I"⟩
abbrev cL_gap : ByteArray := method_24_code
def yL_gap : MethodName := ⟨RL, "gap", "(LCreakingGhosts;[I[I)Z"⟩
abbrev cL_boards : ByteArray := method_25_code
def yL_boards : MethodName := ⟨RL, "boards", "(LCreakingGhosts;[I[I[I[I[I)Z"⟩
abbrev cL_tells : ByteArray := method_26_code
def yL_tells : MethodName := ⟨RL, "tells", "(LCreakingGhosts;[I[I[I[I[I)Z"⟩
abbrev cL_law : ByteArray := code
def yL_law : MethodName := ⟨RL, "law", "([I)Z"⟩
end
section
theorem dX0_init_0 : decode cX0_init 0 = .ok (.aload_n 0, 1) := by decide +kernel
theorem dX0_init_1 : decode cX0_init 1 = .ok (.invokespecial 3, 3) := by decide +kernel
theorem dX0_init_4 : decode cX0_init 4 = .ok (.aload_n 0, 1) := by decide +kernel
theorem dX0_init_5 : decode cX0_init 5 = .ok (.new 9, 3) := by decide +kernel
theorem dX0_init_8 : decode cX0_init 8 = .ok (.dup, 1) := by decide +kernel
theorem dX0_init_9 : decode cX0_init 9 = .ok (.iconst 2, 1) := by decide +kernel
theorem dX0_init_10 : decode cX0_init 10 = .ok (.invokespecial 11, 3) := by decide +kernel
theorem dX0_init_13 : decode cX0_init 13 = .ok (.putfield 14, 3) := by decide +kernel
theorem dX0_init_16 : decode cX0_init 16 = .ok (.aload_n 0, 1) := by decide +kernel
theorem dX0_init_17 : decode cX0_init 17 = .ok (.new 20, 3) := by decide +kernel
theorem dX0_init_20 : decode cX0_init 20 = .ok (.dup, 1) := by decide +kernel
theorem dX0_init_21 : decode cX0_init 21 = .ok (.invokespecial 22, 3) := by decide +kernel
theorem dX0_init_24 : decode cX0_init 24 = .ok (.putfield 23, 3) := by decide +kernel
theorem dX0_init_27 : decode cX0_init 27 = .ok (.aload_n 0, 1) := by decide +kernel
theorem dX0_init_28 : decode cX0_init 28 = .ok (.new 27, 3) := by decide +kernel
theorem dX0_init_31 : decode cX0_init 31 = .ok (.dup, 1) := by decide +kernel
theorem dX0_init_32 : decode cX0_init 32 = .ok (.invokespecial 29, 3) := by decide +kernel
theorem dX0_init_35 : decode cX0_init 35 = .ok (.putfield 30, 3) := by decide +kernel
theorem dX0_init_38 : decode cX0_init 38 = .ok (.aload_n 0, 1) := by decide +kernel
theorem dX0_init_39 : decode cX0_init 39 = .ok (.new 34, 3) := by decide +kernel
theorem dX0_init_42 : decode cX0_init 42 = .ok (.dup, 1) := by decide +kernel
theorem dX0_init_43 : decode cX0_init 43 = .ok (.invokespecial 36, 3) := by decide +kernel
theorem dX0_init_46 : decode cX0_init 46 = .ok (.putfield 37, 3) := by decide +kernel
theorem dX0_init_49 : decode cX0_init 49 = .ok (.aload_n 0, 1) := by decide +kernel
theorem dX0_init_50 : decode cX0_init 50 = .ok (.getfield 14, 3) := by decide +kernel
theorem dX0_init_53 : decode cX0_init 53 = .ok (.iconst 0, 1) := by decide +kernel
theorem dX0_init_54 : decode cX0_init 54 = .ok (.bipush 60, 2) := by decide +kernel
theorem dX0_init_56 : decode cX0_init 56 = .ok (.invokevirtual 41, 3) := by decide +kernel
theorem dX0_init_59 : decode cX0_init 59 = .ok (.aload_n 0, 1) := by decide +kernel
theorem dX0_init_60 : decode cX0_init 60 = .ok (.getfield 14, 3) := by decide +kernel
theorem dX0_init_63 : decode cX0_init 63 = .ok (.iconst 1, 1) := by decide +kernel
theorem dX0_init_64 : decode cX0_init 64 = .ok (.bipush 10, 2) := by decide +kernel
theorem dX0_init_66 : decode cX0_init 66 = .ok (.invokevirtual 41, 3) := by decide +kernel
theorem dX0_init_69 : decode cX0_init 69 = .ok (.return_, 1) := by decide +kernel
theorem dX0_copyFrom_0 : decode cX0_copyFrom 0 = .ok (.aload_n 0, 1) := by decide +kernel
theorem dX0_copyFrom_1 : decode cX0_copyFrom 1 = .ok (.aload_n 1, 1) := by decide +kernel
theorem dX0_copyFrom_2 : decode cX0_copyFrom 2 = .ok (.getfield 45, 3) := by decide +kernel
theorem dX0_copyFrom_5 : decode cX0_copyFrom 5 = .ok (.putfield 45, 3) := by decide +kernel
theorem dX0_copyFrom_8 : decode cX0_copyFrom 8 = .ok (.aload_n 0, 1) := by decide +kernel
theorem dX0_copyFrom_9 : decode cX0_copyFrom 9 = .ok (.aload_n 1, 1) := by decide +kernel
theorem dX0_copyFrom_10 : decode cX0_copyFrom 10 = .ok (.getfield 49, 3) := by decide +kernel
theorem dX0_copyFrom_13 : decode cX0_copyFrom 13 = .ok (.putfield 49, 3) := by decide +kernel
theorem dX0_copyFrom_16 : decode cX0_copyFrom 16 = .ok (.aload_n 0, 1) := by decide +kernel
theorem dX0_copyFrom_17 : decode cX0_copyFrom 17 = .ok (.getfield 14, 3) := by decide +kernel
theorem dX0_copyFrom_20 : decode cX0_copyFrom 20 = .ok (.aload_n 1, 1) := by decide +kernel
theorem dX0_copyFrom_21 : decode cX0_copyFrom 21 = .ok (.getfield 14, 3) := by decide +kernel
theorem dX0_copyFrom_24 : decode cX0_copyFrom 24 = .ok (.invokevirtual 52, 3) := by decide +kernel
theorem dX0_copyFrom_27 : decode cX0_copyFrom 27 = .ok (.aload_n 0, 1) := by decide +kernel
theorem dX0_copyFrom_28 : decode cX0_copyFrom 28 = .ok (.getfield 23, 3) := by decide +kernel
theorem dX0_copyFrom_31 : decode cX0_copyFrom 31 = .ok (.aload_n 1, 1) := by decide +kernel
theorem dX0_copyFrom_32 : decode cX0_copyFrom 32 = .ok (.getfield 23, 3) := by decide +kernel
theorem dX0_copyFrom_35 : decode cX0_copyFrom 35 = .ok (.invokevirtual 56, 3) := by decide +kernel
theorem dX0_copyFrom_38 : decode cX0_copyFrom 38 = .ok (.aload_n 0, 1) := by decide +kernel
theorem dX0_copyFrom_39 : decode cX0_copyFrom 39 = .ok (.getfield 30, 3) := by decide +kernel
theorem dX0_copyFrom_42 : decode cX0_copyFrom 42 = .ok (.aload_n 1, 1) := by decide +kernel
theorem dX0_copyFrom_43 : decode cX0_copyFrom 43 = .ok (.getfield 30, 3) := by decide +kernel
theorem dX0_copyFrom_46 : decode cX0_copyFrom 46 = .ok (.invokevirtual 59, 3) := by decide +kernel
theorem dX0_copyFrom_49 : decode cX0_copyFrom 49 = .ok (.aload_n 0, 1) := by decide +kernel
theorem dX0_copyFrom_50 : decode cX0_copyFrom 50 = .ok (.getfield 37, 3) := by decide +kernel
theorem dX0_copyFrom_53 : decode cX0_copyFrom 53 = .ok (.aload_n 1, 1) := by decide +kernel
theorem dX0_copyFrom_54 : decode cX0_copyFrom 54 = .ok (.getfield 37, 3) := by decide +kernel
theorem dX0_copyFrom_57 : decode cX0_copyFrom 57 = .ok (.invokevirtual 62, 3) := by decide +kernel
theorem dX0_copyFrom_60 : decode cX0_copyFrom 60 = .ok (.return_, 1) := by decide +kernel
theorem dX0_minutesBetweenBells_0 : decode cX0_minutesBetweenBells 0 = .ok (.aload_n 0, 1) := by decide +kernel
theorem dX0_minutesBetweenBells_1 : decode cX0_minutesBetweenBells 1 = .ok (.getfield 14, 3) := by decide +kernel
theorem dX0_minutesBetweenBells_4 : decode cX0_minutesBetweenBells 4 = .ok (.iconst 0, 1) := by decide +kernel
theorem dX0_minutesBetweenBells_5 : decode cX0_minutesBetweenBells 5 = .ok (.invokevirtual 65, 3) := by decide +kernel
theorem dX0_minutesBetweenBells_8 : decode cX0_minutesBetweenBells 8 = .ok (.iconst 1, 1) := by decide +kernel
theorem dX0_minutesBetweenBells_9 : decode cX0_minutesBetweenBells 9 = .ok (.invokestatic 69, 3) := by decide +kernel
theorem dX0_minutesBetweenBells_12 : decode cX0_minutesBetweenBells 12 = .ok (.ireturn, 1) := by decide +kernel
theorem dX0_minutesToBell_0 : decode cX0_minutesToBell 0 = .ok (.aload_n 0, 1) := by decide +kernel
theorem dX0_minutesToBell_1 : decode cX0_minutesToBell 1 = .ok (.invokevirtual 75, 3) := by decide +kernel
theorem dX0_minutesToBell_4 : decode cX0_minutesToBell 4 = .ok (.aload_n 0, 1) := by decide +kernel
theorem dX0_minutesToBell_5 : decode cX0_minutesToBell 5 = .ok (.getfield 45, 3) := by decide +kernel
theorem dX0_minutesToBell_8 : decode cX0_minutesToBell 8 = .ok (.aload_n 0, 1) := by decide +kernel
theorem dX0_minutesToBell_9 : decode cX0_minutesToBell 9 = .ok (.invokevirtual 75, 3) := by decide +kernel
theorem dX0_minutesToBell_12 : decode cX0_minutesToBell 12 = .ok (.irem, 1) := by decide +kernel
theorem dX0_minutesToBell_13 : decode cX0_minutesToBell 13 = .ok (.isub, 1) := by decide +kernel
theorem dX0_minutesToBell_14 : decode cX0_minutesToBell 14 = .ok (.ireturn, 1) := by decide +kernel
theorem dX0_leftTo_0 : decode cX0_leftTo 0 = .ok (.aload_n 0, 1) := by decide +kernel
theorem dX0_leftTo_1 : decode cX0_leftTo 1 = .ok (.getfield 23, 3) := by decide +kernel
theorem dX0_leftTo_4 : decode cX0_leftTo 4 = .ok (.invokevirtual 79, 3) := by decide +kernel
theorem dX0_leftTo_7 : decode cX0_leftTo 7 = .ok (.aload_n 0, 1) := by decide +kernel
theorem dX0_leftTo_8 : decode cX0_leftTo 8 = .ok (.getfield 30, 3) := by decide +kernel
theorem dX0_leftTo_11 : decode cX0_leftTo 11 = .ok (.getfield 82, 3) := by decide +kernel
theorem dX0_leftTo_14 : decode cX0_leftTo 14 = .ok (.iload_n 1, 1) := by decide +kernel
theorem dX0_leftTo_15 : decode cX0_leftTo 15 = .ok (.invokevirtual 65, 3) := by decide +kernel
theorem dX0_leftTo_18 : decode cX0_leftTo 18 = .ok (.iconst (-1), 1) := by decide +kernel
theorem dX0_leftTo_19 : decode cX0_leftTo 19 = .ok (.ixor, 1) := by decide +kernel
theorem dX0_leftTo_20 : decode cX0_leftTo 20 = .ok (.iand, 1) := by decide +kernel
theorem dX0_leftTo_21 : decode cX0_leftTo 21 = .ok (.ireturn, 1) := by decide +kernel
theorem dX0_freeTo_0 : decode cX0_freeTo 0 = .ok (.aload_n 0, 1) := by decide +kernel
theorem dX0_freeTo_1 : decode cX0_freeTo 1 = .ok (.iload_n 1, 1) := by decide +kernel
theorem dX0_freeTo_2 : decode cX0_freeTo 2 = .ok (.invokevirtual 85, 3) := by decide +kernel
theorem dX0_freeTo_5 : decode cX0_freeTo 5 = .ok (.aload_n 0, 1) := by decide +kernel
theorem dX0_freeTo_6 : decode cX0_freeTo 6 = .ok (.getfield 23, 3) := by decide +kernel
theorem dX0_freeTo_9 : decode cX0_freeTo 9 = .ok (.aload_n 0, 1) := by decide +kernel
theorem dX0_freeTo_10 : decode cX0_freeTo 10 = .ok (.getfield 37, 3) := by decide +kernel
theorem dX0_freeTo_13 : decode cX0_freeTo 13 = .ok (.invokevirtual 88, 3) := by decide +kernel
theorem dX0_freeTo_16 : decode cX0_freeTo 16 = .ok (.invokevirtual 91, 3) := by decide +kernel
theorem dX0_freeTo_19 : decode cX0_freeTo 19 = .ok (.iconst (-1), 1) := by decide +kernel
theorem dX0_freeTo_20 : decode cX0_freeTo 20 = .ok (.ixor, 1) := by decide +kernel
theorem dX0_freeTo_21 : decode cX0_freeTo 21 = .ok (.iand, 1) := by decide +kernel
theorem dX0_freeTo_22 : decode cX0_freeTo 22 = .ok (.ireturn, 1) := by decide +kernel
theorem dX0_freeAtRoomOf_0 : decode cX0_freeAtRoomOf 0 = .ok (.aload_n 0, 1) := by decide +kernel
theorem dX0_freeAtRoomOf_1 : decode cX0_freeAtRoomOf 1 = .ok (.iload_n 1, 1) := by decide +kernel
theorem dX0_freeAtRoomOf_2 : decode cX0_freeAtRoomOf 2 = .ok (.invokevirtual 94, 3) := by decide +kernel
theorem dX0_freeAtRoomOf_5 : decode cX0_freeAtRoomOf 5 = .ok (.aload_n 0, 1) := by decide +kernel
theorem dX0_freeAtRoomOf_6 : decode cX0_freeAtRoomOf 6 = .ok (.getfield 23, 3) := by decide +kernel
theorem dX0_freeAtRoomOf_9 : decode cX0_freeAtRoomOf 9 = .ok (.iconst 1, 1) := by decide +kernel
theorem dX0_freeAtRoomOf_10 : decode cX0_freeAtRoomOf 10 = .ok (.aload_n 0, 1) := by decide +kernel
theorem dX0_freeAtRoomOf_11 : decode cX0_freeAtRoomOf 11 = .ok (.getfield 30, 3) := by decide +kernel
theorem dX0_freeAtRoomOf_14 : decode cX0_freeAtRoomOf 14 = .ok (.getfield 97, 3) := by decide +kernel
theorem dX0_freeAtRoomOf_17 : decode cX0_freeAtRoomOf 17 = .ok (.iload_n 1, 1) := by decide +kernel
theorem dX0_freeAtRoomOf_18 : decode cX0_freeAtRoomOf 18 = .ok (.invokevirtual 65, 3) := by decide +kernel
theorem dX0_freeAtRoomOf_21 : decode cX0_freeAtRoomOf 21 = .ok (.ishl, 1) := by decide +kernel
theorem dX0_freeAtRoomOf_22 : decode cX0_freeAtRoomOf 22 = .ok (.invokevirtual 91, 3) := by decide +kernel
theorem dX0_freeAtRoomOf_25 : decode cX0_freeAtRoomOf 25 = .ok (.iand, 1) := by decide +kernel
theorem dX0_freeAtRoomOf_26 : decode cX0_freeAtRoomOf 26 = .ok (.ireturn, 1) := by decide +kernel
theorem dX0_ghostsFreeFor_0 : decode cX0_ghostsFreeFor 0 = .ok (.iconst 0, 1) := by decide +kernel
theorem dX0_ghostsFreeFor_1 : decode cX0_ghostsFreeFor 1 = .ok (.istore_n 2, 1) := by decide +kernel
theorem dX0_ghostsFreeFor_2 : decode cX0_ghostsFreeFor 2 = .ok (.iconst 0, 1) := by decide +kernel
theorem dX0_ghostsFreeFor_3 : decode cX0_ghostsFreeFor 3 = .ok (.istore_n 3, 1) := by decide +kernel
theorem dX0_ghostsFreeFor_4 : decode cX0_ghostsFreeFor 4 = .ok (.iload_n 3, 1) := by decide +kernel
theorem dX0_ghostsFreeFor_5 : decode cX0_ghostsFreeFor 5 = .ok (.iconst 4, 1) := by decide +kernel
theorem dX0_ghostsFreeFor_6 : decode cX0_ghostsFreeFor 6 = .ok (.if_icmp .ge 27, 3) := by decide +kernel
theorem dX0_ghostsFreeFor_9 : decode cX0_ghostsFreeFor 9 = .ok (.aload_n 0, 1) := by decide +kernel
theorem dX0_ghostsFreeFor_10 : decode cX0_ghostsFreeFor 10 = .ok (.iload_n 3, 1) := by decide +kernel
theorem dX0_ghostsFreeFor_11 : decode cX0_ghostsFreeFor 11 = .ok (.invokevirtual 94, 3) := by decide +kernel
theorem dX0_ghostsFreeFor_14 : decode cX0_ghostsFreeFor 14 = .ok (.iload_n 1, 1) := by decide +kernel
theorem dX0_ghostsFreeFor_15 : decode cX0_ghostsFreeFor 15 = .ok (.invokestatic 100, 3) := by decide +kernel
theorem dX0_ghostsFreeFor_18 : decode cX0_ghostsFreeFor 18 = .ok (.ifCond .eq 9, 3) := by decide +kernel
theorem dX0_ghostsFreeFor_21 : decode cX0_ghostsFreeFor 21 = .ok (.iload_n 2, 1) := by decide +kernel
theorem dX0_ghostsFreeFor_22 : decode cX0_ghostsFreeFor 22 = .ok (.iconst 1, 1) := by decide +kernel
theorem dX0_ghostsFreeFor_23 : decode cX0_ghostsFreeFor 23 = .ok (.iload_n 3, 1) := by decide +kernel
theorem dX0_ghostsFreeFor_24 : decode cX0_ghostsFreeFor 24 = .ok (.ishl, 1) := by decide +kernel
theorem dX0_ghostsFreeFor_25 : decode cX0_ghostsFreeFor 25 = .ok (.ior, 1) := by decide +kernel
theorem dX0_ghostsFreeFor_26 : decode cX0_ghostsFreeFor 26 = .ok (.istore_n 2, 1) := by decide +kernel
theorem dX0_ghostsFreeFor_27 : decode cX0_ghostsFreeFor 27 = .ok (.iinc 3 1, 3) := by decide +kernel
theorem dX0_ghostsFreeFor_30 : decode cX0_ghostsFreeFor 30 = .ok (.goto (-26), 3) := by decide +kernel
theorem dX0_ghostsFreeFor_33 : decode cX0_ghostsFreeFor 33 = .ok (.iload_n 2, 1) := by decide +kernel
theorem dX0_ghostsFreeFor_34 : decode cX0_ghostsFreeFor 34 = .ok (.ireturn, 1) := by decide +kernel
theorem dX0_boardsThatWake_0 : decode cX0_boardsThatWake 0 = .ok (.iconst 0, 1) := by decide +kernel
theorem dX0_boardsThatWake_1 : decode cX0_boardsThatWake 1 = .ok (.istore_n 2, 1) := by decide +kernel
theorem dX0_boardsThatWake_2 : decode cX0_boardsThatWake 2 = .ok (.aload_n 0, 1) := by decide +kernel
theorem dX0_boardsThatWake_3 : decode cX0_boardsThatWake 3 = .ok (.getfield 37, 3) := by decide +kernel
theorem dX0_boardsThatWake_6 : decode cX0_boardsThatWake 6 = .ok (.getfield 104, 3) := by decide +kernel
theorem dX0_boardsThatWake_9 : decode cX0_boardsThatWake 9 = .ok (.iload_n 1, 1) := by decide +kernel
theorem dX0_boardsThatWake_10 : decode cX0_boardsThatWake 10 = .ok (.invokevirtual 65, 3) := by decide +kernel
theorem dX0_boardsThatWake_13 : decode cX0_boardsThatWake 13 = .ok (.istore_n 3, 1) := by decide +kernel
theorem dX0_boardsThatWake_14 : decode cX0_boardsThatWake 14 = .ok (.iconst 0, 1) := by decide +kernel
theorem dX0_boardsThatWake_15 : decode cX0_boardsThatWake 15 = .ok (.istore 4, 2) := by decide +kernel
theorem dX0_boardsThatWake_17 : decode cX0_boardsThatWake 17 = .ok (.iload 4, 2) := by decide +kernel
theorem dX0_boardsThatWake_19 : decode cX0_boardsThatWake 19 = .ok (.aload_n 0, 1) := by decide +kernel
theorem dX0_boardsThatWake_20 : decode cX0_boardsThatWake 20 = .ok (.getfield 23, 3) := by decide +kernel
theorem dX0_boardsThatWake_23 : decode cX0_boardsThatWake 23 = .ok (.getfield 105, 3) := by decide +kernel
theorem dX0_boardsThatWake_26 : decode cX0_boardsThatWake 26 = .ok (.if_icmp .ge 40, 3) := by decide +kernel
theorem dX0_boardsThatWake_29 : decode cX0_boardsThatWake 29 = .ok (.aload_n 0, 1) := by decide +kernel
theorem dX0_boardsThatWake_30 : decode cX0_boardsThatWake 30 = .ok (.getfield 23, 3) := by decide +kernel
theorem dX0_boardsThatWake_33 : decode cX0_boardsThatWake 33 = .ok (.iload_n 3, 1) := by decide +kernel
theorem dX0_boardsThatWake_34 : decode cX0_boardsThatWake 34 = .ok (.iload 4, 2) := by decide +kernel
theorem dX0_boardsThatWake_36 : decode cX0_boardsThatWake 36 = .ok (.invokevirtual 108, 3) := by decide +kernel
theorem dX0_boardsThatWake_39 : decode cX0_boardsThatWake 39 = .ok (.aload_n 0, 1) := by decide +kernel
theorem dX0_boardsThatWake_40 : decode cX0_boardsThatWake 40 = .ok (.getfield 37, 3) := by decide +kernel
theorem dX0_boardsThatWake_43 : decode cX0_boardsThatWake 43 = .ok (.getfield 111, 3) := by decide +kernel
theorem dX0_boardsThatWake_46 : decode cX0_boardsThatWake 46 = .ok (.iload_n 1, 1) := by decide +kernel
theorem dX0_boardsThatWake_47 : decode cX0_boardsThatWake 47 = .ok (.invokevirtual 65, 3) := by decide +kernel
theorem dX0_boardsThatWake_50 : decode cX0_boardsThatWake 50 = .ok (.if_icmp .lt 10, 3) := by decide +kernel
theorem dX0_boardsThatWake_53 : decode cX0_boardsThatWake 53 = .ok (.iload_n 2, 1) := by decide +kernel
theorem dX0_boardsThatWake_54 : decode cX0_boardsThatWake 54 = .ok (.iconst 1, 1) := by decide +kernel
theorem dX0_boardsThatWake_55 : decode cX0_boardsThatWake 55 = .ok (.iload 4, 2) := by decide +kernel
theorem dX0_boardsThatWake_57 : decode cX0_boardsThatWake 57 = .ok (.ishl, 1) := by decide +kernel
theorem dX0_boardsThatWake_58 : decode cX0_boardsThatWake 58 = .ok (.ior, 1) := by decide +kernel
theorem dX0_boardsThatWake_59 : decode cX0_boardsThatWake 59 = .ok (.istore_n 2, 1) := by decide +kernel
theorem dX0_boardsThatWake_60 : decode cX0_boardsThatWake 60 = .ok (.iinc 4 1, 3) := by decide +kernel
theorem dX0_boardsThatWake_63 : decode cX0_boardsThatWake 63 = .ok (.goto (-46), 3) := by decide +kernel
theorem dX0_boardsThatWake_66 : decode cX0_boardsThatWake 66 = .ok (.iload_n 2, 1) := by decide +kernel
theorem dX0_boardsThatWake_67 : decode cX0_boardsThatWake 67 = .ok (.ireturn, 1) := by decide +kernel
theorem dX0_letCreak_0 : decode cX0_letCreak 0 = .ok (.aload_n 0, 1) := by decide +kernel
theorem dX0_letCreak_1 : decode cX0_letCreak 1 = .ok (.getfield 23, 3) := by decide +kernel
theorem dX0_letCreak_4 : decode cX0_letCreak 4 = .ok (.getfield 114, 3) := by decide +kernel
theorem dX0_letCreak_7 : decode cX0_letCreak 7 = .ok (.iload_n 1, 1) := by decide +kernel
theorem dX0_letCreak_8 : decode cX0_letCreak 8 = .ok (.invokevirtual 117, 3) := by decide +kernel
theorem dX0_letCreak_11 : decode cX0_letCreak 11 = .ok (.iconst 0, 1) := by decide +kernel
theorem dX0_letCreak_12 : decode cX0_letCreak 12 = .ok (.istore_n 2, 1) := by decide +kernel
theorem dX0_letCreak_13 : decode cX0_letCreak 13 = .ok (.iconst 0, 1) := by decide +kernel
theorem dX0_letCreak_14 : decode cX0_letCreak 14 = .ok (.istore_n 3, 1) := by decide +kernel
theorem dX0_letCreak_15 : decode cX0_letCreak 15 = .ok (.iload_n 3, 1) := by decide +kernel
theorem dX0_letCreak_16 : decode cX0_letCreak 16 = .ok (.aload_n 0, 1) := by decide +kernel
theorem dX0_letCreak_17 : decode cX0_letCreak 17 = .ok (.getfield 37, 3) := by decide +kernel
theorem dX0_letCreak_20 : decode cX0_letCreak 20 = .ok (.getfield 120, 3) := by decide +kernel
theorem dX0_letCreak_23 : decode cX0_letCreak 23 = .ok (.if_icmp .ge 68, 3) := by decide +kernel
theorem dX0_letCreak_26 : decode cX0_letCreak 26 = .ok (.aload_n 0, 1) := by decide +kernel
theorem dX0_letCreak_27 : decode cX0_letCreak 27 = .ok (.getfield 23, 3) := by decide +kernel
theorem dX0_letCreak_30 : decode cX0_letCreak 30 = .ok (.aload_n 0, 1) := by decide +kernel
theorem dX0_letCreak_31 : decode cX0_letCreak 31 = .ok (.getfield 37, 3) := by decide +kernel
theorem dX0_letCreak_34 : decode cX0_letCreak 34 = .ok (.getfield 104, 3) := by decide +kernel
theorem dX0_letCreak_37 : decode cX0_letCreak 37 = .ok (.iload_n 3, 1) := by decide +kernel
theorem dX0_letCreak_38 : decode cX0_letCreak 38 = .ok (.invokevirtual 65, 3) := by decide +kernel
theorem dX0_letCreak_41 : decode cX0_letCreak 41 = .ok (.iload_n 1, 1) := by decide +kernel
theorem dX0_letCreak_42 : decode cX0_letCreak 42 = .ok (.invokevirtual 108, 3) := by decide +kernel
theorem dX0_letCreak_45 : decode cX0_letCreak 45 = .ok (.istore 4, 2) := by decide +kernel
theorem dX0_letCreak_47 : decode cX0_letCreak 47 = .ok (.iload 4, 2) := by decide +kernel
theorem dX0_letCreak_49 : decode cX0_letCreak 49 = .ok (.aload_n 0, 1) := by decide +kernel
theorem dX0_letCreak_50 : decode cX0_letCreak 50 = .ok (.getfield 37, 3) := by decide +kernel
theorem dX0_letCreak_53 : decode cX0_letCreak 53 = .ok (.getfield 111, 3) := by decide +kernel
theorem dX0_letCreak_56 : decode cX0_letCreak 56 = .ok (.iload_n 3, 1) := by decide +kernel
theorem dX0_letCreak_57 : decode cX0_letCreak 57 = .ok (.invokevirtual 65, 3) := by decide +kernel
theorem dX0_letCreak_60 : decode cX0_letCreak 60 = .ok (.if_icmp .lt 25, 3) := by decide +kernel
theorem dX0_letCreak_63 : decode cX0_letCreak 63 = .ok (.aload_n 0, 1) := by decide +kernel
theorem dX0_letCreak_64 : decode cX0_letCreak 64 = .ok (.getfield 37, 3) := by decide +kernel
theorem dX0_letCreak_67 : decode cX0_letCreak 67 = .ok (.iload_n 3, 1) := by decide +kernel
theorem dX0_letCreak_68 : decode cX0_letCreak 68 = .ok (.aload_n 0, 1) := by decide +kernel
theorem dX0_letCreak_69 : decode cX0_letCreak 69 = .ok (.getfield 14, 3) := by decide +kernel
theorem dX0_letCreak_72 : decode cX0_letCreak 72 = .ok (.iconst 1, 1) := by decide +kernel
theorem dX0_letCreak_73 : decode cX0_letCreak 73 = .ok (.invokevirtual 65, 3) := by decide +kernel
theorem dX0_letCreak_76 : decode cX0_letCreak 76 = .ok (.invokevirtual 123, 3) := by decide +kernel
theorem dX0_letCreak_79 : decode cX0_letCreak 79 = .ok (.iload_n 2, 1) := by decide +kernel
theorem dX0_letCreak_80 : decode cX0_letCreak 80 = .ok (.iconst 1, 1) := by decide +kernel
theorem dX0_letCreak_81 : decode cX0_letCreak 81 = .ok (.iload_n 3, 1) := by decide +kernel
theorem dX0_letCreak_82 : decode cX0_letCreak 82 = .ok (.ishl, 1) := by decide +kernel
theorem dX0_letCreak_83 : decode cX0_letCreak 83 = .ok (.ior, 1) := by decide +kernel
theorem dX0_letCreak_84 : decode cX0_letCreak 84 = .ok (.istore_n 2, 1) := by decide +kernel
theorem dX0_letCreak_85 : decode cX0_letCreak 85 = .ok (.iinc 3 1, 3) := by decide +kernel
theorem dX0_letCreak_88 : decode cX0_letCreak 88 = .ok (.goto (-73), 3) := by decide +kernel
theorem dX0_letCreak_91 : decode cX0_letCreak 91 = .ok (.iload_n 2, 1) := by decide +kernel
theorem dX0_letCreak_92 : decode cX0_letCreak 92 = .ok (.ireturn, 1) := by decide +kernel
theorem dX0_letPass_0 : decode cX0_letPass 0 = .ok (.aload_n 0, 1) := by decide +kernel
theorem dX0_letPass_1 : decode cX0_letPass 1 = .ok (.getfield 45, 3) := by decide +kernel
theorem dX0_letPass_4 : decode cX0_letPass 4 = .ok (.iload_n 1, 1) := by decide +kernel
theorem dX0_letPass_5 : decode cX0_letPass 5 = .ok (.iadd, 1) := by decide +kernel
theorem dX0_letPass_6 : decode cX0_letPass 6 = .ok (.aload_n 0, 1) := by decide +kernel
theorem dX0_letPass_7 : decode cX0_letPass 7 = .ok (.invokevirtual 75, 3) := by decide +kernel
theorem dX0_letPass_10 : decode cX0_letPass 10 = .ok (.idiv, 1) := by decide +kernel
theorem dX0_letPass_11 : decode cX0_letPass 11 = .ok (.aload_n 0, 1) := by decide +kernel
theorem dX0_letPass_12 : decode cX0_letPass 12 = .ok (.getfield 45, 3) := by decide +kernel
theorem dX0_letPass_15 : decode cX0_letPass 15 = .ok (.aload_n 0, 1) := by decide +kernel
theorem dX0_letPass_16 : decode cX0_letPass 16 = .ok (.invokevirtual 75, 3) := by decide +kernel
theorem dX0_letPass_19 : decode cX0_letPass 19 = .ok (.idiv, 1) := by decide +kernel
theorem dX0_letPass_20 : decode cX0_letPass 20 = .ok (.isub, 1) := by decide +kernel
theorem dX0_letPass_21 : decode cX0_letPass 21 = .ok (.istore_n 2, 1) := by decide +kernel
theorem dX0_letPass_22 : decode cX0_letPass 22 = .ok (.aload_n 0, 1) := by decide +kernel
theorem dX0_letPass_23 : decode cX0_letPass 23 = .ok (.dup, 1) := by decide +kernel
theorem dX0_letPass_24 : decode cX0_letPass 24 = .ok (.getfield 45, 3) := by decide +kernel
theorem dX0_letPass_27 : decode cX0_letPass 27 = .ok (.iload_n 1, 1) := by decide +kernel
theorem dX0_letPass_28 : decode cX0_letPass 28 = .ok (.iadd, 1) := by decide +kernel
theorem dX0_letPass_29 : decode cX0_letPass 29 = .ok (.putfield 45, 3) := by decide +kernel
theorem dX0_letPass_32 : decode cX0_letPass 32 = .ok (.aload_n 0, 1) := by decide +kernel
theorem dX0_letPass_33 : decode cX0_letPass 33 = .ok (.dup, 1) := by decide +kernel
theorem dX0_letPass_34 : decode cX0_letPass 34 = .ok (.getfield 49, 3) := by decide +kernel
theorem dX0_letPass_37 : decode cX0_letPass 37 = .ok (.iload_n 2, 1) := by decide +kernel
theorem dX0_letPass_38 : decode cX0_letPass 38 = .ok (.iadd, 1) := by decide +kernel
theorem dX0_letPass_39 : decode cX0_letPass 39 = .ok (.putfield 49, 3) := by decide +kernel
theorem dX0_letPass_42 : decode cX0_letPass 42 = .ok (.aload_n 0, 1) := by decide +kernel
theorem dX0_letPass_43 : decode cX0_letPass 43 = .ok (.getfield 37, 3) := by decide +kernel
theorem dX0_letPass_46 : decode cX0_letPass 46 = .ok (.iload_n 1, 1) := by decide +kernel
theorem dX0_letPass_47 : decode cX0_letPass 47 = .ok (.invokevirtual 126, 3) := by decide +kernel
theorem dX0_letPass_50 : decode cX0_letPass 50 = .ok (.iload_n 2, 1) := by decide +kernel
theorem dX0_letPass_51 : decode cX0_letPass 51 = .ok (.ifCond .le 14, 3) := by decide +kernel
theorem dX0_letPass_54 : decode cX0_letPass 54 = .ok (.aload_n 0, 1) := by decide +kernel
theorem dX0_letPass_55 : decode cX0_letPass 55 = .ok (.getfield 30, 3) := by decide +kernel
theorem dX0_letPass_58 : decode cX0_letPass 58 = .ok (.getfield 82, 3) := by decide +kernel
theorem dX0_letPass_61 : decode cX0_letPass 61 = .ok (.iconst 0, 1) := by decide +kernel
theorem dX0_letPass_62 : decode cX0_letPass 62 = .ok (.invokevirtual 129, 3) := by decide +kernel
theorem dX0_letPass_65 : decode cX0_letPass 65 = .ok (.iload_n 2, 1) := by decide +kernel
theorem dX0_letPass_66 : decode cX0_letPass 66 = .ok (.ireturn, 1) := by decide +kernel
theorem dX0_letGlide_0 : decode cX0_letGlide 0 = .ok (.aload_n 0, 1) := by decide +kernel
theorem dX0_letGlide_1 : decode cX0_letGlide 1 = .ok (.iload_n 2, 1) := by decide +kernel
theorem dX0_letGlide_2 : decode cX0_letGlide 2 = .ok (.invokevirtual 132, 3) := by decide +kernel
theorem dX0_letGlide_5 : decode cX0_letGlide 5 = .ok (.istore_n 3, 1) := by decide +kernel
theorem dX0_letGlide_6 : decode cX0_letGlide 6 = .ok (.aload_n 0, 1) := by decide +kernel
theorem dX0_letGlide_7 : decode cX0_letGlide 7 = .ok (.aload_n 0, 1) := by decide +kernel
theorem dX0_letGlide_8 : decode cX0_letGlide 8 = .ok (.getfield 23, 3) := by decide +kernel
theorem dX0_letGlide_11 : decode cX0_letGlide 11 = .ok (.getfield 135, 3) := by decide +kernel
theorem dX0_letGlide_14 : decode cX0_letGlide 14 = .ok (.iload_n 2, 1) := by decide +kernel
theorem dX0_letGlide_15 : decode cX0_letGlide 15 = .ok (.invokevirtual 65, 3) := by decide +kernel
theorem dX0_letGlide_18 : decode cX0_letGlide 18 = .ok (.invokevirtual 137, 3) := by decide +kernel
theorem dX0_letGlide_21 : decode cX0_letGlide 21 = .ok (.pop, 1) := by decide +kernel
theorem dX0_letGlide_22 : decode cX0_letGlide 22 = .ok (.aload_n 0, 1) := by decide +kernel
theorem dX0_letGlide_23 : decode cX0_letGlide 23 = .ok (.getfield 30, 3) := by decide +kernel
theorem dX0_letGlide_26 : decode cX0_letGlide 26 = .ok (.iload_n 1, 1) := by decide +kernel
theorem dX0_letGlide_27 : decode cX0_letGlide 27 = .ok (.iload_n 2, 1) := by decide +kernel
theorem dX0_letGlide_28 : decode cX0_letGlide 28 = .ok (.aload_n 0, 1) := by decide +kernel
theorem dX0_letGlide_29 : decode cX0_letGlide 29 = .ok (.getfield 23, 3) := by decide +kernel
theorem dX0_letGlide_32 : decode cX0_letGlide 32 = .ok (.iload_n 2, 1) := by decide +kernel
theorem dX0_letGlide_33 : decode cX0_letGlide 33 = .ok (.aload_n 0, 1) := by decide +kernel
theorem dX0_letGlide_34 : decode cX0_letGlide 34 = .ok (.getfield 30, 3) := by decide +kernel
theorem dX0_letGlide_37 : decode cX0_letGlide 37 = .ok (.getfield 97, 3) := by decide +kernel
theorem dX0_letGlide_40 : decode cX0_letGlide 40 = .ok (.iload_n 1, 1) := by decide +kernel
theorem dX0_letGlide_41 : decode cX0_letGlide 41 = .ok (.invokevirtual 65, 3) := by decide +kernel
theorem dX0_letGlide_44 : decode cX0_letGlide 44 = .ok (.invokevirtual 140, 3) := by decide +kernel
theorem dX0_letGlide_47 : decode cX0_letGlide 47 = .ok (.invokevirtual 143, 3) := by decide +kernel
theorem dX0_letGlide_50 : decode cX0_letGlide 50 = .ok (.iload_n 3, 1) := by decide +kernel
theorem dX0_letGlide_51 : decode cX0_letGlide 51 = .ok (.ireturn, 1) := by decide +kernel
theorem dX1_init_0 : decode cX1_init 0 = .ok (.aload_n 0, 1) := by decide +kernel
theorem dX1_init_1 : decode cX1_init 1 = .ok (.invokespecial 3, 3) := by decide +kernel
theorem dX1_init_4 : decode cX1_init 4 = .ok (.aload_n 0, 1) := by decide +kernel
theorem dX1_init_5 : decode cX1_init 5 = .ok (.new 9, 3) := by decide +kernel
theorem dX1_init_8 : decode cX1_init 8 = .ok (.dup, 1) := by decide +kernel
theorem dX1_init_9 : decode cX1_init 9 = .ok (.bipush 20, 2) := by decide +kernel
theorem dX1_init_11 : decode cX1_init 11 = .ok (.invokespecial 11, 3) := by decide +kernel
theorem dX1_init_14 : decode cX1_init 14 = .ok (.putfield 14, 3) := by decide +kernel
theorem dX1_init_17 : decode cX1_init 17 = .ok (.aload_n 0, 1) := by decide +kernel
theorem dX1_init_18 : decode cX1_init 18 = .ok (.new 9, 3) := by decide +kernel
theorem dX1_init_21 : decode cX1_init 21 = .ok (.dup, 1) := by decide +kernel
theorem dX1_init_22 : decode cX1_init 22 = .ok (.bipush 20, 2) := by decide +kernel
theorem dX1_init_24 : decode cX1_init 24 = .ok (.invokespecial 11, 3) := by decide +kernel
theorem dX1_init_27 : decode cX1_init 27 = .ok (.putfield 20, 3) := by decide +kernel
theorem dX1_init_30 : decode cX1_init 30 = .ok (.aload_n 0, 1) := by decide +kernel
theorem dX1_init_31 : decode cX1_init 31 = .ok (.new 9, 3) := by decide +kernel
theorem dX1_init_34 : decode cX1_init 34 = .ok (.dup, 1) := by decide +kernel
theorem dX1_init_35 : decode cX1_init 35 = .ok (.bipush 20, 2) := by decide +kernel
theorem dX1_init_37 : decode cX1_init 37 = .ok (.invokespecial 11, 3) := by decide +kernel
theorem dX1_init_40 : decode cX1_init 40 = .ok (.putfield 23, 3) := by decide +kernel
theorem dX1_init_43 : decode cX1_init 43 = .ok (.aload_n 0, 1) := by decide +kernel
theorem dX1_init_44 : decode cX1_init 44 = .ok (.new 9, 3) := by decide +kernel
theorem dX1_init_47 : decode cX1_init 47 = .ok (.dup, 1) := by decide +kernel
theorem dX1_init_48 : decode cX1_init 48 = .ok (.bipush 20, 2) := by decide +kernel
theorem dX1_init_50 : decode cX1_init 50 = .ok (.invokespecial 11, 3) := by decide +kernel
theorem dX1_init_53 : decode cX1_init 53 = .ok (.putfield 26, 3) := by decide +kernel
theorem dX1_init_56 : decode cX1_init 56 = .ok (.aload_n 0, 1) := by decide +kernel
theorem dX1_init_57 : decode cX1_init 57 = .ok (.new 9, 3) := by decide +kernel
theorem dX1_init_60 : decode cX1_init 60 = .ok (.dup, 1) := by decide +kernel
theorem dX1_init_61 : decode cX1_init 61 = .ok (.bipush 20, 2) := by decide +kernel
theorem dX1_init_63 : decode cX1_init 63 = .ok (.invokespecial 11, 3) := by decide +kernel
theorem dX1_init_66 : decode cX1_init 66 = .ok (.putfield 29, 3) := by decide +kernel
theorem dX1_init_69 : decode cX1_init 69 = .ok (.aload_n 0, 1) := by decide +kernel
theorem dX1_init_70 : decode cX1_init 70 = .ok (.new 9, 3) := by decide +kernel
theorem dX1_init_73 : decode cX1_init 73 = .ok (.dup, 1) := by decide +kernel
theorem dX1_init_74 : decode cX1_init 74 = .ok (.bipush 20, 2) := by decide +kernel
theorem dX1_init_76 : decode cX1_init 76 = .ok (.invokespecial 11, 3) := by decide +kernel
theorem dX1_init_79 : decode cX1_init 79 = .ok (.putfield 32, 3) := by decide +kernel
theorem dX1_init_82 : decode cX1_init 82 = .ok (.return_, 1) := by decide +kernel
theorem dX1_copyFrom_0 : decode cX1_copyFrom 0 = .ok (.aload_n 0, 1) := by decide +kernel
theorem dX1_copyFrom_1 : decode cX1_copyFrom 1 = .ok (.aload_n 1, 1) := by decide +kernel
theorem dX1_copyFrom_2 : decode cX1_copyFrom 2 = .ok (.getfield 35, 3) := by decide +kernel
theorem dX1_copyFrom_5 : decode cX1_copyFrom 5 = .ok (.putfield 35, 3) := by decide +kernel
theorem dX1_copyFrom_8 : decode cX1_copyFrom 8 = .ok (.aload_n 0, 1) := by decide +kernel
theorem dX1_copyFrom_9 : decode cX1_copyFrom 9 = .ok (.getfield 14, 3) := by decide +kernel
theorem dX1_copyFrom_12 : decode cX1_copyFrom 12 = .ok (.aload_n 1, 1) := by decide +kernel
theorem dX1_copyFrom_13 : decode cX1_copyFrom 13 = .ok (.getfield 14, 3) := by decide +kernel
theorem dX1_copyFrom_16 : decode cX1_copyFrom 16 = .ok (.invokevirtual 39, 3) := by decide +kernel
theorem dX1_copyFrom_19 : decode cX1_copyFrom 19 = .ok (.aload_n 0, 1) := by decide +kernel
theorem dX1_copyFrom_20 : decode cX1_copyFrom 20 = .ok (.getfield 20, 3) := by decide +kernel
theorem dX1_copyFrom_23 : decode cX1_copyFrom 23 = .ok (.aload_n 1, 1) := by decide +kernel
theorem dX1_copyFrom_24 : decode cX1_copyFrom 24 = .ok (.getfield 20, 3) := by decide +kernel
theorem dX1_copyFrom_27 : decode cX1_copyFrom 27 = .ok (.invokevirtual 39, 3) := by decide +kernel
theorem dX1_copyFrom_30 : decode cX1_copyFrom 30 = .ok (.aload_n 0, 1) := by decide +kernel
theorem dX1_copyFrom_31 : decode cX1_copyFrom 31 = .ok (.getfield 23, 3) := by decide +kernel
theorem dX1_copyFrom_34 : decode cX1_copyFrom 34 = .ok (.aload_n 1, 1) := by decide +kernel
theorem dX1_copyFrom_35 : decode cX1_copyFrom 35 = .ok (.getfield 23, 3) := by decide +kernel
theorem dX1_copyFrom_38 : decode cX1_copyFrom 38 = .ok (.invokevirtual 39, 3) := by decide +kernel
theorem dX1_copyFrom_41 : decode cX1_copyFrom 41 = .ok (.aload_n 0, 1) := by decide +kernel
theorem dX1_copyFrom_42 : decode cX1_copyFrom 42 = .ok (.getfield 26, 3) := by decide +kernel
theorem dX1_copyFrom_45 : decode cX1_copyFrom 45 = .ok (.aload_n 1, 1) := by decide +kernel
theorem dX1_copyFrom_46 : decode cX1_copyFrom 46 = .ok (.getfield 26, 3) := by decide +kernel
theorem dX1_copyFrom_49 : decode cX1_copyFrom 49 = .ok (.invokevirtual 39, 3) := by decide +kernel
theorem dX1_copyFrom_52 : decode cX1_copyFrom 52 = .ok (.aload_n 0, 1) := by decide +kernel
theorem dX1_copyFrom_53 : decode cX1_copyFrom 53 = .ok (.getfield 29, 3) := by decide +kernel
theorem dX1_copyFrom_56 : decode cX1_copyFrom 56 = .ok (.aload_n 1, 1) := by decide +kernel
theorem dX1_copyFrom_57 : decode cX1_copyFrom 57 = .ok (.getfield 29, 3) := by decide +kernel
theorem dX1_copyFrom_60 : decode cX1_copyFrom 60 = .ok (.invokevirtual 39, 3) := by decide +kernel
theorem dX1_copyFrom_63 : decode cX1_copyFrom 63 = .ok (.aload_n 0, 1) := by decide +kernel
theorem dX1_copyFrom_64 : decode cX1_copyFrom 64 = .ok (.getfield 32, 3) := by decide +kernel
theorem dX1_copyFrom_67 : decode cX1_copyFrom 67 = .ok (.aload_n 1, 1) := by decide +kernel
theorem dX1_copyFrom_68 : decode cX1_copyFrom 68 = .ok (.getfield 32, 3) := by decide +kernel
theorem dX1_copyFrom_71 : decode cX1_copyFrom 71 = .ok (.invokevirtual 39, 3) := by decide +kernel
theorem dX1_copyFrom_74 : decode cX1_copyFrom 74 = .ok (.return_, 1) := by decide +kernel
theorem dX1_has_0 : decode cX1_has 0 = .ok (.iload_n 1, 1) := by decide +kernel
theorem dX1_has_1 : decode cX1_has 1 = .ok (.iconst 0, 1) := by decide +kernel
theorem dX1_has_2 : decode cX1_has 2 = .ok (.aload_n 0, 1) := by decide +kernel
theorem dX1_has_3 : decode cX1_has 3 = .ok (.getfield 35, 3) := by decide +kernel
theorem dX1_has_6 : decode cX1_has 6 = .ok (.iconst 1, 1) := by decide +kernel
theorem dX1_has_7 : decode cX1_has 7 = .ok (.isub, 1) := by decide +kernel
theorem dX1_has_8 : decode cX1_has 8 = .ok (.invokestatic 43, 3) := by decide +kernel
theorem dX1_has_11 : decode cX1_has 11 = .ok (.ireturn, 1) := by decide +kernel
theorem dX1_append_0 : decode cX1_append 0 = .ok (.aload_n 0, 1) := by decide +kernel
theorem dX1_append_1 : decode cX1_append 1 = .ok (.getfield 35, 3) := by decide +kernel
theorem dX1_append_4 : decode cX1_append 4 = .ok (.bipush 20, 2) := by decide +kernel
theorem dX1_append_6 : decode cX1_append 6 = .ok (.if_icmp .lt 4, 3) := by decide +kernel
theorem dX1_append_9 : decode cX1_append 9 = .ok (.return_, 1) := by decide +kernel
theorem dX1_append_10 : decode cX1_append 10 = .ok (.aload_n 0, 1) := by decide +kernel
theorem dX1_append_11 : decode cX1_append 11 = .ok (.getfield 14, 3) := by decide +kernel
theorem dX1_append_14 : decode cX1_append 14 = .ok (.aload_n 0, 1) := by decide +kernel
theorem dX1_append_15 : decode cX1_append 15 = .ok (.getfield 35, 3) := by decide +kernel
theorem dX1_append_18 : decode cX1_append 18 = .ok (.iload_n 1, 1) := by decide +kernel
theorem dX1_append_19 : decode cX1_append 19 = .ok (.iload_n 2, 1) := by decide +kernel
theorem dX1_append_20 : decode cX1_append 20 = .ok (.invokestatic 47, 3) := by decide +kernel
theorem dX1_append_23 : decode cX1_append 23 = .ok (.invokevirtual 53, 3) := by decide +kernel
theorem dX1_append_26 : decode cX1_append 26 = .ok (.aload_n 0, 1) := by decide +kernel
theorem dX1_append_27 : decode cX1_append 27 = .ok (.getfield 20, 3) := by decide +kernel
theorem dX1_append_30 : decode cX1_append 30 = .ok (.aload_n 0, 1) := by decide +kernel
theorem dX1_append_31 : decode cX1_append 31 = .ok (.getfield 35, 3) := by decide +kernel
theorem dX1_append_34 : decode cX1_append 34 = .ok (.iload_n 1, 1) := by decide +kernel
theorem dX1_append_35 : decode cX1_append 35 = .ok (.iload_n 2, 1) := by decide +kernel
theorem dX1_append_36 : decode cX1_append 36 = .ok (.invokestatic 57, 3) := by decide +kernel
theorem dX1_append_39 : decode cX1_append 39 = .ok (.invokevirtual 53, 3) := by decide +kernel
theorem dX1_append_42 : decode cX1_append 42 = .ok (.aload_n 0, 1) := by decide +kernel
theorem dX1_append_43 : decode cX1_append 43 = .ok (.getfield 23, 3) := by decide +kernel
theorem dX1_append_46 : decode cX1_append 46 = .ok (.aload_n 0, 1) := by decide +kernel
theorem dX1_append_47 : decode cX1_append 47 = .ok (.getfield 35, 3) := by decide +kernel
theorem dX1_append_50 : decode cX1_append 50 = .ok (.iconst 1, 1) := by decide +kernel
theorem dX1_append_51 : decode cX1_append 51 = .ok (.iload_n 1, 1) := by decide +kernel
theorem dX1_append_52 : decode cX1_append 52 = .ok (.ishl, 1) := by decide +kernel
theorem dX1_append_53 : decode cX1_append 53 = .ok (.iconst 1, 1) := by decide +kernel
theorem dX1_append_54 : decode cX1_append 54 = .ok (.iload_n 2, 1) := by decide +kernel
theorem dX1_append_55 : decode cX1_append 55 = .ok (.ishl, 1) := by decide +kernel
theorem dX1_append_56 : decode cX1_append 56 = .ok (.ior, 1) := by decide +kernel
theorem dX1_append_57 : decode cX1_append 57 = .ok (.invokevirtual 53, 3) := by decide +kernel
theorem dX1_append_60 : decode cX1_append 60 = .ok (.aload_n 0, 1) := by decide +kernel
theorem dX1_append_61 : decode cX1_append 61 = .ok (.getfield 26, 3) := by decide +kernel
theorem dX1_append_64 : decode cX1_append 64 = .ok (.aload_n 0, 1) := by decide +kernel
theorem dX1_append_65 : decode cX1_append 65 = .ok (.getfield 35, 3) := by decide +kernel
theorem dX1_append_68 : decode cX1_append 68 = .ok (.iload_n 3, 1) := by decide +kernel
theorem dX1_append_69 : decode cX1_append 69 = .ok (.invokevirtual 53, 3) := by decide +kernel
theorem dX1_append_72 : decode cX1_append 72 = .ok (.aload_n 0, 1) := by decide +kernel
theorem dX1_append_73 : decode cX1_append 73 = .ok (.getfield 29, 3) := by decide +kernel
theorem dX1_append_76 : decode cX1_append 76 = .ok (.aload_n 0, 1) := by decide +kernel
theorem dX1_append_77 : decode cX1_append 77 = .ok (.getfield 35, 3) := by decide +kernel
theorem dX1_append_80 : decode cX1_append 80 = .ok (.iload 4, 2) := by decide +kernel
theorem dX1_append_82 : decode cX1_append 82 = .ok (.invokevirtual 53, 3) := by decide +kernel
theorem dX1_append_85 : decode cX1_append 85 = .ok (.aload_n 0, 1) := by decide +kernel
theorem dX1_append_86 : decode cX1_append 86 = .ok (.getfield 32, 3) := by decide +kernel
theorem dX1_append_89 : decode cX1_append 89 = .ok (.aload_n 0, 1) := by decide +kernel
theorem dX1_append_90 : decode cX1_append 90 = .ok (.getfield 35, 3) := by decide +kernel
theorem dX1_append_93 : decode cX1_append 93 = .ok (.iconst 0, 1) := by decide +kernel
theorem dX1_append_94 : decode cX1_append 94 = .ok (.invokevirtual 53, 3) := by decide +kernel
theorem dX1_append_97 : decode cX1_append 97 = .ok (.aload_n 0, 1) := by decide +kernel
theorem dX1_append_98 : decode cX1_append 98 = .ok (.dup, 1) := by decide +kernel
theorem dX1_append_99 : decode cX1_append 99 = .ok (.getfield 35, 3) := by decide +kernel
theorem dX1_append_102 : decode cX1_append 102 = .ok (.iconst 1, 1) := by decide +kernel
theorem dX1_append_103 : decode cX1_append 103 = .ok (.iadd, 1) := by decide +kernel
theorem dX1_append_104 : decode cX1_append 104 = .ok (.putfield 35, 3) := by decide +kernel
theorem dX1_append_107 : decode cX1_append 107 = .ok (.return_, 1) := by decide +kernel
theorem dX1_remove_0 : decode cX1_remove 0 = .ok (.aload_n 0, 1) := by decide +kernel
theorem dX1_remove_1 : decode cX1_remove 1 = .ok (.iload_n 1, 1) := by decide +kernel
theorem dX1_remove_2 : decode cX1_remove 2 = .ok (.invokevirtual 60, 3) := by decide +kernel
theorem dX1_remove_5 : decode cX1_remove 5 = .ok (.ifCond .ne 4, 3) := by decide +kernel
theorem dX1_remove_8 : decode cX1_remove 8 = .ok (.return_, 1) := by decide +kernel
theorem dX1_remove_9 : decode cX1_remove 9 = .ok (.aload_n 0, 1) := by decide +kernel
theorem dX1_remove_10 : decode cX1_remove 10 = .ok (.getfield 14, 3) := by decide +kernel
theorem dX1_remove_13 : decode cX1_remove 13 = .ok (.iload_n 1, 1) := by decide +kernel
theorem dX1_remove_14 : decode cX1_remove 14 = .ok (.invokevirtual 64, 3) := by decide +kernel
theorem dX1_remove_17 : decode cX1_remove 17 = .ok (.aload_n 0, 1) := by decide +kernel
theorem dX1_remove_18 : decode cX1_remove 18 = .ok (.getfield 20, 3) := by decide +kernel
theorem dX1_remove_21 : decode cX1_remove 21 = .ok (.iload_n 1, 1) := by decide +kernel
theorem dX1_remove_22 : decode cX1_remove 22 = .ok (.invokevirtual 64, 3) := by decide +kernel
theorem dX1_remove_25 : decode cX1_remove 25 = .ok (.aload_n 0, 1) := by decide +kernel
theorem dX1_remove_26 : decode cX1_remove 26 = .ok (.getfield 23, 3) := by decide +kernel
theorem dX1_remove_29 : decode cX1_remove 29 = .ok (.iload_n 1, 1) := by decide +kernel
theorem dX1_remove_30 : decode cX1_remove 30 = .ok (.invokevirtual 64, 3) := by decide +kernel
theorem dX1_remove_33 : decode cX1_remove 33 = .ok (.aload_n 0, 1) := by decide +kernel
theorem dX1_remove_34 : decode cX1_remove 34 = .ok (.getfield 26, 3) := by decide +kernel
theorem dX1_remove_37 : decode cX1_remove 37 = .ok (.iload_n 1, 1) := by decide +kernel
theorem dX1_remove_38 : decode cX1_remove 38 = .ok (.invokevirtual 64, 3) := by decide +kernel
theorem dX1_remove_41 : decode cX1_remove 41 = .ok (.aload_n 0, 1) := by decide +kernel
theorem dX1_remove_42 : decode cX1_remove 42 = .ok (.getfield 29, 3) := by decide +kernel
theorem dX1_remove_45 : decode cX1_remove 45 = .ok (.iload_n 1, 1) := by decide +kernel
theorem dX1_remove_46 : decode cX1_remove 46 = .ok (.invokevirtual 64, 3) := by decide +kernel
theorem dX1_remove_49 : decode cX1_remove 49 = .ok (.aload_n 0, 1) := by decide +kernel
theorem dX1_remove_50 : decode cX1_remove 50 = .ok (.getfield 32, 3) := by decide +kernel
theorem dX1_remove_53 : decode cX1_remove 53 = .ok (.iload_n 1, 1) := by decide +kernel
theorem dX1_remove_54 : decode cX1_remove 54 = .ok (.invokevirtual 64, 3) := by decide +kernel
theorem dX1_remove_57 : decode cX1_remove 57 = .ok (.aload_n 0, 1) := by decide +kernel
theorem dX1_remove_58 : decode cX1_remove 58 = .ok (.dup, 1) := by decide +kernel
theorem dX1_remove_59 : decode cX1_remove 59 = .ok (.getfield 35, 3) := by decide +kernel
theorem dX1_remove_62 : decode cX1_remove 62 = .ok (.iconst 1, 1) := by decide +kernel
theorem dX1_remove_63 : decode cX1_remove 63 = .ok (.isub, 1) := by decide +kernel
theorem dX1_remove_64 : decode cX1_remove 64 = .ok (.putfield 35, 3) := by decide +kernel
theorem dX1_remove_67 : decode cX1_remove 67 = .ok (.return_, 1) := by decide +kernel
theorem dX1_all_0 : decode cX1_all 0 = .ok (.iconst 1, 1) := by decide +kernel
theorem dX1_all_1 : decode cX1_all 1 = .ok (.aload_n 0, 1) := by decide +kernel
theorem dX1_all_2 : decode cX1_all 2 = .ok (.getfield 35, 3) := by decide +kernel
theorem dX1_all_5 : decode cX1_all 5 = .ok (.ishl, 1) := by decide +kernel
theorem dX1_all_6 : decode cX1_all 6 = .ok (.iconst 1, 1) := by decide +kernel
theorem dX1_all_7 : decode cX1_all 7 = .ok (.isub, 1) := by decide +kernel
theorem dX1_all_8 : decode cX1_all 8 = .ok (.ireturn, 1) := by decide +kernel
theorem dX1_beyond_0 : decode cX1_beyond 0 = .ok (.aload_n 0, 1) := by decide +kernel
theorem dX1_beyond_1 : decode cX1_beyond 1 = .ok (.getfield 14, 3) := by decide +kernel
theorem dX1_beyond_4 : decode cX1_beyond 4 = .ok (.iload_n 1, 1) := by decide +kernel
theorem dX1_beyond_5 : decode cX1_beyond 5 = .ok (.invokevirtual 67, 3) := by decide +kernel
theorem dX1_beyond_8 : decode cX1_beyond 8 = .ok (.iload_n 2, 1) := by decide +kernel
theorem dX1_beyond_9 : decode cX1_beyond 9 = .ok (.if_icmp .ne 14, 3) := by decide +kernel
theorem dX1_beyond_12 : decode cX1_beyond 12 = .ok (.aload_n 0, 1) := by decide +kernel
theorem dX1_beyond_13 : decode cX1_beyond 13 = .ok (.getfield 20, 3) := by decide +kernel
theorem dX1_beyond_16 : decode cX1_beyond 16 = .ok (.iload_n 1, 1) := by decide +kernel
theorem dX1_beyond_17 : decode cX1_beyond 17 = .ok (.invokevirtual 67, 3) := by decide +kernel
theorem dX1_beyond_20 : decode cX1_beyond 20 = .ok (.goto 11, 3) := by decide +kernel
theorem dX1_beyond_23 : decode cX1_beyond 23 = .ok (.aload_n 0, 1) := by decide +kernel
theorem dX1_beyond_24 : decode cX1_beyond 24 = .ok (.getfield 14, 3) := by decide +kernel
theorem dX1_beyond_27 : decode cX1_beyond 27 = .ok (.iload_n 1, 1) := by decide +kernel
theorem dX1_beyond_28 : decode cX1_beyond 28 = .ok (.invokevirtual 67, 3) := by decide +kernel
theorem dX1_beyond_31 : decode cX1_beyond 31 = .ok (.ireturn, 1) := by decide +kernel
theorem dX1_touching_0 : decode cX1_touching 0 = .ok (.iconst 0, 1) := by decide +kernel
theorem dX1_touching_1 : decode cX1_touching 1 = .ok (.istore_n 2, 1) := by decide +kernel
theorem dX1_touching_2 : decode cX1_touching 2 = .ok (.iconst 0, 1) := by decide +kernel
theorem dX1_touching_3 : decode cX1_touching 3 = .ok (.istore_n 3, 1) := by decide +kernel
theorem dX1_touching_4 : decode cX1_touching 4 = .ok (.iload_n 3, 1) := by decide +kernel
theorem dX1_touching_5 : decode cX1_touching 5 = .ok (.aload_n 0, 1) := by decide +kernel
theorem dX1_touching_6 : decode cX1_touching 6 = .ok (.getfield 35, 3) := by decide +kernel
theorem dX1_touching_9 : decode cX1_touching 9 = .ok (.if_icmp .ge 28, 3) := by decide +kernel
theorem dX1_touching_12 : decode cX1_touching 12 = .ok (.aload_n 0, 1) := by decide +kernel
theorem dX1_touching_13 : decode cX1_touching 13 = .ok (.getfield 23, 3) := by decide +kernel
theorem dX1_touching_16 : decode cX1_touching 16 = .ok (.iload_n 3, 1) := by decide +kernel
theorem dX1_touching_17 : decode cX1_touching 17 = .ok (.invokevirtual 67, 3) := by decide +kernel
theorem dX1_touching_20 : decode cX1_touching 20 = .ok (.iload_n 1, 1) := by decide +kernel
theorem dX1_touching_21 : decode cX1_touching 21 = .ok (.iand, 1) := by decide +kernel
theorem dX1_touching_22 : decode cX1_touching 22 = .ok (.ifCond .eq 9, 3) := by decide +kernel
theorem dX1_touching_25 : decode cX1_touching 25 = .ok (.iload_n 2, 1) := by decide +kernel
theorem dX1_touching_26 : decode cX1_touching 26 = .ok (.iconst 1, 1) := by decide +kernel
theorem dX1_touching_27 : decode cX1_touching 27 = .ok (.iload_n 3, 1) := by decide +kernel
theorem dX1_touching_28 : decode cX1_touching 28 = .ok (.ishl, 1) := by decide +kernel
theorem dX1_touching_29 : decode cX1_touching 29 = .ok (.ior, 1) := by decide +kernel
theorem dX1_touching_30 : decode cX1_touching 30 = .ok (.istore_n 2, 1) := by decide +kernel
theorem dX1_touching_31 : decode cX1_touching 31 = .ok (.iinc 3 1, 3) := by decide +kernel
theorem dX1_touching_34 : decode cX1_touching 34 = .ok (.goto (-30), 3) := by decide +kernel
theorem dX1_touching_37 : decode cX1_touching 37 = .ok (.iload_n 2, 1) := by decide +kernel
theorem dX1_touching_38 : decode cX1_touching 38 = .ok (.ireturn, 1) := by decide +kernel
theorem dX1_atMostAsLoud_0 : decode cX1_atMostAsLoud 0 = .ok (.iconst 0, 1) := by decide +kernel
theorem dX1_atMostAsLoud_1 : decode cX1_atMostAsLoud 1 = .ok (.istore_n 2, 1) := by decide +kernel
theorem dX1_atMostAsLoud_2 : decode cX1_atMostAsLoud 2 = .ok (.iconst 0, 1) := by decide +kernel
theorem dX1_atMostAsLoud_3 : decode cX1_atMostAsLoud 3 = .ok (.istore_n 3, 1) := by decide +kernel
theorem dX1_atMostAsLoud_4 : decode cX1_atMostAsLoud 4 = .ok (.iload_n 3, 1) := by decide +kernel
theorem dX1_atMostAsLoud_5 : decode cX1_atMostAsLoud 5 = .ok (.aload_n 0, 1) := by decide +kernel
theorem dX1_atMostAsLoud_6 : decode cX1_atMostAsLoud 6 = .ok (.getfield 35, 3) := by decide +kernel
theorem dX1_atMostAsLoud_9 : decode cX1_atMostAsLoud 9 = .ok (.if_icmp .ge 27, 3) := by decide +kernel
theorem dX1_atMostAsLoud_12 : decode cX1_atMostAsLoud 12 = .ok (.aload_n 0, 1) := by decide +kernel
theorem dX1_atMostAsLoud_13 : decode cX1_atMostAsLoud 13 = .ok (.getfield 26, 3) := by decide +kernel
theorem dX1_atMostAsLoud_16 : decode cX1_atMostAsLoud 16 = .ok (.iload_n 3, 1) := by decide +kernel
theorem dX1_atMostAsLoud_17 : decode cX1_atMostAsLoud 17 = .ok (.invokevirtual 67, 3) := by decide +kernel
theorem dX1_atMostAsLoud_20 : decode cX1_atMostAsLoud 20 = .ok (.iload_n 1, 1) := by decide +kernel
theorem dX1_atMostAsLoud_21 : decode cX1_atMostAsLoud 21 = .ok (.if_icmp .gt 9, 3) := by decide +kernel
theorem dX1_atMostAsLoud_24 : decode cX1_atMostAsLoud 24 = .ok (.iload_n 2, 1) := by decide +kernel
theorem dX1_atMostAsLoud_25 : decode cX1_atMostAsLoud 25 = .ok (.iconst 1, 1) := by decide +kernel
theorem dX1_atMostAsLoud_26 : decode cX1_atMostAsLoud 26 = .ok (.iload_n 3, 1) := by decide +kernel
theorem dX1_atMostAsLoud_27 : decode cX1_atMostAsLoud 27 = .ok (.ishl, 1) := by decide +kernel
theorem dX1_atMostAsLoud_28 : decode cX1_atMostAsLoud 28 = .ok (.ior, 1) := by decide +kernel
theorem dX1_atMostAsLoud_29 : decode cX1_atMostAsLoud 29 = .ok (.istore_n 2, 1) := by decide +kernel
theorem dX1_atMostAsLoud_30 : decode cX1_atMostAsLoud 30 = .ok (.iinc 3 1, 3) := by decide +kernel
theorem dX1_atMostAsLoud_33 : decode cX1_atMostAsLoud 33 = .ok (.goto (-29), 3) := by decide +kernel
theorem dX1_atMostAsLoud_36 : decode cX1_atMostAsLoud 36 = .ok (.iload_n 2, 1) := by decide +kernel
theorem dX1_atMostAsLoud_37 : decode cX1_atMostAsLoud 37 = .ok (.ireturn, 1) := by decide +kernel
theorem dX1_widened_0 : decode cX1_widened 0 = .ok (.iload_n 1, 1) := by decide +kernel
theorem dX1_widened_1 : decode cX1_widened 1 = .ok (.istore_n 3, 1) := by decide +kernel
theorem dX1_widened_2 : decode cX1_widened 2 = .ok (.iconst 0, 1) := by decide +kernel
theorem dX1_widened_3 : decode cX1_widened 3 = .ok (.istore 4, 2) := by decide +kernel
theorem dX1_widened_5 : decode cX1_widened 5 = .ok (.iload 4, 2) := by decide +kernel
theorem dX1_widened_7 : decode cX1_widened 7 = .ok (.aload_n 0, 1) := by decide +kernel
theorem dX1_widened_8 : decode cX1_widened 8 = .ok (.getfield 35, 3) := by decide +kernel
theorem dX1_widened_11 : decode cX1_widened 11 = .ok (.if_icmp .ge 44, 3) := by decide +kernel
theorem dX1_widened_14 : decode cX1_widened 14 = .ok (.iload_n 2, 1) := by decide +kernel
theorem dX1_widened_15 : decode cX1_widened 15 = .ok (.iload 4, 2) := by decide +kernel
theorem dX1_widened_17 : decode cX1_widened 17 = .ok (.invokestatic 71, 3) := by decide +kernel
theorem dX1_widened_20 : decode cX1_widened 20 = .ok (.ifCond .eq 29, 3) := by decide +kernel
theorem dX1_widened_23 : decode cX1_widened 23 = .ok (.aload_n 0, 1) := by decide +kernel
theorem dX1_widened_24 : decode cX1_widened 24 = .ok (.getfield 23, 3) := by decide +kernel
theorem dX1_widened_27 : decode cX1_widened 27 = .ok (.iload 4, 2) := by decide +kernel
theorem dX1_widened_29 : decode cX1_widened 29 = .ok (.invokevirtual 67, 3) := by decide +kernel
theorem dX1_widened_32 : decode cX1_widened 32 = .ok (.iload_n 1, 1) := by decide +kernel
theorem dX1_widened_33 : decode cX1_widened 33 = .ok (.iand, 1) := by decide +kernel
theorem dX1_widened_34 : decode cX1_widened 34 = .ok (.ifCond .eq 15, 3) := by decide +kernel
theorem dX1_widened_37 : decode cX1_widened 37 = .ok (.iload_n 3, 1) := by decide +kernel
theorem dX1_widened_38 : decode cX1_widened 38 = .ok (.aload_n 0, 1) := by decide +kernel
theorem dX1_widened_39 : decode cX1_widened 39 = .ok (.getfield 23, 3) := by decide +kernel
theorem dX1_widened_42 : decode cX1_widened 42 = .ok (.iload 4, 2) := by decide +kernel
theorem dX1_widened_44 : decode cX1_widened 44 = .ok (.invokevirtual 67, 3) := by decide +kernel
theorem dX1_widened_47 : decode cX1_widened 47 = .ok (.ior, 1) := by decide +kernel
theorem dX1_widened_48 : decode cX1_widened 48 = .ok (.istore_n 3, 1) := by decide +kernel
theorem dX1_widened_49 : decode cX1_widened 49 = .ok (.iinc 4 1, 3) := by decide +kernel
theorem dX1_widened_52 : decode cX1_widened 52 = .ok (.goto (-47), 3) := by decide +kernel
theorem dX1_widened_55 : decode cX1_widened 55 = .ok (.iload_n 3, 1) := by decide +kernel
theorem dX1_widened_56 : decode cX1_widened 56 = .ok (.ireturn, 1) := by decide +kernel
theorem dX1_roomsFrom_0 : decode cX1_roomsFrom 0 = .ok (.iconst 1, 1) := by decide +kernel
theorem dX1_roomsFrom_1 : decode cX1_roomsFrom 1 = .ok (.iload_n 1, 1) := by decide +kernel
theorem dX1_roomsFrom_2 : decode cX1_roomsFrom 2 = .ok (.ishl, 1) := by decide +kernel
theorem dX1_roomsFrom_3 : decode cX1_roomsFrom 3 = .ok (.istore_n 3, 1) := by decide +kernel
theorem dX1_roomsFrom_4 : decode cX1_roomsFrom 4 = .ok (.iconst 1, 1) := by decide +kernel
theorem dX1_roomsFrom_5 : decode cX1_roomsFrom 5 = .ok (.istore 4, 2) := by decide +kernel
theorem dX1_roomsFrom_7 : decode cX1_roomsFrom 7 = .ok (.iload 4, 2) := by decide +kernel
theorem dX1_roomsFrom_9 : decode cX1_roomsFrom 9 = .ok (.bipush 10, 2) := by decide +kernel
theorem dX1_roomsFrom_11 : decode cX1_roomsFrom 11 = .ok (.if_icmp .ge 29, 3) := by decide +kernel
theorem dX1_roomsFrom_14 : decode cX1_roomsFrom 14 = .ok (.aload_n 0, 1) := by decide +kernel
theorem dX1_roomsFrom_15 : decode cX1_roomsFrom 15 = .ok (.iload_n 3, 1) := by decide +kernel
theorem dX1_roomsFrom_16 : decode cX1_roomsFrom 16 = .ok (.iload_n 2, 1) := by decide +kernel
theorem dX1_roomsFrom_17 : decode cX1_roomsFrom 17 = .ok (.invokevirtual 75, 3) := by decide +kernel
theorem dX1_roomsFrom_20 : decode cX1_roomsFrom 20 = .ok (.istore 5, 2) := by decide +kernel
theorem dX1_roomsFrom_22 : decode cX1_roomsFrom 22 = .ok (.iload 5, 2) := by decide +kernel
theorem dX1_roomsFrom_24 : decode cX1_roomsFrom 24 = .ok (.iload_n 3, 1) := by decide +kernel
theorem dX1_roomsFrom_25 : decode cX1_roomsFrom 25 = .ok (.if_icmp .ne 6, 3) := by decide +kernel
theorem dX1_roomsFrom_28 : decode cX1_roomsFrom 28 = .ok (.goto 12, 3) := by decide +kernel
theorem dX1_roomsFrom_31 : decode cX1_roomsFrom 31 = .ok (.iload 5, 2) := by decide +kernel
theorem dX1_roomsFrom_33 : decode cX1_roomsFrom 33 = .ok (.istore_n 3, 1) := by decide +kernel
theorem dX1_roomsFrom_34 : decode cX1_roomsFrom 34 = .ok (.iinc 4 1, 3) := by decide +kernel
theorem dX1_roomsFrom_37 : decode cX1_roomsFrom 37 = .ok (.goto (-30), 3) := by decide +kernel
theorem dX1_roomsFrom_40 : decode cX1_roomsFrom 40 = .ok (.iload_n 3, 1) := by decide +kernel
theorem dX1_roomsFrom_41 : decode cX1_roomsFrom 41 = .ok (.ireturn, 1) := by decide +kernel
theorem dX1_fewestTo_0 : decode cX1_fewestTo 0 = .ok (.iconst 1, 1) := by decide +kernel
theorem dX1_fewestTo_1 : decode cX1_fewestTo 1 = .ok (.iload_n 1, 1) := by decide +kernel
theorem dX1_fewestTo_2 : decode cX1_fewestTo 2 = .ok (.ishl, 1) := by decide +kernel
theorem dX1_fewestTo_3 : decode cX1_fewestTo 3 = .ok (.istore_n 3, 1) := by decide +kernel
theorem dX1_fewestTo_4 : decode cX1_fewestTo 4 = .ok (.iconst 0, 1) := by decide +kernel
theorem dX1_fewestTo_5 : decode cX1_fewestTo 5 = .ok (.istore 4, 2) := by decide +kernel
theorem dX1_fewestTo_7 : decode cX1_fewestTo 7 = .ok (.iload 4, 2) := by decide +kernel
theorem dX1_fewestTo_9 : decode cX1_fewestTo 9 = .ok (.bipush 10, 2) := by decide +kernel
theorem dX1_fewestTo_11 : decode cX1_fewestTo 11 = .ok (.if_icmp .ge 41, 3) := by decide +kernel
theorem dX1_fewestTo_14 : decode cX1_fewestTo 14 = .ok (.iload_n 3, 1) := by decide +kernel
theorem dX1_fewestTo_15 : decode cX1_fewestTo 15 = .ok (.iload_n 2, 1) := by decide +kernel
theorem dX1_fewestTo_16 : decode cX1_fewestTo 16 = .ok (.iand, 1) := by decide +kernel
theorem dX1_fewestTo_17 : decode cX1_fewestTo 17 = .ok (.ifCond .eq 6, 3) := by decide +kernel
theorem dX1_fewestTo_20 : decode cX1_fewestTo 20 = .ok (.iload 4, 2) := by decide +kernel
theorem dX1_fewestTo_22 : decode cX1_fewestTo 22 = .ok (.ireturn, 1) := by decide +kernel
theorem dX1_fewestTo_23 : decode cX1_fewestTo 23 = .ok (.aload_n 0, 1) := by decide +kernel
theorem dX1_fewestTo_24 : decode cX1_fewestTo 24 = .ok (.iload_n 3, 1) := by decide +kernel
theorem dX1_fewestTo_25 : decode cX1_fewestTo 25 = .ok (.aload_n 0, 1) := by decide +kernel
theorem dX1_fewestTo_26 : decode cX1_fewestTo 26 = .ok (.invokevirtual 78, 3) := by decide +kernel
theorem dX1_fewestTo_29 : decode cX1_fewestTo 29 = .ok (.invokevirtual 75, 3) := by decide +kernel
theorem dX1_fewestTo_32 : decode cX1_fewestTo 32 = .ok (.istore 5, 2) := by decide +kernel
theorem dX1_fewestTo_34 : decode cX1_fewestTo 34 = .ok (.iload 5, 2) := by decide +kernel
theorem dX1_fewestTo_36 : decode cX1_fewestTo 36 = .ok (.iload_n 3, 1) := by decide +kernel
theorem dX1_fewestTo_37 : decode cX1_fewestTo 37 = .ok (.if_icmp .ne 6, 3) := by decide +kernel
theorem dX1_fewestTo_40 : decode cX1_fewestTo 40 = .ok (.goto 12, 3) := by decide +kernel
theorem dX1_fewestTo_43 : decode cX1_fewestTo 43 = .ok (.iload 5, 2) := by decide +kernel
theorem dX1_fewestTo_45 : decode cX1_fewestTo 45 = .ok (.istore_n 3, 1) := by decide +kernel
theorem dX1_fewestTo_46 : decode cX1_fewestTo 46 = .ok (.iinc 4 1, 3) := by decide +kernel
theorem dX1_fewestTo_49 : decode cX1_fewestTo 49 = .ok (.goto (-42), 3) := by decide +kernel
theorem dX1_fewestTo_52 : decode cX1_fewestTo 52 = .ok (.bipush (-6), 2) := by decide +kernel
theorem dX1_fewestTo_54 : decode cX1_fewestTo 54 = .ok (.ireturn, 1) := by decide +kernel
theorem dX1_loudnessIn_0 : decode cX1_loudnessIn 0 = .ok (.aload_n 0, 1) := by decide +kernel
theorem dX1_loudnessIn_1 : decode cX1_loudnessIn 1 = .ok (.iload_n 1, 1) := by decide +kernel
theorem dX1_loudnessIn_2 : decode cX1_loudnessIn 2 = .ok (.aload_n 0, 1) := by decide +kernel
theorem dX1_loudnessIn_3 : decode cX1_loudnessIn 3 = .ok (.getfield 23, 3) := by decide +kernel
theorem dX1_loudnessIn_6 : decode cX1_loudnessIn 6 = .ok (.iload_n 2, 1) := by decide +kernel
theorem dX1_loudnessIn_7 : decode cX1_loudnessIn 7 = .ok (.invokevirtual 67, 3) := by decide +kernel
theorem dX1_loudnessIn_10 : decode cX1_loudnessIn 10 = .ok (.invokevirtual 82, 3) := by decide +kernel
theorem dX1_loudnessIn_13 : decode cX1_loudnessIn 13 = .ok (.istore_n 3, 1) := by decide +kernel
theorem dX1_loudnessIn_14 : decode cX1_loudnessIn 14 = .ok (.iload_n 3, 1) := by decide +kernel
theorem dX1_loudnessIn_15 : decode cX1_loudnessIn 15 = .ok (.bipush (-6), 2) := by decide +kernel
theorem dX1_loudnessIn_17 : decode cX1_loudnessIn 17 = .ok (.if_icmp .ne 7, 3) := by decide +kernel
theorem dX1_loudnessIn_20 : decode cX1_loudnessIn 20 = .ok (.iconst 0, 1) := by decide +kernel
theorem dX1_loudnessIn_21 : decode cX1_loudnessIn 21 = .ok (.goto 17, 3) := by decide +kernel
theorem dX1_loudnessIn_24 : decode cX1_loudnessIn 24 = .ok (.aload_n 0, 1) := by decide +kernel
theorem dX1_loudnessIn_25 : decode cX1_loudnessIn 25 = .ok (.getfield 26, 3) := by decide +kernel
theorem dX1_loudnessIn_28 : decode cX1_loudnessIn 28 = .ok (.iload_n 2, 1) := by decide +kernel
theorem dX1_loudnessIn_29 : decode cX1_loudnessIn 29 = .ok (.invokevirtual 67, 3) := by decide +kernel
theorem dX1_loudnessIn_32 : decode cX1_loudnessIn 32 = .ok (.iload_n 3, 1) := by decide +kernel
theorem dX1_loudnessIn_33 : decode cX1_loudnessIn 33 = .ok (.isub, 1) := by decide +kernel
theorem dX1_loudnessIn_34 : decode cX1_loudnessIn 34 = .ok (.iconst 0, 1) := by decide +kernel
theorem dX1_loudnessIn_35 : decode cX1_loudnessIn 35 = .ok (.invokestatic 57, 3) := by decide +kernel
theorem dX1_loudnessIn_38 : decode cX1_loudnessIn 38 = .ok (.ireturn, 1) := by decide +kernel
theorem dX1_pairsApartWithout_0 : decode cX1_pairsApartWithout 0 = .ok (.aload_n 0, 1) := by decide +kernel
theorem dX1_pairsApartWithout_1 : decode cX1_pairsApartWithout 1 = .ok (.invokevirtual 78, 3) := by decide +kernel
theorem dX1_pairsApartWithout_4 : decode cX1_pairsApartWithout 4 = .ok (.iconst 1, 1) := by decide +kernel
theorem dX1_pairsApartWithout_5 : decode cX1_pairsApartWithout 5 = .ok (.iload_n 1, 1) := by decide +kernel
theorem dX1_pairsApartWithout_6 : decode cX1_pairsApartWithout 6 = .ok (.ishl, 1) := by decide +kernel
theorem dX1_pairsApartWithout_7 : decode cX1_pairsApartWithout 7 = .ok (.iconst (-1), 1) := by decide +kernel
theorem dX1_pairsApartWithout_8 : decode cX1_pairsApartWithout 8 = .ok (.ixor, 1) := by decide +kernel
theorem dX1_pairsApartWithout_9 : decode cX1_pairsApartWithout 9 = .ok (.iand, 1) := by decide +kernel
theorem dX1_pairsApartWithout_10 : decode cX1_pairsApartWithout 10 = .ok (.istore_n 2, 1) := by decide +kernel
theorem dX1_pairsApartWithout_11 : decode cX1_pairsApartWithout 11 = .ok (.aload_n 0, 1) := by decide +kernel
theorem dX1_pairsApartWithout_12 : decode cX1_pairsApartWithout 12 = .ok (.aload_n 0, 1) := by decide +kernel
theorem dX1_pairsApartWithout_13 : decode cX1_pairsApartWithout 13 = .ok (.getfield 14, 3) := by decide +kernel
theorem dX1_pairsApartWithout_16 : decode cX1_pairsApartWithout 16 = .ok (.iload_n 1, 1) := by decide +kernel
theorem dX1_pairsApartWithout_17 : decode cX1_pairsApartWithout 17 = .ok (.invokevirtual 67, 3) := by decide +kernel
theorem dX1_pairsApartWithout_20 : decode cX1_pairsApartWithout 20 = .ok (.iload_n 2, 1) := by decide +kernel
theorem dX1_pairsApartWithout_21 : decode cX1_pairsApartWithout 21 = .ok (.invokevirtual 85, 3) := by decide +kernel
theorem dX1_pairsApartWithout_24 : decode cX1_pairsApartWithout 24 = .ok (.istore_n 3, 1) := by decide +kernel
theorem dX1_pairsApartWithout_25 : decode cX1_pairsApartWithout 25 = .ok (.iload_n 3, 1) := by decide +kernel
theorem dX1_pairsApartWithout_26 : decode cX1_pairsApartWithout 26 = .ok (.aload_n 0, 1) := by decide +kernel
theorem dX1_pairsApartWithout_27 : decode cX1_pairsApartWithout 27 = .ok (.getfield 20, 3) := by decide +kernel
theorem dX1_pairsApartWithout_30 : decode cX1_pairsApartWithout 30 = .ok (.iload_n 1, 1) := by decide +kernel
theorem dX1_pairsApartWithout_31 : decode cX1_pairsApartWithout 31 = .ok (.invokevirtual 67, 3) := by decide +kernel
theorem dX1_pairsApartWithout_34 : decode cX1_pairsApartWithout 34 = .ok (.invokestatic 71, 3) := by decide +kernel
theorem dX1_pairsApartWithout_37 : decode cX1_pairsApartWithout 37 = .ok (.ifCond .eq 5, 3) := by decide +kernel
theorem dX1_pairsApartWithout_40 : decode cX1_pairsApartWithout 40 = .ok (.iconst 0, 1) := by decide +kernel
theorem dX1_pairsApartWithout_41 : decode cX1_pairsApartWithout 41 = .ok (.ireturn, 1) := by decide +kernel
theorem dX1_pairsApartWithout_42 : decode cX1_pairsApartWithout 42 = .ok (.aload_n 0, 1) := by decide +kernel
theorem dX1_pairsApartWithout_43 : decode cX1_pairsApartWithout 43 = .ok (.aload_n 0, 1) := by decide +kernel
theorem dX1_pairsApartWithout_44 : decode cX1_pairsApartWithout 44 = .ok (.getfield 20, 3) := by decide +kernel
theorem dX1_pairsApartWithout_47 : decode cX1_pairsApartWithout 47 = .ok (.iload_n 1, 1) := by decide +kernel
theorem dX1_pairsApartWithout_48 : decode cX1_pairsApartWithout 48 = .ok (.invokevirtual 67, 3) := by decide +kernel
theorem dX1_pairsApartWithout_51 : decode cX1_pairsApartWithout 51 = .ok (.iload_n 2, 1) := by decide +kernel
theorem dX1_pairsApartWithout_52 : decode cX1_pairsApartWithout 52 = .ok (.invokevirtual 85, 3) := by decide +kernel
theorem dX1_pairsApartWithout_55 : decode cX1_pairsApartWithout 55 = .ok (.istore 4, 2) := by decide +kernel
theorem dX1_pairsApartWithout_57 : decode cX1_pairsApartWithout 57 = .ok (.iload_n 3, 1) := by decide +kernel
theorem dX1_pairsApartWithout_58 : decode cX1_pairsApartWithout 58 = .ok (.invokestatic 88, 3) := by decide +kernel
theorem dX1_pairsApartWithout_61 : decode cX1_pairsApartWithout 61 = .ok (.iload 4, 2) := by decide +kernel
theorem dX1_pairsApartWithout_63 : decode cX1_pairsApartWithout 63 = .ok (.invokestatic 88, 3) := by decide +kernel
theorem dX1_pairsApartWithout_66 : decode cX1_pairsApartWithout 66 = .ok (.imul, 1) := by decide +kernel
theorem dX1_pairsApartWithout_67 : decode cX1_pairsApartWithout 67 = .ok (.ireturn, 1) := by decide +kernel
theorem dX2_init_0 : decode cX2_init 0 = .ok (.aload_n 0, 1) := by decide +kernel
theorem dX2_init_1 : decode cX2_init 1 = .ok (.invokespecial 3, 3) := by decide +kernel
theorem dX2_init_4 : decode cX2_init 4 = .ok (.aload_n 0, 1) := by decide +kernel
theorem dX2_init_5 : decode cX2_init 5 = .ok (.new 9, 3) := by decide +kernel
theorem dX2_init_8 : decode cX2_init 8 = .ok (.dup, 1) := by decide +kernel
theorem dX2_init_9 : decode cX2_init 9 = .ok (.iconst 4, 1) := by decide +kernel
theorem dX2_init_10 : decode cX2_init 10 = .ok (.invokespecial 11, 3) := by decide +kernel
theorem dX2_init_13 : decode cX2_init 13 = .ok (.putfield 14, 3) := by decide +kernel
theorem dX2_init_16 : decode cX2_init 16 = .ok (.aload_n 0, 1) := by decide +kernel
theorem dX2_init_17 : decode cX2_init 17 = .ok (.new 9, 3) := by decide +kernel
theorem dX2_init_20 : decode cX2_init 20 = .ok (.dup, 1) := by decide +kernel
theorem dX2_init_21 : decode cX2_init 21 = .ok (.iconst 4, 1) := by decide +kernel
theorem dX2_init_22 : decode cX2_init 22 = .ok (.invokespecial 11, 3) := by decide +kernel
theorem dX2_init_25 : decode cX2_init 25 = .ok (.putfield 20, 3) := by decide +kernel
theorem dX2_init_28 : decode cX2_init 28 = .ok (.aload_n 0, 1) := by decide +kernel
theorem dX2_init_29 : decode cX2_init 29 = .ok (.new 9, 3) := by decide +kernel
theorem dX2_init_32 : decode cX2_init 32 = .ok (.dup, 1) := by decide +kernel
theorem dX2_init_33 : decode cX2_init 33 = .ok (.iconst 4, 1) := by decide +kernel
theorem dX2_init_34 : decode cX2_init 34 = .ok (.invokespecial 11, 3) := by decide +kernel
theorem dX2_init_37 : decode cX2_init 37 = .ok (.putfield 23, 3) := by decide +kernel
theorem dX2_init_40 : decode cX2_init 40 = .ok (.return_, 1) := by decide +kernel
theorem dX2_copyFrom_0 : decode cX2_copyFrom 0 = .ok (.aload_n 0, 1) := by decide +kernel
theorem dX2_copyFrom_1 : decode cX2_copyFrom 1 = .ok (.getfield 14, 3) := by decide +kernel
theorem dX2_copyFrom_4 : decode cX2_copyFrom 4 = .ok (.aload_n 1, 1) := by decide +kernel
theorem dX2_copyFrom_5 : decode cX2_copyFrom 5 = .ok (.getfield 14, 3) := by decide +kernel
theorem dX2_copyFrom_8 : decode cX2_copyFrom 8 = .ok (.invokevirtual 26, 3) := by decide +kernel
theorem dX2_copyFrom_11 : decode cX2_copyFrom 11 = .ok (.aload_n 0, 1) := by decide +kernel
theorem dX2_copyFrom_12 : decode cX2_copyFrom 12 = .ok (.getfield 20, 3) := by decide +kernel
theorem dX2_copyFrom_15 : decode cX2_copyFrom 15 = .ok (.aload_n 1, 1) := by decide +kernel
theorem dX2_copyFrom_16 : decode cX2_copyFrom 16 = .ok (.getfield 20, 3) := by decide +kernel
theorem dX2_copyFrom_19 : decode cX2_copyFrom 19 = .ok (.invokevirtual 26, 3) := by decide +kernel
theorem dX2_copyFrom_22 : decode cX2_copyFrom 22 = .ok (.aload_n 0, 1) := by decide +kernel
theorem dX2_copyFrom_23 : decode cX2_copyFrom 23 = .ok (.getfield 23, 3) := by decide +kernel
theorem dX2_copyFrom_26 : decode cX2_copyFrom 26 = .ok (.aload_n 1, 1) := by decide +kernel
theorem dX2_copyFrom_27 : decode cX2_copyFrom 27 = .ok (.getfield 23, 3) := by decide +kernel
theorem dX2_copyFrom_30 : decode cX2_copyFrom 30 = .ok (.invokevirtual 26, 3) := by decide +kernel
theorem dX2_copyFrom_33 : decode cX2_copyFrom 33 = .ok (.return_, 1) := by decide +kernel
theorem dX2_whoCrossed_0 : decode cX2_whoCrossed 0 = .ok (.iconst 0, 1) := by decide +kernel
theorem dX2_whoCrossed_1 : decode cX2_whoCrossed 1 = .ok (.istore_n 2, 1) := by decide +kernel
theorem dX2_whoCrossed_2 : decode cX2_whoCrossed 2 = .ok (.iconst 0, 1) := by decide +kernel
theorem dX2_whoCrossed_3 : decode cX2_whoCrossed 3 = .ok (.istore_n 3, 1) := by decide +kernel
theorem dX2_whoCrossed_4 : decode cX2_whoCrossed 4 = .ok (.iload_n 3, 1) := by decide +kernel
theorem dX2_whoCrossed_5 : decode cX2_whoCrossed 5 = .ok (.iconst 4, 1) := by decide +kernel
theorem dX2_whoCrossed_6 : decode cX2_whoCrossed 6 = .ok (.if_icmp .ge 30, 3) := by decide +kernel
theorem dX2_whoCrossed_9 : decode cX2_whoCrossed 9 = .ok (.aload_n 0, 1) := by decide +kernel
theorem dX2_whoCrossed_10 : decode cX2_whoCrossed 10 = .ok (.getfield 20, 3) := by decide +kernel
theorem dX2_whoCrossed_13 : decode cX2_whoCrossed 13 = .ok (.iload_n 3, 1) := by decide +kernel
theorem dX2_whoCrossed_14 : decode cX2_whoCrossed 14 = .ok (.invokevirtual 30, 3) := by decide +kernel
theorem dX2_whoCrossed_17 : decode cX2_whoCrossed 17 = .ok (.iload_n 1, 1) := by decide +kernel
theorem dX2_whoCrossed_18 : decode cX2_whoCrossed 18 = .ok (.invokestatic 34, 3) := by decide +kernel
theorem dX2_whoCrossed_21 : decode cX2_whoCrossed 21 = .ok (.ifCond .eq 9, 3) := by decide +kernel
theorem dX2_whoCrossed_24 : decode cX2_whoCrossed 24 = .ok (.iload_n 2, 1) := by decide +kernel
theorem dX2_whoCrossed_25 : decode cX2_whoCrossed 25 = .ok (.iconst 1, 1) := by decide +kernel
theorem dX2_whoCrossed_26 : decode cX2_whoCrossed 26 = .ok (.iload_n 3, 1) := by decide +kernel
theorem dX2_whoCrossed_27 : decode cX2_whoCrossed 27 = .ok (.ishl, 1) := by decide +kernel
theorem dX2_whoCrossed_28 : decode cX2_whoCrossed 28 = .ok (.ior, 1) := by decide +kernel
theorem dX2_whoCrossed_29 : decode cX2_whoCrossed 29 = .ok (.istore_n 2, 1) := by decide +kernel
theorem dX2_whoCrossed_30 : decode cX2_whoCrossed 30 = .ok (.iinc 3 1, 3) := by decide +kernel
theorem dX2_whoCrossed_33 : decode cX2_whoCrossed 33 = .ok (.goto (-29), 3) := by decide +kernel
theorem dX2_whoCrossed_36 : decode cX2_whoCrossed 36 = .ok (.iload_n 2, 1) := by decide +kernel
theorem dX2_whoCrossed_37 : decode cX2_whoCrossed 37 = .ok (.ireturn, 1) := by decide +kernel
theorem dX2_cross_0 : decode cX2_cross 0 = .ok (.aload_n 0, 1) := by decide +kernel
theorem dX2_cross_1 : decode cX2_cross 1 = .ok (.getfield 14, 3) := by decide +kernel
theorem dX2_cross_4 : decode cX2_cross 4 = .ok (.iload_n 1, 1) := by decide +kernel
theorem dX2_cross_5 : decode cX2_cross 5 = .ok (.iload_n 3, 1) := by decide +kernel
theorem dX2_cross_6 : decode cX2_cross 6 = .ok (.invokevirtual 38, 3) := by decide +kernel
theorem dX2_cross_9 : decode cX2_cross 9 = .ok (.aload_n 0, 1) := by decide +kernel
theorem dX2_cross_10 : decode cX2_cross 10 = .ok (.getfield 20, 3) := by decide +kernel
theorem dX2_cross_13 : decode cX2_cross 13 = .ok (.iload_n 1, 1) := by decide +kernel
theorem dX2_cross_14 : decode cX2_cross 14 = .ok (.aload_n 0, 1) := by decide +kernel
theorem dX2_cross_15 : decode cX2_cross 15 = .ok (.getfield 20, 3) := by decide +kernel
theorem dX2_cross_18 : decode cX2_cross 18 = .ok (.iload_n 1, 1) := by decide +kernel
theorem dX2_cross_19 : decode cX2_cross 19 = .ok (.invokevirtual 30, 3) := by decide +kernel
theorem dX2_cross_22 : decode cX2_cross 22 = .ok (.iconst 1, 1) := by decide +kernel
theorem dX2_cross_23 : decode cX2_cross 23 = .ok (.iload_n 2, 1) := by decide +kernel
theorem dX2_cross_24 : decode cX2_cross 24 = .ok (.ishl, 1) := by decide +kernel
theorem dX2_cross_25 : decode cX2_cross 25 = .ok (.ior, 1) := by decide +kernel
theorem dX2_cross_26 : decode cX2_cross 26 = .ok (.invokevirtual 38, 3) := by decide +kernel
theorem dX2_cross_29 : decode cX2_cross 29 = .ok (.aload_n 0, 1) := by decide +kernel
theorem dX2_cross_30 : decode cX2_cross 30 = .ok (.getfield 23, 3) := by decide +kernel
theorem dX2_cross_33 : decode cX2_cross 33 = .ok (.iload_n 1, 1) := by decide +kernel
theorem dX2_cross_34 : decode cX2_cross 34 = .ok (.invokevirtual 42, 3) := by decide +kernel
theorem dX2_cross_37 : decode cX2_cross 37 = .ok (.return_, 1) := by decide +kernel
theorem dX2_forgetBoard_0 : decode cX2_forgetBoard 0 = .ok (.iconst 1, 1) := by decide +kernel
theorem dX2_forgetBoard_1 : decode cX2_forgetBoard 1 = .ok (.iload_n 1, 1) := by decide +kernel
theorem dX2_forgetBoard_2 : decode cX2_forgetBoard 2 = .ok (.ishl, 1) := by decide +kernel
theorem dX2_forgetBoard_3 : decode cX2_forgetBoard 3 = .ok (.iconst 1, 1) := by decide +kernel
theorem dX2_forgetBoard_4 : decode cX2_forgetBoard 4 = .ok (.isub, 1) := by decide +kernel
theorem dX2_forgetBoard_5 : decode cX2_forgetBoard 5 = .ok (.istore_n 2, 1) := by decide +kernel
theorem dX2_forgetBoard_6 : decode cX2_forgetBoard 6 = .ok (.iconst 0, 1) := by decide +kernel
theorem dX2_forgetBoard_7 : decode cX2_forgetBoard 7 = .ok (.istore_n 3, 1) := by decide +kernel
theorem dX2_forgetBoard_8 : decode cX2_forgetBoard 8 = .ok (.iload_n 3, 1) := by decide +kernel
theorem dX2_forgetBoard_9 : decode cX2_forgetBoard 9 = .ok (.iconst 4, 1) := by decide +kernel
theorem dX2_forgetBoard_10 : decode cX2_forgetBoard 10 = .ok (.if_icmp .ge 40, 3) := by decide +kernel
theorem dX2_forgetBoard_13 : decode cX2_forgetBoard 13 = .ok (.aload_n 0, 1) := by decide +kernel
theorem dX2_forgetBoard_14 : decode cX2_forgetBoard 14 = .ok (.getfield 20, 3) := by decide +kernel
theorem dX2_forgetBoard_17 : decode cX2_forgetBoard 17 = .ok (.iload_n 3, 1) := by decide +kernel
theorem dX2_forgetBoard_18 : decode cX2_forgetBoard 18 = .ok (.invokevirtual 30, 3) := by decide +kernel
theorem dX2_forgetBoard_21 : decode cX2_forgetBoard 21 = .ok (.istore 4, 2) := by decide +kernel
theorem dX2_forgetBoard_23 : decode cX2_forgetBoard 23 = .ok (.aload_n 0, 1) := by decide +kernel
theorem dX2_forgetBoard_24 : decode cX2_forgetBoard 24 = .ok (.getfield 20, 3) := by decide +kernel
theorem dX2_forgetBoard_27 : decode cX2_forgetBoard 27 = .ok (.iload_n 3, 1) := by decide +kernel
theorem dX2_forgetBoard_28 : decode cX2_forgetBoard 28 = .ok (.iload 4, 2) := by decide +kernel
theorem dX2_forgetBoard_30 : decode cX2_forgetBoard 30 = .ok (.iload_n 2, 1) := by decide +kernel
theorem dX2_forgetBoard_31 : decode cX2_forgetBoard 31 = .ok (.iand, 1) := by decide +kernel
theorem dX2_forgetBoard_32 : decode cX2_forgetBoard 32 = .ok (.iload 4, 2) := by decide +kernel
theorem dX2_forgetBoard_34 : decode cX2_forgetBoard 34 = .ok (.iconst 1, 1) := by decide +kernel
theorem dX2_forgetBoard_35 : decode cX2_forgetBoard 35 = .ok (.ishr, 1) := by decide +kernel
theorem dX2_forgetBoard_36 : decode cX2_forgetBoard 36 = .ok (.iload_n 2, 1) := by decide +kernel
theorem dX2_forgetBoard_37 : decode cX2_forgetBoard 37 = .ok (.iconst (-1), 1) := by decide +kernel
theorem dX2_forgetBoard_38 : decode cX2_forgetBoard 38 = .ok (.ixor, 1) := by decide +kernel
theorem dX2_forgetBoard_39 : decode cX2_forgetBoard 39 = .ok (.iand, 1) := by decide +kernel
theorem dX2_forgetBoard_40 : decode cX2_forgetBoard 40 = .ok (.ior, 1) := by decide +kernel
theorem dX2_forgetBoard_41 : decode cX2_forgetBoard 41 = .ok (.invokevirtual 38, 3) := by decide +kernel
theorem dX2_forgetBoard_44 : decode cX2_forgetBoard 44 = .ok (.iinc 3 1, 3) := by decide +kernel
theorem dX2_forgetBoard_47 : decode cX2_forgetBoard 47 = .ok (.goto (-39), 3) := by decide +kernel
theorem dX2_forgetBoard_50 : decode cX2_forgetBoard 50 = .ok (.return_, 1) := by decide +kernel
theorem dX3_init_0 : decode cX3_init 0 = .ok (.aload_n 0, 1) := by decide +kernel
theorem dX3_init_1 : decode cX3_init 1 = .ok (.invokespecial 3, 3) := by decide +kernel
theorem dX3_init_4 : decode cX3_init 4 = .ok (.aload_n 0, 1) := by decide +kernel
theorem dX3_init_5 : decode cX3_init 5 = .ok (.new 9, 3) := by decide +kernel
theorem dX3_init_8 : decode cX3_init 8 = .ok (.dup, 1) := by decide +kernel
theorem dX3_init_9 : decode cX3_init 9 = .ok (.bipush 6, 2) := by decide +kernel
theorem dX3_init_11 : decode cX3_init 11 = .ok (.invokespecial 11, 3) := by decide +kernel
theorem dX3_init_14 : decode cX3_init 14 = .ok (.putfield 14, 3) := by decide +kernel
theorem dX3_init_17 : decode cX3_init 17 = .ok (.return_, 1) := by decide +kernel
theorem dX3_remember_0 : decode cX3_remember 0 = .ok (.aload_n 0, 1) := by decide +kernel
theorem dX3_remember_1 : decode cX3_remember 1 = .ok (.getfield 14, 3) := by decide +kernel
theorem dX3_remember_4 : decode cX3_remember 4 = .ok (.aload_n 0, 1) := by decide +kernel
theorem dX3_remember_5 : decode cX3_remember 5 = .ok (.getfield 20, 3) := by decide +kernel
theorem dX3_remember_8 : decode cX3_remember 8 = .ok (.aload_n 1, 1) := by decide +kernel
theorem dX3_remember_9 : decode cX3_remember 9 = .ok (.invokevirtual 24, 3) := by decide +kernel
theorem dX3_remember_12 : decode cX3_remember 12 = .ok (.aload_n 0, 1) := by decide +kernel
theorem dX3_remember_13 : decode cX3_remember 13 = .ok (.aload_n 0, 1) := by decide +kernel
theorem dX3_remember_14 : decode cX3_remember 14 = .ok (.getfield 20, 3) := by decide +kernel
theorem dX3_remember_17 : decode cX3_remember 17 = .ok (.iconst 1, 1) := by decide +kernel
theorem dX3_remember_18 : decode cX3_remember 18 = .ok (.iadd, 1) := by decide +kernel
theorem dX3_remember_19 : decode cX3_remember 19 = .ok (.bipush 6, 2) := by decide +kernel
theorem dX3_remember_21 : decode cX3_remember 21 = .ok (.if_icmp .ge 12, 3) := by decide +kernel
theorem dX3_remember_24 : decode cX3_remember 24 = .ok (.aload_n 0, 1) := by decide +kernel
theorem dX3_remember_25 : decode cX3_remember 25 = .ok (.getfield 20, 3) := by decide +kernel
theorem dX3_remember_28 : decode cX3_remember 28 = .ok (.iconst 1, 1) := by decide +kernel
theorem dX3_remember_29 : decode cX3_remember 29 = .ok (.iadd, 1) := by decide +kernel
theorem dX3_remember_30 : decode cX3_remember 30 = .ok (.goto 4, 3) := by decide +kernel
theorem dX3_remember_33 : decode cX3_remember 33 = .ok (.iconst 0, 1) := by decide +kernel
theorem dX3_remember_34 : decode cX3_remember 34 = .ok (.putfield 20, 3) := by decide +kernel
theorem dX3_remember_37 : decode cX3_remember 37 = .ok (.aload_n 0, 1) := by decide +kernel
theorem dX3_remember_38 : decode cX3_remember 38 = .ok (.aload_n 0, 1) := by decide +kernel
theorem dX3_remember_39 : decode cX3_remember 39 = .ok (.getfield 28, 3) := by decide +kernel
theorem dX3_remember_42 : decode cX3_remember 42 = .ok (.iconst 1, 1) := by decide +kernel
theorem dX3_remember_43 : decode cX3_remember 43 = .ok (.iadd, 1) := by decide +kernel
theorem dX3_remember_44 : decode cX3_remember 44 = .ok (.bipush 6, 2) := by decide +kernel
theorem dX3_remember_46 : decode cX3_remember 46 = .ok (.invokestatic 31, 3) := by decide +kernel
theorem dX3_remember_49 : decode cX3_remember 49 = .ok (.putfield 28, 3) := by decide +kernel
theorem dX3_remember_52 : decode cX3_remember 52 = .ok (.return_, 1) := by decide +kernel
theorem dX4_init_0 : decode cX4_init 0 = .ok (.aload_n 0, 1) := by decide +kernel
theorem dX4_init_1 : decode cX4_init 1 = .ok (.invokespecial 3, 3) := by decide +kernel
theorem dX4_init_4 : decode cX4_init 4 = .ok (.aload_n 0, 1) := by decide +kernel
theorem dX4_init_5 : decode cX4_init 5 = .ok (.new 9, 3) := by decide +kernel
theorem dX4_init_8 : decode cX4_init 8 = .ok (.dup, 1) := by decide +kernel
theorem dX4_init_9 : decode cX4_init 9 = .ok (.bipush 60, 2) := by decide +kernel
theorem dX4_init_11 : decode cX4_init 11 = .ok (.invokespecial 11, 3) := by decide +kernel
theorem dX4_init_14 : decode cX4_init 14 = .ok (.putfield 14, 3) := by decide +kernel
theorem dX4_init_17 : decode cX4_init 17 = .ok (.return_, 1) := by decide +kernel
theorem dX5_init_0 : decode cX5_init 0 = .ok (.aload_n 0, 1) := by decide +kernel
theorem dX5_init_1 : decode cX5_init 1 = .ok (.invokespecial 1, 3) := by decide +kernel
theorem dX5_init_4 : decode cX5_init 4 = .ok (.aload_n 0, 1) := by decide +kernel
theorem dX5_init_5 : decode cX5_init 5 = .ok (.iload_n 1, 1) := by decide +kernel
theorem dX5_init_6 : decode cX5_init 6 = .ok (.iconst 0, 1) := by decide +kernel
theorem dX5_init_7 : decode cX5_init 7 = .ok (.invokestatic 7, 3) := by decide +kernel
theorem dX5_init_10 : decode cX5_init 10 = .ok (.newarray .int, 2) := by decide +kernel
theorem dX5_init_12 : decode cX5_init 12 = .ok (.putfield 13, 3) := by decide +kernel
theorem dX5_init_15 : decode cX5_init 15 = .ok (.return_, 1) := by decide +kernel
theorem dX5_at_0 : decode cX5_at 0 = .ok (.iload_n 1, 1) := by decide +kernel
theorem dX5_at_1 : decode cX5_at 1 = .ok (.ifCond .lt 21, 3) := by decide +kernel
theorem dX5_at_4 : decode cX5_at 4 = .ok (.iload_n 1, 1) := by decide +kernel
theorem dX5_at_5 : decode cX5_at 5 = .ok (.aload_n 0, 1) := by decide +kernel
theorem dX5_at_6 : decode cX5_at 6 = .ok (.getfield 13, 3) := by decide +kernel
theorem dX5_at_9 : decode cX5_at 9 = .ok (.arraylength, 1) := by decide +kernel
theorem dX5_at_10 : decode cX5_at 10 = .ok (.if_icmp .ge 12, 3) := by decide +kernel
theorem dX5_at_13 : decode cX5_at 13 = .ok (.aload_n 0, 1) := by decide +kernel
theorem dX5_at_14 : decode cX5_at 14 = .ok (.getfield 13, 3) := by decide +kernel
theorem dX5_at_17 : decode cX5_at 17 = .ok (.iload_n 1, 1) := by decide +kernel
theorem dX5_at_18 : decode cX5_at 18 = .ok (.iaload, 1) := by decide +kernel
theorem dX5_at_19 : decode cX5_at 19 = .ok (.goto 4, 3) := by decide +kernel
theorem dX5_at_22 : decode cX5_at 22 = .ok (.iconst 0, 1) := by decide +kernel
theorem dX5_at_23 : decode cX5_at 23 = .ok (.ireturn, 1) := by decide +kernel
theorem dX5_store_0 : decode cX5_store 0 = .ok (.iload_n 1, 1) := by decide +kernel
theorem dX5_store_1 : decode cX5_store 1 = .ok (.ifCond .lt 19, 3) := by decide +kernel
theorem dX5_store_4 : decode cX5_store 4 = .ok (.iload_n 1, 1) := by decide +kernel
theorem dX5_store_5 : decode cX5_store 5 = .ok (.aload_n 0, 1) := by decide +kernel
theorem dX5_store_6 : decode cX5_store 6 = .ok (.getfield 13, 3) := by decide +kernel
theorem dX5_store_9 : decode cX5_store 9 = .ok (.arraylength, 1) := by decide +kernel
theorem dX5_store_10 : decode cX5_store 10 = .ok (.if_icmp .ge 10, 3) := by decide +kernel
theorem dX5_store_13 : decode cX5_store 13 = .ok (.aload_n 0, 1) := by decide +kernel
theorem dX5_store_14 : decode cX5_store 14 = .ok (.getfield 13, 3) := by decide +kernel
theorem dX5_store_17 : decode cX5_store 17 = .ok (.iload_n 1, 1) := by decide +kernel
theorem dX5_store_18 : decode cX5_store 18 = .ok (.iload_n 2, 1) := by decide +kernel
theorem dX5_store_19 : decode cX5_store 19 = .ok (.iastore, 1) := by decide +kernel
theorem dX5_store_20 : decode cX5_store 20 = .ok (.return_, 1) := by decide +kernel
theorem dX5_increase_0 : decode cX5_increase 0 = .ok (.aload_n 0, 1) := by decide +kernel
theorem dX5_increase_1 : decode cX5_increase 1 = .ok (.iload_n 1, 1) := by decide +kernel
theorem dX5_increase_2 : decode cX5_increase 2 = .ok (.aload_n 0, 1) := by decide +kernel
theorem dX5_increase_3 : decode cX5_increase 3 = .ok (.iload_n 1, 1) := by decide +kernel
theorem dX5_increase_4 : decode cX5_increase 4 = .ok (.invokevirtual 19, 3) := by decide +kernel
theorem dX5_increase_7 : decode cX5_increase 7 = .ok (.iconst 1, 1) := by decide +kernel
theorem dX5_increase_8 : decode cX5_increase 8 = .ok (.iadd, 1) := by decide +kernel
theorem dX5_increase_9 : decode cX5_increase 9 = .ok (.invokevirtual 23, 3) := by decide +kernel
theorem dX5_increase_12 : decode cX5_increase 12 = .ok (.return_, 1) := by decide +kernel
theorem dX5_fill_0 : decode cX5_fill 0 = .ok (.iconst 0, 1) := by decide +kernel
theorem dX5_fill_1 : decode cX5_fill 1 = .ok (.istore_n 2, 1) := by decide +kernel
theorem dX5_fill_2 : decode cX5_fill 2 = .ok (.iload_n 2, 1) := by decide +kernel
theorem dX5_fill_3 : decode cX5_fill 3 = .ok (.aload_n 0, 1) := by decide +kernel
theorem dX5_fill_4 : decode cX5_fill 4 = .ok (.getfield 13, 3) := by decide +kernel
theorem dX5_fill_7 : decode cX5_fill 7 = .ok (.arraylength, 1) := by decide +kernel
theorem dX5_fill_8 : decode cX5_fill 8 = .ok (.if_icmp .ge 16, 3) := by decide +kernel
theorem dX5_fill_11 : decode cX5_fill 11 = .ok (.aload_n 0, 1) := by decide +kernel
theorem dX5_fill_12 : decode cX5_fill 12 = .ok (.getfield 13, 3) := by decide +kernel
theorem dX5_fill_15 : decode cX5_fill 15 = .ok (.iload_n 2, 1) := by decide +kernel
theorem dX5_fill_16 : decode cX5_fill 16 = .ok (.iload_n 1, 1) := by decide +kernel
theorem dX5_fill_17 : decode cX5_fill 17 = .ok (.iastore, 1) := by decide +kernel
theorem dX5_fill_18 : decode cX5_fill 18 = .ok (.iinc 2 1, 3) := by decide +kernel
theorem dX5_fill_21 : decode cX5_fill 21 = .ok (.goto (-19), 3) := by decide +kernel
theorem dX5_fill_24 : decode cX5_fill 24 = .ok (.return_, 1) := by decide +kernel
theorem dX5_moveUpBehind_0 : decode cX5_moveUpBehind 0 = .ok (.iload_n 1, 1) := by decide +kernel
theorem dX5_moveUpBehind_1 : decode cX5_moveUpBehind 1 = .ok (.iconst 0, 1) := by decide +kernel
theorem dX5_moveUpBehind_2 : decode cX5_moveUpBehind 2 = .ok (.invokestatic 7, 3) := by decide +kernel
theorem dX5_moveUpBehind_5 : decode cX5_moveUpBehind 5 = .ok (.istore_n 2, 1) := by decide +kernel
theorem dX5_moveUpBehind_6 : decode cX5_moveUpBehind 6 = .ok (.iload_n 2, 1) := by decide +kernel
theorem dX5_moveUpBehind_7 : decode cX5_moveUpBehind 7 = .ok (.aload_n 0, 1) := by decide +kernel
theorem dX5_moveUpBehind_8 : decode cX5_moveUpBehind 8 = .ok (.getfield 13, 3) := by decide +kernel
theorem dX5_moveUpBehind_11 : decode cX5_moveUpBehind 11 = .ok (.arraylength, 1) := by decide +kernel
theorem dX5_moveUpBehind_12 : decode cX5_moveUpBehind 12 = .ok (.iconst 1, 1) := by decide +kernel
theorem dX5_moveUpBehind_13 : decode cX5_moveUpBehind 13 = .ok (.isub, 1) := by decide +kernel
theorem dX5_moveUpBehind_14 : decode cX5_moveUpBehind 14 = .ok (.if_icmp .ge 23, 3) := by decide +kernel
theorem dX5_moveUpBehind_17 : decode cX5_moveUpBehind 17 = .ok (.aload_n 0, 1) := by decide +kernel
theorem dX5_moveUpBehind_18 : decode cX5_moveUpBehind 18 = .ok (.getfield 13, 3) := by decide +kernel
theorem dX5_moveUpBehind_21 : decode cX5_moveUpBehind 21 = .ok (.iload_n 2, 1) := by decide +kernel
theorem dX5_moveUpBehind_22 : decode cX5_moveUpBehind 22 = .ok (.aload_n 0, 1) := by decide +kernel
theorem dX5_moveUpBehind_23 : decode cX5_moveUpBehind 23 = .ok (.getfield 13, 3) := by decide +kernel
theorem dX5_moveUpBehind_26 : decode cX5_moveUpBehind 26 = .ok (.iload_n 2, 1) := by decide +kernel
theorem dX5_moveUpBehind_27 : decode cX5_moveUpBehind 27 = .ok (.iconst 1, 1) := by decide +kernel
theorem dX5_moveUpBehind_28 : decode cX5_moveUpBehind 28 = .ok (.iadd, 1) := by decide +kernel
theorem dX5_moveUpBehind_29 : decode cX5_moveUpBehind 29 = .ok (.iaload, 1) := by decide +kernel
theorem dX5_moveUpBehind_30 : decode cX5_moveUpBehind 30 = .ok (.iastore, 1) := by decide +kernel
theorem dX5_moveUpBehind_31 : decode cX5_moveUpBehind 31 = .ok (.iinc 2 1, 3) := by decide +kernel
theorem dX5_moveUpBehind_34 : decode cX5_moveUpBehind 34 = .ok (.goto (-28), 3) := by decide +kernel
theorem dX5_moveUpBehind_37 : decode cX5_moveUpBehind 37 = .ok (.return_, 1) := by decide +kernel
theorem dX5_copyFrom_0 : decode cX5_copyFrom 0 = .ok (.aload_n 1, 1) := by decide +kernel
theorem dX5_copyFrom_1 : decode cX5_copyFrom 1 = .ok (.getfield 13, 3) := by decide +kernel
theorem dX5_copyFrom_4 : decode cX5_copyFrom 4 = .ok (.iconst 0, 1) := by decide +kernel
theorem dX5_copyFrom_5 : decode cX5_copyFrom 5 = .ok (.aload_n 0, 1) := by decide +kernel
theorem dX5_copyFrom_6 : decode cX5_copyFrom 6 = .ok (.getfield 13, 3) := by decide +kernel
theorem dX5_copyFrom_9 : decode cX5_copyFrom 9 = .ok (.iconst 0, 1) := by decide +kernel
theorem dX5_copyFrom_10 : decode cX5_copyFrom 10 = .ok (.aload_n 1, 1) := by decide +kernel
theorem dX5_copyFrom_11 : decode cX5_copyFrom 11 = .ok (.getfield 13, 3) := by decide +kernel
theorem dX5_copyFrom_14 : decode cX5_copyFrom 14 = .ok (.arraylength, 1) := by decide +kernel
theorem dX5_copyFrom_15 : decode cX5_copyFrom 15 = .ok (.aload_n 0, 1) := by decide +kernel
theorem dX5_copyFrom_16 : decode cX5_copyFrom 16 = .ok (.getfield 13, 3) := by decide +kernel
theorem dX5_copyFrom_19 : decode cX5_copyFrom 19 = .ok (.arraylength, 1) := by decide +kernel
theorem dX5_copyFrom_20 : decode cX5_copyFrom 20 = .ok (.invokestatic 27, 3) := by decide +kernel
theorem dX5_copyFrom_23 : decode cX5_copyFrom 23 = .ok (.invokestatic 30, 3) := by decide +kernel
theorem dX5_copyFrom_26 : decode cX5_copyFrom 26 = .ok (.return_, 1) := by decide +kernel
theorem dX6_init_0 : decode cX6_init 0 = .ok (.aload_n 0, 1) := by decide +kernel
theorem dX6_init_1 : decode cX6_init 1 = .ok (.invokespecial 1, 3) := by decide +kernel
theorem dX6_init_4 : decode cX6_init 4 = .ok (.aload_n 0, 1) := by decide +kernel
theorem dX6_init_5 : decode cX6_init 5 = .ok (.iload_n 1, 1) := by decide +kernel
theorem dX6_init_6 : decode cX6_init 6 = .ok (.iconst 0, 1) := by decide +kernel
theorem dX6_init_7 : decode cX6_init 7 = .ok (.invokestatic 7, 3) := by decide +kernel
theorem dX6_init_10 : decode cX6_init 10 = .ok (.anewarray 13, 3) := by decide +kernel
theorem dX6_init_13 : decode cX6_init 13 = .ok (.putfield 15, 3) := by decide +kernel
theorem dX6_init_16 : decode cX6_init 16 = .ok (.iconst 0, 1) := by decide +kernel
theorem dX6_init_17 : decode cX6_init 17 = .ok (.istore_n 2, 1) := by decide +kernel
theorem dX6_init_18 : decode cX6_init 18 = .ok (.iload_n 2, 1) := by decide +kernel
theorem dX6_init_19 : decode cX6_init 19 = .ok (.aload_n 0, 1) := by decide +kernel
theorem dX6_init_20 : decode cX6_init 20 = .ok (.getfield 15, 3) := by decide +kernel
theorem dX6_init_23 : decode cX6_init 23 = .ok (.arraylength, 1) := by decide +kernel
theorem dX6_init_24 : decode cX6_init 24 = .ok (.if_icmp .ge 22, 3) := by decide +kernel
theorem dX6_init_27 : decode cX6_init 27 = .ok (.aload_n 0, 1) := by decide +kernel
theorem dX6_init_28 : decode cX6_init 28 = .ok (.getfield 15, 3) := by decide +kernel
theorem dX6_init_31 : decode cX6_init 31 = .ok (.iload_n 2, 1) := by decide +kernel
theorem dX6_init_32 : decode cX6_init 32 = .ok (.new 13, 3) := by decide +kernel
theorem dX6_init_35 : decode cX6_init 35 = .ok (.dup, 1) := by decide +kernel
theorem dX6_init_36 : decode cX6_init 36 = .ok (.invokespecial 21, 3) := by decide +kernel
theorem dX6_init_39 : decode cX6_init 39 = .ok (.aastore, 1) := by decide +kernel
theorem dX6_init_40 : decode cX6_init 40 = .ok (.iinc 2 1, 3) := by decide +kernel
theorem dX6_init_43 : decode cX6_init 43 = .ok (.goto (-25), 3) := by decide +kernel
theorem dX6_init_46 : decode cX6_init 46 = .ok (.return_, 1) := by decide +kernel
theorem dX6_has_0 : decode cX6_has 0 = .ok (.iload_n 1, 1) := by decide +kernel
theorem dX6_has_1 : decode cX6_has 1 = .ok (.ifCond .lt 25, 3) := by decide +kernel
theorem dX6_has_4 : decode cX6_has 4 = .ok (.iload_n 1, 1) := by decide +kernel
theorem dX6_has_5 : decode cX6_has 5 = .ok (.aload_n 0, 1) := by decide +kernel
theorem dX6_has_6 : decode cX6_has 6 = .ok (.getfield 15, 3) := by decide +kernel
theorem dX6_has_9 : decode cX6_has 9 = .ok (.arraylength, 1) := by decide +kernel
theorem dX6_has_10 : decode cX6_has 10 = .ok (.if_icmp .ge 16, 3) := by decide +kernel
theorem dX6_has_13 : decode cX6_has 13 = .ok (.aload_n 0, 1) := by decide +kernel
theorem dX6_has_14 : decode cX6_has 14 = .ok (.getfield 15, 3) := by decide +kernel
theorem dX6_has_17 : decode cX6_has 17 = .ok (.iload_n 1, 1) := by decide +kernel
theorem dX6_has_18 : decode cX6_has 18 = .ok (.aaload, 1) := by decide +kernel
theorem dX6_has_19 : decode cX6_has 19 = .ok (.ifnull 7, 3) := by decide +kernel
theorem dX6_has_22 : decode cX6_has 22 = .ok (.iconst 1, 1) := by decide +kernel
theorem dX6_has_23 : decode cX6_has 23 = .ok (.goto 4, 3) := by decide +kernel
theorem dX6_has_26 : decode cX6_has 26 = .ok (.iconst 0, 1) := by decide +kernel
theorem dX6_has_27 : decode cX6_has 27 = .ok (.ireturn, 1) := by decide +kernel
theorem dX6_keep_0 : decode cX6_keep 0 = .ok (.aload_n 0, 1) := by decide +kernel
theorem dX6_keep_1 : decode cX6_keep 1 = .ok (.iload_n 1, 1) := by decide +kernel
theorem dX6_keep_2 : decode cX6_keep 2 = .ok (.invokevirtual 22, 3) := by decide +kernel
theorem dX6_keep_5 : decode cX6_keep 5 = .ok (.ifCond .eq 13, 3) := by decide +kernel
theorem dX6_keep_8 : decode cX6_keep 8 = .ok (.aload_n 0, 1) := by decide +kernel
theorem dX6_keep_9 : decode cX6_keep 9 = .ok (.getfield 15, 3) := by decide +kernel
theorem dX6_keep_12 : decode cX6_keep 12 = .ok (.iload_n 1, 1) := by decide +kernel
theorem dX6_keep_13 : decode cX6_keep 13 = .ok (.aaload, 1) := by decide +kernel
theorem dX6_keep_14 : decode cX6_keep 14 = .ok (.aload_n 2, 1) := by decide +kernel
theorem dX6_keep_15 : decode cX6_keep 15 = .ok (.invokevirtual 26, 3) := by decide +kernel
theorem dX6_keep_18 : decode cX6_keep 18 = .ok (.return_, 1) := by decide +kernel
theorem dX7_init_0 : decode cX7_init 0 = .ok (.aload_n 0, 1) := by decide +kernel
theorem dX7_init_1 : decode cX7_init 1 = .ok (.invokespecial 3, 3) := by decide +kernel
theorem dX7_init_4 : decode cX7_init 4 = .ok (.aload_n 0, 1) := by decide +kernel
theorem dX7_init_5 : decode cX7_init 5 = .ok (.new 9, 3) := by decide +kernel
theorem dX7_init_8 : decode cX7_init 8 = .ok (.dup, 1) := by decide +kernel
theorem dX7_init_9 : decode cX7_init 9 = .ok (.iconst 5, 1) := by decide +kernel
theorem dX7_init_10 : decode cX7_init 10 = .ok (.invokespecial 11, 3) := by decide +kernel
theorem dX7_init_13 : decode cX7_init 13 = .ok (.putfield 14, 3) := by decide +kernel
theorem dX7_init_16 : decode cX7_init 16 = .ok (.aload_n 0, 1) := by decide +kernel
theorem dX7_init_17 : decode cX7_init 17 = .ok (.new 9, 3) := by decide +kernel
theorem dX7_init_20 : decode cX7_init 20 = .ok (.dup, 1) := by decide +kernel
theorem dX7_init_21 : decode cX7_init 21 = .ok (.iconst 5, 1) := by decide +kernel
theorem dX7_init_22 : decode cX7_init 22 = .ok (.invokespecial 11, 3) := by decide +kernel
theorem dX7_init_25 : decode cX7_init 25 = .ok (.putfield 20, 3) := by decide +kernel
theorem dX7_init_28 : decode cX7_init 28 = .ok (.aload_n 0, 1) := by decide +kernel
theorem dX7_init_29 : decode cX7_init 29 = .ok (.new 9, 3) := by decide +kernel
theorem dX7_init_32 : decode cX7_init 32 = .ok (.dup, 1) := by decide +kernel
theorem dX7_init_33 : decode cX7_init 33 = .ok (.iconst 5, 1) := by decide +kernel
theorem dX7_init_34 : decode cX7_init 34 = .ok (.invokespecial 11, 3) := by decide +kernel
theorem dX7_init_37 : decode cX7_init 37 = .ok (.putfield 23, 3) := by decide +kernel
theorem dX7_init_40 : decode cX7_init 40 = .ok (.aload_n 0, 1) := by decide +kernel
theorem dX7_init_41 : decode cX7_init 41 = .ok (.new 9, 3) := by decide +kernel
theorem dX7_init_44 : decode cX7_init 44 = .ok (.dup, 1) := by decide +kernel
theorem dX7_init_45 : decode cX7_init 45 = .ok (.iconst 5, 1) := by decide +kernel
theorem dX7_init_46 : decode cX7_init 46 = .ok (.invokespecial 11, 3) := by decide +kernel
theorem dX7_init_49 : decode cX7_init 49 = .ok (.putfield 26, 3) := by decide +kernel
theorem dX7_init_52 : decode cX7_init 52 = .ok (.return_, 1) := by decide +kernel
theorem dX7_copyFrom_0 : decode cX7_copyFrom 0 = .ok (.aload_n 0, 1) := by decide +kernel
theorem dX7_copyFrom_1 : decode cX7_copyFrom 1 = .ok (.aload_n 1, 1) := by decide +kernel
theorem dX7_copyFrom_2 : decode cX7_copyFrom 2 = .ok (.getfield 29, 3) := by decide +kernel
theorem dX7_copyFrom_5 : decode cX7_copyFrom 5 = .ok (.putfield 29, 3) := by decide +kernel
theorem dX7_copyFrom_8 : decode cX7_copyFrom 8 = .ok (.aload_n 0, 1) := by decide +kernel
theorem dX7_copyFrom_9 : decode cX7_copyFrom 9 = .ok (.getfield 14, 3) := by decide +kernel
theorem dX7_copyFrom_12 : decode cX7_copyFrom 12 = .ok (.aload_n 1, 1) := by decide +kernel
theorem dX7_copyFrom_13 : decode cX7_copyFrom 13 = .ok (.getfield 14, 3) := by decide +kernel
theorem dX7_copyFrom_16 : decode cX7_copyFrom 16 = .ok (.invokevirtual 33, 3) := by decide +kernel
theorem dX7_copyFrom_19 : decode cX7_copyFrom 19 = .ok (.aload_n 0, 1) := by decide +kernel
theorem dX7_copyFrom_20 : decode cX7_copyFrom 20 = .ok (.getfield 20, 3) := by decide +kernel
theorem dX7_copyFrom_23 : decode cX7_copyFrom 23 = .ok (.aload_n 1, 1) := by decide +kernel
theorem dX7_copyFrom_24 : decode cX7_copyFrom 24 = .ok (.getfield 20, 3) := by decide +kernel
theorem dX7_copyFrom_27 : decode cX7_copyFrom 27 = .ok (.invokevirtual 33, 3) := by decide +kernel
theorem dX7_copyFrom_30 : decode cX7_copyFrom 30 = .ok (.aload_n 0, 1) := by decide +kernel
theorem dX7_copyFrom_31 : decode cX7_copyFrom 31 = .ok (.getfield 23, 3) := by decide +kernel
theorem dX7_copyFrom_34 : decode cX7_copyFrom 34 = .ok (.aload_n 1, 1) := by decide +kernel
theorem dX7_copyFrom_35 : decode cX7_copyFrom 35 = .ok (.getfield 23, 3) := by decide +kernel
theorem dX7_copyFrom_38 : decode cX7_copyFrom 38 = .ok (.invokevirtual 33, 3) := by decide +kernel
theorem dX7_copyFrom_41 : decode cX7_copyFrom 41 = .ok (.aload_n 0, 1) := by decide +kernel
theorem dX7_copyFrom_42 : decode cX7_copyFrom 42 = .ok (.getfield 26, 3) := by decide +kernel
theorem dX7_copyFrom_45 : decode cX7_copyFrom 45 = .ok (.aload_n 1, 1) := by decide +kernel
theorem dX7_copyFrom_46 : decode cX7_copyFrom 46 = .ok (.getfield 26, 3) := by decide +kernel
theorem dX7_copyFrom_49 : decode cX7_copyFrom 49 = .ok (.invokevirtual 33, 3) := by decide +kernel
theorem dX7_copyFrom_52 : decode cX7_copyFrom 52 = .ok (.return_, 1) := by decide +kernel
theorem dX7_has_0 : decode cX7_has 0 = .ok (.iload_n 1, 1) := by decide +kernel
theorem dX7_has_1 : decode cX7_has 1 = .ok (.iconst 0, 1) := by decide +kernel
theorem dX7_has_2 : decode cX7_has 2 = .ok (.aload_n 0, 1) := by decide +kernel
theorem dX7_has_3 : decode cX7_has 3 = .ok (.getfield 29, 3) := by decide +kernel
theorem dX7_has_6 : decode cX7_has 6 = .ok (.iconst 1, 1) := by decide +kernel
theorem dX7_has_7 : decode cX7_has 7 = .ok (.isub, 1) := by decide +kernel
theorem dX7_has_8 : decode cX7_has 8 = .ok (.invokestatic 37, 3) := by decide +kernel
theorem dX7_has_11 : decode cX7_has 11 = .ok (.ireturn, 1) := by decide +kernel
theorem dX7_append_0 : decode cX7_append 0 = .ok (.aload_n 0, 1) := by decide +kernel
theorem dX7_append_1 : decode cX7_append 1 = .ok (.getfield 29, 3) := by decide +kernel
theorem dX7_append_4 : decode cX7_append 4 = .ok (.iconst 5, 1) := by decide +kernel
theorem dX7_append_5 : decode cX7_append 5 = .ok (.if_icmp .lt 4, 3) := by decide +kernel
theorem dX7_append_8 : decode cX7_append 8 = .ok (.return_, 1) := by decide +kernel
theorem dX7_append_9 : decode cX7_append 9 = .ok (.aload_n 0, 1) := by decide +kernel
theorem dX7_append_10 : decode cX7_append 10 = .ok (.getfield 14, 3) := by decide +kernel
theorem dX7_append_13 : decode cX7_append 13 = .ok (.aload_n 0, 1) := by decide +kernel
theorem dX7_append_14 : decode cX7_append 14 = .ok (.getfield 29, 3) := by decide +kernel
theorem dX7_append_17 : decode cX7_append 17 = .ok (.iload_n 1, 1) := by decide +kernel
theorem dX7_append_18 : decode cX7_append 18 = .ok (.invokevirtual 41, 3) := by decide +kernel
theorem dX7_append_21 : decode cX7_append 21 = .ok (.aload_n 0, 1) := by decide +kernel
theorem dX7_append_22 : decode cX7_append 22 = .ok (.getfield 20, 3) := by decide +kernel
theorem dX7_append_25 : decode cX7_append 25 = .ok (.aload_n 0, 1) := by decide +kernel
theorem dX7_append_26 : decode cX7_append 26 = .ok (.getfield 29, 3) := by decide +kernel
theorem dX7_append_29 : decode cX7_append 29 = .ok (.iload_n 2, 1) := by decide +kernel
theorem dX7_append_30 : decode cX7_append 30 = .ok (.invokevirtual 41, 3) := by decide +kernel
theorem dX7_append_33 : decode cX7_append 33 = .ok (.aload_n 0, 1) := by decide +kernel
theorem dX7_append_34 : decode cX7_append 34 = .ok (.getfield 23, 3) := by decide +kernel
theorem dX7_append_37 : decode cX7_append 37 = .ok (.aload_n 0, 1) := by decide +kernel
theorem dX7_append_38 : decode cX7_append 38 = .ok (.getfield 29, 3) := by decide +kernel
theorem dX7_append_41 : decode cX7_append 41 = .ok (.iconst 0, 1) := by decide +kernel
theorem dX7_append_42 : decode cX7_append 42 = .ok (.invokevirtual 41, 3) := by decide +kernel
theorem dX7_append_45 : decode cX7_append 45 = .ok (.aload_n 0, 1) := by decide +kernel
theorem dX7_append_46 : decode cX7_append 46 = .ok (.getfield 26, 3) := by decide +kernel
theorem dX7_append_49 : decode cX7_append 49 = .ok (.aload_n 0, 1) := by decide +kernel
theorem dX7_append_50 : decode cX7_append 50 = .ok (.getfield 29, 3) := by decide +kernel
theorem dX7_append_53 : decode cX7_append 53 = .ok (.iconst 0, 1) := by decide +kernel
theorem dX7_append_54 : decode cX7_append 54 = .ok (.invokevirtual 41, 3) := by decide +kernel
theorem dX7_append_57 : decode cX7_append 57 = .ok (.aload_n 0, 1) := by decide +kernel
theorem dX7_append_58 : decode cX7_append 58 = .ok (.dup, 1) := by decide +kernel
theorem dX7_append_59 : decode cX7_append 59 = .ok (.getfield 29, 3) := by decide +kernel
theorem dX7_append_62 : decode cX7_append 62 = .ok (.iconst 1, 1) := by decide +kernel
theorem dX7_append_63 : decode cX7_append 63 = .ok (.iadd, 1) := by decide +kernel
theorem dX7_append_64 : decode cX7_append 64 = .ok (.putfield 29, 3) := by decide +kernel
theorem dX7_append_67 : decode cX7_append 67 = .ok (.return_, 1) := by decide +kernel
theorem dX7_whoAreAwake_0 : decode cX7_whoAreAwake 0 = .ok (.iconst 0, 1) := by decide +kernel
theorem dX7_whoAreAwake_1 : decode cX7_whoAreAwake 1 = .ok (.istore_n 1, 1) := by decide +kernel
theorem dX7_whoAreAwake_2 : decode cX7_whoAreAwake 2 = .ok (.iconst 0, 1) := by decide +kernel
theorem dX7_whoAreAwake_3 : decode cX7_whoAreAwake 3 = .ok (.istore_n 2, 1) := by decide +kernel
theorem dX7_whoAreAwake_4 : decode cX7_whoAreAwake 4 = .ok (.iload_n 2, 1) := by decide +kernel
theorem dX7_whoAreAwake_5 : decode cX7_whoAreAwake 5 = .ok (.aload_n 0, 1) := by decide +kernel
theorem dX7_whoAreAwake_6 : decode cX7_whoAreAwake 6 = .ok (.getfield 29, 3) := by decide +kernel
theorem dX7_whoAreAwake_9 : decode cX7_whoAreAwake 9 = .ok (.if_icmp .ge 26, 3) := by decide +kernel
theorem dX7_whoAreAwake_12 : decode cX7_whoAreAwake 12 = .ok (.aload_n 0, 1) := by decide +kernel
theorem dX7_whoAreAwake_13 : decode cX7_whoAreAwake 13 = .ok (.getfield 23, 3) := by decide +kernel
theorem dX7_whoAreAwake_16 : decode cX7_whoAreAwake 16 = .ok (.iload_n 2, 1) := by decide +kernel
theorem dX7_whoAreAwake_17 : decode cX7_whoAreAwake 17 = .ok (.invokevirtual 45, 3) := by decide +kernel
theorem dX7_whoAreAwake_20 : decode cX7_whoAreAwake 20 = .ok (.ifCond .le 9, 3) := by decide +kernel
theorem dX7_whoAreAwake_23 : decode cX7_whoAreAwake 23 = .ok (.iload_n 1, 1) := by decide +kernel
theorem dX7_whoAreAwake_24 : decode cX7_whoAreAwake 24 = .ok (.iconst 1, 1) := by decide +kernel
theorem dX7_whoAreAwake_25 : decode cX7_whoAreAwake 25 = .ok (.iload_n 2, 1) := by decide +kernel
theorem dX7_whoAreAwake_26 : decode cX7_whoAreAwake 26 = .ok (.ishl, 1) := by decide +kernel
theorem dX7_whoAreAwake_27 : decode cX7_whoAreAwake 27 = .ok (.ior, 1) := by decide +kernel
theorem dX7_whoAreAwake_28 : decode cX7_whoAreAwake 28 = .ok (.istore_n 1, 1) := by decide +kernel
theorem dX7_whoAreAwake_29 : decode cX7_whoAreAwake 29 = .ok (.iinc 2 1, 3) := by decide +kernel
theorem dX7_whoAreAwake_32 : decode cX7_whoAreAwake 32 = .ok (.goto (-28), 3) := by decide +kernel
theorem dX7_whoAreAwake_35 : decode cX7_whoAreAwake 35 = .ok (.iload_n 1, 1) := by decide +kernel
theorem dX7_whoAreAwake_36 : decode cX7_whoAreAwake 36 = .ok (.ireturn, 1) := by decide +kernel
theorem dX7_watchedRooms_0 : decode cX7_watchedRooms 0 = .ok (.iconst 0, 1) := by decide +kernel
theorem dX7_watchedRooms_1 : decode cX7_watchedRooms 1 = .ok (.istore_n 1, 1) := by decide +kernel
theorem dX7_watchedRooms_2 : decode cX7_watchedRooms 2 = .ok (.iconst 0, 1) := by decide +kernel
theorem dX7_watchedRooms_3 : decode cX7_watchedRooms 3 = .ok (.istore_n 2, 1) := by decide +kernel
theorem dX7_watchedRooms_4 : decode cX7_watchedRooms 4 = .ok (.iload_n 2, 1) := by decide +kernel
theorem dX7_watchedRooms_5 : decode cX7_watchedRooms 5 = .ok (.aload_n 0, 1) := by decide +kernel
theorem dX7_watchedRooms_6 : decode cX7_watchedRooms 6 = .ok (.getfield 29, 3) := by decide +kernel
theorem dX7_watchedRooms_9 : decode cX7_watchedRooms 9 = .ok (.if_icmp .ge 33, 3) := by decide +kernel
theorem dX7_watchedRooms_12 : decode cX7_watchedRooms 12 = .ok (.aload_n 0, 1) := by decide +kernel
theorem dX7_watchedRooms_13 : decode cX7_watchedRooms 13 = .ok (.getfield 23, 3) := by decide +kernel
theorem dX7_watchedRooms_16 : decode cX7_watchedRooms 16 = .ok (.iload_n 2, 1) := by decide +kernel
theorem dX7_watchedRooms_17 : decode cX7_watchedRooms 17 = .ok (.invokevirtual 45, 3) := by decide +kernel
theorem dX7_watchedRooms_20 : decode cX7_watchedRooms 20 = .ok (.ifCond .le 16, 3) := by decide +kernel
theorem dX7_watchedRooms_23 : decode cX7_watchedRooms 23 = .ok (.iload_n 1, 1) := by decide +kernel
theorem dX7_watchedRooms_24 : decode cX7_watchedRooms 24 = .ok (.iconst 1, 1) := by decide +kernel
theorem dX7_watchedRooms_25 : decode cX7_watchedRooms 25 = .ok (.aload_n 0, 1) := by decide +kernel
theorem dX7_watchedRooms_26 : decode cX7_watchedRooms 26 = .ok (.getfield 14, 3) := by decide +kernel
theorem dX7_watchedRooms_29 : decode cX7_watchedRooms 29 = .ok (.iload_n 2, 1) := by decide +kernel
theorem dX7_watchedRooms_30 : decode cX7_watchedRooms 30 = .ok (.invokevirtual 45, 3) := by decide +kernel
theorem dX7_watchedRooms_33 : decode cX7_watchedRooms 33 = .ok (.ishl, 1) := by decide +kernel
theorem dX7_watchedRooms_34 : decode cX7_watchedRooms 34 = .ok (.ior, 1) := by decide +kernel
theorem dX7_watchedRooms_35 : decode cX7_watchedRooms 35 = .ok (.istore_n 1, 1) := by decide +kernel
theorem dX7_watchedRooms_36 : decode cX7_watchedRooms 36 = .ok (.iinc 2 1, 3) := by decide +kernel
theorem dX7_watchedRooms_39 : decode cX7_watchedRooms 39 = .ok (.goto (-35), 3) := by decide +kernel
theorem dX7_watchedRooms_42 : decode cX7_watchedRooms 42 = .ok (.iload_n 1, 1) := by decide +kernel
theorem dX7_watchedRooms_43 : decode cX7_watchedRooms 43 = .ok (.ireturn, 1) := by decide +kernel
theorem dX7_wake_0 : decode cX7_wake 0 = .ok (.aload_n 0, 1) := by decide +kernel
theorem dX7_wake_1 : decode cX7_wake 1 = .ok (.getfield 23, 3) := by decide +kernel
theorem dX7_wake_4 : decode cX7_wake 4 = .ok (.iload_n 1, 1) := by decide +kernel
theorem dX7_wake_5 : decode cX7_wake 5 = .ok (.invokevirtual 45, 3) := by decide +kernel
theorem dX7_wake_8 : decode cX7_wake 8 = .ok (.ifCond .ne 11, 3) := by decide +kernel
theorem dX7_wake_11 : decode cX7_wake 11 = .ok (.aload_n 0, 1) := by decide +kernel
theorem dX7_wake_12 : decode cX7_wake 12 = .ok (.getfield 26, 3) := by decide +kernel
theorem dX7_wake_15 : decode cX7_wake 15 = .ok (.iload_n 1, 1) := by decide +kernel
theorem dX7_wake_16 : decode cX7_wake 16 = .ok (.invokevirtual 49, 3) := by decide +kernel
theorem dX7_wake_19 : decode cX7_wake 19 = .ok (.aload_n 0, 1) := by decide +kernel
theorem dX7_wake_20 : decode cX7_wake 20 = .ok (.getfield 23, 3) := by decide +kernel
theorem dX7_wake_23 : decode cX7_wake 23 = .ok (.iload_n 1, 1) := by decide +kernel
theorem dX7_wake_24 : decode cX7_wake 24 = .ok (.iload_n 2, 1) := by decide +kernel
theorem dX7_wake_25 : decode cX7_wake 25 = .ok (.invokevirtual 41, 3) := by decide +kernel
theorem dX7_wake_28 : decode cX7_wake 28 = .ok (.return_, 1) := by decide +kernel
theorem dX7_tire_0 : decode cX7_tire 0 = .ok (.iconst 0, 1) := by decide +kernel
theorem dX7_tire_1 : decode cX7_tire 1 = .ok (.istore_n 2, 1) := by decide +kernel
theorem dX7_tire_2 : decode cX7_tire 2 = .ok (.iload_n 2, 1) := by decide +kernel
theorem dX7_tire_3 : decode cX7_tire 3 = .ok (.aload_n 0, 1) := by decide +kernel
theorem dX7_tire_4 : decode cX7_tire 4 = .ok (.getfield 29, 3) := by decide +kernel
theorem dX7_tire_7 : decode cX7_tire 7 = .ok (.if_icmp .ge 31, 3) := by decide +kernel
theorem dX7_tire_10 : decode cX7_tire 10 = .ok (.aload_n 0, 1) := by decide +kernel
theorem dX7_tire_11 : decode cX7_tire 11 = .ok (.getfield 23, 3) := by decide +kernel
theorem dX7_tire_14 : decode cX7_tire 14 = .ok (.iload_n 2, 1) := by decide +kernel
theorem dX7_tire_15 : decode cX7_tire 15 = .ok (.aload_n 0, 1) := by decide +kernel
theorem dX7_tire_16 : decode cX7_tire 16 = .ok (.getfield 23, 3) := by decide +kernel
theorem dX7_tire_19 : decode cX7_tire 19 = .ok (.iload_n 2, 1) := by decide +kernel
theorem dX7_tire_20 : decode cX7_tire 20 = .ok (.invokevirtual 45, 3) := by decide +kernel
theorem dX7_tire_23 : decode cX7_tire 23 = .ok (.iload_n 1, 1) := by decide +kernel
theorem dX7_tire_24 : decode cX7_tire 24 = .ok (.isub, 1) := by decide +kernel
theorem dX7_tire_25 : decode cX7_tire 25 = .ok (.iconst 0, 1) := by decide +kernel
theorem dX7_tire_26 : decode cX7_tire 26 = .ok (.invokestatic 52, 3) := by decide +kernel
theorem dX7_tire_29 : decode cX7_tire 29 = .ok (.invokevirtual 41, 3) := by decide +kernel
theorem dX7_tire_32 : decode cX7_tire 32 = .ok (.iinc 2 1, 3) := by decide +kernel
theorem dX7_tire_35 : decode cX7_tire 35 = .ok (.goto (-33), 3) := by decide +kernel
theorem dX7_tire_38 : decode cX7_tire 38 = .ok (.return_, 1) := by decide +kernel
theorem dX8_whyNot_0 : decode cX8_whyNot 0 = .ok (.iconst 0, 1) := by decide +kernel
theorem dX8_whyNot_1 : decode cX8_whyNot 1 = .ok (.istore_n 3, 1) := by decide +kernel
theorem dX8_whyNot_2 : decode cX8_whyNot 2 = .ok (.iconst 0, 1) := by decide +kernel
theorem dX8_whyNot_3 : decode cX8_whyNot 3 = .ok (.istore 4, 2) := by decide +kernel
theorem dX8_whyNot_5 : decode cX8_whyNot 5 = .ok (.iconst 0, 1) := by decide +kernel
theorem dX8_whyNot_6 : decode cX8_whyNot 6 = .ok (.istore 5, 2) := by decide +kernel
theorem dX8_whyNot_8 : decode cX8_whyNot 8 = .ok (.iload 5, 2) := by decide +kernel
theorem dX8_whyNot_10 : decode cX8_whyNot 10 = .ok (.aload_n 0, 1) := by decide +kernel
theorem dX8_whyNot_11 : decode cX8_whyNot 11 = .ok (.getfield 9, 3) := by decide +kernel
theorem dX8_whyNot_14 : decode cX8_whyNot 14 = .ok (.if_icmp .ge 44, 3) := by decide +kernel
theorem dX8_whyNot_17 : decode cX8_whyNot 17 = .ok (.iload_n 1, 1) := by decide +kernel
theorem dX8_whyNot_18 : decode cX8_whyNot 18 = .ok (.iload 5, 2) := by decide +kernel
theorem dX8_whyNot_20 : decode cX8_whyNot 20 = .ok (.invokestatic 15, 3) := by decide +kernel
theorem dX8_whyNot_23 : decode cX8_whyNot 23 = .ok (.ifCond .eq 29, 3) := by decide +kernel
theorem dX8_whyNot_26 : decode cX8_whyNot 26 = .ok (.iload_n 3, 1) := by decide +kernel
theorem dX8_whyNot_27 : decode cX8_whyNot 27 = .ok (.aload_n 0, 1) := by decide +kernel
theorem dX8_whyNot_28 : decode cX8_whyNot 28 = .ok (.getfield 19, 3) := by decide +kernel
theorem dX8_whyNot_31 : decode cX8_whyNot 31 = .ok (.iload 5, 2) := by decide +kernel
theorem dX8_whyNot_33 : decode cX8_whyNot 33 = .ok (.invokevirtual 23, 3) := by decide +kernel
theorem dX8_whyNot_36 : decode cX8_whyNot 36 = .ok (.ixor, 1) := by decide +kernel
theorem dX8_whyNot_37 : decode cX8_whyNot 37 = .ok (.istore_n 3, 1) := by decide +kernel
theorem dX8_whyNot_38 : decode cX8_whyNot 38 = .ok (.iload 4, 2) := by decide +kernel
theorem dX8_whyNot_40 : decode cX8_whyNot 40 = .ok (.aload_n 0, 1) := by decide +kernel
theorem dX8_whyNot_41 : decode cX8_whyNot 41 = .ok (.getfield 19, 3) := by decide +kernel
theorem dX8_whyNot_44 : decode cX8_whyNot 44 = .ok (.iload 5, 2) := by decide +kernel
theorem dX8_whyNot_46 : decode cX8_whyNot 46 = .ok (.invokevirtual 23, 3) := by decide +kernel
theorem dX8_whyNot_49 : decode cX8_whyNot 49 = .ok (.ior, 1) := by decide +kernel
theorem dX8_whyNot_50 : decode cX8_whyNot 50 = .ok (.istore 4, 2) := by decide +kernel
theorem dX8_whyNot_52 : decode cX8_whyNot 52 = .ok (.iinc 5 1, 3) := by decide +kernel
theorem dX8_whyNot_55 : decode cX8_whyNot 55 = .ok (.goto (-47), 3) := by decide +kernel
theorem dX8_whyNot_58 : decode cX8_whyNot 58 = .ok (.iload_n 1, 1) := by decide +kernel
theorem dX8_whyNot_59 : decode cX8_whyNot 59 = .ok (.ifCond .ne 5, 3) := by decide +kernel
theorem dX8_whyNot_62 : decode cX8_whyNot 62 = .ok (.iconst 1, 1) := by decide +kernel
theorem dX8_whyNot_63 : decode cX8_whyNot 63 = .ok (.ireturn, 1) := by decide +kernel
theorem dX8_whyNot_64 : decode cX8_whyNot 64 = .ok (.iload 4, 2) := by decide +kernel
theorem dX8_whyNot_66 : decode cX8_whyNot 66 = .ok (.iload_n 2, 1) := by decide +kernel
theorem dX8_whyNot_67 : decode cX8_whyNot 67 = .ok (.invokestatic 15, 3) := by decide +kernel
theorem dX8_whyNot_70 : decode cX8_whyNot 70 = .ok (.ifCond .ne 5, 3) := by decide +kernel
theorem dX8_whyNot_73 : decode cX8_whyNot 73 = .ok (.iconst 2, 1) := by decide +kernel
theorem dX8_whyNot_74 : decode cX8_whyNot 74 = .ok (.ireturn, 1) := by decide +kernel
theorem dX8_whyNot_75 : decode cX8_whyNot 75 = .ok (.iload 4, 2) := by decide +kernel
theorem dX8_whyNot_77 : decode cX8_whyNot 77 = .ok (.aload_n 0, 1) := by decide +kernel
theorem dX8_whyNot_78 : decode cX8_whyNot 78 = .ok (.iload_n 2, 1) := by decide +kernel
theorem dX8_whyNot_79 : decode cX8_whyNot 79 = .ok (.iload_n 1, 1) := by decide +kernel
theorem dX8_whyNot_80 : decode cX8_whyNot 80 = .ok (.invokevirtual 31, 3) := by decide +kernel
theorem dX8_whyNot_83 : decode cX8_whyNot 83 = .ok (.iconst (-1), 1) := by decide +kernel
theorem dX8_whyNot_84 : decode cX8_whyNot 84 = .ok (.ixor, 1) := by decide +kernel
theorem dX8_whyNot_85 : decode cX8_whyNot 85 = .ok (.iand, 1) := by decide +kernel
theorem dX8_whyNot_86 : decode cX8_whyNot 86 = .ok (.ifCond .eq 5, 3) := by decide +kernel
theorem dX8_whyNot_89 : decode cX8_whyNot 89 = .ok (.iconst 3, 1) := by decide +kernel
theorem dX8_whyNot_90 : decode cX8_whyNot 90 = .ok (.ireturn, 1) := by decide +kernel
theorem dX8_whyNot_91 : decode cX8_whyNot 91 = .ok (.iload_n 3, 1) := by decide +kernel
theorem dX8_whyNot_92 : decode cX8_whyNot 92 = .ok (.invokestatic 35, 3) := by decide +kernel
theorem dX8_whyNot_95 : decode cX8_whyNot 95 = .ok (.iconst 2, 1) := by decide +kernel
theorem dX8_whyNot_96 : decode cX8_whyNot 96 = .ok (.if_icmp .le 5, 3) := by decide +kernel
theorem dX8_whyNot_99 : decode cX8_whyNot 99 = .ok (.iconst 4, 1) := by decide +kernel
theorem dX8_whyNot_100 : decode cX8_whyNot 100 = .ok (.ireturn, 1) := by decide +kernel
theorem dX8_whyNot_101 : decode cX8_whyNot 101 = .ok (.iload_n 3, 1) := by decide +kernel
theorem dX8_whyNot_102 : decode cX8_whyNot 102 = .ok (.ifCond .eq 11, 3) := by decide +kernel
theorem dX8_whyNot_105 : decode cX8_whyNot 105 = .ok (.iload_n 3, 1) := by decide +kernel
theorem dX8_whyNot_106 : decode cX8_whyNot 106 = .ok (.iload_n 2, 1) := by decide +kernel
theorem dX8_whyNot_107 : decode cX8_whyNot 107 = .ok (.invokestatic 15, 3) := by decide +kernel
theorem dX8_whyNot_110 : decode cX8_whyNot 110 = .ok (.ifCond .eq 7, 3) := by decide +kernel
theorem dX8_whyNot_113 : decode cX8_whyNot 113 = .ok (.iconst 0, 1) := by decide +kernel
theorem dX8_whyNot_114 : decode cX8_whyNot 114 = .ok (.goto 4, 3) := by decide +kernel
theorem dX8_whyNot_117 : decode cX8_whyNot 117 = .ok (.iconst 5, 1) := by decide +kernel
theorem dX8_whyNot_118 : decode cX8_whyNot 118 = .ok (.ireturn, 1) := by decide +kernel
theorem dX8_boardAt_0 : decode cX8_boardAt 0 = .ok (.iload_n 1, 1) := by decide +kernel
theorem dX8_boardAt_1 : decode cX8_boardAt 1 = .ok (.istore 4, 2) := by decide +kernel
theorem dX8_boardAt_3 : decode cX8_boardAt 3 = .ok (.iload_n 2, 1) := by decide +kernel
theorem dX8_boardAt_4 : decode cX8_boardAt 4 = .ok (.istore 5, 2) := by decide +kernel
theorem dX8_boardAt_6 : decode cX8_boardAt 6 = .ok (.iconst 0, 1) := by decide +kernel
theorem dX8_boardAt_7 : decode cX8_boardAt 7 = .ok (.istore 6, 2) := by decide +kernel
theorem dX8_boardAt_9 : decode cX8_boardAt 9 = .ok (.iload 6, 2) := by decide +kernel
theorem dX8_boardAt_11 : decode cX8_boardAt 11 = .ok (.bipush 20, 2) := by decide +kernel
theorem dX8_boardAt_13 : decode cX8_boardAt 13 = .ok (.if_icmp .ge 61, 3) := by decide +kernel
theorem dX8_boardAt_16 : decode cX8_boardAt 16 = .ok (.iload 4, 2) := by decide +kernel
theorem dX8_boardAt_18 : decode cX8_boardAt 18 = .ok (.ifCond .eq 56, 3) := by decide +kernel
theorem dX8_boardAt_21 : decode cX8_boardAt 21 = .ok (.aload_n 0, 1) := by decide +kernel
theorem dX8_boardAt_22 : decode cX8_boardAt 22 = .ok (.iload 4, 2) := by decide +kernel
theorem dX8_boardAt_24 : decode cX8_boardAt 24 = .ok (.iload 5, 2) := by decide +kernel
theorem dX8_boardAt_26 : decode cX8_boardAt 26 = .ok (.invokestatic 40, 3) := by decide +kernel
theorem dX8_boardAt_29 : decode cX8_boardAt 29 = .ok (.istore 7, 2) := by decide +kernel
theorem dX8_boardAt_31 : decode cX8_boardAt 31 = .ok (.iload 6, 2) := by decide +kernel
theorem dX8_boardAt_33 : decode cX8_boardAt 33 = .ok (.iload_n 3, 1) := by decide +kernel
theorem dX8_boardAt_34 : decode cX8_boardAt 34 = .ok (.if_icmp .eq 10, 3) := by decide +kernel
theorem dX8_boardAt_37 : decode cX8_boardAt 37 = .ok (.iload 7, 2) := by decide +kernel
theorem dX8_boardAt_39 : decode cX8_boardAt 39 = .ok (.bipush (-6), 2) := by decide +kernel
theorem dX8_boardAt_41 : decode cX8_boardAt 41 = .ok (.if_icmp .ne 6, 3) := by decide +kernel
theorem dX8_boardAt_44 : decode cX8_boardAt 44 = .ok (.iload 7, 2) := by decide +kernel
theorem dX8_boardAt_46 : decode cX8_boardAt 46 = .ok (.ireturn, 1) := by decide +kernel
theorem dX8_boardAt_47 : decode cX8_boardAt 47 = .ok (.iload 4, 2) := by decide +kernel
theorem dX8_boardAt_49 : decode cX8_boardAt 49 = .ok (.iconst 1, 1) := by decide +kernel
theorem dX8_boardAt_50 : decode cX8_boardAt 50 = .ok (.iload 7, 2) := by decide +kernel
theorem dX8_boardAt_52 : decode cX8_boardAt 52 = .ok (.ishl, 1) := by decide +kernel
theorem dX8_boardAt_53 : decode cX8_boardAt 53 = .ok (.iconst (-1), 1) := by decide +kernel
theorem dX8_boardAt_54 : decode cX8_boardAt 54 = .ok (.ixor, 1) := by decide +kernel
theorem dX8_boardAt_55 : decode cX8_boardAt 55 = .ok (.iand, 1) := by decide +kernel
theorem dX8_boardAt_56 : decode cX8_boardAt 56 = .ok (.istore 4, 2) := by decide +kernel
theorem dX8_boardAt_58 : decode cX8_boardAt 58 = .ok (.aload_n 0, 1) := by decide +kernel
theorem dX8_boardAt_59 : decode cX8_boardAt 59 = .ok (.iload 7, 2) := by decide +kernel
theorem dX8_boardAt_61 : decode cX8_boardAt 61 = .ok (.iload 5, 2) := by decide +kernel
theorem dX8_boardAt_63 : decode cX8_boardAt 63 = .ok (.invokevirtual 44, 3) := by decide +kernel
theorem dX8_boardAt_66 : decode cX8_boardAt 66 = .ok (.istore 5, 2) := by decide +kernel
theorem dX8_boardAt_68 : decode cX8_boardAt 68 = .ok (.iinc 6 1, 3) := by decide +kernel
theorem dX8_boardAt_71 : decode cX8_boardAt 71 = .ok (.goto (-62), 3) := by decide +kernel
theorem dX8_boardAt_74 : decode cX8_boardAt 74 = .ok (.bipush (-6), 2) := by decide +kernel
theorem dX8_boardAt_76 : decode cX8_boardAt 76 = .ok (.ireturn, 1) := by decide +kernel
theorem dX8_firstBoard_0 : decode cX8_firstBoard 0 = .ok (.iload_n 1, 1) := by decide +kernel
theorem dX8_firstBoard_1 : decode cX8_firstBoard 1 = .ok (.aload_n 0, 1) := by decide +kernel
theorem dX8_firstBoard_2 : decode cX8_firstBoard 2 = .ok (.iconst 1, 1) := by decide +kernel
theorem dX8_firstBoard_3 : decode cX8_firstBoard 3 = .ok (.iload_n 2, 1) := by decide +kernel
theorem dX8_firstBoard_4 : decode cX8_firstBoard 4 = .ok (.ishl, 1) := by decide +kernel
theorem dX8_firstBoard_5 : decode cX8_firstBoard 5 = .ok (.invokevirtual 47, 3) := by decide +kernel
theorem dX8_firstBoard_8 : decode cX8_firstBoard 8 = .ok (.iand, 1) := by decide +kernel
theorem dX8_firstBoard_9 : decode cX8_firstBoard 9 = .ok (.istore_n 3, 1) := by decide +kernel
theorem dX8_firstBoard_10 : decode cX8_firstBoard 10 = .ok (.iconst 0, 1) := by decide +kernel
theorem dX8_firstBoard_11 : decode cX8_firstBoard 11 = .ok (.istore 4, 2) := by decide +kernel
theorem dX8_firstBoard_13 : decode cX8_firstBoard 13 = .ok (.iload 4, 2) := by decide +kernel
theorem dX8_firstBoard_15 : decode cX8_firstBoard 15 = .ok (.aload_n 0, 1) := by decide +kernel
theorem dX8_firstBoard_16 : decode cX8_firstBoard 16 = .ok (.getfield 9, 3) := by decide +kernel
theorem dX8_firstBoard_19 : decode cX8_firstBoard 19 = .ok (.if_icmp .ge 52, 3) := by decide +kernel
theorem dX8_firstBoard_22 : decode cX8_firstBoard 22 = .ok (.iload_n 3, 1) := by decide +kernel
theorem dX8_firstBoard_23 : decode cX8_firstBoard 23 = .ok (.iload 4, 2) := by decide +kernel
theorem dX8_firstBoard_25 : decode cX8_firstBoard 25 = .ok (.invokestatic 15, 3) := by decide +kernel
theorem dX8_firstBoard_28 : decode cX8_firstBoard 28 = .ok (.ifCond .eq 37, 3) := by decide +kernel
theorem dX8_firstBoard_31 : decode cX8_firstBoard 31 = .ok (.iload_n 1, 1) := by decide +kernel
theorem dX8_firstBoard_32 : decode cX8_firstBoard 32 = .ok (.iconst 1, 1) := by decide +kernel
theorem dX8_firstBoard_33 : decode cX8_firstBoard 33 = .ok (.iload 4, 2) := by decide +kernel
theorem dX8_firstBoard_35 : decode cX8_firstBoard 35 = .ok (.ishl, 1) := by decide +kernel
theorem dX8_firstBoard_36 : decode cX8_firstBoard 36 = .ok (.iconst (-1), 1) := by decide +kernel
theorem dX8_firstBoard_37 : decode cX8_firstBoard 37 = .ok (.ixor, 1) := by decide +kernel
theorem dX8_firstBoard_38 : decode cX8_firstBoard 38 = .ok (.iand, 1) := by decide +kernel
theorem dX8_firstBoard_39 : decode cX8_firstBoard 39 = .ok (.istore 5, 2) := by decide +kernel
theorem dX8_firstBoard_41 : decode cX8_firstBoard 41 = .ok (.iload 5, 2) := by decide +kernel
theorem dX8_firstBoard_43 : decode cX8_firstBoard 43 = .ok (.ifCond .eq 19, 3) := by decide +kernel
theorem dX8_firstBoard_46 : decode cX8_firstBoard 46 = .ok (.aload_n 0, 1) := by decide +kernel
theorem dX8_firstBoard_47 : decode cX8_firstBoard 47 = .ok (.iload 5, 2) := by decide +kernel
theorem dX8_firstBoard_49 : decode cX8_firstBoard 49 = .ok (.aload_n 0, 1) := by decide +kernel
theorem dX8_firstBoard_50 : decode cX8_firstBoard 50 = .ok (.iload 4, 2) := by decide +kernel
theorem dX8_firstBoard_52 : decode cX8_firstBoard 52 = .ok (.iload_n 2, 1) := by decide +kernel
theorem dX8_firstBoard_53 : decode cX8_firstBoard 53 = .ok (.invokevirtual 44, 3) := by decide +kernel
theorem dX8_firstBoard_56 : decode cX8_firstBoard 56 = .ok (.invokestatic 50, 3) := by decide +kernel
theorem dX8_firstBoard_59 : decode cX8_firstBoard 59 = .ok (.ifCond .ne 6, 3) := by decide +kernel
theorem dX8_firstBoard_62 : decode cX8_firstBoard 62 = .ok (.iload 4, 2) := by decide +kernel
theorem dX8_firstBoard_64 : decode cX8_firstBoard 64 = .ok (.ireturn, 1) := by decide +kernel
theorem dX8_firstBoard_65 : decode cX8_firstBoard 65 = .ok (.iinc 4 1, 3) := by decide +kernel
theorem dX8_firstBoard_68 : decode cX8_firstBoard 68 = .ok (.goto (-55), 3) := by decide +kernel
theorem dX8_firstBoard_71 : decode cX8_firstBoard 71 = .ok (.bipush (-6), 2) := by decide +kernel
theorem dX8_firstBoard_73 : decode cX8_firstBoard 73 = .ok (.ireturn, 1) := by decide +kernel
theorem dX9_init_0 : decode cX9_init 0 = .ok (.aload_n 0, 1) := by decide +kernel
theorem dX9_init_1 : decode cX9_init 1 = .ok (.invokespecial 3, 3) := by decide +kernel
theorem dX9_init_4 : decode cX9_init 4 = .ok (.aload_n 0, 1) := by decide +kernel
theorem dX9_init_5 : decode cX9_init 5 = .ok (.new 9, 3) := by decide +kernel
theorem dX9_init_8 : decode cX9_init 8 = .ok (.dup, 1) := by decide +kernel
theorem dX9_init_9 : decode cX9_init 9 = .ok (.bipush 10, 2) := by decide +kernel
theorem dX9_init_11 : decode cX9_init 11 = .ok (.invokespecial 11, 3) := by decide +kernel
theorem dX9_init_14 : decode cX9_init 14 = .ok (.putfield 14, 3) := by decide +kernel
theorem dX9_init_17 : decode cX9_init 17 = .ok (.aload_n 0, 1) := by decide +kernel
theorem dX9_init_18 : decode cX9_init 18 = .ok (.new 9, 3) := by decide +kernel
theorem dX9_init_21 : decode cX9_init 21 = .ok (.dup, 1) := by decide +kernel
theorem dX9_init_22 : decode cX9_init 22 = .ok (.bipush 10, 2) := by decide +kernel
theorem dX9_init_24 : decode cX9_init 24 = .ok (.invokespecial 11, 3) := by decide +kernel
theorem dX9_init_27 : decode cX9_init 27 = .ok (.putfield 20, 3) := by decide +kernel
theorem dX9_init_30 : decode cX9_init 30 = .ok (.return_, 1) := by decide +kernel
theorem dX9_find_0 : decode cX9_find 0 = .ok (.aload_n 0, 1) := by decide +kernel
theorem dX9_find_1 : decode cX9_find 1 = .ok (.aload_n 1, 1) := by decide +kernel
theorem dX9_find_2 : decode cX9_find 2 = .ok (.iload_n 2, 1) := by decide +kernel
theorem dX9_find_3 : decode cX9_find 3 = .ok (.iload 4, 2) := by decide +kernel
theorem dX9_find_5 : decode cX9_find 5 = .ok (.invokevirtual 23, 3) := by decide +kernel
theorem dX9_find_8 : decode cX9_find 8 = .ok (.aload_n 0, 1) := by decide +kernel
theorem dX9_find_9 : decode cX9_find 9 = .ok (.aload_n 0, 1) := by decide +kernel
theorem dX9_find_10 : decode cX9_find 10 = .ok (.getfield 14, 3) := by decide +kernel
theorem dX9_find_13 : decode cX9_find 13 = .ok (.iload_n 3, 1) := by decide +kernel
theorem dX9_find_14 : decode cX9_find 14 = .ok (.invokevirtual 27, 3) := by decide +kernel
theorem dX9_find_17 : decode cX9_find 17 = .ok (.ldc 31, 2) := by decide +kernel
theorem dX9_find_19 : decode cX9_find 19 = .ok (.if_icmp .ge 7, 3) := by decide +kernel
theorem dX9_find_22 : decode cX9_find 22 = .ok (.iconst 1, 1) := by decide +kernel
theorem dX9_find_23 : decode cX9_find 23 = .ok (.goto 4, 3) := by decide +kernel
theorem dX9_find_26 : decode cX9_find 26 = .ok (.iconst 0, 1) := by decide +kernel
theorem dX9_find_27 : decode cX9_find 27 = .ok (.putfield 32, 3) := by decide +kernel
theorem dX9_find_30 : decode cX9_find 30 = .ok (.aload_n 0, 1) := by decide +kernel
theorem dX9_find_31 : decode cX9_find 31 = .ok (.iconst 0, 1) := by decide +kernel
theorem dX9_find_32 : decode cX9_find 32 = .ok (.putfield 36, 3) := by decide +kernel
theorem dX9_find_35 : decode cX9_find 35 = .ok (.aload_n 0, 1) := by decide +kernel
theorem dX9_find_36 : decode cX9_find 36 = .ok (.iconst 0, 1) := by decide +kernel
theorem dX9_find_37 : decode cX9_find 37 = .ok (.putfield 40, 3) := by decide +kernel
theorem dX9_find_40 : decode cX9_find 40 = .ok (.iload_n 3, 1) := by decide +kernel
theorem dX9_find_41 : decode cX9_find 41 = .ok (.istore 5, 2) := by decide +kernel
theorem dX9_find_43 : decode cX9_find 43 = .ok (.iconst 0, 1) := by decide +kernel
theorem dX9_find_44 : decode cX9_find 44 = .ok (.istore 6, 2) := by decide +kernel
theorem dX9_find_46 : decode cX9_find 46 = .ok (.iload 6, 2) := by decide +kernel
theorem dX9_find_48 : decode cX9_find 48 = .ok (.bipush 10, 2) := by decide +kernel
theorem dX9_find_50 : decode cX9_find 50 = .ok (.if_icmp .ge 82, 3) := by decide +kernel
theorem dX9_find_53 : decode cX9_find 53 = .ok (.aload_n 0, 1) := by decide +kernel
theorem dX9_find_54 : decode cX9_find 54 = .ok (.getfield 32, 3) := by decide +kernel
theorem dX9_find_57 : decode cX9_find 57 = .ok (.ifCond .eq 75, 3) := by decide +kernel
theorem dX9_find_60 : decode cX9_find 60 = .ok (.iload 5, 2) := by decide +kernel
theorem dX9_find_62 : decode cX9_find 62 = .ok (.iload 4, 2) := by decide +kernel
theorem dX9_find_64 : decode cX9_find 64 = .ok (.if_icmp .eq 68, 3) := by decide +kernel
theorem dX9_find_67 : decode cX9_find 67 = .ok (.aload_n 0, 1) := by decide +kernel
theorem dX9_find_68 : decode cX9_find 68 = .ok (.aload_n 1, 1) := by decide +kernel
theorem dX9_find_69 : decode cX9_find 69 = .ok (.iload_n 2, 1) := by decide +kernel
theorem dX9_find_70 : decode cX9_find 70 = .ok (.iload 5, 2) := by decide +kernel
theorem dX9_find_72 : decode cX9_find 72 = .ok (.invokevirtual 43, 3) := by decide +kernel
theorem dX9_find_75 : decode cX9_find 75 = .ok (.istore 7, 2) := by decide +kernel
theorem dX9_find_77 : decode cX9_find 77 = .ok (.aload_n 0, 1) := by decide +kernel
theorem dX9_find_78 : decode cX9_find 78 = .ok (.getfield 20, 3) := by decide +kernel
theorem dX9_find_81 : decode cX9_find 81 = .ok (.iload 6, 2) := by decide +kernel
theorem dX9_find_83 : decode cX9_find 83 = .ok (.iload 7, 2) := by decide +kernel
theorem dX9_find_85 : decode cX9_find 85 = .ok (.invokevirtual 47, 3) := by decide +kernel
theorem dX9_find_88 : decode cX9_find 88 = .ok (.aload_n 0, 1) := by decide +kernel
theorem dX9_find_89 : decode cX9_find 89 = .ok (.dup, 1) := by decide +kernel
theorem dX9_find_90 : decode cX9_find 90 = .ok (.getfield 36, 3) := by decide +kernel
theorem dX9_find_93 : decode cX9_find 93 = .ok (.aload_n 1, 1) := by decide +kernel
theorem dX9_find_94 : decode cX9_find 94 = .ok (.getfield 51, 3) := by decide +kernel
theorem dX9_find_97 : decode cX9_find 97 = .ok (.iload 7, 2) := by decide +kernel
theorem dX9_find_99 : decode cX9_find 99 = .ok (.invokevirtual 27, 3) := by decide +kernel
theorem dX9_find_102 : decode cX9_find 102 = .ok (.iadd, 1) := by decide +kernel
theorem dX9_find_103 : decode cX9_find 103 = .ok (.putfield 36, 3) := by decide +kernel
theorem dX9_find_106 : decode cX9_find 106 = .ok (.aload_n 0, 1) := by decide +kernel
theorem dX9_find_107 : decode cX9_find 107 = .ok (.dup, 1) := by decide +kernel
theorem dX9_find_108 : decode cX9_find 108 = .ok (.getfield 40, 3) := by decide +kernel
theorem dX9_find_111 : decode cX9_find 111 = .ok (.iconst 1, 1) := by decide +kernel
theorem dX9_find_112 : decode cX9_find 112 = .ok (.iadd, 1) := by decide +kernel
theorem dX9_find_113 : decode cX9_find 113 = .ok (.putfield 40, 3) := by decide +kernel
theorem dX9_find_116 : decode cX9_find 116 = .ok (.aload_n 1, 1) := by decide +kernel
theorem dX9_find_117 : decode cX9_find 117 = .ok (.iload 7, 2) := by decide +kernel
theorem dX9_find_119 : decode cX9_find 119 = .ok (.iload 5, 2) := by decide +kernel
theorem dX9_find_121 : decode cX9_find 121 = .ok (.invokevirtual 55, 3) := by decide +kernel
theorem dX9_find_124 : decode cX9_find 124 = .ok (.istore 5, 2) := by decide +kernel
theorem dX9_find_126 : decode cX9_find 126 = .ok (.iinc 6 1, 3) := by decide +kernel
theorem dX9_find_129 : decode cX9_find 129 = .ok (.goto (-83), 3) := by decide +kernel
theorem dX9_find_132 : decode cX9_find 132 = .ok (.return_, 1) := by decide +kernel
theorem dX9_weigh_0 : decode cX9_weigh 0 = .ok (.aload_n 0, 1) := by decide +kernel
theorem dX9_weigh_1 : decode cX9_weigh 1 = .ok (.getfield 14, 3) := by decide +kernel
theorem dX9_weigh_4 : decode cX9_weigh 4 = .ok (.ldc 31, 2) := by decide +kernel
theorem dX9_weigh_6 : decode cX9_weigh 6 = .ok (.invokevirtual 59, 3) := by decide +kernel
theorem dX9_weigh_9 : decode cX9_weigh 9 = .ok (.aload_n 0, 1) := by decide +kernel
theorem dX9_weigh_10 : decode cX9_weigh 10 = .ok (.getfield 14, 3) := by decide +kernel
theorem dX9_weigh_13 : decode cX9_weigh 13 = .ok (.iload_n 3, 1) := by decide +kernel
theorem dX9_weigh_14 : decode cX9_weigh 14 = .ok (.iconst 0, 1) := by decide +kernel
theorem dX9_weigh_15 : decode cX9_weigh 15 = .ok (.invokevirtual 47, 3) := by decide +kernel
theorem dX9_weigh_18 : decode cX9_weigh 18 = .ok (.iconst 1, 1) := by decide +kernel
theorem dX9_weigh_19 : decode cX9_weigh 19 = .ok (.istore 4, 2) := by decide +kernel
theorem dX9_weigh_21 : decode cX9_weigh 21 = .ok (.iconst 0, 1) := by decide +kernel
theorem dX9_weigh_22 : decode cX9_weigh 22 = .ok (.istore 5, 2) := by decide +kernel
theorem dX9_weigh_24 : decode cX9_weigh 24 = .ok (.iload 5, 2) := by decide +kernel
theorem dX9_weigh_26 : decode cX9_weigh 26 = .ok (.bipush 10, 2) := by decide +kernel
theorem dX9_weigh_28 : decode cX9_weigh 28 = .ok (.if_icmp .ge 57, 3) := by decide +kernel
theorem dX9_weigh_31 : decode cX9_weigh 31 = .ok (.iload 4, 2) := by decide +kernel
theorem dX9_weigh_33 : decode cX9_weigh 33 = .ok (.ifCond .eq 52, 3) := by decide +kernel
theorem dX9_weigh_36 : decode cX9_weigh 36 = .ok (.iconst 0, 1) := by decide +kernel
theorem dX9_weigh_37 : decode cX9_weigh 37 = .ok (.istore 4, 2) := by decide +kernel
theorem dX9_weigh_39 : decode cX9_weigh 39 = .ok (.iconst 0, 1) := by decide +kernel
theorem dX9_weigh_40 : decode cX9_weigh 40 = .ok (.istore 6, 2) := by decide +kernel
theorem dX9_weigh_42 : decode cX9_weigh 42 = .ok (.iload 6, 2) := by decide +kernel
theorem dX9_weigh_44 : decode cX9_weigh 44 = .ok (.aload_n 1, 1) := by decide +kernel
theorem dX9_weigh_45 : decode cX9_weigh 45 = .ok (.getfield 62, 3) := by decide +kernel
theorem dX9_weigh_48 : decode cX9_weigh 48 = .ok (.if_icmp .ge 31, 3) := by decide +kernel
theorem dX9_weigh_51 : decode cX9_weigh 51 = .ok (.iload_n 2, 1) := by decide +kernel
theorem dX9_weigh_52 : decode cX9_weigh 52 = .ok (.iload 6, 2) := by decide +kernel
theorem dX9_weigh_54 : decode cX9_weigh 54 = .ok (.invokestatic 65, 3) := by decide +kernel
theorem dX9_weigh_57 : decode cX9_weigh 57 = .ok (.ifCond .eq 16, 3) := by decide +kernel
theorem dX9_weigh_60 : decode cX9_weigh 60 = .ok (.aload_n 0, 1) := by decide +kernel
theorem dX9_weigh_61 : decode cX9_weigh 61 = .ok (.aload_n 1, 1) := by decide +kernel
theorem dX9_weigh_62 : decode cX9_weigh 62 = .ok (.iload 6, 2) := by decide +kernel
theorem dX9_weigh_64 : decode cX9_weigh 64 = .ok (.invokevirtual 69, 3) := by decide +kernel
theorem dX9_weigh_67 : decode cX9_weigh 67 = .ok (.ifCond .eq 6, 3) := by decide +kernel
theorem dX9_weigh_70 : decode cX9_weigh 70 = .ok (.iconst 1, 1) := by decide +kernel
theorem dX9_weigh_71 : decode cX9_weigh 71 = .ok (.istore 4, 2) := by decide +kernel
theorem dX9_weigh_73 : decode cX9_weigh 73 = .ok (.iinc 6 1, 3) := by decide +kernel
theorem dX9_weigh_76 : decode cX9_weigh 76 = .ok (.goto (-34), 3) := by decide +kernel
theorem dX9_weigh_79 : decode cX9_weigh 79 = .ok (.iinc 5 1, 3) := by decide +kernel
theorem dX9_weigh_82 : decode cX9_weigh 82 = .ok (.goto (-58), 3) := by decide +kernel
theorem dX9_weigh_85 : decode cX9_weigh 85 = .ok (.return_, 1) := by decide +kernel
theorem dX9_lowerCosts_0 : decode cX9_lowerCosts 0 = .ok (.aload_n 1, 1) := by decide +kernel
theorem dX9_lowerCosts_1 : decode cX9_lowerCosts 1 = .ok (.getfield 73, 3) := by decide +kernel
theorem dX9_lowerCosts_4 : decode cX9_lowerCosts 4 = .ok (.iload_n 2, 1) := by decide +kernel
theorem dX9_lowerCosts_5 : decode cX9_lowerCosts 5 = .ok (.invokevirtual 27, 3) := by decide +kernel
theorem dX9_lowerCosts_8 : decode cX9_lowerCosts 8 = .ok (.istore_n 3, 1) := by decide +kernel
theorem dX9_lowerCosts_9 : decode cX9_lowerCosts 9 = .ok (.aload_n 1, 1) := by decide +kernel
theorem dX9_lowerCosts_10 : decode cX9_lowerCosts 10 = .ok (.getfield 76, 3) := by decide +kernel
theorem dX9_lowerCosts_13 : decode cX9_lowerCosts 13 = .ok (.iload_n 2, 1) := by decide +kernel
theorem dX9_lowerCosts_14 : decode cX9_lowerCosts 14 = .ok (.invokevirtual 27, 3) := by decide +kernel
theorem dX9_lowerCosts_17 : decode cX9_lowerCosts 17 = .ok (.istore 4, 2) := by decide +kernel
theorem dX9_lowerCosts_19 : decode cX9_lowerCosts 19 = .ok (.aload_n 1, 1) := by decide +kernel
theorem dX9_lowerCosts_20 : decode cX9_lowerCosts 20 = .ok (.iload_n 2, 1) := by decide +kernel
theorem dX9_lowerCosts_21 : decode cX9_lowerCosts 21 = .ok (.invokestatic 79, 3) := by decide +kernel
theorem dX9_lowerCosts_24 : decode cX9_lowerCosts 24 = .ok (.istore 5, 2) := by decide +kernel
theorem dX9_lowerCosts_26 : decode cX9_lowerCosts 26 = .ok (.aload_n 0, 1) := by decide +kernel
theorem dX9_lowerCosts_27 : decode cX9_lowerCosts 27 = .ok (.getfield 14, 3) := by decide +kernel
theorem dX9_lowerCosts_30 : decode cX9_lowerCosts 30 = .ok (.iload 4, 2) := by decide +kernel
theorem dX9_lowerCosts_32 : decode cX9_lowerCosts 32 = .ok (.invokevirtual 27, 3) := by decide +kernel
theorem dX9_lowerCosts_35 : decode cX9_lowerCosts 35 = .ok (.iload 5, 2) := by decide +kernel
theorem dX9_lowerCosts_37 : decode cX9_lowerCosts 37 = .ok (.iadd, 1) := by decide +kernel
theorem dX9_lowerCosts_38 : decode cX9_lowerCosts 38 = .ok (.aload_n 0, 1) := by decide +kernel
theorem dX9_lowerCosts_39 : decode cX9_lowerCosts 39 = .ok (.getfield 14, 3) := by decide +kernel
theorem dX9_lowerCosts_42 : decode cX9_lowerCosts 42 = .ok (.iload_n 3, 1) := by decide +kernel
theorem dX9_lowerCosts_43 : decode cX9_lowerCosts 43 = .ok (.invokevirtual 27, 3) := by decide +kernel
theorem dX9_lowerCosts_46 : decode cX9_lowerCosts 46 = .ok (.if_icmp .ge 25, 3) := by decide +kernel
theorem dX9_lowerCosts_49 : decode cX9_lowerCosts 49 = .ok (.aload_n 0, 1) := by decide +kernel
theorem dX9_lowerCosts_50 : decode cX9_lowerCosts 50 = .ok (.getfield 14, 3) := by decide +kernel
theorem dX9_lowerCosts_53 : decode cX9_lowerCosts 53 = .ok (.iload_n 3, 1) := by decide +kernel
theorem dX9_lowerCosts_54 : decode cX9_lowerCosts 54 = .ok (.aload_n 0, 1) := by decide +kernel
theorem dX9_lowerCosts_55 : decode cX9_lowerCosts 55 = .ok (.getfield 14, 3) := by decide +kernel
theorem dX9_lowerCosts_58 : decode cX9_lowerCosts 58 = .ok (.iload 4, 2) := by decide +kernel
theorem dX9_lowerCosts_60 : decode cX9_lowerCosts 60 = .ok (.invokevirtual 27, 3) := by decide +kernel
theorem dX9_lowerCosts_63 : decode cX9_lowerCosts 63 = .ok (.iload 5, 2) := by decide +kernel
theorem dX9_lowerCosts_65 : decode cX9_lowerCosts 65 = .ok (.iadd, 1) := by decide +kernel
theorem dX9_lowerCosts_66 : decode cX9_lowerCosts 66 = .ok (.invokevirtual 47, 3) := by decide +kernel
theorem dX9_lowerCosts_69 : decode cX9_lowerCosts 69 = .ok (.iconst 1, 1) := by decide +kernel
theorem dX9_lowerCosts_70 : decode cX9_lowerCosts 70 = .ok (.ireturn, 1) := by decide +kernel
theorem dX9_lowerCosts_71 : decode cX9_lowerCosts 71 = .ok (.aload_n 0, 1) := by decide +kernel
theorem dX9_lowerCosts_72 : decode cX9_lowerCosts 72 = .ok (.getfield 14, 3) := by decide +kernel
theorem dX9_lowerCosts_75 : decode cX9_lowerCosts 75 = .ok (.iload_n 3, 1) := by decide +kernel
theorem dX9_lowerCosts_76 : decode cX9_lowerCosts 76 = .ok (.invokevirtual 27, 3) := by decide +kernel
theorem dX9_lowerCosts_79 : decode cX9_lowerCosts 79 = .ok (.iload 5, 2) := by decide +kernel
theorem dX9_lowerCosts_81 : decode cX9_lowerCosts 81 = .ok (.iadd, 1) := by decide +kernel
theorem dX9_lowerCosts_82 : decode cX9_lowerCosts 82 = .ok (.aload_n 0, 1) := by decide +kernel
theorem dX9_lowerCosts_83 : decode cX9_lowerCosts 83 = .ok (.getfield 14, 3) := by decide +kernel
theorem dX9_lowerCosts_86 : decode cX9_lowerCosts 86 = .ok (.iload 4, 2) := by decide +kernel
theorem dX9_lowerCosts_88 : decode cX9_lowerCosts 88 = .ok (.invokevirtual 27, 3) := by decide +kernel
theorem dX9_lowerCosts_91 : decode cX9_lowerCosts 91 = .ok (.if_icmp .ge 25, 3) := by decide +kernel
theorem dX9_lowerCosts_94 : decode cX9_lowerCosts 94 = .ok (.aload_n 0, 1) := by decide +kernel
theorem dX9_lowerCosts_95 : decode cX9_lowerCosts 95 = .ok (.getfield 14, 3) := by decide +kernel
theorem dX9_lowerCosts_98 : decode cX9_lowerCosts 98 = .ok (.iload 4, 2) := by decide +kernel
theorem dX9_lowerCosts_100 : decode cX9_lowerCosts 100 = .ok (.aload_n 0, 1) := by decide +kernel
theorem dX9_lowerCosts_101 : decode cX9_lowerCosts 101 = .ok (.getfield 14, 3) := by decide +kernel
theorem dX9_lowerCosts_104 : decode cX9_lowerCosts 104 = .ok (.iload_n 3, 1) := by decide +kernel
theorem dX9_lowerCosts_105 : decode cX9_lowerCosts 105 = .ok (.invokevirtual 27, 3) := by decide +kernel
theorem dX9_lowerCosts_108 : decode cX9_lowerCosts 108 = .ok (.iload 5, 2) := by decide +kernel
theorem dX9_lowerCosts_110 : decode cX9_lowerCosts 110 = .ok (.iadd, 1) := by decide +kernel
theorem dX9_lowerCosts_111 : decode cX9_lowerCosts 111 = .ok (.invokevirtual 47, 3) := by decide +kernel
theorem dX9_lowerCosts_114 : decode cX9_lowerCosts 114 = .ok (.iconst 1, 1) := by decide +kernel
theorem dX9_lowerCosts_115 : decode cX9_lowerCosts 115 = .ok (.ireturn, 1) := by decide +kernel
theorem dX9_lowerCosts_116 : decode cX9_lowerCosts 116 = .ok (.iconst 0, 1) := by decide +kernel
theorem dX9_lowerCosts_117 : decode cX9_lowerCosts 117 = .ok (.ireturn, 1) := by decide +kernel
theorem dX9_priceOf_0 : decode cX9_priceOf 0 = .ok (.aload_n 0, 1) := by decide +kernel
theorem dX9_priceOf_1 : decode cX9_priceOf 1 = .ok (.getfield 51, 3) := by decide +kernel
theorem dX9_priceOf_4 : decode cX9_priceOf 4 = .ok (.iload_n 1, 1) := by decide +kernel
theorem dX9_priceOf_5 : decode cX9_priceOf 5 = .ok (.invokevirtual 27, 3) := by decide +kernel
theorem dX9_priceOf_8 : decode cX9_priceOf 8 = .ok (.bipush 10, 2) := by decide +kernel
theorem dX9_priceOf_10 : decode cX9_priceOf 10 = .ok (.imul, 1) := by decide +kernel
theorem dX9_priceOf_11 : decode cX9_priceOf 11 = .ok (.iconst 1, 1) := by decide +kernel
theorem dX9_priceOf_12 : decode cX9_priceOf 12 = .ok (.iadd, 1) := by decide +kernel
theorem dX9_priceOf_13 : decode cX9_priceOf 13 = .ok (.ireturn, 1) := by decide +kernel
theorem dX9_firstStep_0 : decode cX9_firstStep 0 = .ok (.iload_n 2, 1) := by decide +kernel
theorem dX9_firstStep_1 : decode cX9_firstStep 1 = .ok (.aload_n 1, 1) := by decide +kernel
theorem dX9_firstStep_2 : decode cX9_firstStep 2 = .ok (.iconst 1, 1) := by decide +kernel
theorem dX9_firstStep_3 : decode cX9_firstStep 3 = .ok (.iload_n 3, 1) := by decide +kernel
theorem dX9_firstStep_4 : decode cX9_firstStep 4 = .ok (.ishl, 1) := by decide +kernel
theorem dX9_firstStep_5 : decode cX9_firstStep 5 = .ok (.invokevirtual 83, 3) := by decide +kernel
theorem dX9_firstStep_8 : decode cX9_firstStep 8 = .ok (.iand, 1) := by decide +kernel
theorem dX9_firstStep_9 : decode cX9_firstStep 9 = .ok (.istore 4, 2) := by decide +kernel
theorem dX9_firstStep_11 : decode cX9_firstStep 11 = .ok (.iconst 0, 1) := by decide +kernel
theorem dX9_firstStep_12 : decode cX9_firstStep 12 = .ok (.istore 5, 2) := by decide +kernel
theorem dX9_firstStep_14 : decode cX9_firstStep 14 = .ok (.iload 5, 2) := by decide +kernel
theorem dX9_firstStep_16 : decode cX9_firstStep 16 = .ok (.aload_n 1, 1) := by decide +kernel
theorem dX9_firstStep_17 : decode cX9_firstStep 17 = .ok (.getfield 62, 3) := by decide +kernel
theorem dX9_firstStep_20 : decode cX9_firstStep 20 = .ok (.if_icmp .ge 58, 3) := by decide +kernel
theorem dX9_firstStep_23 : decode cX9_firstStep 23 = .ok (.aload_n 0, 1) := by decide +kernel
theorem dX9_firstStep_24 : decode cX9_firstStep 24 = .ok (.getfield 14, 3) := by decide +kernel
theorem dX9_firstStep_27 : decode cX9_firstStep 27 = .ok (.aload_n 1, 1) := by decide +kernel
theorem dX9_firstStep_28 : decode cX9_firstStep 28 = .ok (.iload 5, 2) := by decide +kernel
theorem dX9_firstStep_30 : decode cX9_firstStep 30 = .ok (.iload_n 3, 1) := by decide +kernel
theorem dX9_firstStep_31 : decode cX9_firstStep 31 = .ok (.invokevirtual 55, 3) := by decide +kernel
theorem dX9_firstStep_34 : decode cX9_firstStep 34 = .ok (.invokevirtual 27, 3) := by decide +kernel
theorem dX9_firstStep_37 : decode cX9_firstStep 37 = .ok (.istore 6, 2) := by decide +kernel
theorem dX9_firstStep_39 : decode cX9_firstStep 39 = .ok (.iload 4, 2) := by decide +kernel
theorem dX9_firstStep_41 : decode cX9_firstStep 41 = .ok (.iload 5, 2) := by decide +kernel
theorem dX9_firstStep_43 : decode cX9_firstStep 43 = .ok (.invokestatic 65, 3) := by decide +kernel
theorem dX9_firstStep_46 : decode cX9_firstStep 46 = .ok (.ifCond .eq 26, 3) := by decide +kernel
theorem dX9_firstStep_49 : decode cX9_firstStep 49 = .ok (.iload 6, 2) := by decide +kernel
theorem dX9_firstStep_51 : decode cX9_firstStep 51 = .ok (.aload_n 1, 1) := by decide +kernel
theorem dX9_firstStep_52 : decode cX9_firstStep 52 = .ok (.iload 5, 2) := by decide +kernel
theorem dX9_firstStep_54 : decode cX9_firstStep 54 = .ok (.invokestatic 79, 3) := by decide +kernel
theorem dX9_firstStep_57 : decode cX9_firstStep 57 = .ok (.iadd, 1) := by decide +kernel
theorem dX9_firstStep_58 : decode cX9_firstStep 58 = .ok (.aload_n 0, 1) := by decide +kernel
theorem dX9_firstStep_59 : decode cX9_firstStep 59 = .ok (.getfield 14, 3) := by decide +kernel
theorem dX9_firstStep_62 : decode cX9_firstStep 62 = .ok (.iload_n 3, 1) := by decide +kernel
theorem dX9_firstStep_63 : decode cX9_firstStep 63 = .ok (.invokevirtual 27, 3) := by decide +kernel
theorem dX9_firstStep_66 : decode cX9_firstStep 66 = .ok (.if_icmp .ne 6, 3) := by decide +kernel
theorem dX9_firstStep_69 : decode cX9_firstStep 69 = .ok (.iload 5, 2) := by decide +kernel
theorem dX9_firstStep_71 : decode cX9_firstStep 71 = .ok (.ireturn, 1) := by decide +kernel
theorem dX9_firstStep_72 : decode cX9_firstStep 72 = .ok (.iinc 5 1, 3) := by decide +kernel
theorem dX9_firstStep_75 : decode cX9_firstStep 75 = .ok (.goto (-61), 3) := by decide +kernel
theorem dX9_firstStep_78 : decode cX9_firstStep 78 = .ok (.bipush (-6), 2) := by decide +kernel
theorem dX9_firstStep_80 : decode cX9_firstStep 80 = .ok (.ireturn, 1) := by decide +kernel
theorem dJ6_bitCount_0f7a4_0 : decode cJ6_bitCount_0f7a4 0 = .ok (.iload_n 0, 1) := by decide +kernel
theorem dJ6_bitCount_0f7a4_1 : decode cJ6_bitCount_0f7a4 1 = .ok (.iload_n 0, 1) := by decide +kernel
theorem dJ6_bitCount_0f7a4_2 : decode cJ6_bitCount_0f7a4 2 = .ok (.iconst 1, 1) := by decide +kernel
theorem dJ6_bitCount_0f7a4_3 : decode cJ6_bitCount_0f7a4 3 = .ok (.iushr, 1) := by decide +kernel
theorem dJ6_bitCount_0f7a4_4 : decode cJ6_bitCount_0f7a4 4 = .ok (.ldc_w 265, 3) := by decide +kernel
theorem dJ6_bitCount_0f7a4_7 : decode cJ6_bitCount_0f7a4 7 = .ok (.iand, 1) := by decide +kernel
theorem dJ6_bitCount_0f7a4_8 : decode cJ6_bitCount_0f7a4 8 = .ok (.isub, 1) := by decide +kernel
theorem dJ6_bitCount_0f7a4_9 : decode cJ6_bitCount_0f7a4 9 = .ok (.istore_n 0, 1) := by decide +kernel
theorem dJ6_bitCount_0f7a4_10 : decode cJ6_bitCount_0f7a4 10 = .ok (.iload_n 0, 1) := by decide +kernel
theorem dJ6_bitCount_0f7a4_11 : decode cJ6_bitCount_0f7a4 11 = .ok (.ldc_w 266, 3) := by decide +kernel
theorem dJ6_bitCount_0f7a4_14 : decode cJ6_bitCount_0f7a4 14 = .ok (.iand, 1) := by decide +kernel
theorem dJ6_bitCount_0f7a4_15 : decode cJ6_bitCount_0f7a4 15 = .ok (.iload_n 0, 1) := by decide +kernel
theorem dJ6_bitCount_0f7a4_16 : decode cJ6_bitCount_0f7a4 16 = .ok (.iconst 2, 1) := by decide +kernel
theorem dJ6_bitCount_0f7a4_17 : decode cJ6_bitCount_0f7a4 17 = .ok (.iushr, 1) := by decide +kernel
theorem dJ6_bitCount_0f7a4_18 : decode cJ6_bitCount_0f7a4 18 = .ok (.ldc_w 266, 3) := by decide +kernel
theorem dJ6_bitCount_0f7a4_21 : decode cJ6_bitCount_0f7a4 21 = .ok (.iand, 1) := by decide +kernel
theorem dJ6_bitCount_0f7a4_22 : decode cJ6_bitCount_0f7a4 22 = .ok (.iadd, 1) := by decide +kernel
theorem dJ6_bitCount_0f7a4_23 : decode cJ6_bitCount_0f7a4 23 = .ok (.istore_n 0, 1) := by decide +kernel
theorem dJ6_bitCount_0f7a4_24 : decode cJ6_bitCount_0f7a4 24 = .ok (.iload_n 0, 1) := by decide +kernel
theorem dJ6_bitCount_0f7a4_25 : decode cJ6_bitCount_0f7a4 25 = .ok (.iload_n 0, 1) := by decide +kernel
theorem dJ6_bitCount_0f7a4_26 : decode cJ6_bitCount_0f7a4 26 = .ok (.iconst 4, 1) := by decide +kernel
theorem dJ6_bitCount_0f7a4_27 : decode cJ6_bitCount_0f7a4 27 = .ok (.iushr, 1) := by decide +kernel
theorem dJ6_bitCount_0f7a4_28 : decode cJ6_bitCount_0f7a4 28 = .ok (.iadd, 1) := by decide +kernel
theorem dJ6_bitCount_0f7a4_29 : decode cJ6_bitCount_0f7a4 29 = .ok (.ldc_w 267, 3) := by decide +kernel
theorem dJ6_bitCount_0f7a4_32 : decode cJ6_bitCount_0f7a4 32 = .ok (.iand, 1) := by decide +kernel
theorem dJ6_bitCount_0f7a4_33 : decode cJ6_bitCount_0f7a4 33 = .ok (.istore_n 0, 1) := by decide +kernel
theorem dJ6_bitCount_0f7a4_34 : decode cJ6_bitCount_0f7a4 34 = .ok (.iload_n 0, 1) := by decide +kernel
theorem dJ6_bitCount_0f7a4_35 : decode cJ6_bitCount_0f7a4 35 = .ok (.iload_n 0, 1) := by decide +kernel
theorem dJ6_bitCount_0f7a4_36 : decode cJ6_bitCount_0f7a4 36 = .ok (.bipush 8, 2) := by decide +kernel
theorem dJ6_bitCount_0f7a4_38 : decode cJ6_bitCount_0f7a4 38 = .ok (.iushr, 1) := by decide +kernel
theorem dJ6_bitCount_0f7a4_39 : decode cJ6_bitCount_0f7a4 39 = .ok (.iadd, 1) := by decide +kernel
theorem dJ6_bitCount_0f7a4_40 : decode cJ6_bitCount_0f7a4 40 = .ok (.istore_n 0, 1) := by decide +kernel
theorem dJ6_bitCount_0f7a4_41 : decode cJ6_bitCount_0f7a4 41 = .ok (.iload_n 0, 1) := by decide +kernel
theorem dJ6_bitCount_0f7a4_42 : decode cJ6_bitCount_0f7a4 42 = .ok (.iload_n 0, 1) := by decide +kernel
theorem dJ6_bitCount_0f7a4_43 : decode cJ6_bitCount_0f7a4 43 = .ok (.bipush 16, 2) := by decide +kernel
theorem dJ6_bitCount_0f7a4_45 : decode cJ6_bitCount_0f7a4 45 = .ok (.iushr, 1) := by decide +kernel
theorem dJ6_bitCount_0f7a4_46 : decode cJ6_bitCount_0f7a4 46 = .ok (.iadd, 1) := by decide +kernel
theorem dJ6_bitCount_0f7a4_47 : decode cJ6_bitCount_0f7a4 47 = .ok (.istore_n 0, 1) := by decide +kernel
theorem dJ6_bitCount_0f7a4_48 : decode cJ6_bitCount_0f7a4 48 = .ok (.iload_n 0, 1) := by decide +kernel
theorem dJ6_bitCount_0f7a4_49 : decode cJ6_bitCount_0f7a4 49 = .ok (.bipush 63, 2) := by decide +kernel
theorem dJ6_bitCount_0f7a4_51 : decode cJ6_bitCount_0f7a4 51 = .ok (.iand, 1) := by decide +kernel
theorem dJ6_bitCount_0f7a4_52 : decode cJ6_bitCount_0f7a4 52 = .ok (.ireturn, 1) := by decide +kernel
theorem dJ9_max_7cf53_0 : decode cJ9_max_7cf53 0 = .ok (.iload_n 0, 1) := by decide +kernel
theorem dJ9_max_7cf53_1 : decode cJ9_max_7cf53 1 = .ok (.iload_n 1, 1) := by decide +kernel
theorem dJ9_max_7cf53_2 : decode cJ9_max_7cf53 2 = .ok (.if_icmp .lt 7, 3) := by decide +kernel
theorem dJ9_max_7cf53_5 : decode cJ9_max_7cf53 5 = .ok (.iload_n 0, 1) := by decide +kernel
theorem dJ9_max_7cf53_6 : decode cJ9_max_7cf53 6 = .ok (.goto 4, 3) := by decide +kernel
theorem dJ9_max_7cf53_9 : decode cJ9_max_7cf53 9 = .ok (.iload_n 1, 1) := by decide +kernel
theorem dJ9_max_7cf53_10 : decode cJ9_max_7cf53 10 = .ok (.ireturn, 1) := by decide +kernel
theorem dJ9_min_7cf53_0 : decode cJ9_min_7cf53 0 = .ok (.iload_n 0, 1) := by decide +kernel
theorem dJ9_min_7cf53_1 : decode cJ9_min_7cf53 1 = .ok (.iload_n 1, 1) := by decide +kernel
theorem dJ9_min_7cf53_2 : decode cJ9_min_7cf53 2 = .ok (.if_icmp .gt 7, 3) := by decide +kernel
theorem dJ9_min_7cf53_5 : decode cJ9_min_7cf53 5 = .ok (.iload_n 0, 1) := by decide +kernel
theorem dJ9_min_7cf53_6 : decode cJ9_min_7cf53 6 = .ok (.goto 4, 3) := by decide +kernel
theorem dJ9_min_7cf53_9 : decode cJ9_min_7cf53 9 = .ok (.iload_n 1, 1) := by decide +kernel
theorem dJ9_min_7cf53_10 : decode cJ9_min_7cf53 10 = .ok (.ireturn, 1) := by decide +kernel
end
section
theorem dL_law_0 : decode cL_law 0 = .ok (.new 19, 3) := by decide +kernel
theorem dL_law_3 : decode cL_law 3 = .ok (.dup, 1) := by decide +kernel
theorem dL_law_4 : decode cL_law 4 = .ok (.invokespecial 113, 3) := by decide +kernel
theorem dL_law_7 : decode cL_law 7 = .ok (.astore_n 1, 1) := by decide +kernel
theorem dL_law_8 : decode cL_law 8 = .ok (.bipush 20, 2) := by decide +kernel
theorem dL_law_10 : decode cL_law 10 = .ok (.newarray .int, 2) := by decide +kernel
theorem dL_law_12 : decode cL_law 12 = .ok (.astore_n 2, 1) := by decide +kernel
theorem dL_law_13 : decode cL_law 13 = .ok (.bipush 20, 2) := by decide +kernel
theorem dL_law_15 : decode cL_law 15 = .ok (.newarray .int, 2) := by decide +kernel
theorem dL_law_17 : decode cL_law 17 = .ok (.astore_n 3, 1) := by decide +kernel
theorem dL_law_18 : decode cL_law 18 = .ok (.bipush 12, 2) := by decide +kernel
theorem dL_law_20 : decode cL_law 20 = .ok (.newarray .int, 2) := by decide +kernel
theorem dL_law_22 : decode cL_law 22 = .ok (.astore 4, 2) := by decide +kernel
theorem dL_law_24 : decode cL_law 24 = .ok (.bipush 20, 2) := by decide +kernel
theorem dL_law_26 : decode cL_law 26 = .ok (.newarray .int, 2) := by decide +kernel
theorem dL_law_28 : decode cL_law 28 = .ok (.astore 5, 2) := by decide +kernel
theorem dL_law_30 : decode cL_law 30 = .ok (.bipush 6, 2) := by decide +kernel
theorem dL_law_32 : decode cL_law 32 = .ok (.newarray .int, 2) := by decide +kernel
theorem dL_law_34 : decode cL_law 34 = .ok (.astore 6, 2) := by decide +kernel
theorem dL_law_36 : decode cL_law 36 = .ok (.aload 6, 2) := by decide +kernel
theorem dL_law_38 : decode cL_law 38 = .ok (.iconst 0, 1) := by decide +kernel
theorem dL_law_39 : decode cL_law 39 = .ok (.bipush 60, 2) := by decide +kernel
theorem dL_law_41 : decode cL_law 41 = .ok (.iastore, 1) := by decide +kernel
theorem dL_law_42 : decode cL_law 42 = .ok (.aload 6, 2) := by decide +kernel
theorem dL_law_44 : decode cL_law 44 = .ok (.iconst 1, 1) := by decide +kernel
theorem dL_law_45 : decode cL_law 45 = .ok (.bipush 10, 2) := by decide +kernel
theorem dL_law_47 : decode cL_law 47 = .ok (.iastore, 1) := by decide +kernel
theorem dL_law_48 : decode cL_law 48 = .ok (.iconst 0, 1) := by decide +kernel
theorem dL_law_49 : decode cL_law 49 = .ok (.istore 7, 2) := by decide +kernel
theorem dL_law_51 : decode cL_law 51 = .ok (.iload 7, 2) := by decide +kernel
theorem dL_law_53 : decode cL_law 53 = .ok (.bipush 60, 2) := by decide +kernel
theorem dL_law_55 : decode cL_law 55 = .ok (.if_icmp .ge 1354, 3) := by decide +kernel
theorem dL_law_58 : decode cL_law 58 = .ok (.aload_n 0, 1) := by decide +kernel
theorem dL_law_59 : decode cL_law 59 = .ok (.iload 7, 2) := by decide +kernel
theorem dL_law_61 : decode cL_law 61 = .ok (.invokestatic 114, 3) := by decide +kernel
theorem dL_law_64 : decode cL_law 64 = .ok (.istore 8, 2) := by decide +kernel
theorem dL_law_66 : decode cL_law 66 = .ok (.iload 8, 2) := by decide +kernel
theorem dL_law_68 : decode cL_law 68 = .ok (.bipush 20, 2) := by decide +kernel
theorem dL_law_70 : decode cL_law 70 = .ok (.invokestatic 117, 3) := by decide +kernel
theorem dL_law_73 : decode cL_law 73 = .ok (.istore 9, 2) := by decide +kernel
theorem dL_law_75 : decode cL_law 75 = .ok (.iload 8, 2) := by decide +kernel
theorem dL_law_77 : decode cL_law 77 = .ok (.iconst 5, 1) := by decide +kernel
theorem dL_law_78 : decode cL_law 78 = .ok (.ishr, 1) := by decide +kernel
theorem dL_law_79 : decode cL_law 79 = .ok (.iconst 4, 1) := by decide +kernel
theorem dL_law_80 : decode cL_law 80 = .ok (.invokestatic 117, 3) := by decide +kernel
theorem dL_law_83 : decode cL_law 83 = .ok (.istore 10, 2) := by decide +kernel
theorem dL_law_85 : decode cL_law 85 = .ok (.iconst 1, 1) := by decide +kernel
theorem dL_law_86 : decode cL_law 86 = .ok (.istore 11, 2) := by decide +kernel
theorem dL_law_88 : decode cL_law 88 = .ok (.iload 9, 2) := by decide +kernel
theorem dL_law_90 : decode cL_law 90 = .ok (.iconst 5, 1) := by decide +kernel
theorem dL_law_91 : decode cL_law 91 = .ok (.if_icmp .lt 11, 3) := by decide +kernel
theorem dL_law_94 : decode cL_law 94 = .ok (.aload 6, 2) := by decide +kernel
theorem dL_law_96 : decode cL_law 96 = .ok (.iconst 4, 1) := by decide +kernel
theorem dL_law_97 : decode cL_law 97 = .ok (.iaload, 1) := by decide +kernel
theorem dL_law_98 : decode cL_law 98 = .ok (.iconst 4, 1) := by decide +kernel
theorem dL_law_99 : decode cL_law 99 = .ok (.if_icmp .ge 233, 3) := by decide +kernel
theorem dL_law_102 : decode cL_law 102 = .ok (.aload 6, 2) := by decide +kernel
theorem dL_law_104 : decode cL_law 104 = .ok (.iconst 4, 1) := by decide +kernel
theorem dL_law_105 : decode cL_law 105 = .ok (.iaload, 1) := by decide +kernel
theorem dL_law_106 : decode cL_law 106 = .ok (.bipush 20, 2) := by decide +kernel
theorem dL_law_108 : decode cL_law 108 = .ok (.if_icmp .ge 224, 3) := by decide +kernel
theorem dL_law_111 : decode cL_law 111 = .ok (.iload 8, 2) := by decide +kernel
theorem dL_law_113 : decode cL_law 113 = .ok (.bipush 7, 2) := by decide +kernel
theorem dL_law_115 : decode cL_law 115 = .ok (.ishr, 1) := by decide +kernel
theorem dL_law_116 : decode cL_law 116 = .ok (.iload 8, 2) := by decide +kernel
theorem dL_law_118 : decode cL_law 118 = .ok (.bipush 25, 2) := by decide +kernel
theorem dL_law_120 : decode cL_law 120 = .ok (.ishr, 1) := by decide +kernel
theorem dL_law_121 : decode cL_law 121 = .ok (.iconst 2, 1) := by decide +kernel
theorem dL_law_122 : decode cL_law 122 = .ok (.invokestatic 117, 3) := by decide +kernel
theorem dL_law_125 : decode cL_law 125 = .ok (.ifCond .ne 8, 3) := by decide +kernel
theorem dL_law_128 : decode cL_law 128 = .ok (.bipush 10, 2) := by decide +kernel
theorem dL_law_130 : decode cL_law 130 = .ok (.goto 4, 3) := by decide +kernel
theorem dL_law_133 : decode cL_law 133 = .ok (.iconst 5, 1) := by decide +kernel
theorem dL_law_134 : decode cL_law 134 = .ok (.invokestatic 117, 3) := by decide +kernel
theorem dL_law_137 : decode cL_law 137 = .ok (.istore 12, 2) := by decide +kernel
theorem dL_law_139 : decode cL_law 139 = .ok (.iload 8, 2) := by decide +kernel
theorem dL_law_141 : decode cL_law 141 = .ok (.bipush 11, 2) := by decide +kernel
theorem dL_law_143 : decode cL_law 143 = .ok (.ishr, 1) := by decide +kernel
theorem dL_law_144 : decode cL_law 144 = .ok (.iload 8, 2) := by decide +kernel
theorem dL_law_146 : decode cL_law 146 = .ok (.bipush 25, 2) := by decide +kernel
theorem dL_law_148 : decode cL_law 148 = .ok (.ishr, 1) := by decide +kernel
theorem dL_law_149 : decode cL_law 149 = .ok (.iconst 2, 1) := by decide +kernel
theorem dL_law_150 : decode cL_law 150 = .ok (.invokestatic 117, 3) := by decide +kernel
theorem dL_law_153 : decode cL_law 153 = .ok (.ifCond .ne 8, 3) := by decide +kernel
theorem dL_law_156 : decode cL_law 156 = .ok (.bipush 10, 2) := by decide +kernel
theorem dL_law_158 : decode cL_law 158 = .ok (.goto 4, 3) := by decide +kernel
theorem dL_law_161 : decode cL_law 161 = .ok (.iconst 5, 1) := by decide +kernel
theorem dL_law_162 : decode cL_law 162 = .ok (.invokestatic 117, 3) := by decide +kernel
theorem dL_law_165 : decode cL_law 165 = .ok (.istore 13, 2) := by decide +kernel
theorem dL_law_167 : decode cL_law 167 = .ok (.iload 12, 2) := by decide +kernel
theorem dL_law_169 : decode cL_law 169 = .ok (.iload 13, 2) := by decide +kernel
theorem dL_law_171 : decode cL_law 171 = .ok (.if_icmp .ne 7, 3) := by decide +kernel
theorem dL_law_174 : decode cL_law 174 = .ok (.iconst 1, 1) := by decide +kernel
theorem dL_law_175 : decode cL_law 175 = .ok (.goto 4, 3) := by decide +kernel
theorem dL_law_178 : decode cL_law 178 = .ok (.iconst 0, 1) := by decide +kernel
theorem dL_law_179 : decode cL_law 179 = .ok (.istore 14, 2) := by decide +kernel
theorem dL_law_181 : decode cL_law 181 = .ok (.aload 6, 2) := by decide +kernel
theorem dL_law_183 : decode cL_law 183 = .ok (.iconst 4, 1) := by decide +kernel
theorem dL_law_184 : decode cL_law 184 = .ok (.iaload, 1) := by decide +kernel
theorem dL_law_185 : decode cL_law 185 = .ok (.istore 15, 2) := by decide +kernel
theorem dL_law_187 : decode cL_law 187 = .ok (.iload 14, 2) := by decide +kernel
theorem dL_law_189 : decode cL_law 189 = .ok (.ifCond .ne 86, 3) := by decide +kernel
theorem dL_law_192 : decode cL_law 192 = .ok (.aload_n 2, 1) := by decide +kernel
theorem dL_law_193 : decode cL_law 193 = .ok (.iload 15, 2) := by decide +kernel
theorem dL_law_195 : decode cL_law 195 = .ok (.iload 12, 2) := by decide +kernel
theorem dL_law_197 : decode cL_law 197 = .ok (.iload 13, 2) := by decide +kernel
theorem dL_law_199 : decode cL_law 199 = .ok (.if_icmp .ge 8, 3) := by decide +kernel
theorem dL_law_202 : decode cL_law 202 = .ok (.iload 12, 2) := by decide +kernel
theorem dL_law_204 : decode cL_law 204 = .ok (.goto 5, 3) := by decide +kernel
theorem dL_law_207 : decode cL_law 207 = .ok (.iload 13, 2) := by decide +kernel
theorem dL_law_209 : decode cL_law 209 = .ok (.bipush 16, 2) := by decide +kernel
theorem dL_law_211 : decode cL_law 211 = .ok (.iload 12, 2) := by decide +kernel
theorem dL_law_213 : decode cL_law 213 = .ok (.iload 13, 2) := by decide +kernel
theorem dL_law_215 : decode cL_law 215 = .ok (.if_icmp .ge 8, 3) := by decide +kernel
theorem dL_law_218 : decode cL_law 218 = .ok (.iload 13, 2) := by decide +kernel
theorem dL_law_220 : decode cL_law 220 = .ok (.goto 5, 3) := by decide +kernel
theorem dL_law_223 : decode cL_law 223 = .ok (.iload 12, 2) := by decide +kernel
theorem dL_law_225 : decode cL_law 225 = .ok (.imul, 1) := by decide +kernel
theorem dL_law_226 : decode cL_law 226 = .ok (.iadd, 1) := by decide +kernel
theorem dL_law_227 : decode cL_law 227 = .ok (.sipush 256, 3) := by decide +kernel
theorem dL_law_230 : decode cL_law 230 = .ok (.iconst 1, 1) := by decide +kernel
theorem dL_law_231 : decode cL_law 231 = .ok (.iload 8, 2) := by decide +kernel
theorem dL_law_233 : decode cL_law 233 = .ok (.bipush 15, 2) := by decide +kernel
theorem dL_law_235 : decode cL_law 235 = .ok (.ishr, 1) := by decide +kernel
theorem dL_law_236 : decode cL_law 236 = .ok (.bipush 9, 2) := by decide +kernel
theorem dL_law_238 : decode cL_law 238 = .ok (.invokestatic 117, 3) := by decide +kernel
theorem dL_law_241 : decode cL_law 241 = .ok (.iadd, 1) := by decide +kernel
theorem dL_law_242 : decode cL_law 242 = .ok (.imul, 1) := by decide +kernel
theorem dL_law_243 : decode cL_law 243 = .ok (.iadd, 1) := by decide +kernel
theorem dL_law_244 : decode cL_law 244 = .ok (.sipush 4096, 3) := by decide +kernel
theorem dL_law_247 : decode cL_law 247 = .ok (.iconst 1, 1) := by decide +kernel
theorem dL_law_248 : decode cL_law 248 = .ok (.iload 8, 2) := by decide +kernel
theorem dL_law_250 : decode cL_law 250 = .ok (.bipush 18, 2) := by decide +kernel
theorem dL_law_252 : decode cL_law 252 = .ok (.ishr, 1) := by decide +kernel
theorem dL_law_253 : decode cL_law 253 = .ok (.bipush 9, 2) := by decide +kernel
theorem dL_law_255 : decode cL_law 255 = .ok (.invokestatic 117, 3) := by decide +kernel
theorem dL_law_258 : decode cL_law 258 = .ok (.iadd, 1) := by decide +kernel
theorem dL_law_259 : decode cL_law 259 = .ok (.imul, 1) := by decide +kernel
theorem dL_law_260 : decode cL_law 260 = .ok (.iadd, 1) := by decide +kernel
theorem dL_law_261 : decode cL_law 261 = .ok (.iastore, 1) := by decide +kernel
theorem dL_law_262 : decode cL_law 262 = .ok (.aload_n 3, 1) := by decide +kernel
theorem dL_law_263 : decode cL_law 263 = .ok (.iload 15, 2) := by decide +kernel
theorem dL_law_265 : decode cL_law 265 = .ok (.iconst 0, 1) := by decide +kernel
theorem dL_law_266 : decode cL_law 266 = .ok (.iastore, 1) := by decide +kernel
theorem dL_law_267 : decode cL_law 267 = .ok (.aload 6, 2) := by decide +kernel
theorem dL_law_269 : decode cL_law 269 = .ok (.iconst 4, 1) := by decide +kernel
theorem dL_law_270 : decode cL_law 270 = .ok (.dup2, 1) := by decide +kernel
theorem dL_law_271 : decode cL_law 271 = .ok (.iaload, 1) := by decide +kernel
theorem dL_law_272 : decode cL_law 272 = .ok (.iconst 1, 1) := by decide +kernel
theorem dL_law_273 : decode cL_law 273 = .ok (.iadd, 1) := by decide +kernel
theorem dL_law_274 : decode cL_law 274 = .ok (.iastore, 1) := by decide +kernel
theorem dL_law_275 : decode cL_law 275 = .ok (.aload_n 1, 1) := by decide +kernel
theorem dL_law_276 : decode cL_law 276 = .ok (.iload 12, 2) := by decide +kernel
theorem dL_law_278 : decode cL_law 278 = .ok (.iload 13, 2) := by decide +kernel
theorem dL_law_280 : decode cL_law 280 = .ok (.iconst 1, 1) := by decide +kernel
theorem dL_law_281 : decode cL_law 281 = .ok (.iload 8, 2) := by decide +kernel
theorem dL_law_283 : decode cL_law 283 = .ok (.bipush 15, 2) := by decide +kernel
theorem dL_law_285 : decode cL_law 285 = .ok (.ishr, 1) := by decide +kernel
theorem dL_law_286 : decode cL_law 286 = .ok (.bipush 9, 2) := by decide +kernel
theorem dL_law_288 : decode cL_law 288 = .ok (.invokestatic 117, 3) := by decide +kernel
theorem dL_law_291 : decode cL_law 291 = .ok (.iadd, 1) := by decide +kernel
theorem dL_law_292 : decode cL_law 292 = .ok (.iconst 1, 1) := by decide +kernel
theorem dL_law_293 : decode cL_law 293 = .ok (.iload 8, 2) := by decide +kernel
theorem dL_law_295 : decode cL_law 295 = .ok (.bipush 18, 2) := by decide +kernel
theorem dL_law_297 : decode cL_law 297 = .ok (.ishr, 1) := by decide +kernel
theorem dL_law_298 : decode cL_law 298 = .ok (.bipush 9, 2) := by decide +kernel
theorem dL_law_300 : decode cL_law 300 = .ok (.invokestatic 117, 3) := by decide +kernel
theorem dL_law_303 : decode cL_law 303 = .ok (.iadd, 1) := by decide +kernel
theorem dL_law_304 : decode cL_law 304 = .ok (.invokevirtual 120, 3) := by decide +kernel
theorem dL_law_307 : decode cL_law 307 = .ok (.iload 14, 2) := by decide +kernel
theorem dL_law_309 : decode cL_law 309 = .ok (.ifCond .eq 8, 3) := by decide +kernel
theorem dL_law_312 : decode cL_law 312 = .ok (.bipush (-2), 2) := by decide +kernel
theorem dL_law_314 : decode cL_law 314 = .ok (.goto 5, 3) := by decide +kernel
theorem dL_law_317 : decode cL_law 317 = .ok (.iload 15, 2) := by decide +kernel
theorem dL_law_319 : decode cL_law 319 = .ok (.if_icmp .ne 7, 3) := by decide +kernel
theorem dL_law_322 : decode cL_law 322 = .ok (.iconst 1, 1) := by decide +kernel
theorem dL_law_323 : decode cL_law 323 = .ok (.goto 4, 3) := by decide +kernel
theorem dL_law_326 : decode cL_law 326 = .ok (.iconst 0, 1) := by decide +kernel
theorem dL_law_327 : decode cL_law 327 = .ok (.istore 11, 2) := by decide +kernel
theorem dL_law_329 : decode cL_law 329 = .ok (.goto 919, 3) := by decide +kernel
theorem dL_law_332 : decode cL_law 332 = .ok (.iload 9, 2) := by decide +kernel
theorem dL_law_334 : decode cL_law 334 = .ok (.iconst 5, 1) := by decide +kernel
theorem dL_law_335 : decode cL_law 335 = .ok (.if_icmp .ne 108, 3) := by decide +kernel
theorem dL_law_338 : decode cL_law 338 = .ok (.aload 6, 2) := by decide +kernel
theorem dL_law_340 : decode cL_law 340 = .ok (.iconst 5, 1) := by decide +kernel
theorem dL_law_341 : decode cL_law 341 = .ok (.iaload, 1) := by decide +kernel
theorem dL_law_342 : decode cL_law 342 = .ok (.iconst 5, 1) := by decide +kernel
theorem dL_law_343 : decode cL_law 343 = .ok (.if_icmp .ge 100, 3) := by decide +kernel
theorem dL_law_346 : decode cL_law 346 = .ok (.aload 6, 2) := by decide +kernel
theorem dL_law_348 : decode cL_law 348 = .ok (.iconst 5, 1) := by decide +kernel
theorem dL_law_349 : decode cL_law 349 = .ok (.iaload, 1) := by decide +kernel
theorem dL_law_350 : decode cL_law 350 = .ok (.istore 12, 2) := by decide +kernel
theorem dL_law_352 : decode cL_law 352 = .ok (.aload 5, 2) := by decide +kernel
theorem dL_law_354 : decode cL_law 354 = .ok (.iload 12, 2) := by decide +kernel
theorem dL_law_356 : decode cL_law 356 = .ok (.iload 8, 2) := by decide +kernel
theorem dL_law_358 : decode cL_law 358 = .ok (.bipush 7, 2) := by decide +kernel
theorem dL_law_360 : decode cL_law 360 = .ok (.ishr, 1) := by decide +kernel
theorem dL_law_361 : decode cL_law 361 = .ok (.bipush 10, 2) := by decide +kernel
theorem dL_law_363 : decode cL_law 363 = .ok (.invokestatic 117, 3) := by decide +kernel
theorem dL_law_366 : decode cL_law 366 = .ok (.iastore, 1) := by decide +kernel
theorem dL_law_367 : decode cL_law 367 = .ok (.aload 5, 2) := by decide +kernel
theorem dL_law_369 : decode cL_law 369 = .ok (.iconst 5, 1) := by decide +kernel
theorem dL_law_370 : decode cL_law 370 = .ok (.iload 12, 2) := by decide +kernel
theorem dL_law_372 : decode cL_law 372 = .ok (.iadd, 1) := by decide +kernel
theorem dL_law_373 : decode cL_law 373 = .ok (.iconst 1, 1) := by decide +kernel
theorem dL_law_374 : decode cL_law 374 = .ok (.iload 8, 2) := by decide +kernel
theorem dL_law_376 : decode cL_law 376 = .ok (.bipush 11, 2) := by decide +kernel
theorem dL_law_378 : decode cL_law 378 = .ok (.ishr, 1) := by decide +kernel
theorem dL_law_379 : decode cL_law 379 = .ok (.bipush 9, 2) := by decide +kernel
theorem dL_law_381 : decode cL_law 381 = .ok (.invokestatic 117, 3) := by decide +kernel
theorem dL_law_384 : decode cL_law 384 = .ok (.iadd, 1) := by decide +kernel
theorem dL_law_385 : decode cL_law 385 = .ok (.iastore, 1) := by decide +kernel
theorem dL_law_386 : decode cL_law 386 = .ok (.aload 5, 2) := by decide +kernel
theorem dL_law_388 : decode cL_law 388 = .ok (.bipush 10, 2) := by decide +kernel
theorem dL_law_390 : decode cL_law 390 = .ok (.iload 12, 2) := by decide +kernel
theorem dL_law_392 : decode cL_law 392 = .ok (.iadd, 1) := by decide +kernel
theorem dL_law_393 : decode cL_law 393 = .ok (.iconst 0, 1) := by decide +kernel
theorem dL_law_394 : decode cL_law 394 = .ok (.iastore, 1) := by decide +kernel
theorem dL_law_395 : decode cL_law 395 = .ok (.aload 5, 2) := by decide +kernel
theorem dL_law_397 : decode cL_law 397 = .ok (.bipush 15, 2) := by decide +kernel
theorem dL_law_399 : decode cL_law 399 = .ok (.iload 12, 2) := by decide +kernel
theorem dL_law_401 : decode cL_law 401 = .ok (.iadd, 1) := by decide +kernel
theorem dL_law_402 : decode cL_law 402 = .ok (.iconst 0, 1) := by decide +kernel
theorem dL_law_403 : decode cL_law 403 = .ok (.iastore, 1) := by decide +kernel
theorem dL_law_404 : decode cL_law 404 = .ok (.aload 6, 2) := by decide +kernel
theorem dL_law_406 : decode cL_law 406 = .ok (.iconst 5, 1) := by decide +kernel
theorem dL_law_407 : decode cL_law 407 = .ok (.dup2, 1) := by decide +kernel
theorem dL_law_408 : decode cL_law 408 = .ok (.iaload, 1) := by decide +kernel
theorem dL_law_409 : decode cL_law 409 = .ok (.iconst 1, 1) := by decide +kernel
theorem dL_law_410 : decode cL_law 410 = .ok (.iadd, 1) := by decide +kernel
theorem dL_law_411 : decode cL_law 411 = .ok (.iastore, 1) := by decide +kernel
theorem dL_law_412 : decode cL_law 412 = .ok (.aload_n 1, 1) := by decide +kernel
theorem dL_law_413 : decode cL_law 413 = .ok (.aload 5, 2) := by decide +kernel
theorem dL_law_415 : decode cL_law 415 = .ok (.iload 12, 2) := by decide +kernel
theorem dL_law_417 : decode cL_law 417 = .ok (.iaload, 1) := by decide +kernel
theorem dL_law_418 : decode cL_law 418 = .ok (.aload 5, 2) := by decide +kernel
theorem dL_law_420 : decode cL_law 420 = .ok (.iconst 5, 1) := by decide +kernel
theorem dL_law_421 : decode cL_law 421 = .ok (.iload 12, 2) := by decide +kernel
theorem dL_law_423 : decode cL_law 423 = .ok (.iadd, 1) := by decide +kernel
theorem dL_law_424 : decode cL_law 424 = .ok (.iaload, 1) := by decide +kernel
theorem dL_law_425 : decode cL_law 425 = .ok (.invokevirtual 124, 3) := by decide +kernel
theorem dL_law_428 : decode cL_law 428 = .ok (.iload 12, 2) := by decide +kernel
theorem dL_law_430 : decode cL_law 430 = .ok (.if_icmp .ne 7, 3) := by decide +kernel
theorem dL_law_433 : decode cL_law 433 = .ok (.iconst 1, 1) := by decide +kernel
theorem dL_law_434 : decode cL_law 434 = .ok (.goto 4, 3) := by decide +kernel
theorem dL_law_437 : decode cL_law 437 = .ok (.iconst 0, 1) := by decide +kernel
theorem dL_law_438 : decode cL_law 438 = .ok (.istore 11, 2) := by decide +kernel
theorem dL_law_440 : decode cL_law 440 = .ok (.goto 808, 3) := by decide +kernel
theorem dL_law_443 : decode cL_law 443 = .ok (.iload 9, 2) := by decide +kernel
theorem dL_law_445 : decode cL_law 445 = .ok (.bipush 6, 2) := by decide +kernel
theorem dL_law_447 : decode cL_law 447 = .ok (.if_icmp .ne 206, 3) := by decide +kernel
theorem dL_law_450 : decode cL_law 450 = .ok (.iload 8, 2) := by decide +kernel
theorem dL_law_452 : decode cL_law 452 = .ok (.bipush 7, 2) := by decide +kernel
theorem dL_law_454 : decode cL_law 454 = .ok (.ishr, 1) := by decide +kernel
theorem dL_law_455 : decode cL_law 455 = .ok (.aload 6, 2) := by decide +kernel
theorem dL_law_457 : decode cL_law 457 = .ok (.iconst 4, 1) := by decide +kernel
theorem dL_law_458 : decode cL_law 458 = .ok (.iaload, 1) := by decide +kernel
theorem dL_law_459 : decode cL_law 459 = .ok (.iconst 1, 1) := by decide +kernel
theorem dL_law_460 : decode cL_law 460 = .ok (.iadd, 1) := by decide +kernel
theorem dL_law_461 : decode cL_law 461 = .ok (.invokestatic 117, 3) := by decide +kernel
theorem dL_law_464 : decode cL_law 464 = .ok (.istore 12, 2) := by decide +kernel
theorem dL_law_466 : decode cL_law 466 = .ok (.iload 12, 2) := by decide +kernel
theorem dL_law_468 : decode cL_law 468 = .ok (.aload 6, 2) := by decide +kernel
theorem dL_law_470 : decode cL_law 470 = .ok (.iconst 4, 1) := by decide +kernel
theorem dL_law_471 : decode cL_law 471 = .ok (.iaload, 1) := by decide +kernel
theorem dL_law_472 : decode cL_law 472 = .ok (.if_icmp .ne 7, 3) := by decide +kernel
theorem dL_law_475 : decode cL_law 475 = .ok (.iconst 1, 1) := by decide +kernel
theorem dL_law_476 : decode cL_law 476 = .ok (.goto 4, 3) := by decide +kernel
theorem dL_law_479 : decode cL_law 479 = .ok (.iconst 0, 1) := by decide +kernel
theorem dL_law_480 : decode cL_law 480 = .ok (.istore 13, 2) := by decide +kernel
theorem dL_law_482 : decode cL_law 482 = .ok (.iload 13, 2) := by decide +kernel
theorem dL_law_484 : decode cL_law 484 = .ok (.ifCond .ne 137, 3) := by decide +kernel
theorem dL_law_487 : decode cL_law 487 = .ok (.aload 6, 2) := by decide +kernel
theorem dL_law_489 : decode cL_law 489 = .ok (.iconst 4, 1) := by decide +kernel
theorem dL_law_490 : decode cL_law 490 = .ok (.dup2, 1) := by decide +kernel
theorem dL_law_491 : decode cL_law 491 = .ok (.iaload, 1) := by decide +kernel
theorem dL_law_492 : decode cL_law 492 = .ok (.iconst 1, 1) := by decide +kernel
theorem dL_law_493 : decode cL_law 493 = .ok (.isub, 1) := by decide +kernel
theorem dL_law_494 : decode cL_law 494 = .ok (.iastore, 1) := by decide +kernel
theorem dL_law_495 : decode cL_law 495 = .ok (.iload 12, 2) := by decide +kernel
theorem dL_law_497 : decode cL_law 497 = .ok (.istore 14, 2) := by decide +kernel
theorem dL_law_499 : decode cL_law 499 = .ok (.iload 14, 2) := by decide +kernel
theorem dL_law_501 : decode cL_law 501 = .ok (.aload 6, 2) := by decide +kernel
theorem dL_law_503 : decode cL_law 503 = .ok (.iconst 4, 1) := by decide +kernel
theorem dL_law_504 : decode cL_law 504 = .ok (.iaload, 1) := by decide +kernel
theorem dL_law_505 : decode cL_law 505 = .ok (.if_icmp .ge 29, 3) := by decide +kernel
theorem dL_law_508 : decode cL_law 508 = .ok (.aload_n 2, 1) := by decide +kernel
theorem dL_law_509 : decode cL_law 509 = .ok (.iload 14, 2) := by decide +kernel
theorem dL_law_511 : decode cL_law 511 = .ok (.aload_n 2, 1) := by decide +kernel
theorem dL_law_512 : decode cL_law 512 = .ok (.iload 14, 2) := by decide +kernel
theorem dL_law_514 : decode cL_law 514 = .ok (.iconst 1, 1) := by decide +kernel
theorem dL_law_515 : decode cL_law 515 = .ok (.iadd, 1) := by decide +kernel
theorem dL_law_516 : decode cL_law 516 = .ok (.iaload, 1) := by decide +kernel
theorem dL_law_517 : decode cL_law 517 = .ok (.iastore, 1) := by decide +kernel
theorem dL_law_518 : decode cL_law 518 = .ok (.aload_n 3, 1) := by decide +kernel
theorem dL_law_519 : decode cL_law 519 = .ok (.iload 14, 2) := by decide +kernel
theorem dL_law_521 : decode cL_law 521 = .ok (.aload_n 3, 1) := by decide +kernel
theorem dL_law_522 : decode cL_law 522 = .ok (.iload 14, 2) := by decide +kernel
theorem dL_law_524 : decode cL_law 524 = .ok (.iconst 1, 1) := by decide +kernel
theorem dL_law_525 : decode cL_law 525 = .ok (.iadd, 1) := by decide +kernel
theorem dL_law_526 : decode cL_law 526 = .ok (.iaload, 1) := by decide +kernel
theorem dL_law_527 : decode cL_law 527 = .ok (.iastore, 1) := by decide +kernel
theorem dL_law_528 : decode cL_law 528 = .ok (.iinc 14 1, 3) := by decide +kernel
theorem dL_law_531 : decode cL_law 531 = .ok (.goto (-32), 3) := by decide +kernel
theorem dL_law_534 : decode cL_law 534 = .ok (.iconst 4, 1) := by decide +kernel
theorem dL_law_535 : decode cL_law 535 = .ok (.istore 14, 2) := by decide +kernel
theorem dL_law_537 : decode cL_law 537 = .ok (.iload 14, 2) := by decide +kernel
theorem dL_law_539 : decode cL_law 539 = .ok (.bipush 8, 2) := by decide +kernel
theorem dL_law_541 : decode cL_law 541 = .ok (.if_icmp .ge 80, 3) := by decide +kernel
theorem dL_law_544 : decode cL_law 544 = .ok (.iconst 0, 1) := by decide +kernel
theorem dL_law_545 : decode cL_law 545 = .ok (.istore 15, 2) := by decide +kernel
theorem dL_law_547 : decode cL_law 547 = .ok (.iconst 0, 1) := by decide +kernel
theorem dL_law_548 : decode cL_law 548 = .ok (.istore 16, 2) := by decide +kernel
theorem dL_law_550 : decode cL_law 550 = .ok (.iload 16, 2) := by decide +kernel
theorem dL_law_552 : decode cL_law 552 = .ok (.aload 6, 2) := by decide +kernel
theorem dL_law_554 : decode cL_law 554 = .ok (.iconst 4, 1) := by decide +kernel
theorem dL_law_555 : decode cL_law 555 = .ok (.iaload, 1) := by decide +kernel
theorem dL_law_556 : decode cL_law 556 = .ok (.if_icmp .gt 52, 3) := by decide +kernel
theorem dL_law_559 : decode cL_law 559 = .ok (.iload 15, 2) := by decide +kernel
theorem dL_law_561 : decode cL_law 561 = .ok (.iload 16, 2) := by decide +kernel
theorem dL_law_563 : decode cL_law 563 = .ok (.iload 12, 2) := by decide +kernel
theorem dL_law_565 : decode cL_law 565 = .ok (.if_icmp .ne 7, 3) := by decide +kernel
theorem dL_law_568 : decode cL_law 568 = .ok (.iconst 0, 1) := by decide +kernel
theorem dL_law_569 : decode cL_law 569 = .ok (.goto 30, 3) := by decide +kernel
theorem dL_law_572 : decode cL_law 572 = .ok (.aload 4, 2) := by decide +kernel
theorem dL_law_574 : decode cL_law 574 = .ok (.iload 14, 2) := by decide +kernel
theorem dL_law_576 : decode cL_law 576 = .ok (.iaload, 1) := by decide +kernel
theorem dL_law_577 : decode cL_law 577 = .ok (.iload 16, 2) := by decide +kernel
theorem dL_law_579 : decode cL_law 579 = .ok (.ishr, 1) := by decide +kernel
theorem dL_law_580 : decode cL_law 580 = .ok (.iconst 1, 1) := by decide +kernel
theorem dL_law_581 : decode cL_law 581 = .ok (.iand, 1) := by decide +kernel
theorem dL_law_582 : decode cL_law 582 = .ok (.iload 16, 2) := by decide +kernel
theorem dL_law_584 : decode cL_law 584 = .ok (.iload 12, 2) := by decide +kernel
theorem dL_law_586 : decode cL_law 586 = .ok (.if_icmp .ge 8, 3) := by decide +kernel
theorem dL_law_589 : decode cL_law 589 = .ok (.iload 16, 2) := by decide +kernel
theorem dL_law_591 : decode cL_law 591 = .ok (.goto 7, 3) := by decide +kernel
theorem dL_law_594 : decode cL_law 594 = .ok (.iload 16, 2) := by decide +kernel
theorem dL_law_596 : decode cL_law 596 = .ok (.iconst 1, 1) := by decide +kernel
theorem dL_law_597 : decode cL_law 597 = .ok (.isub, 1) := by decide +kernel
theorem dL_law_598 : decode cL_law 598 = .ok (.ishl, 1) := by decide +kernel
theorem dL_law_599 : decode cL_law 599 = .ok (.ior, 1) := by decide +kernel
theorem dL_law_600 : decode cL_law 600 = .ok (.istore 15, 2) := by decide +kernel
theorem dL_law_602 : decode cL_law 602 = .ok (.iinc 16 1, 3) := by decide +kernel
theorem dL_law_605 : decode cL_law 605 = .ok (.goto (-55), 3) := by decide +kernel
theorem dL_law_608 : decode cL_law 608 = .ok (.aload 4, 2) := by decide +kernel
theorem dL_law_610 : decode cL_law 610 = .ok (.iload 14, 2) := by decide +kernel
theorem dL_law_612 : decode cL_law 612 = .ok (.iload 15, 2) := by decide +kernel
theorem dL_law_614 : decode cL_law 614 = .ok (.iastore, 1) := by decide +kernel
theorem dL_law_615 : decode cL_law 615 = .ok (.iinc 14 1, 3) := by decide +kernel
theorem dL_law_618 : decode cL_law 618 = .ok (.goto (-81), 3) := by decide +kernel
theorem dL_law_621 : decode cL_law 621 = .ok (.aload_n 1, 1) := by decide +kernel
theorem dL_law_622 : decode cL_law 622 = .ok (.iload 12, 2) := by decide +kernel
theorem dL_law_624 : decode cL_law 624 = .ok (.invokevirtual 127, 3) := by decide +kernel
theorem dL_law_627 : decode cL_law 627 = .ok (.iload 13, 2) := by decide +kernel
theorem dL_law_629 : decode cL_law 629 = .ok (.ifCond .eq 7, 3) := by decide +kernel
theorem dL_law_632 : decode cL_law 632 = .ok (.iconst (-1), 1) := by decide +kernel
theorem dL_law_633 : decode cL_law 633 = .ok (.goto 7, 3) := by decide +kernel
theorem dL_law_636 : decode cL_law 636 = .ok (.aload 6, 2) := by decide +kernel
theorem dL_law_638 : decode cL_law 638 = .ok (.iconst 4, 1) := by decide +kernel
theorem dL_law_639 : decode cL_law 639 = .ok (.iaload, 1) := by decide +kernel
theorem dL_law_640 : decode cL_law 640 = .ok (.if_icmp .ne 7, 3) := by decide +kernel
theorem dL_law_643 : decode cL_law 643 = .ok (.iconst 1, 1) := by decide +kernel
theorem dL_law_644 : decode cL_law 644 = .ok (.goto 4, 3) := by decide +kernel
theorem dL_law_647 : decode cL_law 647 = .ok (.iconst 0, 1) := by decide +kernel
theorem dL_law_648 : decode cL_law 648 = .ok (.istore 11, 2) := by decide +kernel
theorem dL_law_650 : decode cL_law 650 = .ok (.goto 598, 3) := by decide +kernel
theorem dL_law_653 : decode cL_law 653 = .ok (.iload 9, 2) := by decide +kernel
theorem dL_law_655 : decode cL_law 655 = .ok (.bipush 7, 2) := by decide +kernel
theorem dL_law_657 : decode cL_law 657 = .ok (.if_icmp .ne 115, 3) := by decide +kernel
theorem dL_law_660 : decode cL_law 660 = .ok (.iload 8, 2) := by decide +kernel
theorem dL_law_662 : decode cL_law 662 = .ok (.bipush 7, 2) := by decide +kernel
theorem dL_law_664 : decode cL_law 664 = .ok (.ishr, 1) := by decide +kernel
theorem dL_law_665 : decode cL_law 665 = .ok (.iconst 2, 1) := by decide +kernel
theorem dL_law_666 : decode cL_law 666 = .ok (.invokestatic 117, 3) := by decide +kernel
theorem dL_law_669 : decode cL_law 669 = .ok (.istore 12, 2) := by decide +kernel
theorem dL_law_671 : decode cL_law 671 = .ok (.iload 12, 2) := by decide +kernel
theorem dL_law_673 : decode cL_law 673 = .ok (.ifCond .ne 37, 3) := by decide +kernel
theorem dL_law_676 : decode cL_law 676 = .ok (.bipush 10, 2) := by decide +kernel
theorem dL_law_678 : decode cL_law 678 = .ok (.iload 8, 2) := by decide +kernel
theorem dL_law_680 : decode cL_law 680 = .ok (.bipush 8, 2) := by decide +kernel
theorem dL_law_682 : decode cL_law 682 = .ok (.ishr, 1) := by decide +kernel
theorem dL_law_683 : decode cL_law 683 = .ok (.iload 8, 2) := by decide +kernel
theorem dL_law_685 : decode cL_law 685 = .ok (.bipush 25, 2) := by decide +kernel
theorem dL_law_687 : decode cL_law 687 = .ok (.ishr, 1) := by decide +kernel
theorem dL_law_688 : decode cL_law 688 = .ok (.iconst 2, 1) := by decide +kernel
theorem dL_law_689 : decode cL_law 689 = .ok (.invokestatic 117, 3) := by decide +kernel
theorem dL_law_692 : decode cL_law 692 = .ok (.ifCond .ne 9, 3) := by decide +kernel
theorem dL_law_695 : decode cL_law 695 = .ok (.sipush 191, 3) := by decide +kernel
theorem dL_law_698 : decode cL_law 698 = .ok (.goto 5, 3) := by decide +kernel
theorem dL_law_701 : decode cL_law 701 = .ok (.bipush 20, 2) := by decide +kernel
theorem dL_law_703 : decode cL_law 703 = .ok (.invokestatic 117, 3) := by decide +kernel
theorem dL_law_706 : decode cL_law 706 = .ok (.iadd, 1) := by decide +kernel
theorem dL_law_707 : decode cL_law 707 = .ok (.goto 30, 3) := by decide +kernel
theorem dL_law_710 : decode cL_law 710 = .ok (.iload 8, 2) := by decide +kernel
theorem dL_law_712 : decode cL_law 712 = .ok (.bipush 8, 2) := by decide +kernel
theorem dL_law_714 : decode cL_law 714 = .ok (.ishr, 1) := by decide +kernel
theorem dL_law_715 : decode cL_law 715 = .ok (.iload 8, 2) := by decide +kernel
theorem dL_law_717 : decode cL_law 717 = .ok (.bipush 25, 2) := by decide +kernel
theorem dL_law_719 : decode cL_law 719 = .ok (.ishr, 1) := by decide +kernel
theorem dL_law_720 : decode cL_law 720 = .ok (.iconst 2, 1) := by decide +kernel
theorem dL_law_721 : decode cL_law 721 = .ok (.invokestatic 117, 3) := by decide +kernel
theorem dL_law_724 : decode cL_law 724 = .ok (.ifCond .ne 8, 3) := by decide +kernel
theorem dL_law_727 : decode cL_law 727 = .ok (.bipush 61, 2) := by decide +kernel
theorem dL_law_729 : decode cL_law 729 = .ok (.goto 5, 3) := by decide +kernel
theorem dL_law_732 : decode cL_law 732 = .ok (.bipush 8, 2) := by decide +kernel
theorem dL_law_734 : decode cL_law 734 = .ok (.invokestatic 117, 3) := by decide +kernel
theorem dL_law_737 : decode cL_law 737 = .ok (.istore 13, 2) := by decide +kernel
theorem dL_law_739 : decode cL_law 739 = .ok (.aload_n 1, 1) := by decide +kernel
theorem dL_law_740 : decode cL_law 740 = .ok (.iload 12, 2) := by decide +kernel
theorem dL_law_742 : decode cL_law 742 = .ok (.iload 13, 2) := by decide +kernel
theorem dL_law_744 : decode cL_law 744 = .ok (.invokevirtual 130, 3) := by decide +kernel
theorem dL_law_747 : decode cL_law 747 = .ok (.aload 6, 2) := by decide +kernel
theorem dL_law_749 : decode cL_law 749 = .ok (.iload 12, 2) := by decide +kernel
theorem dL_law_751 : decode cL_law 751 = .ok (.iaload, 1) := by decide +kernel
theorem dL_law_752 : decode cL_law 752 = .ok (.if_icmp .ne 7, 3) := by decide +kernel
theorem dL_law_755 : decode cL_law 755 = .ok (.iconst 1, 1) := by decide +kernel
theorem dL_law_756 : decode cL_law 756 = .ok (.goto 4, 3) := by decide +kernel
theorem dL_law_759 : decode cL_law 759 = .ok (.iconst 0, 1) := by decide +kernel
theorem dL_law_760 : decode cL_law 760 = .ok (.istore 11, 2) := by decide +kernel
theorem dL_law_762 : decode cL_law 762 = .ok (.aload 6, 2) := by decide +kernel
theorem dL_law_764 : decode cL_law 764 = .ok (.iload 12, 2) := by decide +kernel
theorem dL_law_766 : decode cL_law 766 = .ok (.iload 13, 2) := by decide +kernel
theorem dL_law_768 : decode cL_law 768 = .ok (.iastore, 1) := by decide +kernel
theorem dL_law_769 : decode cL_law 769 = .ok (.goto 479, 3) := by decide +kernel
theorem dL_law_772 : decode cL_law 772 = .ok (.iload 9, 2) := by decide +kernel
theorem dL_law_774 : decode cL_law 774 = .ok (.bipush 8, 2) := by decide +kernel
theorem dL_law_776 : decode cL_law 776 = .ok (.if_icmp .ne 48, 3) := by decide +kernel
theorem dL_law_779 : decode cL_law 779 = .ok (.iload 8, 2) := by decide +kernel
theorem dL_law_781 : decode cL_law 781 = .ok (.bipush 7, 2) := by decide +kernel
theorem dL_law_783 : decode cL_law 783 = .ok (.ishr, 1) := by decide +kernel
theorem dL_law_784 : decode cL_law 784 = .ok (.bipush 10, 2) := by decide +kernel
theorem dL_law_786 : decode cL_law 786 = .ok (.invokestatic 117, 3) := by decide +kernel
theorem dL_law_789 : decode cL_law 789 = .ok (.istore 12, 2) := by decide +kernel
theorem dL_law_791 : decode cL_law 791 = .ok (.aload_n 1, 1) := by decide +kernel
theorem dL_law_792 : decode cL_law 792 = .ok (.iload 10, 2) := by decide +kernel
theorem dL_law_794 : decode cL_law 794 = .ok (.iload 12, 2) := by decide +kernel
theorem dL_law_796 : decode cL_law 796 = .ok (.invokevirtual 133, 3) := by decide +kernel
theorem dL_law_799 : decode cL_law 799 = .ok (.aload 4, 2) := by decide +kernel
theorem dL_law_801 : decode cL_law 801 = .ok (.iload 10, 2) := by decide +kernel
theorem dL_law_803 : decode cL_law 803 = .ok (.iaload, 1) := by decide +kernel
theorem dL_law_804 : decode cL_law 804 = .ok (.if_icmp .ne 7, 3) := by decide +kernel
theorem dL_law_807 : decode cL_law 807 = .ok (.iconst 1, 1) := by decide +kernel
theorem dL_law_808 : decode cL_law 808 = .ok (.goto 4, 3) := by decide +kernel
theorem dL_law_811 : decode cL_law 811 = .ok (.iconst 0, 1) := by decide +kernel
theorem dL_law_812 : decode cL_law 812 = .ok (.istore 11, 2) := by decide +kernel
theorem dL_law_814 : decode cL_law 814 = .ok (.aload 4, 2) := by decide +kernel
theorem dL_law_816 : decode cL_law 816 = .ok (.iload 10, 2) := by decide +kernel
theorem dL_law_818 : decode cL_law 818 = .ok (.iload 12, 2) := by decide +kernel
theorem dL_law_820 : decode cL_law 820 = .ok (.iastore, 1) := by decide +kernel
theorem dL_law_821 : decode cL_law 821 = .ok (.goto 427, 3) := by decide +kernel
theorem dL_law_824 : decode cL_law 824 = .ok (.iload 9, 2) := by decide +kernel
theorem dL_law_826 : decode cL_law 826 = .ok (.bipush 15, 2) := by decide +kernel
theorem dL_law_828 : decode cL_law 828 = .ok (.if_icmp .ge 172, 3) := by decide +kernel
theorem dL_law_831 : decode cL_law 831 = .ok (.iload 8, 2) := by decide +kernel
theorem dL_law_833 : decode cL_law 833 = .ok (.bipush 7, 2) := by decide +kernel
theorem dL_law_835 : decode cL_law 835 = .ok (.ishr, 1) := by decide +kernel
theorem dL_law_836 : decode cL_law 836 = .ok (.aload 6, 2) := by decide +kernel
theorem dL_law_838 : decode cL_law 838 = .ok (.iconst 4, 1) := by decide +kernel
theorem dL_law_839 : decode cL_law 839 = .ok (.iaload, 1) := by decide +kernel
theorem dL_law_840 : decode cL_law 840 = .ok (.invokestatic 117, 3) := by decide +kernel
theorem dL_law_843 : decode cL_law 843 = .ok (.istore 12, 2) := by decide +kernel
theorem dL_law_845 : decode cL_law 845 = .ok (.iconst 0, 1) := by decide +kernel
theorem dL_law_846 : decode cL_law 846 = .ok (.istore 13, 2) := by decide +kernel
theorem dL_law_848 : decode cL_law 848 = .ok (.iload 13, 2) := by decide +kernel
theorem dL_law_850 : decode cL_law 850 = .ok (.aload 6, 2) := by decide +kernel
theorem dL_law_852 : decode cL_law 852 = .ok (.iconst 4, 1) := by decide +kernel
theorem dL_law_853 : decode cL_law 853 = .ok (.iaload, 1) := by decide +kernel
theorem dL_law_854 : decode cL_law 854 = .ok (.if_icmp .ge 48, 3) := by decide +kernel
theorem dL_law_857 : decode cL_law 857 = .ok (.aload_n 2, 1) := by decide +kernel
theorem dL_law_858 : decode cL_law 858 = .ok (.iload 12, 2) := by decide +kernel
theorem dL_law_860 : decode cL_law 860 = .ok (.invokestatic 10, 3) := by decide +kernel
theorem dL_law_863 : decode cL_law 863 = .ok (.aload 4, 2) := by decide +kernel
theorem dL_law_865 : decode cL_law 865 = .ok (.iload 10, 2) := by decide +kernel
theorem dL_law_867 : decode cL_law 867 = .ok (.iaload, 1) := by decide +kernel
theorem dL_law_868 : decode cL_law 868 = .ok (.if_icmp .eq 34, 3) := by decide +kernel
theorem dL_law_871 : decode cL_law 871 = .ok (.aload_n 2, 1) := by decide +kernel
theorem dL_law_872 : decode cL_law 872 = .ok (.iload 12, 2) := by decide +kernel
theorem dL_law_874 : decode cL_law 874 = .ok (.invokestatic 16, 3) := by decide +kernel
theorem dL_law_877 : decode cL_law 877 = .ok (.aload 4, 2) := by decide +kernel
theorem dL_law_879 : decode cL_law 879 = .ok (.iload 10, 2) := by decide +kernel
theorem dL_law_881 : decode cL_law 881 = .ok (.iaload, 1) := by decide +kernel
theorem dL_law_882 : decode cL_law 882 = .ok (.if_icmp .eq 20, 3) := by decide +kernel
theorem dL_law_885 : decode cL_law 885 = .ok (.iload 12, 2) := by decide +kernel
theorem dL_law_887 : decode cL_law 887 = .ok (.iconst 1, 1) := by decide +kernel
theorem dL_law_888 : decode cL_law 888 = .ok (.iadd, 1) := by decide +kernel
theorem dL_law_889 : decode cL_law 889 = .ok (.aload 6, 2) := by decide +kernel
theorem dL_law_891 : decode cL_law 891 = .ok (.iconst 4, 1) := by decide +kernel
theorem dL_law_892 : decode cL_law 892 = .ok (.iaload, 1) := by decide +kernel
theorem dL_law_893 : decode cL_law 893 = .ok (.irem, 1) := by decide +kernel
theorem dL_law_894 : decode cL_law 894 = .ok (.istore 12, 2) := by decide +kernel
theorem dL_law_896 : decode cL_law 896 = .ok (.iinc 13 1, 3) := by decide +kernel
theorem dL_law_899 : decode cL_law 899 = .ok (.goto (-51), 3) := by decide +kernel
theorem dL_law_902 : decode cL_law 902 = .ok (.aload_n 2, 1) := by decide +kernel
theorem dL_law_903 : decode cL_law 903 = .ok (.iload 12, 2) := by decide +kernel
theorem dL_law_905 : decode cL_law 905 = .ok (.invokestatic 10, 3) := by decide +kernel
theorem dL_law_908 : decode cL_law 908 = .ok (.aload 4, 2) := by decide +kernel
theorem dL_law_910 : decode cL_law 910 = .ok (.iload 10, 2) := by decide +kernel
theorem dL_law_912 : decode cL_law 912 = .ok (.iaload, 1) := by decide +kernel
theorem dL_law_913 : decode cL_law 913 = .ok (.if_icmp .eq 17, 3) := by decide +kernel
theorem dL_law_916 : decode cL_law 916 = .ok (.aload_n 2, 1) := by decide +kernel
theorem dL_law_917 : decode cL_law 917 = .ok (.iload 12, 2) := by decide +kernel
theorem dL_law_919 : decode cL_law 919 = .ok (.invokestatic 16, 3) := by decide +kernel
theorem dL_law_922 : decode cL_law 922 = .ok (.aload 4, 2) := by decide +kernel
theorem dL_law_924 : decode cL_law 924 = .ok (.iload 10, 2) := by decide +kernel
theorem dL_law_926 : decode cL_law 926 = .ok (.iaload, 1) := by decide +kernel
theorem dL_law_927 : decode cL_law 927 = .ok (.if_icmp .ne 24, 3) := by decide +kernel
theorem dL_law_930 : decode cL_law 930 = .ok (.aload_n 2, 1) := by decide +kernel
theorem dL_law_931 : decode cL_law 931 = .ok (.aload 4, 2) := by decide +kernel
theorem dL_law_933 : decode cL_law 933 = .ok (.aload 5, 2) := by decide +kernel
theorem dL_law_935 : decode cL_law 935 = .ok (.aload 6, 2) := by decide +kernel
theorem dL_law_937 : decode cL_law 937 = .ok (.iload 10, 2) := by decide +kernel
theorem dL_law_939 : decode cL_law 939 = .ok (.iload 12, 2) := by decide +kernel
theorem dL_law_941 : decode cL_law 941 = .ok (.invokestatic 40, 3) := by decide +kernel
theorem dL_law_944 : decode cL_law 944 = .ok (.ifCond .eq 7, 3) := by decide +kernel
theorem dL_law_947 : decode cL_law 947 = .ok (.iconst 1, 1) := by decide +kernel
theorem dL_law_948 : decode cL_law 948 = .ok (.goto 4, 3) := by decide +kernel
theorem dL_law_951 : decode cL_law 951 = .ok (.iconst 0, 1) := by decide +kernel
theorem dL_law_952 : decode cL_law 952 = .ok (.istore 13, 2) := by decide +kernel
theorem dL_law_954 : decode cL_law 954 = .ok (.aload_n 1, 1) := by decide +kernel
theorem dL_law_955 : decode cL_law 955 = .ok (.iload 10, 2) := by decide +kernel
theorem dL_law_957 : decode cL_law 957 = .ok (.iload 12, 2) := by decide +kernel
theorem dL_law_959 : decode cL_law 959 = .ok (.invokevirtual 136, 3) := by decide +kernel
theorem dL_law_962 : decode cL_law 962 = .ok (.iload 13, 2) := by decide +kernel
theorem dL_law_964 : decode cL_law 964 = .ok (.ifCond .eq 21, 3) := by decide +kernel
theorem dL_law_967 : decode cL_law 967 = .ok (.aload_n 2, 1) := by decide +kernel
theorem dL_law_968 : decode cL_law 968 = .ok (.aload_n 3, 1) := by decide +kernel
theorem dL_law_969 : decode cL_law 969 = .ok (.aload 4, 2) := by decide +kernel
theorem dL_law_971 : decode cL_law 971 = .ok (.aload 5, 2) := by decide +kernel
theorem dL_law_973 : decode cL_law 973 = .ok (.aload 6, 2) := by decide +kernel
theorem dL_law_975 : decode cL_law 975 = .ok (.iload 10, 2) := by decide +kernel
theorem dL_law_977 : decode cL_law 977 = .ok (.iload 12, 2) := by decide +kernel
theorem dL_law_979 : decode cL_law 979 = .ok (.invokestatic 139, 3) := by decide +kernel
theorem dL_law_982 : decode cL_law 982 = .ok (.goto 5, 3) := by decide +kernel
theorem dL_law_985 : decode cL_law 985 = .ok (.bipush (-5), 2) := by decide +kernel
theorem dL_law_987 : decode cL_law 987 = .ok (.if_icmp .ne 7, 3) := by decide +kernel
theorem dL_law_990 : decode cL_law 990 = .ok (.iconst 1, 1) := by decide +kernel
theorem dL_law_991 : decode cL_law 991 = .ok (.goto 4, 3) := by decide +kernel
theorem dL_law_994 : decode cL_law 994 = .ok (.iconst 0, 1) := by decide +kernel
theorem dL_law_995 : decode cL_law 995 = .ok (.istore 11, 2) := by decide +kernel
theorem dL_law_997 : decode cL_law 997 = .ok (.goto 251, 3) := by decide +kernel
theorem dL_law_1000 : decode cL_law 1000 = .ok (.iload 9, 2) := by decide +kernel
theorem dL_law_1002 : decode cL_law 1002 = .ok (.bipush 17, 2) := by decide +kernel
theorem dL_law_1004 : decode cL_law 1004 = .ok (.if_icmp .ge 181, 3) := by decide +kernel
theorem dL_law_1007 : decode cL_law 1007 = .ok (.iload 8, 2) := by decide +kernel
theorem dL_law_1009 : decode cL_law 1009 = .ok (.bipush 7, 2) := by decide +kernel
theorem dL_law_1011 : decode cL_law 1011 = .ok (.ishr, 1) := by decide +kernel
theorem dL_law_1012 : decode cL_law 1012 = .ok (.bipush 10, 2) := by decide +kernel
theorem dL_law_1014 : decode cL_law 1014 = .ok (.invokestatic 117, 3) := by decide +kernel
theorem dL_law_1017 : decode cL_law 1017 = .ok (.istore 12, 2) := by decide +kernel
theorem dL_law_1019 : decode cL_law 1019 = .ok (.aload_n 2, 1) := by decide +kernel
theorem dL_law_1020 : decode cL_law 1020 = .ok (.aload 4, 2) := by decide +kernel
theorem dL_law_1022 : decode cL_law 1022 = .ok (.aload 5, 2) := by decide +kernel
theorem dL_law_1024 : decode cL_law 1024 = .ok (.aload 6, 2) := by decide +kernel
theorem dL_law_1026 : decode cL_law 1026 = .ok (.iload 10, 2) := by decide +kernel
theorem dL_law_1028 : decode cL_law 1028 = .ok (.invokestatic 56, 3) := by decide +kernel
theorem dL_law_1031 : decode cL_law 1031 = .ok (.istore 13, 2) := by decide +kernel
theorem dL_law_1033 : decode cL_law 1033 = .ok (.aload_n 2, 1) := by decide +kernel
theorem dL_law_1034 : decode cL_law 1034 = .ok (.aload 6, 2) := by decide +kernel
theorem dL_law_1036 : decode cL_law 1036 = .ok (.iload 12, 2) := by decide +kernel
theorem dL_law_1038 : decode cL_law 1038 = .ok (.iload 13, 2) := by decide +kernel
theorem dL_law_1040 : decode cL_law 1040 = .ok (.invokestatic 60, 3) := by decide +kernel
theorem dL_law_1043 : decode cL_law 1043 = .ok (.astore 14, 2) := by decide +kernel
theorem dL_law_1045 : decode cL_law 1045 = .ok (.aload 14, 2) := by decide +kernel
theorem dL_law_1047 : decode cL_law 1047 = .ok (.aload 4, 2) := by decide +kernel
theorem dL_law_1049 : decode cL_law 1049 = .ok (.iload 10, 2) := by decide +kernel
theorem dL_law_1051 : decode cL_law 1051 = .ok (.iaload, 1) := by decide +kernel
theorem dL_law_1052 : decode cL_law 1052 = .ok (.iaload, 1) := by decide +kernel
theorem dL_law_1053 : decode cL_law 1053 = .ok (.ldc 55, 2) := by decide +kernel
theorem dL_law_1055 : decode cL_law 1055 = .ok (.if_icmp .lt 7, 3) := by decide +kernel
theorem dL_law_1058 : decode cL_law 1058 = .ok (.iconst 1, 1) := by decide +kernel
theorem dL_law_1059 : decode cL_law 1059 = .ok (.goto 4, 3) := by decide +kernel
theorem dL_law_1062 : decode cL_law 1062 = .ok (.iconst 0, 1) := by decide +kernel
theorem dL_law_1063 : decode cL_law 1063 = .ok (.istore 15, 2) := by decide +kernel
theorem dL_law_1065 : decode cL_law 1065 = .ok (.iload 15, 2) := by decide +kernel
theorem dL_law_1067 : decode cL_law 1067 = .ok (.ifCond .ne 7, 3) := by decide +kernel
theorem dL_law_1070 : decode cL_law 1070 = .ok (.iconst 1, 1) := by decide +kernel
theorem dL_law_1071 : decode cL_law 1071 = .ok (.goto 4, 3) := by decide +kernel
theorem dL_law_1074 : decode cL_law 1074 = .ok (.iconst 0, 1) := by decide +kernel
theorem dL_law_1075 : decode cL_law 1075 = .ok (.istore 16, 2) := by decide +kernel
theorem dL_law_1077 : decode cL_law 1077 = .ok (.iload 16, 2) := by decide +kernel
theorem dL_law_1079 : decode cL_law 1079 = .ok (.ifCond .eq 70, 3) := by decide +kernel
theorem dL_law_1082 : decode cL_law 1082 = .ok (.aload 4, 2) := by decide +kernel
theorem dL_law_1084 : decode cL_law 1084 = .ok (.iload 10, 2) := by decide +kernel
theorem dL_law_1086 : decode cL_law 1086 = .ok (.iaload, 1) := by decide +kernel
theorem dL_law_1087 : decode cL_law 1087 = .ok (.iload 12, 2) := by decide +kernel
theorem dL_law_1089 : decode cL_law 1089 = .ok (.if_icmp .eq 60, 3) := by decide +kernel
theorem dL_law_1092 : decode cL_law 1092 = .ok (.aload_n 2, 1) := by decide +kernel
theorem dL_law_1093 : decode cL_law 1093 = .ok (.aload 6, 2) := by decide +kernel
theorem dL_law_1095 : decode cL_law 1095 = .ok (.aload 14, 2) := by decide +kernel
theorem dL_law_1097 : decode cL_law 1097 = .ok (.aload 4, 2) := by decide +kernel
theorem dL_law_1099 : decode cL_law 1099 = .ok (.iload 10, 2) := by decide +kernel
theorem dL_law_1101 : decode cL_law 1101 = .ok (.iaload, 1) := by decide +kernel
theorem dL_law_1102 : decode cL_law 1102 = .ok (.iload 13, 2) := by decide +kernel
theorem dL_law_1104 : decode cL_law 1104 = .ok (.invokestatic 72, 3) := by decide +kernel
theorem dL_law_1107 : decode cL_law 1107 = .ok (.istore 17, 2) := by decide +kernel
theorem dL_law_1109 : decode cL_law 1109 = .ok (.aload_n 2, 1) := by decide +kernel
theorem dL_law_1110 : decode cL_law 1110 = .ok (.aload 4, 2) := by decide +kernel
theorem dL_law_1112 : decode cL_law 1112 = .ok (.aload 5, 2) := by decide +kernel
theorem dL_law_1114 : decode cL_law 1114 = .ok (.aload 6, 2) := by decide +kernel
theorem dL_law_1116 : decode cL_law 1116 = .ok (.iload 10, 2) := by decide +kernel
theorem dL_law_1118 : decode cL_law 1118 = .ok (.iload 17, 2) := by decide +kernel
theorem dL_law_1120 : decode cL_law 1120 = .ok (.invokestatic 40, 3) := by decide +kernel
theorem dL_law_1123 : decode cL_law 1123 = .ok (.istore 16, 2) := by decide +kernel
theorem dL_law_1125 : decode cL_law 1125 = .ok (.iload 16, 2) := by decide +kernel
theorem dL_law_1127 : decode cL_law 1127 = .ok (.ifCond .eq 19, 3) := by decide +kernel
theorem dL_law_1130 : decode cL_law 1130 = .ok (.aload_n 2, 1) := by decide +kernel
theorem dL_law_1131 : decode cL_law 1131 = .ok (.aload_n 3, 1) := by decide +kernel
theorem dL_law_1132 : decode cL_law 1132 = .ok (.aload 4, 2) := by decide +kernel
theorem dL_law_1134 : decode cL_law 1134 = .ok (.aload 5, 2) := by decide +kernel
theorem dL_law_1136 : decode cL_law 1136 = .ok (.aload 6, 2) := by decide +kernel
theorem dL_law_1138 : decode cL_law 1138 = .ok (.iload 10, 2) := by decide +kernel
theorem dL_law_1140 : decode cL_law 1140 = .ok (.iload 17, 2) := by decide +kernel
theorem dL_law_1142 : decode cL_law 1142 = .ok (.invokestatic 139, 3) := by decide +kernel
theorem dL_law_1145 : decode cL_law 1145 = .ok (.pop, 1) := by decide +kernel
theorem dL_law_1146 : decode cL_law 1146 = .ok (.goto (-69), 3) := by decide +kernel
theorem dL_law_1149 : decode cL_law 1149 = .ok (.aload_n 1, 1) := by decide +kernel
theorem dL_law_1150 : decode cL_law 1150 = .ok (.iload 10, 2) := by decide +kernel
theorem dL_law_1152 : decode cL_law 1152 = .ok (.iload 12, 2) := by decide +kernel
theorem dL_law_1154 : decode cL_law 1154 = .ok (.invokevirtual 142, 3) := by decide +kernel
theorem dL_law_1157 : decode cL_law 1157 = .ok (.iload 15, 2) := by decide +kernel
theorem dL_law_1159 : decode cL_law 1159 = .ok (.ifCond .eq 8, 3) := by decide +kernel
theorem dL_law_1162 : decode cL_law 1162 = .ok (.bipush (-5), 2) := by decide +kernel
theorem dL_law_1164 : decode cL_law 1164 = .ok (.goto 8, 3) := by decide +kernel
theorem dL_law_1167 : decode cL_law 1167 = .ok (.aload 4, 2) := by decide +kernel
theorem dL_law_1169 : decode cL_law 1169 = .ok (.iload 10, 2) := by decide +kernel
theorem dL_law_1171 : decode cL_law 1171 = .ok (.iaload, 1) := by decide +kernel
theorem dL_law_1172 : decode cL_law 1172 = .ok (.if_icmp .ne 7, 3) := by decide +kernel
theorem dL_law_1175 : decode cL_law 1175 = .ok (.iconst 1, 1) := by decide +kernel
theorem dL_law_1176 : decode cL_law 1176 = .ok (.goto 4, 3) := by decide +kernel
theorem dL_law_1179 : decode cL_law 1179 = .ok (.iconst 0, 1) := by decide +kernel
theorem dL_law_1180 : decode cL_law 1180 = .ok (.istore 11, 2) := by decide +kernel
theorem dL_law_1182 : decode cL_law 1182 = .ok (.goto 66, 3) := by decide +kernel
theorem dL_law_1185 : decode cL_law 1185 = .ok (.iconst 1, 1) := by decide +kernel
theorem dL_law_1186 : decode cL_law 1186 = .ok (.iload 8, 2) := by decide +kernel
theorem dL_law_1188 : decode cL_law 1188 = .ok (.bipush 7, 2) := by decide +kernel
theorem dL_law_1190 : decode cL_law 1190 = .ok (.ishr, 1) := by decide +kernel
theorem dL_law_1191 : decode cL_law 1191 = .ok (.iload 8, 2) := by decide +kernel
theorem dL_law_1193 : decode cL_law 1193 = .ok (.bipush 25, 2) := by decide +kernel
theorem dL_law_1195 : decode cL_law 1195 = .ok (.ishr, 1) := by decide +kernel
theorem dL_law_1196 : decode cL_law 1196 = .ok (.iconst 3, 1) := by decide +kernel
theorem dL_law_1197 : decode cL_law 1197 = .ok (.invokestatic 117, 3) := by decide +kernel
theorem dL_law_1200 : decode cL_law 1200 = .ok (.ifCond .ne 9, 3) := by decide +kernel
theorem dL_law_1203 : decode cL_law 1203 = .ok (.sipush 200, 3) := by decide +kernel
theorem dL_law_1206 : decode cL_law 1206 = .ok (.goto 5, 3) := by decide +kernel
theorem dL_law_1209 : decode cL_law 1209 = .ok (.bipush 20, 2) := by decide +kernel
theorem dL_law_1211 : decode cL_law 1211 = .ok (.invokestatic 117, 3) := by decide +kernel
theorem dL_law_1214 : decode cL_law 1214 = .ok (.iadd, 1) := by decide +kernel
theorem dL_law_1215 : decode cL_law 1215 = .ok (.istore 12, 2) := by decide +kernel
theorem dL_law_1217 : decode cL_law 1217 = .ok (.aload 4, 2) := by decide +kernel
theorem dL_law_1219 : decode cL_law 1219 = .ok (.aload 5, 2) := by decide +kernel
theorem dL_law_1221 : decode cL_law 1221 = .ok (.aload 6, 2) := by decide +kernel
theorem dL_law_1223 : decode cL_law 1223 = .ok (.iload 12, 2) := by decide +kernel
theorem dL_law_1225 : decode cL_law 1225 = .ok (.invokestatic 51, 3) := by decide +kernel
theorem dL_law_1228 : decode cL_law 1228 = .ok (.istore 13, 2) := by decide +kernel
theorem dL_law_1230 : decode cL_law 1230 = .ok (.aload_n 1, 1) := by decide +kernel
theorem dL_law_1231 : decode cL_law 1231 = .ok (.iload 12, 2) := by decide +kernel
theorem dL_law_1233 : decode cL_law 1233 = .ok (.invokevirtual 145, 3) := by decide +kernel
theorem dL_law_1236 : decode cL_law 1236 = .ok (.iload 13, 2) := by decide +kernel
theorem dL_law_1238 : decode cL_law 1238 = .ok (.if_icmp .ne 7, 3) := by decide +kernel
theorem dL_law_1241 : decode cL_law 1241 = .ok (.iconst 1, 1) := by decide +kernel
theorem dL_law_1242 : decode cL_law 1242 = .ok (.goto 4, 3) := by decide +kernel
theorem dL_law_1245 : decode cL_law 1245 = .ok (.iconst 0, 1) := by decide +kernel
theorem dL_law_1246 : decode cL_law 1246 = .ok (.istore 11, 2) := by decide +kernel
theorem dL_law_1248 : decode cL_law 1248 = .ok (.aload_n 0, 1) := by decide +kernel
theorem dL_law_1249 : decode cL_law 1249 = .ok (.bipush 60, 2) := by decide +kernel
theorem dL_law_1251 : decode cL_law 1251 = .ok (.iload 7, 2) := by decide +kernel
theorem dL_law_1253 : decode cL_law 1253 = .ok (.iadd, 1) := by decide +kernel
theorem dL_law_1254 : decode cL_law 1254 = .ok (.invokestatic 114, 3) := by decide +kernel
theorem dL_law_1257 : decode cL_law 1257 = .ok (.istore 12, 2) := by decide +kernel
theorem dL_law_1259 : decode cL_law 1259 = .ok (.iload 11, 2) := by decide +kernel
theorem dL_law_1261 : decode cL_law 1261 = .ok (.ifCond .eq 140, 3) := by decide +kernel
theorem dL_law_1264 : decode cL_law 1264 = .ok (.aload_n 1, 1) := by decide +kernel
theorem dL_law_1265 : decode cL_law 1265 = .ok (.aload_n 2, 1) := by decide +kernel
theorem dL_law_1266 : decode cL_law 1266 = .ok (.aload_n 3, 1) := by decide +kernel
theorem dL_law_1267 : decode cL_law 1267 = .ok (.aload 4, 2) := by decide +kernel
theorem dL_law_1269 : decode cL_law 1269 = .ok (.aload 5, 2) := by decide +kernel
theorem dL_law_1271 : decode cL_law 1271 = .ok (.aload 6, 2) := by decide +kernel
theorem dL_law_1273 : decode cL_law 1273 = .ok (.invokestatic 147, 3) := by decide +kernel
theorem dL_law_1276 : decode cL_law 1276 = .ok (.ifCond .eq 125, 3) := by decide +kernel
theorem dL_law_1279 : decode cL_law 1279 = .ok (.aload_n 1, 1) := by decide +kernel
theorem dL_law_1280 : decode cL_law 1280 = .ok (.aload_n 2, 1) := by decide +kernel
theorem dL_law_1281 : decode cL_law 1281 = .ok (.aload 4, 2) := by decide +kernel
theorem dL_law_1283 : decode cL_law 1283 = .ok (.aload 6, 2) := by decide +kernel
theorem dL_law_1285 : decode cL_law 1285 = .ok (.iload 12, 2) := by decide +kernel
theorem dL_law_1287 : decode cL_law 1287 = .ok (.iconst 4, 1) := by decide +kernel
theorem dL_law_1288 : decode cL_law 1288 = .ok (.invokestatic 117, 3) := by decide +kernel
theorem dL_law_1291 : decode cL_law 1291 = .ok (.invokestatic 150, 3) := by decide +kernel
theorem dL_law_1294 : decode cL_law 1294 = .ok (.ifCond .eq 107, 3) := by decide +kernel
theorem dL_law_1297 : decode cL_law 1297 = .ok (.aload_n 1, 1) := by decide +kernel
theorem dL_law_1298 : decode cL_law 1298 = .ok (.aload_n 2, 1) := by decide +kernel
theorem dL_law_1299 : decode cL_law 1299 = .ok (.aload 4, 2) := by decide +kernel
theorem dL_law_1301 : decode cL_law 1301 = .ok (.aload 5, 2) := by decide +kernel
theorem dL_law_1303 : decode cL_law 1303 = .ok (.aload 6, 2) := by decide +kernel
theorem dL_law_1305 : decode cL_law 1305 = .ok (.iload 12, 2) := by decide +kernel
theorem dL_law_1307 : decode cL_law 1307 = .ok (.iconst 2, 1) := by decide +kernel
theorem dL_law_1308 : decode cL_law 1308 = .ok (.ishr, 1) := by decide +kernel
theorem dL_law_1309 : decode cL_law 1309 = .ok (.iconst 4, 1) := by decide +kernel
theorem dL_law_1310 : decode cL_law 1310 = .ok (.invokestatic 117, 3) := by decide +kernel
theorem dL_law_1313 : decode cL_law 1313 = .ok (.iload 12, 2) := by decide +kernel
theorem dL_law_1315 : decode cL_law 1315 = .ok (.iconst 4, 1) := by decide +kernel
theorem dL_law_1316 : decode cL_law 1316 = .ok (.ishr, 1) := by decide +kernel
theorem dL_law_1317 : decode cL_law 1317 = .ok (.bipush 10, 2) := by decide +kernel
theorem dL_law_1319 : decode cL_law 1319 = .ok (.invokestatic 117, 3) := by decide +kernel
theorem dL_law_1322 : decode cL_law 1322 = .ok (.invokestatic 153, 3) := by decide +kernel
theorem dL_law_1325 : decode cL_law 1325 = .ok (.ifCond .eq 76, 3) := by decide +kernel
theorem dL_law_1328 : decode cL_law 1328 = .ok (.aload_n 1, 1) := by decide +kernel
theorem dL_law_1329 : decode cL_law 1329 = .ok (.iload 12, 2) := by decide +kernel
theorem dL_law_1331 : decode cL_law 1331 = .ok (.bipush 8, 2) := by decide +kernel
theorem dL_law_1333 : decode cL_law 1333 = .ok (.ishr, 1) := by decide +kernel
theorem dL_law_1334 : decode cL_law 1334 = .ok (.bipush 10, 2) := by decide +kernel
theorem dL_law_1336 : decode cL_law 1336 = .ok (.invokestatic 117, 3) := by decide +kernel
theorem dL_law_1339 : decode cL_law 1339 = .ok (.iload 12, 2) := by decide +kernel
theorem dL_law_1341 : decode cL_law 1341 = .ok (.bipush 12, 2) := by decide +kernel
theorem dL_law_1343 : decode cL_law 1343 = .ok (.ishr, 1) := by decide +kernel
theorem dL_law_1344 : decode cL_law 1344 = .ok (.bipush 10, 2) := by decide +kernel
theorem dL_law_1346 : decode cL_law 1346 = .ok (.invokestatic 117, 3) := by decide +kernel
theorem dL_law_1349 : decode cL_law 1349 = .ok (.invokevirtual 157, 3) := by decide +kernel
theorem dL_law_1352 : decode cL_law 1352 = .ok (.aload_n 2, 1) := by decide +kernel
theorem dL_law_1353 : decode cL_law 1353 = .ok (.aload 6, 2) := by decide +kernel
theorem dL_law_1355 : decode cL_law 1355 = .ok (.iload 12, 2) := by decide +kernel
theorem dL_law_1357 : decode cL_law 1357 = .ok (.bipush 8, 2) := by decide +kernel
theorem dL_law_1359 : decode cL_law 1359 = .ok (.ishr, 1) := by decide +kernel
theorem dL_law_1360 : decode cL_law 1360 = .ok (.bipush 10, 2) := by decide +kernel
theorem dL_law_1362 : decode cL_law 1362 = .ok (.invokestatic 117, 3) := by decide +kernel
theorem dL_law_1365 : decode cL_law 1365 = .ok (.iload 12, 2) := by decide +kernel
theorem dL_law_1367 : decode cL_law 1367 = .ok (.bipush 12, 2) := by decide +kernel
theorem dL_law_1369 : decode cL_law 1369 = .ok (.ishr, 1) := by decide +kernel
theorem dL_law_1370 : decode cL_law 1370 = .ok (.bipush 10, 2) := by decide +kernel
theorem dL_law_1372 : decode cL_law 1372 = .ok (.invokestatic 117, 3) := by decide +kernel
theorem dL_law_1375 : decode cL_law 1375 = .ok (.invokestatic 29, 3) := by decide +kernel
theorem dL_law_1378 : decode cL_law 1378 = .ok (.if_icmp .ne 23, 3) := by decide +kernel
theorem dL_law_1381 : decode cL_law 1381 = .ok (.iload 7, 2) := by decide +kernel
theorem dL_law_1383 : decode cL_law 1383 = .ok (.bipush 10, 2) := by decide +kernel
theorem dL_law_1385 : decode cL_law 1385 = .ok (.irem, 1) := by decide +kernel
theorem dL_law_1386 : decode cL_law 1386 = .ok (.bipush 9, 2) := by decide +kernel
theorem dL_law_1388 : decode cL_law 1388 = .ok (.if_icmp .ne 15, 3) := by decide +kernel
theorem dL_law_1391 : decode cL_law 1391 = .ok (.aload_n 1, 1) := by decide +kernel
theorem dL_law_1392 : decode cL_law 1392 = .ok (.aload_n 2, 1) := by decide +kernel
theorem dL_law_1393 : decode cL_law 1393 = .ok (.aload 6, 2) := by decide +kernel
theorem dL_law_1395 : decode cL_law 1395 = .ok (.invokestatic 159, 3) := by decide +kernel
theorem dL_law_1398 : decode cL_law 1398 = .ok (.ifCond .ne 5, 3) := by decide +kernel
theorem dL_law_1401 : decode cL_law 1401 = .ok (.iconst 0, 1) := by decide +kernel
theorem dL_law_1402 : decode cL_law 1402 = .ok (.ireturn, 1) := by decide +kernel
theorem dL_law_1403 : decode cL_law 1403 = .ok (.iinc 7 1, 3) := by decide +kernel
theorem dL_law_1406 : decode cL_law 1406 = .ok (.goto (-1355), 3) := by decide +kernel
theorem dL_law_1409 : decode cL_law 1409 = .ok (.iconst 1, 1) := by decide +kernel
theorem dL_law_1410 : decode cL_law 1410 = .ok (.ireturn, 1) := by decide +kernel
end
section
theorem dL_cell_0 : decode cL_cell 0 = .ok (.iload_n 1, 1) := by decide +kernel
theorem dL_cell_1 : decode cL_cell 1 = .ok (.aload_n 0, 1) := by decide +kernel
theorem dL_cell_2 : decode cL_cell 2 = .ok (.arraylength, 1) := by decide +kernel
theorem dL_cell_3 : decode cL_cell 3 = .ok (.if_icmp .ge 9, 3) := by decide +kernel
theorem dL_cell_6 : decode cL_cell 6 = .ok (.aload_n 0, 1) := by decide +kernel
theorem dL_cell_7 : decode cL_cell 7 = .ok (.iload_n 1, 1) := by decide +kernel
theorem dL_cell_8 : decode cL_cell 8 = .ok (.iaload, 1) := by decide +kernel
theorem dL_cell_9 : decode cL_cell 9 = .ok (.goto 10, 3) := by decide +kernel
theorem dL_cell_12 : decode cL_cell 12 = .ok (.ldc 7, 2) := by decide +kernel
theorem dL_cell_14 : decode cL_cell 14 = .ok (.iload_n 1, 1) := by decide +kernel
theorem dL_cell_15 : decode cL_cell 15 = .ok (.imul, 1) := by decide +kernel
theorem dL_cell_16 : decode cL_cell 16 = .ok (.ldc 8, 2) := by decide +kernel
theorem dL_cell_18 : decode cL_cell 18 = .ok (.iadd, 1) := by decide +kernel
theorem dL_cell_19 : decode cL_cell 19 = .ok (.ireturn, 1) := by decide +kernel
theorem dL_low_0 : decode cL_low 0 = .ok (.iload_n 0, 1) := by decide +kernel
theorem dL_low_1 : decode cL_low 1 = .ok (.ldc 9, 2) := by decide +kernel
theorem dL_low_3 : decode cL_low 3 = .ok (.iand, 1) := by decide +kernel
theorem dL_low_4 : decode cL_low 4 = .ok (.iload_n 1, 1) := by decide +kernel
theorem dL_low_5 : decode cL_low 5 = .ok (.irem, 1) := by decide +kernel
theorem dL_low_6 : decode cL_low 6 = .ok (.ireturn, 1) := by decide +kernel
theorem dL_one_0 : decode cL_one 0 = .ok (.aload_n 0, 1) := by decide +kernel
theorem dL_one_1 : decode cL_one 1 = .ok (.iload_n 1, 1) := by decide +kernel
theorem dL_one_2 : decode cL_one 2 = .ok (.iaload, 1) := by decide +kernel
theorem dL_one_3 : decode cL_one 3 = .ok (.bipush 16, 2) := by decide +kernel
theorem dL_one_5 : decode cL_one 5 = .ok (.irem, 1) := by decide +kernel
theorem dL_one_6 : decode cL_one 6 = .ok (.ireturn, 1) := by decide +kernel
theorem dL_two_0 : decode cL_two 0 = .ok (.aload_n 0, 1) := by decide +kernel
theorem dL_two_1 : decode cL_two 1 = .ok (.iload_n 1, 1) := by decide +kernel
theorem dL_two_2 : decode cL_two 2 = .ok (.iaload, 1) := by decide +kernel
theorem dL_two_3 : decode cL_two 3 = .ok (.bipush 16, 2) := by decide +kernel
theorem dL_two_5 : decode cL_two 5 = .ok (.idiv, 1) := by decide +kernel
theorem dL_two_6 : decode cL_two 6 = .ok (.bipush 16, 2) := by decide +kernel
theorem dL_two_8 : decode cL_two 8 = .ok (.irem, 1) := by decide +kernel
theorem dL_two_9 : decode cL_two 9 = .ok (.ireturn, 1) := by decide +kernel
theorem dL_creak_0 : decode cL_creak 0 = .ok (.aload_n 0, 1) := by decide +kernel
theorem dL_creak_1 : decode cL_creak 1 = .ok (.iload_n 1, 1) := by decide +kernel
theorem dL_creak_2 : decode cL_creak 2 = .ok (.iaload, 1) := by decide +kernel
theorem dL_creak_3 : decode cL_creak 3 = .ok (.sipush 256, 3) := by decide +kernel
theorem dL_creak_6 : decode cL_creak 6 = .ok (.idiv, 1) := by decide +kernel
theorem dL_creak_7 : decode cL_creak 7 = .ok (.bipush 16, 2) := by decide +kernel
theorem dL_creak_9 : decode cL_creak 9 = .ok (.irem, 1) := by decide +kernel
theorem dL_creak_10 : decode cL_creak 10 = .ok (.ireturn, 1) := by decide +kernel
theorem dL_minutes_0 : decode cL_minutes 0 = .ok (.aload_n 0, 1) := by decide +kernel
theorem dL_minutes_1 : decode cL_minutes 1 = .ok (.iload_n 1, 1) := by decide +kernel
theorem dL_minutes_2 : decode cL_minutes 2 = .ok (.iaload, 1) := by decide +kernel
theorem dL_minutes_3 : decode cL_minutes 3 = .ok (.sipush 4096, 3) := by decide +kernel
theorem dL_minutes_6 : decode cL_minutes 6 = .ok (.idiv, 1) := by decide +kernel
theorem dL_minutes_7 : decode cL_minutes 7 = .ok (.ireturn, 1) := by decide +kernel
theorem dL_reach_0 : decode cL_reach 0 = .ok (.iconst 1, 1) := by decide +kernel
theorem dL_reach_1 : decode cL_reach 1 = .ok (.iload_n 2, 1) := by decide +kernel
theorem dL_reach_2 : decode cL_reach 2 = .ok (.ishl, 1) := by decide +kernel
theorem dL_reach_3 : decode cL_reach 3 = .ok (.istore 5, 2) := by decide +kernel
theorem dL_reach_5 : decode cL_reach 5 = .ok (.iconst 0, 1) := by decide +kernel
theorem dL_reach_6 : decode cL_reach 6 = .ok (.istore 6, 2) := by decide +kernel
theorem dL_reach_8 : decode cL_reach 8 = .ok (.iload 6, 2) := by decide +kernel
theorem dL_reach_10 : decode cL_reach 10 = .ok (.iload 4, 2) := by decide +kernel
theorem dL_reach_12 : decode cL_reach 12 = .ok (.if_icmp .ge 121, 3) := by decide +kernel
theorem dL_reach_15 : decode cL_reach 15 = .ok (.iload 5, 2) := by decide +kernel
theorem dL_reach_17 : decode cL_reach 17 = .ok (.istore 7, 2) := by decide +kernel
theorem dL_reach_19 : decode cL_reach 19 = .ok (.iconst 0, 1) := by decide +kernel
theorem dL_reach_20 : decode cL_reach 20 = .ok (.istore 8, 2) := by decide +kernel
theorem dL_reach_22 : decode cL_reach 22 = .ok (.iload 8, 2) := by decide +kernel
theorem dL_reach_24 : decode cL_reach 24 = .ok (.aload_n 1, 1) := by decide +kernel
theorem dL_reach_25 : decode cL_reach 25 = .ok (.iconst 4, 1) := by decide +kernel
theorem dL_reach_26 : decode cL_reach 26 = .ok (.iaload, 1) := by decide +kernel
theorem dL_reach_27 : decode cL_reach 27 = .ok (.if_icmp .ge 100, 3) := by decide +kernel
theorem dL_reach_30 : decode cL_reach 30 = .ok (.iload_n 3, 1) := by decide +kernel
theorem dL_reach_31 : decode cL_reach 31 = .ok (.iload 8, 2) := by decide +kernel
theorem dL_reach_33 : decode cL_reach 33 = .ok (.ishr, 1) := by decide +kernel
theorem dL_reach_34 : decode cL_reach 34 = .ok (.iconst 1, 1) := by decide +kernel
theorem dL_reach_35 : decode cL_reach 35 = .ok (.iand, 1) := by decide +kernel
theorem dL_reach_36 : decode cL_reach 36 = .ok (.iconst 1, 1) := by decide +kernel
theorem dL_reach_37 : decode cL_reach 37 = .ok (.if_icmp .ne 7, 3) := by decide +kernel
theorem dL_reach_40 : decode cL_reach 40 = .ok (.iconst 1, 1) := by decide +kernel
theorem dL_reach_41 : decode cL_reach 41 = .ok (.goto 4, 3) := by decide +kernel
theorem dL_reach_44 : decode cL_reach 44 = .ok (.iconst 0, 1) := by decide +kernel
theorem dL_reach_45 : decode cL_reach 45 = .ok (.istore 9, 2) := by decide +kernel
theorem dL_reach_47 : decode cL_reach 47 = .ok (.iload 5, 2) := by decide +kernel
theorem dL_reach_49 : decode cL_reach 49 = .ok (.iload 9, 2) := by decide +kernel
theorem dL_reach_51 : decode cL_reach 51 = .ok (.ifCond .eq 29, 3) := by decide +kernel
theorem dL_reach_54 : decode cL_reach 54 = .ok (.iload 7, 2) := by decide +kernel
theorem dL_reach_56 : decode cL_reach 56 = .ok (.aload_n 0, 1) := by decide +kernel
theorem dL_reach_57 : decode cL_reach 57 = .ok (.iload 8, 2) := by decide +kernel
theorem dL_reach_59 : decode cL_reach 59 = .ok (.invokestatic 10, 3) := by decide +kernel
theorem dL_reach_62 : decode cL_reach 62 = .ok (.ishr, 1) := by decide +kernel
theorem dL_reach_63 : decode cL_reach 63 = .ok (.iconst 1, 1) := by decide +kernel
theorem dL_reach_64 : decode cL_reach 64 = .ok (.iand, 1) := by decide +kernel
theorem dL_reach_65 : decode cL_reach 65 = .ok (.iconst 1, 1) := by decide +kernel
theorem dL_reach_66 : decode cL_reach 66 = .ok (.if_icmp .ne 14, 3) := by decide +kernel
theorem dL_reach_69 : decode cL_reach 69 = .ok (.iconst 1, 1) := by decide +kernel
theorem dL_reach_70 : decode cL_reach 70 = .ok (.aload_n 0, 1) := by decide +kernel
theorem dL_reach_71 : decode cL_reach 71 = .ok (.iload 8, 2) := by decide +kernel
theorem dL_reach_73 : decode cL_reach 73 = .ok (.invokestatic 16, 3) := by decide +kernel
theorem dL_reach_76 : decode cL_reach 76 = .ok (.ishl, 1) := by decide +kernel
theorem dL_reach_77 : decode cL_reach 77 = .ok (.goto 4, 3) := by decide +kernel
theorem dL_reach_80 : decode cL_reach 80 = .ok (.iconst 0, 1) := by decide +kernel
theorem dL_reach_81 : decode cL_reach 81 = .ok (.ior, 1) := by decide +kernel
theorem dL_reach_82 : decode cL_reach 82 = .ok (.istore 5, 2) := by decide +kernel
theorem dL_reach_84 : decode cL_reach 84 = .ok (.iload 5, 2) := by decide +kernel
theorem dL_reach_86 : decode cL_reach 86 = .ok (.iload 9, 2) := by decide +kernel
theorem dL_reach_88 : decode cL_reach 88 = .ok (.ifCond .eq 29, 3) := by decide +kernel
theorem dL_reach_91 : decode cL_reach 91 = .ok (.iload 7, 2) := by decide +kernel
theorem dL_reach_93 : decode cL_reach 93 = .ok (.aload_n 0, 1) := by decide +kernel
theorem dL_reach_94 : decode cL_reach 94 = .ok (.iload 8, 2) := by decide +kernel
theorem dL_reach_96 : decode cL_reach 96 = .ok (.invokestatic 16, 3) := by decide +kernel
theorem dL_reach_99 : decode cL_reach 99 = .ok (.ishr, 1) := by decide +kernel
theorem dL_reach_100 : decode cL_reach 100 = .ok (.iconst 1, 1) := by decide +kernel
theorem dL_reach_101 : decode cL_reach 101 = .ok (.iand, 1) := by decide +kernel
theorem dL_reach_102 : decode cL_reach 102 = .ok (.iconst 1, 1) := by decide +kernel
theorem dL_reach_103 : decode cL_reach 103 = .ok (.if_icmp .ne 14, 3) := by decide +kernel
theorem dL_reach_106 : decode cL_reach 106 = .ok (.iconst 1, 1) := by decide +kernel
theorem dL_reach_107 : decode cL_reach 107 = .ok (.aload_n 0, 1) := by decide +kernel
theorem dL_reach_108 : decode cL_reach 108 = .ok (.iload 8, 2) := by decide +kernel
theorem dL_reach_110 : decode cL_reach 110 = .ok (.invokestatic 10, 3) := by decide +kernel
theorem dL_reach_113 : decode cL_reach 113 = .ok (.ishl, 1) := by decide +kernel
theorem dL_reach_114 : decode cL_reach 114 = .ok (.goto 4, 3) := by decide +kernel
theorem dL_reach_117 : decode cL_reach 117 = .ok (.iconst 0, 1) := by decide +kernel
theorem dL_reach_118 : decode cL_reach 118 = .ok (.ior, 1) := by decide +kernel
theorem dL_reach_119 : decode cL_reach 119 = .ok (.istore 5, 2) := by decide +kernel
theorem dL_reach_121 : decode cL_reach 121 = .ok (.iinc 8 1, 3) := by decide +kernel
theorem dL_reach_124 : decode cL_reach 124 = .ok (.goto (-102), 3) := by decide +kernel
theorem dL_reach_127 : decode cL_reach 127 = .ok (.iinc 6 1, 3) := by decide +kernel
theorem dL_reach_130 : decode cL_reach 130 = .ok (.goto (-122), 3) := by decide +kernel
theorem dL_reach_133 : decode cL_reach 133 = .ok (.iload 5, 2) := by decide +kernel
theorem dL_reach_135 : decode cL_reach 135 = .ok (.ireturn, 1) := by decide +kernel
theorem dL_all_0 : decode cL_all 0 = .ok (.iconst 1, 1) := by decide +kernel
theorem dL_all_1 : decode cL_all 1 = .ok (.aload_n 0, 1) := by decide +kernel
theorem dL_all_2 : decode cL_all 2 = .ok (.iconst 4, 1) := by decide +kernel
theorem dL_all_3 : decode cL_all 3 = .ok (.iaload, 1) := by decide +kernel
theorem dL_all_4 : decode cL_all 4 = .ok (.ishl, 1) := by decide +kernel
theorem dL_all_5 : decode cL_all 5 = .ok (.iconst 1, 1) := by decide +kernel
theorem dL_all_6 : decode cL_all 6 = .ok (.isub, 1) := by decide +kernel
theorem dL_all_7 : decode cL_all 7 = .ok (.ireturn, 1) := by decide +kernel
theorem dL_far_0 : decode cL_far 0 = .ok (.bipush (-6), 2) := by decide +kernel
theorem dL_far_2 : decode cL_far 2 = .ok (.istore 4, 2) := by decide +kernel
theorem dL_far_4 : decode cL_far 4 = .ok (.bipush 9, 2) := by decide +kernel
theorem dL_far_6 : decode cL_far 6 = .ok (.istore 5, 2) := by decide +kernel
theorem dL_far_8 : decode cL_far 8 = .ok (.iload 5, 2) := by decide +kernel
theorem dL_far_10 : decode cL_far 10 = .ok (.ifCond .lt 38, 3) := by decide +kernel
theorem dL_far_13 : decode cL_far 13 = .ok (.aload_n 0, 1) := by decide +kernel
theorem dL_far_14 : decode cL_far 14 = .ok (.aload_n 1, 1) := by decide +kernel
theorem dL_far_15 : decode cL_far 15 = .ok (.iload_n 2, 1) := by decide +kernel
theorem dL_far_16 : decode cL_far 16 = .ok (.aload_n 1, 1) := by decide +kernel
theorem dL_far_17 : decode cL_far 17 = .ok (.invokestatic 21, 3) := by decide +kernel
theorem dL_far_20 : decode cL_far 20 = .ok (.iload 5, 2) := by decide +kernel
theorem dL_far_22 : decode cL_far 22 = .ok (.invokestatic 25, 3) := by decide +kernel
theorem dL_far_25 : decode cL_far 25 = .ok (.iload_n 3, 1) := by decide +kernel
theorem dL_far_26 : decode cL_far 26 = .ok (.ishr, 1) := by decide +kernel
theorem dL_far_27 : decode cL_far 27 = .ok (.iconst 1, 1) := by decide +kernel
theorem dL_far_28 : decode cL_far 28 = .ok (.iand, 1) := by decide +kernel
theorem dL_far_29 : decode cL_far 29 = .ok (.iconst 1, 1) := by decide +kernel
theorem dL_far_30 : decode cL_far 30 = .ok (.if_icmp .ne 8, 3) := by decide +kernel
theorem dL_far_33 : decode cL_far 33 = .ok (.iload 5, 2) := by decide +kernel
theorem dL_far_35 : decode cL_far 35 = .ok (.goto 5, 3) := by decide +kernel
theorem dL_far_38 : decode cL_far 38 = .ok (.iload 4, 2) := by decide +kernel
theorem dL_far_40 : decode cL_far 40 = .ok (.istore 4, 2) := by decide +kernel
theorem dL_far_42 : decode cL_far 42 = .ok (.iinc 5 (-1), 3) := by decide +kernel
theorem dL_far_45 : decode cL_far 45 = .ok (.goto (-37), 3) := by decide +kernel
theorem dL_far_48 : decode cL_far 48 = .ok (.iload 4, 2) := by decide +kernel
theorem dL_far_50 : decode cL_far 50 = .ok (.ireturn, 1) := by decide +kernel
theorem dL_loud_0 : decode cL_loud 0 = .ok (.aload_n 0, 1) := by decide +kernel
theorem dL_loud_1 : decode cL_loud 1 = .ok (.aload_n 2, 1) := by decide +kernel
theorem dL_loud_2 : decode cL_loud 2 = .ok (.aload_n 1, 1) := by decide +kernel
theorem dL_loud_3 : decode cL_loud 3 = .ok (.iload 4, 2) := by decide +kernel
theorem dL_loud_5 : decode cL_loud 5 = .ok (.iaload, 1) := by decide +kernel
theorem dL_loud_6 : decode cL_loud 6 = .ok (.aload_n 0, 1) := by decide +kernel
theorem dL_loud_7 : decode cL_loud 7 = .ok (.iload_n 3, 1) := by decide +kernel
theorem dL_loud_8 : decode cL_loud 8 = .ok (.invokestatic 10, 3) := by decide +kernel
theorem dL_loud_11 : decode cL_loud 11 = .ok (.invokestatic 29, 3) := by decide +kernel
theorem dL_loud_14 : decode cL_loud 14 = .ok (.istore 5, 2) := by decide +kernel
theorem dL_loud_16 : decode cL_loud 16 = .ok (.aload_n 0, 1) := by decide +kernel
theorem dL_loud_17 : decode cL_loud 17 = .ok (.aload_n 2, 1) := by decide +kernel
theorem dL_loud_18 : decode cL_loud 18 = .ok (.aload_n 1, 1) := by decide +kernel
theorem dL_loud_19 : decode cL_loud 19 = .ok (.iload 4, 2) := by decide +kernel
theorem dL_loud_21 : decode cL_loud 21 = .ok (.iaload, 1) := by decide +kernel
theorem dL_loud_22 : decode cL_loud 22 = .ok (.aload_n 0, 1) := by decide +kernel
theorem dL_loud_23 : decode cL_loud 23 = .ok (.iload_n 3, 1) := by decide +kernel
theorem dL_loud_24 : decode cL_loud 24 = .ok (.invokestatic 16, 3) := by decide +kernel
theorem dL_loud_27 : decode cL_loud 27 = .ok (.invokestatic 29, 3) := by decide +kernel
theorem dL_loud_30 : decode cL_loud 30 = .ok (.istore 6, 2) := by decide +kernel
theorem dL_loud_32 : decode cL_loud 32 = .ok (.iload 5, 2) := by decide +kernel
theorem dL_loud_34 : decode cL_loud 34 = .ok (.ifCond .ge 8, 3) := by decide +kernel
theorem dL_loud_37 : decode cL_loud 37 = .ok (.iload 6, 2) := by decide +kernel
theorem dL_loud_39 : decode cL_loud 39 = .ok (.goto 22, 3) := by decide +kernel
theorem dL_loud_42 : decode cL_loud 42 = .ok (.iload 6, 2) := by decide +kernel
theorem dL_loud_44 : decode cL_loud 44 = .ok (.ifCond .lt 10, 3) := by decide +kernel
theorem dL_loud_47 : decode cL_loud 47 = .ok (.iload 5, 2) := by decide +kernel
theorem dL_loud_49 : decode cL_loud 49 = .ok (.iload 6, 2) := by decide +kernel
theorem dL_loud_51 : decode cL_loud 51 = .ok (.if_icmp .ge 8, 3) := by decide +kernel
theorem dL_loud_54 : decode cL_loud 54 = .ok (.iload 5, 2) := by decide +kernel
theorem dL_loud_56 : decode cL_loud 56 = .ok (.goto 5, 3) := by decide +kernel
theorem dL_loud_59 : decode cL_loud 59 = .ok (.iload 6, 2) := by decide +kernel
theorem dL_loud_61 : decode cL_loud 61 = .ok (.istore 7, 2) := by decide +kernel
theorem dL_loud_63 : decode cL_loud 63 = .ok (.iload 7, 2) := by decide +kernel
theorem dL_loud_65 : decode cL_loud 65 = .ok (.ifCond .lt 13, 3) := by decide +kernel
theorem dL_loud_68 : decode cL_loud 68 = .ok (.aload_n 0, 1) := by decide +kernel
theorem dL_loud_69 : decode cL_loud 69 = .ok (.iload_n 3, 1) := by decide +kernel
theorem dL_loud_70 : decode cL_loud 70 = .ok (.invokestatic 33, 3) := by decide +kernel
theorem dL_loud_73 : decode cL_loud 73 = .ok (.iload 7, 2) := by decide +kernel
theorem dL_loud_75 : decode cL_loud 75 = .ok (.if_icmp .ge 7, 3) := by decide +kernel
theorem dL_loud_78 : decode cL_loud 78 = .ok (.iconst 0, 1) := by decide +kernel
theorem dL_loud_79 : decode cL_loud 79 = .ok (.goto 11, 3) := by decide +kernel
theorem dL_loud_82 : decode cL_loud 82 = .ok (.aload_n 0, 1) := by decide +kernel
theorem dL_loud_83 : decode cL_loud 83 = .ok (.iload_n 3, 1) := by decide +kernel
theorem dL_loud_84 : decode cL_loud 84 = .ok (.invokestatic 33, 3) := by decide +kernel
theorem dL_loud_87 : decode cL_loud 87 = .ok (.iload 7, 2) := by decide +kernel
theorem dL_loud_89 : decode cL_loud 89 = .ok (.isub, 1) := by decide +kernel
theorem dL_loud_90 : decode cL_loud 90 = .ok (.ireturn, 1) := by decide +kernel
theorem dL_watched_0 : decode cL_watched 0 = .ok (.iconst 0, 1) := by decide +kernel
theorem dL_watched_1 : decode cL_watched 1 = .ok (.istore_n 2, 1) := by decide +kernel
theorem dL_watched_2 : decode cL_watched 2 = .ok (.iconst 0, 1) := by decide +kernel
theorem dL_watched_3 : decode cL_watched 3 = .ok (.istore_n 3, 1) := by decide +kernel
theorem dL_watched_4 : decode cL_watched 4 = .ok (.iload_n 3, 1) := by decide +kernel
theorem dL_watched_5 : decode cL_watched 5 = .ok (.aload_n 1, 1) := by decide +kernel
theorem dL_watched_6 : decode cL_watched 6 = .ok (.iconst 5, 1) := by decide +kernel
theorem dL_watched_7 : decode cL_watched 7 = .ok (.iaload, 1) := by decide +kernel
theorem dL_watched_8 : decode cL_watched 8 = .ok (.if_icmp .ge 30, 3) := by decide +kernel
theorem dL_watched_11 : decode cL_watched 11 = .ok (.iload_n 2, 1) := by decide +kernel
theorem dL_watched_12 : decode cL_watched 12 = .ok (.aload_n 0, 1) := by decide +kernel
theorem dL_watched_13 : decode cL_watched 13 = .ok (.bipush 10, 2) := by decide +kernel
theorem dL_watched_15 : decode cL_watched 15 = .ok (.iload_n 3, 1) := by decide +kernel
theorem dL_watched_16 : decode cL_watched 16 = .ok (.iadd, 1) := by decide +kernel
theorem dL_watched_17 : decode cL_watched 17 = .ok (.iaload, 1) := by decide +kernel
theorem dL_watched_18 : decode cL_watched 18 = .ok (.ifCond .le 11, 3) := by decide +kernel
theorem dL_watched_21 : decode cL_watched 21 = .ok (.iconst 1, 1) := by decide +kernel
theorem dL_watched_22 : decode cL_watched 22 = .ok (.aload_n 0, 1) := by decide +kernel
theorem dL_watched_23 : decode cL_watched 23 = .ok (.iload_n 3, 1) := by decide +kernel
theorem dL_watched_24 : decode cL_watched 24 = .ok (.iaload, 1) := by decide +kernel
theorem dL_watched_25 : decode cL_watched 25 = .ok (.ishl, 1) := by decide +kernel
theorem dL_watched_26 : decode cL_watched 26 = .ok (.goto 4, 3) := by decide +kernel
theorem dL_watched_29 : decode cL_watched 29 = .ok (.iconst 0, 1) := by decide +kernel
theorem dL_watched_30 : decode cL_watched 30 = .ok (.ior, 1) := by decide +kernel
theorem dL_watched_31 : decode cL_watched 31 = .ok (.istore_n 2, 1) := by decide +kernel
theorem dL_watched_32 : decode cL_watched 32 = .ok (.iinc 3 1, 3) := by decide +kernel
theorem dL_watched_35 : decode cL_watched 35 = .ok (.goto (-31), 3) := by decide +kernel
theorem dL_watched_38 : decode cL_watched 38 = .ok (.iload_n 2, 1) := by decide +kernel
theorem dL_watched_39 : decode cL_watched 39 = .ok (.ireturn, 1) := by decide +kernel
theorem dL_free_0 : decode cL_free 0 = .ok (.iconst 1, 1) := by decide +kernel
theorem dL_free_1 : decode cL_free 1 = .ok (.aload_n 0, 1) := by decide +kernel
theorem dL_free_2 : decode cL_free 2 = .ok (.iload 5, 2) := by decide +kernel
theorem dL_free_4 : decode cL_free 4 = .ok (.invokestatic 10, 3) := by decide +kernel
theorem dL_free_7 : decode cL_free 7 = .ok (.ishl, 1) := by decide +kernel
theorem dL_free_8 : decode cL_free 8 = .ok (.iconst 1, 1) := by decide +kernel
theorem dL_free_9 : decode cL_free 9 = .ok (.aload_n 0, 1) := by decide +kernel
theorem dL_free_10 : decode cL_free 10 = .ok (.iload 5, 2) := by decide +kernel
theorem dL_free_12 : decode cL_free 12 = .ok (.invokestatic 16, 3) := by decide +kernel
theorem dL_free_15 : decode cL_free 15 = .ok (.ishl, 1) := by decide +kernel
theorem dL_free_16 : decode cL_free 16 = .ok (.ior, 1) := by decide +kernel
theorem dL_free_17 : decode cL_free 17 = .ok (.istore 6, 2) := by decide +kernel
theorem dL_free_19 : decode cL_free 19 = .ok (.aload_n 1, 1) := by decide +kernel
theorem dL_free_20 : decode cL_free 20 = .ok (.iconst 4, 1) := by decide +kernel
theorem dL_free_21 : decode cL_free 21 = .ok (.iload 4, 2) := by decide +kernel
theorem dL_free_23 : decode cL_free 23 = .ok (.iadd, 1) := by decide +kernel
theorem dL_free_24 : decode cL_free 24 = .ok (.iaload, 1) := by decide +kernel
theorem dL_free_25 : decode cL_free 25 = .ok (.iload 5, 2) := by decide +kernel
theorem dL_free_27 : decode cL_free 27 = .ok (.ishr, 1) := by decide +kernel
theorem dL_free_28 : decode cL_free 28 = .ok (.iconst 1, 1) := by decide +kernel
theorem dL_free_29 : decode cL_free 29 = .ok (.iand, 1) := by decide +kernel
theorem dL_free_30 : decode cL_free 30 = .ok (.ifCond .ne 18, 3) := by decide +kernel
theorem dL_free_33 : decode cL_free 33 = .ok (.aload_n 2, 1) := by decide +kernel
theorem dL_free_34 : decode cL_free 34 = .ok (.aload_n 3, 1) := by decide +kernel
theorem dL_free_35 : decode cL_free 35 = .ok (.invokestatic 36, 3) := by decide +kernel
theorem dL_free_38 : decode cL_free 38 = .ok (.iload 6, 2) := by decide +kernel
theorem dL_free_40 : decode cL_free 40 = .ok (.iand, 1) := by decide +kernel
theorem dL_free_41 : decode cL_free 41 = .ok (.ifCond .ne 7, 3) := by decide +kernel
theorem dL_free_44 : decode cL_free 44 = .ok (.iconst 1, 1) := by decide +kernel
theorem dL_free_45 : decode cL_free 45 = .ok (.goto 4, 3) := by decide +kernel
theorem dL_free_48 : decode cL_free 48 = .ok (.iconst 0, 1) := by decide +kernel
theorem dL_free_49 : decode cL_free 49 = .ok (.ireturn, 1) := by decide +kernel
theorem dL_open_0 : decode cL_open 0 = .ok (.iconst 0, 1) := by decide +kernel
theorem dL_open_1 : decode cL_open 1 = .ok (.istore 5, 2) := by decide +kernel
theorem dL_open_3 : decode cL_open 3 = .ok (.iconst 0, 1) := by decide +kernel
theorem dL_open_4 : decode cL_open 4 = .ok (.istore 6, 2) := by decide +kernel
theorem dL_open_6 : decode cL_open 6 = .ok (.iload 6, 2) := by decide +kernel
theorem dL_open_8 : decode cL_open 8 = .ok (.aload_n 3, 1) := by decide +kernel
theorem dL_open_9 : decode cL_open 9 = .ok (.iconst 4, 1) := by decide +kernel
theorem dL_open_10 : decode cL_open 10 = .ok (.iaload, 1) := by decide +kernel
theorem dL_open_11 : decode cL_open 11 = .ok (.if_icmp .ge 36, 3) := by decide +kernel
theorem dL_open_14 : decode cL_open 14 = .ok (.iload 5, 2) := by decide +kernel
theorem dL_open_16 : decode cL_open 16 = .ok (.aload_n 0, 1) := by decide +kernel
theorem dL_open_17 : decode cL_open 17 = .ok (.aload_n 1, 1) := by decide +kernel
theorem dL_open_18 : decode cL_open 18 = .ok (.aload_n 2, 1) := by decide +kernel
theorem dL_open_19 : decode cL_open 19 = .ok (.aload_n 3, 1) := by decide +kernel
theorem dL_open_20 : decode cL_open 20 = .ok (.iload 4, 2) := by decide +kernel
theorem dL_open_22 : decode cL_open 22 = .ok (.iload 6, 2) := by decide +kernel
theorem dL_open_24 : decode cL_open 24 = .ok (.invokestatic 40, 3) := by decide +kernel
theorem dL_open_27 : decode cL_open 27 = .ok (.ifCond .eq 10, 3) := by decide +kernel
theorem dL_open_30 : decode cL_open 30 = .ok (.iconst 1, 1) := by decide +kernel
theorem dL_open_31 : decode cL_open 31 = .ok (.iload 6, 2) := by decide +kernel
theorem dL_open_33 : decode cL_open 33 = .ok (.ishl, 1) := by decide +kernel
theorem dL_open_34 : decode cL_open 34 = .ok (.goto 4, 3) := by decide +kernel
theorem dL_open_37 : decode cL_open 37 = .ok (.iconst 0, 1) := by decide +kernel
theorem dL_open_38 : decode cL_open 38 = .ok (.ior, 1) := by decide +kernel
theorem dL_open_39 : decode cL_open 39 = .ok (.istore 5, 2) := by decide +kernel
theorem dL_open_41 : decode cL_open 41 = .ok (.iinc 6 1, 3) := by decide +kernel
theorem dL_open_44 : decode cL_open 44 = .ok (.goto (-38), 3) := by decide +kernel
theorem dL_open_47 : decode cL_open 47 = .ok (.iload 5, 2) := by decide +kernel
theorem dL_open_49 : decode cL_open 49 = .ok (.ireturn, 1) := by decide +kernel
theorem dL_pass_0 : decode cL_pass 0 = .ok (.iconst 0, 1) := by decide +kernel
theorem dL_pass_1 : decode cL_pass 1 = .ok (.istore 4, 2) := by decide +kernel
theorem dL_pass_3 : decode cL_pass 3 = .ok (.iconst 0, 1) := by decide +kernel
theorem dL_pass_4 : decode cL_pass 4 = .ok (.istore 5, 2) := by decide +kernel
theorem dL_pass_6 : decode cL_pass 6 = .ok (.iload 5, 2) := by decide +kernel
theorem dL_pass_8 : decode cL_pass 8 = .ok (.iload_n 3, 1) := by decide +kernel
theorem dL_pass_9 : decode cL_pass 9 = .ok (.if_icmp .ge 89, 3) := by decide +kernel
theorem dL_pass_12 : decode cL_pass 12 = .ok (.aload_n 2, 1) := by decide +kernel
theorem dL_pass_13 : decode cL_pass 13 = .ok (.iconst 2, 1) := by decide +kernel
theorem dL_pass_14 : decode cL_pass 14 = .ok (.dup2, 1) := by decide +kernel
theorem dL_pass_15 : decode cL_pass 15 = .ok (.iaload, 1) := by decide +kernel
theorem dL_pass_16 : decode cL_pass 16 = .ok (.iconst 1, 1) := by decide +kernel
theorem dL_pass_17 : decode cL_pass 17 = .ok (.iadd, 1) := by decide +kernel
theorem dL_pass_18 : decode cL_pass 18 = .ok (.iastore, 1) := by decide +kernel
theorem dL_pass_19 : decode cL_pass 19 = .ok (.bipush 10, 2) := by decide +kernel
theorem dL_pass_21 : decode cL_pass 21 = .ok (.istore 6, 2) := by decide +kernel
theorem dL_pass_23 : decode cL_pass 23 = .ok (.iload 6, 2) := by decide +kernel
theorem dL_pass_25 : decode cL_pass 25 = .ok (.bipush 15, 2) := by decide +kernel
theorem dL_pass_27 : decode cL_pass 27 = .ok (.if_icmp .ge 31, 3) := by decide +kernel
theorem dL_pass_30 : decode cL_pass 30 = .ok (.aload_n 1, 1) := by decide +kernel
theorem dL_pass_31 : decode cL_pass 31 = .ok (.iload 6, 2) := by decide +kernel
theorem dL_pass_33 : decode cL_pass 33 = .ok (.aload_n 1, 1) := by decide +kernel
theorem dL_pass_34 : decode cL_pass 34 = .ok (.iload 6, 2) := by decide +kernel
theorem dL_pass_36 : decode cL_pass 36 = .ok (.iaload, 1) := by decide +kernel
theorem dL_pass_37 : decode cL_pass 37 = .ok (.iconst 1, 1) := by decide +kernel
theorem dL_pass_38 : decode cL_pass 38 = .ok (.if_icmp .le 12, 3) := by decide +kernel
theorem dL_pass_41 : decode cL_pass 41 = .ok (.aload_n 1, 1) := by decide +kernel
theorem dL_pass_42 : decode cL_pass 42 = .ok (.iload 6, 2) := by decide +kernel
theorem dL_pass_44 : decode cL_pass 44 = .ok (.iaload, 1) := by decide +kernel
theorem dL_pass_45 : decode cL_pass 45 = .ok (.iconst 1, 1) := by decide +kernel
theorem dL_pass_46 : decode cL_pass 46 = .ok (.isub, 1) := by decide +kernel
theorem dL_pass_47 : decode cL_pass 47 = .ok (.goto 4, 3) := by decide +kernel
theorem dL_pass_50 : decode cL_pass 50 = .ok (.iconst 0, 1) := by decide +kernel
theorem dL_pass_51 : decode cL_pass 51 = .ok (.iastore, 1) := by decide +kernel
theorem dL_pass_52 : decode cL_pass 52 = .ok (.iinc 6 1, 3) := by decide +kernel
theorem dL_pass_55 : decode cL_pass 55 = .ok (.goto (-32), 3) := by decide +kernel
theorem dL_pass_58 : decode cL_pass 58 = .ok (.aload_n 2, 1) := by decide +kernel
theorem dL_pass_59 : decode cL_pass 59 = .ok (.iconst 2, 1) := by decide +kernel
theorem dL_pass_60 : decode cL_pass 60 = .ok (.iaload, 1) := by decide +kernel
theorem dL_pass_61 : decode cL_pass 61 = .ok (.aload_n 2, 1) := by decide +kernel
theorem dL_pass_62 : decode cL_pass 62 = .ok (.iconst 0, 1) := by decide +kernel
theorem dL_pass_63 : decode cL_pass 63 = .ok (.iaload, 1) := by decide +kernel
theorem dL_pass_64 : decode cL_pass 64 = .ok (.irem, 1) := by decide +kernel
theorem dL_pass_65 : decode cL_pass 65 = .ok (.ifCond .ne 27, 3) := by decide +kernel
theorem dL_pass_68 : decode cL_pass 68 = .ok (.iinc 4 1, 3) := by decide +kernel
theorem dL_pass_71 : decode cL_pass 71 = .ok (.iconst 4, 1) := by decide +kernel
theorem dL_pass_72 : decode cL_pass 72 = .ok (.istore 6, 2) := by decide +kernel
theorem dL_pass_74 : decode cL_pass 74 = .ok (.iload 6, 2) := by decide +kernel
theorem dL_pass_76 : decode cL_pass 76 = .ok (.bipush 8, 2) := by decide +kernel
theorem dL_pass_78 : decode cL_pass 78 = .ok (.if_icmp .ge 14, 3) := by decide +kernel
theorem dL_pass_81 : decode cL_pass 81 = .ok (.aload_n 0, 1) := by decide +kernel
theorem dL_pass_82 : decode cL_pass 82 = .ok (.iload 6, 2) := by decide +kernel
theorem dL_pass_84 : decode cL_pass 84 = .ok (.iconst 0, 1) := by decide +kernel
theorem dL_pass_85 : decode cL_pass 85 = .ok (.iastore, 1) := by decide +kernel
theorem dL_pass_86 : decode cL_pass 86 = .ok (.iinc 6 1, 3) := by decide +kernel
theorem dL_pass_89 : decode cL_pass 89 = .ok (.goto (-15), 3) := by decide +kernel
theorem dL_pass_92 : decode cL_pass 92 = .ok (.iinc 5 1, 3) := by decide +kernel
theorem dL_pass_95 : decode cL_pass 95 = .ok (.goto (-89), 3) := by decide +kernel
theorem dL_pass_98 : decode cL_pass 98 = .ok (.aload_n 2, 1) := by decide +kernel
theorem dL_pass_99 : decode cL_pass 99 = .ok (.iconst 3, 1) := by decide +kernel
theorem dL_pass_100 : decode cL_pass 100 = .ok (.dup2, 1) := by decide +kernel
theorem dL_pass_101 : decode cL_pass 101 = .ok (.iaload, 1) := by decide +kernel
theorem dL_pass_102 : decode cL_pass 102 = .ok (.iload 4, 2) := by decide +kernel
theorem dL_pass_104 : decode cL_pass 104 = .ok (.iadd, 1) := by decide +kernel
theorem dL_pass_105 : decode cL_pass 105 = .ok (.iastore, 1) := by decide +kernel
theorem dL_pass_106 : decode cL_pass 106 = .ok (.iload 4, 2) := by decide +kernel
theorem dL_pass_108 : decode cL_pass 108 = .ok (.ireturn, 1) := by decide +kernel
theorem dL_glide_0 : decode cL_glide 0 = .ok (.iconst 0, 1) := by decide +kernel
theorem dL_glide_1 : decode cL_glide 1 = .ok (.istore 7, 2) := by decide +kernel
theorem dL_glide_3 : decode cL_glide 3 = .ok (.aload_n 1, 1) := by decide +kernel
theorem dL_glide_4 : decode cL_glide 4 = .ok (.iload 6, 2) := by decide +kernel
theorem dL_glide_6 : decode cL_glide 6 = .ok (.dup2, 1) := by decide +kernel
theorem dL_glide_7 : decode cL_glide 7 = .ok (.iaload, 1) := by decide +kernel
theorem dL_glide_8 : decode cL_glide 8 = .ok (.iconst 1, 1) := by decide +kernel
theorem dL_glide_9 : decode cL_glide 9 = .ok (.iadd, 1) := by decide +kernel
theorem dL_glide_10 : decode cL_glide 10 = .ok (.iastore, 1) := by decide +kernel
theorem dL_glide_11 : decode cL_glide 11 = .ok (.iconst 0, 1) := by decide +kernel
theorem dL_glide_12 : decode cL_glide 12 = .ok (.istore 8, 2) := by decide +kernel
theorem dL_glide_14 : decode cL_glide 14 = .ok (.iload 8, 2) := by decide +kernel
theorem dL_glide_16 : decode cL_glide 16 = .ok (.aload 4, 2) := by decide +kernel
theorem dL_glide_18 : decode cL_glide 18 = .ok (.iconst 5, 1) := by decide +kernel
theorem dL_glide_19 : decode cL_glide 19 = .ok (.iaload, 1) := by decide +kernel
theorem dL_glide_20 : decode cL_glide 20 = .ok (.if_icmp .ge 74, 3) := by decide +kernel
theorem dL_glide_23 : decode cL_glide 23 = .ok (.aload_n 0, 1) := by decide +kernel
theorem dL_glide_24 : decode cL_glide 24 = .ok (.aload_n 3, 1) := by decide +kernel
theorem dL_glide_25 : decode cL_glide 25 = .ok (.aload 4, 2) := by decide +kernel
theorem dL_glide_27 : decode cL_glide 27 = .ok (.iload 6, 2) := by decide +kernel
theorem dL_glide_29 : decode cL_glide 29 = .ok (.iload 8, 2) := by decide +kernel
theorem dL_glide_31 : decode cL_glide 31 = .ok (.invokestatic 44, 3) := by decide +kernel
theorem dL_glide_34 : decode cL_glide 34 = .ok (.aload_n 3, 1) := by decide +kernel
theorem dL_glide_35 : decode cL_glide 35 = .ok (.iconst 5, 1) := by decide +kernel
theorem dL_glide_36 : decode cL_glide 36 = .ok (.iload 8, 2) := by decide +kernel
theorem dL_glide_38 : decode cL_glide 38 = .ok (.iadd, 1) := by decide +kernel
theorem dL_glide_39 : decode cL_glide 39 = .ok (.iaload, 1) := by decide +kernel
theorem dL_glide_40 : decode cL_glide 40 = .ok (.if_icmp .lt 48, 3) := by decide +kernel
theorem dL_glide_43 : decode cL_glide 43 = .ok (.iload 7, 2) := by decide +kernel
theorem dL_glide_45 : decode cL_glide 45 = .ok (.iconst 1, 1) := by decide +kernel
theorem dL_glide_46 : decode cL_glide 46 = .ok (.iload 8, 2) := by decide +kernel
theorem dL_glide_48 : decode cL_glide 48 = .ok (.ishl, 1) := by decide +kernel
theorem dL_glide_49 : decode cL_glide 49 = .ok (.ior, 1) := by decide +kernel
theorem dL_glide_50 : decode cL_glide 50 = .ok (.istore 7, 2) := by decide +kernel
theorem dL_glide_52 : decode cL_glide 52 = .ok (.aload_n 3, 1) := by decide +kernel
theorem dL_glide_53 : decode cL_glide 53 = .ok (.bipush 15, 2) := by decide +kernel
theorem dL_glide_55 : decode cL_glide 55 = .ok (.iload 8, 2) := by decide +kernel
theorem dL_glide_57 : decode cL_glide 57 = .ok (.iadd, 1) := by decide +kernel
theorem dL_glide_58 : decode cL_glide 58 = .ok (.dup2, 1) := by decide +kernel
theorem dL_glide_59 : decode cL_glide 59 = .ok (.iaload, 1) := by decide +kernel
theorem dL_glide_60 : decode cL_glide 60 = .ok (.aload_n 3, 1) := by decide +kernel
theorem dL_glide_61 : decode cL_glide 61 = .ok (.bipush 10, 2) := by decide +kernel
theorem dL_glide_63 : decode cL_glide 63 = .ok (.iload 8, 2) := by decide +kernel
theorem dL_glide_65 : decode cL_glide 65 = .ok (.iadd, 1) := by decide +kernel
theorem dL_glide_66 : decode cL_glide 66 = .ok (.iaload, 1) := by decide +kernel
theorem dL_glide_67 : decode cL_glide 67 = .ok (.ifCond .le 7, 3) := by decide +kernel
theorem dL_glide_70 : decode cL_glide 70 = .ok (.iconst 0, 1) := by decide +kernel
theorem dL_glide_71 : decode cL_glide 71 = .ok (.goto 4, 3) := by decide +kernel
theorem dL_glide_74 : decode cL_glide 74 = .ok (.iconst 1, 1) := by decide +kernel
theorem dL_glide_75 : decode cL_glide 75 = .ok (.iadd, 1) := by decide +kernel
theorem dL_glide_76 : decode cL_glide 76 = .ok (.iastore, 1) := by decide +kernel
theorem dL_glide_77 : decode cL_glide 77 = .ok (.aload_n 3, 1) := by decide +kernel
theorem dL_glide_78 : decode cL_glide 78 = .ok (.bipush 10, 2) := by decide +kernel
theorem dL_glide_80 : decode cL_glide 80 = .ok (.iload 8, 2) := by decide +kernel
theorem dL_glide_82 : decode cL_glide 82 = .ok (.iadd, 1) := by decide +kernel
theorem dL_glide_83 : decode cL_glide 83 = .ok (.aload 4, 2) := by decide +kernel
theorem dL_glide_85 : decode cL_glide 85 = .ok (.iconst 1, 1) := by decide +kernel
theorem dL_glide_86 : decode cL_glide 86 = .ok (.iaload, 1) := by decide +kernel
theorem dL_glide_87 : decode cL_glide 87 = .ok (.iastore, 1) := by decide +kernel
theorem dL_glide_88 : decode cL_glide 88 = .ok (.iinc 8 1, 3) := by decide +kernel
theorem dL_glide_91 : decode cL_glide 91 = .ok (.goto (-77), 3) := by decide +kernel
theorem dL_glide_94 : decode cL_glide 94 = .ok (.aload_n 2, 1) := by decide +kernel
theorem dL_glide_95 : decode cL_glide 95 = .ok (.aload_n 3, 1) := by decide +kernel
theorem dL_glide_96 : decode cL_glide 96 = .ok (.aload 4, 2) := by decide +kernel
theorem dL_glide_98 : decode cL_glide 98 = .ok (.aload_n 0, 1) := by decide +kernel
theorem dL_glide_99 : decode cL_glide 99 = .ok (.iload 6, 2) := by decide +kernel
theorem dL_glide_101 : decode cL_glide 101 = .ok (.invokestatic 48, 3) := by decide +kernel
theorem dL_glide_104 : decode cL_glide 104 = .ok (.invokestatic 51, 3) := by decide +kernel
theorem dL_glide_107 : decode cL_glide 107 = .ok (.pop, 1) := by decide +kernel
theorem dL_glide_108 : decode cL_glide 108 = .ok (.aload_n 2, 1) := by decide +kernel
theorem dL_glide_109 : decode cL_glide 109 = .ok (.iload 5, 2) := by decide +kernel
theorem dL_glide_111 : decode cL_glide 111 = .ok (.aload_n 2, 1) := by decide +kernel
theorem dL_glide_112 : decode cL_glide 112 = .ok (.iload 5, 2) := by decide +kernel
theorem dL_glide_114 : decode cL_glide 114 = .ok (.iaload, 1) := by decide +kernel
theorem dL_glide_115 : decode cL_glide 115 = .ok (.aload_n 0, 1) := by decide +kernel
theorem dL_glide_116 : decode cL_glide 116 = .ok (.iload 6, 2) := by decide +kernel
theorem dL_glide_118 : decode cL_glide 118 = .ok (.invokestatic 10, 3) := by decide +kernel
theorem dL_glide_121 : decode cL_glide 121 = .ok (.if_icmp .ne 12, 3) := by decide +kernel
theorem dL_glide_124 : decode cL_glide 124 = .ok (.aload_n 0, 1) := by decide +kernel
theorem dL_glide_125 : decode cL_glide 125 = .ok (.iload 6, 2) := by decide +kernel
theorem dL_glide_127 : decode cL_glide 127 = .ok (.invokestatic 16, 3) := by decide +kernel
theorem dL_glide_130 : decode cL_glide 130 = .ok (.goto 9, 3) := by decide +kernel
theorem dL_glide_133 : decode cL_glide 133 = .ok (.aload_n 0, 1) := by decide +kernel
theorem dL_glide_134 : decode cL_glide 134 = .ok (.iload 6, 2) := by decide +kernel
theorem dL_glide_136 : decode cL_glide 136 = .ok (.invokestatic 10, 3) := by decide +kernel
theorem dL_glide_139 : decode cL_glide 139 = .ok (.iastore, 1) := by decide +kernel
theorem dL_glide_140 : decode cL_glide 140 = .ok (.aload_n 2, 1) := by decide +kernel
theorem dL_glide_141 : decode cL_glide 141 = .ok (.iconst 4, 1) := by decide +kernel
theorem dL_glide_142 : decode cL_glide 142 = .ok (.iload 5, 2) := by decide +kernel
theorem dL_glide_144 : decode cL_glide 144 = .ok (.iadd, 1) := by decide +kernel
theorem dL_glide_145 : decode cL_glide 145 = .ok (.dup2, 1) := by decide +kernel
theorem dL_glide_146 : decode cL_glide 146 = .ok (.iaload, 1) := by decide +kernel
theorem dL_glide_147 : decode cL_glide 147 = .ok (.iconst 1, 1) := by decide +kernel
theorem dL_glide_148 : decode cL_glide 148 = .ok (.iload 6, 2) := by decide +kernel
theorem dL_glide_150 : decode cL_glide 150 = .ok (.ishl, 1) := by decide +kernel
theorem dL_glide_151 : decode cL_glide 151 = .ok (.ior, 1) := by decide +kernel
theorem dL_glide_152 : decode cL_glide 152 = .ok (.iastore, 1) := by decide +kernel
theorem dL_glide_153 : decode cL_glide 153 = .ok (.aload_n 2, 1) := by decide +kernel
theorem dL_glide_154 : decode cL_glide 154 = .ok (.bipush 8, 2) := by decide +kernel
theorem dL_glide_156 : decode cL_glide 156 = .ok (.iload 5, 2) := by decide +kernel
theorem dL_glide_158 : decode cL_glide 158 = .ok (.iadd, 1) := by decide +kernel
theorem dL_glide_159 : decode cL_glide 159 = .ok (.dup2, 1) := by decide +kernel
theorem dL_glide_160 : decode cL_glide 160 = .ok (.iaload, 1) := by decide +kernel
theorem dL_glide_161 : decode cL_glide 161 = .ok (.iconst 1, 1) := by decide +kernel
theorem dL_glide_162 : decode cL_glide 162 = .ok (.iadd, 1) := by decide +kernel
theorem dL_glide_163 : decode cL_glide 163 = .ok (.iastore, 1) := by decide +kernel
theorem dL_glide_164 : decode cL_glide 164 = .ok (.iload 7, 2) := by decide +kernel
theorem dL_glide_166 : decode cL_glide 166 = .ok (.ireturn, 1) := by decide +kernel
theorem dL_costs_0 : decode cL_costs 0 = .ok (.bipush 10, 2) := by decide +kernel
theorem dL_costs_2 : decode cL_costs 2 = .ok (.newarray .int, 2) := by decide +kernel
theorem dL_costs_4 : decode cL_costs 4 = .ok (.astore 4, 2) := by decide +kernel
theorem dL_costs_6 : decode cL_costs 6 = .ok (.iconst 0, 1) := by decide +kernel
theorem dL_costs_7 : decode cL_costs 7 = .ok (.istore 5, 2) := by decide +kernel
theorem dL_costs_9 : decode cL_costs 9 = .ok (.iload 5, 2) := by decide +kernel
theorem dL_costs_11 : decode cL_costs 11 = .ok (.bipush 10, 2) := by decide +kernel
theorem dL_costs_13 : decode cL_costs 13 = .ok (.if_icmp .ge 26, 3) := by decide +kernel
theorem dL_costs_16 : decode cL_costs 16 = .ok (.aload 4, 2) := by decide +kernel
theorem dL_costs_18 : decode cL_costs 18 = .ok (.iload 5, 2) := by decide +kernel
theorem dL_costs_20 : decode cL_costs 20 = .ok (.iload 5, 2) := by decide +kernel
theorem dL_costs_22 : decode cL_costs 22 = .ok (.iload_n 2, 1) := by decide +kernel
theorem dL_costs_23 : decode cL_costs 23 = .ok (.if_icmp .ne 7, 3) := by decide +kernel
theorem dL_costs_26 : decode cL_costs 26 = .ok (.iconst 0, 1) := by decide +kernel
theorem dL_costs_27 : decode cL_costs 27 = .ok (.goto 5, 3) := by decide +kernel
theorem dL_costs_30 : decode cL_costs 30 = .ok (.ldc 55, 2) := by decide +kernel
theorem dL_costs_32 : decode cL_costs 32 = .ok (.iastore, 1) := by decide +kernel
theorem dL_costs_33 : decode cL_costs 33 = .ok (.iinc 5 1, 3) := by decide +kernel
theorem dL_costs_36 : decode cL_costs 36 = .ok (.goto (-27), 3) := by decide +kernel
theorem dL_costs_39 : decode cL_costs 39 = .ok (.iconst 1, 1) := by decide +kernel
theorem dL_costs_40 : decode cL_costs 40 = .ok (.istore 5, 2) := by decide +kernel
theorem dL_costs_42 : decode cL_costs 42 = .ok (.iload 5, 2) := by decide +kernel
theorem dL_costs_44 : decode cL_costs 44 = .ok (.ifCond .eq 145, 3) := by decide +kernel
theorem dL_costs_47 : decode cL_costs 47 = .ok (.iconst 0, 1) := by decide +kernel
theorem dL_costs_48 : decode cL_costs 48 = .ok (.istore 5, 2) := by decide +kernel
theorem dL_costs_50 : decode cL_costs 50 = .ok (.iconst 0, 1) := by decide +kernel
theorem dL_costs_51 : decode cL_costs 51 = .ok (.istore 6, 2) := by decide +kernel
theorem dL_costs_53 : decode cL_costs 53 = .ok (.iload 6, 2) := by decide +kernel
theorem dL_costs_55 : decode cL_costs 55 = .ok (.aload_n 1, 1) := by decide +kernel
theorem dL_costs_56 : decode cL_costs 56 = .ok (.iconst 4, 1) := by decide +kernel
theorem dL_costs_57 : decode cL_costs 57 = .ok (.iaload, 1) := by decide +kernel
theorem dL_costs_58 : decode cL_costs 58 = .ok (.if_icmp .ge 128, 3) := by decide +kernel
theorem dL_costs_61 : decode cL_costs 61 = .ok (.iload_n 3, 1) := by decide +kernel
theorem dL_costs_62 : decode cL_costs 62 = .ok (.iload 6, 2) := by decide +kernel
theorem dL_costs_64 : decode cL_costs 64 = .ok (.ishr, 1) := by decide +kernel
theorem dL_costs_65 : decode cL_costs 65 = .ok (.iconst 1, 1) := by decide +kernel
theorem dL_costs_66 : decode cL_costs 66 = .ok (.iand, 1) := by decide +kernel
theorem dL_costs_67 : decode cL_costs 67 = .ok (.iconst 1, 1) := by decide +kernel
theorem dL_costs_68 : decode cL_costs 68 = .ok (.if_icmp .ne 17, 3) := by decide +kernel
theorem dL_costs_71 : decode cL_costs 71 = .ok (.bipush 100, 2) := by decide +kernel
theorem dL_costs_73 : decode cL_costs 73 = .ok (.aload_n 0, 1) := by decide +kernel
theorem dL_costs_74 : decode cL_costs 74 = .ok (.iload 6, 2) := by decide +kernel
theorem dL_costs_76 : decode cL_costs 76 = .ok (.invokestatic 48, 3) := by decide +kernel
theorem dL_costs_79 : decode cL_costs 79 = .ok (.imul, 1) := by decide +kernel
theorem dL_costs_80 : decode cL_costs 80 = .ok (.iconst 1, 1) := by decide +kernel
theorem dL_costs_81 : decode cL_costs 81 = .ok (.iadd, 1) := by decide +kernel
theorem dL_costs_82 : decode cL_costs 82 = .ok (.goto 5, 3) := by decide +kernel
theorem dL_costs_85 : decode cL_costs 85 = .ok (.ldc 55, 2) := by decide +kernel
theorem dL_costs_87 : decode cL_costs 87 = .ok (.istore 7, 2) := by decide +kernel
theorem dL_costs_89 : decode cL_costs 89 = .ok (.iconst 0, 1) := by decide +kernel
theorem dL_costs_90 : decode cL_costs 90 = .ok (.istore 8, 2) := by decide +kernel
theorem dL_costs_92 : decode cL_costs 92 = .ok (.iload 8, 2) := by decide +kernel
theorem dL_costs_94 : decode cL_costs 94 = .ok (.iconst 2, 1) := by decide +kernel
theorem dL_costs_95 : decode cL_costs 95 = .ok (.if_icmp .ge 85, 3) := by decide +kernel
theorem dL_costs_98 : decode cL_costs 98 = .ok (.iload 8, 2) := by decide +kernel
theorem dL_costs_100 : decode cL_costs 100 = .ok (.ifCond .ne 12, 3) := by decide +kernel
theorem dL_costs_103 : decode cL_costs 103 = .ok (.aload_n 0, 1) := by decide +kernel
theorem dL_costs_104 : decode cL_costs 104 = .ok (.iload 6, 2) := by decide +kernel
theorem dL_costs_106 : decode cL_costs 106 = .ok (.invokestatic 10, 3) := by decide +kernel
theorem dL_costs_109 : decode cL_costs 109 = .ok (.goto 9, 3) := by decide +kernel
theorem dL_costs_112 : decode cL_costs 112 = .ok (.aload_n 0, 1) := by decide +kernel
theorem dL_costs_113 : decode cL_costs 113 = .ok (.iload 6, 2) := by decide +kernel
theorem dL_costs_115 : decode cL_costs 115 = .ok (.invokestatic 16, 3) := by decide +kernel
theorem dL_costs_118 : decode cL_costs 118 = .ok (.istore 9, 2) := by decide +kernel
theorem dL_costs_120 : decode cL_costs 120 = .ok (.iload 8, 2) := by decide +kernel
theorem dL_costs_122 : decode cL_costs 122 = .ok (.ifCond .ne 12, 3) := by decide +kernel
theorem dL_costs_125 : decode cL_costs 125 = .ok (.aload_n 0, 1) := by decide +kernel
theorem dL_costs_126 : decode cL_costs 126 = .ok (.iload 6, 2) := by decide +kernel
theorem dL_costs_128 : decode cL_costs 128 = .ok (.invokestatic 16, 3) := by decide +kernel
theorem dL_costs_131 : decode cL_costs 131 = .ok (.goto 9, 3) := by decide +kernel
theorem dL_costs_134 : decode cL_costs 134 = .ok (.aload_n 0, 1) := by decide +kernel
theorem dL_costs_135 : decode cL_costs 135 = .ok (.iload 6, 2) := by decide +kernel
theorem dL_costs_137 : decode cL_costs 137 = .ok (.invokestatic 10, 3) := by decide +kernel
theorem dL_costs_140 : decode cL_costs 140 = .ok (.istore 10, 2) := by decide +kernel
theorem dL_costs_142 : decode cL_costs 142 = .ok (.aload 4, 2) := by decide +kernel
theorem dL_costs_144 : decode cL_costs 144 = .ok (.iload 10, 2) := by decide +kernel
theorem dL_costs_146 : decode cL_costs 146 = .ok (.iaload, 1) := by decide +kernel
theorem dL_costs_147 : decode cL_costs 147 = .ok (.iload 7, 2) := by decide +kernel
theorem dL_costs_149 : decode cL_costs 149 = .ok (.iadd, 1) := by decide +kernel
theorem dL_costs_150 : decode cL_costs 150 = .ok (.aload 4, 2) := by decide +kernel
theorem dL_costs_152 : decode cL_costs 152 = .ok (.iload 9, 2) := by decide +kernel
theorem dL_costs_154 : decode cL_costs 154 = .ok (.iaload, 1) := by decide +kernel
theorem dL_costs_155 : decode cL_costs 155 = .ok (.if_icmp .ge 19, 3) := by decide +kernel
theorem dL_costs_158 : decode cL_costs 158 = .ok (.aload 4, 2) := by decide +kernel
theorem dL_costs_160 : decode cL_costs 160 = .ok (.iload 9, 2) := by decide +kernel
theorem dL_costs_162 : decode cL_costs 162 = .ok (.aload 4, 2) := by decide +kernel
theorem dL_costs_164 : decode cL_costs 164 = .ok (.iload 10, 2) := by decide +kernel
theorem dL_costs_166 : decode cL_costs 166 = .ok (.iaload, 1) := by decide +kernel
theorem dL_costs_167 : decode cL_costs 167 = .ok (.iload 7, 2) := by decide +kernel
theorem dL_costs_169 : decode cL_costs 169 = .ok (.iadd, 1) := by decide +kernel
theorem dL_costs_170 : decode cL_costs 170 = .ok (.iastore, 1) := by decide +kernel
theorem dL_costs_171 : decode cL_costs 171 = .ok (.iconst 1, 1) := by decide +kernel
theorem dL_costs_172 : decode cL_costs 172 = .ok (.istore 5, 2) := by decide +kernel
theorem dL_costs_174 : decode cL_costs 174 = .ok (.iinc 8 1, 3) := by decide +kernel
theorem dL_costs_177 : decode cL_costs 177 = .ok (.goto (-85), 3) := by decide +kernel
theorem dL_costs_180 : decode cL_costs 180 = .ok (.iinc 6 1, 3) := by decide +kernel
theorem dL_costs_183 : decode cL_costs 183 = .ok (.goto (-130), 3) := by decide +kernel
theorem dL_costs_186 : decode cL_costs 186 = .ok (.goto (-144), 3) := by decide +kernel
theorem dL_costs_189 : decode cL_costs 189 = .ok (.aload 4, 2) := by decide +kernel
theorem dL_costs_191 : decode cL_costs 191 = .ok (.areturn, 1) := by decide +kernel
theorem dL_first_0 : decode cL_first 0 = .ok (.iconst (-1), 1) := by decide +kernel
theorem dL_first_1 : decode cL_first 1 = .ok (.istore 5, 2) := by decide +kernel
theorem dL_first_3 : decode cL_first 3 = .ok (.iconst 0, 1) := by decide +kernel
theorem dL_first_4 : decode cL_first 4 = .ok (.istore 6, 2) := by decide +kernel
theorem dL_first_6 : decode cL_first 6 = .ok (.iload 6, 2) := by decide +kernel
theorem dL_first_8 : decode cL_first 8 = .ok (.aload_n 1, 1) := by decide +kernel
theorem dL_first_9 : decode cL_first 9 = .ok (.iconst 4, 1) := by decide +kernel
theorem dL_first_10 : decode cL_first 10 = .ok (.iaload, 1) := by decide +kernel
theorem dL_first_11 : decode cL_first 11 = .ok (.if_icmp .ge 115, 3) := by decide +kernel
theorem dL_first_14 : decode cL_first 14 = .ok (.iload 5, 2) := by decide +kernel
theorem dL_first_16 : decode cL_first 16 = .ok (.ifCond .ge 110, 3) := by decide +kernel
theorem dL_first_19 : decode cL_first 19 = .ok (.iload 4, 2) := by decide +kernel
theorem dL_first_21 : decode cL_first 21 = .ok (.iload 6, 2) := by decide +kernel
theorem dL_first_23 : decode cL_first 23 = .ok (.ishr, 1) := by decide +kernel
theorem dL_first_24 : decode cL_first 24 = .ok (.iconst 1, 1) := by decide +kernel
theorem dL_first_25 : decode cL_first 25 = .ok (.iand, 1) := by decide +kernel
theorem dL_first_26 : decode cL_first 26 = .ok (.iconst 1, 1) := by decide +kernel
theorem dL_first_27 : decode cL_first 27 = .ok (.if_icmp .ne 27, 3) := by decide +kernel
theorem dL_first_30 : decode cL_first 30 = .ok (.aload_n 0, 1) := by decide +kernel
theorem dL_first_31 : decode cL_first 31 = .ok (.iload 6, 2) := by decide +kernel
theorem dL_first_33 : decode cL_first 33 = .ok (.invokestatic 10, 3) := by decide +kernel
theorem dL_first_36 : decode cL_first 36 = .ok (.iload_n 3, 1) := by decide +kernel
theorem dL_first_37 : decode cL_first 37 = .ok (.if_icmp .eq 13, 3) := by decide +kernel
theorem dL_first_40 : decode cL_first 40 = .ok (.aload_n 0, 1) := by decide +kernel
theorem dL_first_41 : decode cL_first 41 = .ok (.iload 6, 2) := by decide +kernel
theorem dL_first_43 : decode cL_first 43 = .ok (.invokestatic 16, 3) := by decide +kernel
theorem dL_first_46 : decode cL_first 46 = .ok (.iload_n 3, 1) := by decide +kernel
theorem dL_first_47 : decode cL_first 47 = .ok (.if_icmp .ne 7, 3) := by decide +kernel
theorem dL_first_50 : decode cL_first 50 = .ok (.iconst 1, 1) := by decide +kernel
theorem dL_first_51 : decode cL_first 51 = .ok (.goto 4, 3) := by decide +kernel
theorem dL_first_54 : decode cL_first 54 = .ok (.iconst 0, 1) := by decide +kernel
theorem dL_first_55 : decode cL_first 55 = .ok (.istore 7, 2) := by decide +kernel
theorem dL_first_57 : decode cL_first 57 = .ok (.aload_n 0, 1) := by decide +kernel
theorem dL_first_58 : decode cL_first 58 = .ok (.iload 6, 2) := by decide +kernel
theorem dL_first_60 : decode cL_first 60 = .ok (.invokestatic 10, 3) := by decide +kernel
theorem dL_first_63 : decode cL_first 63 = .ok (.iload_n 3, 1) := by decide +kernel
theorem dL_first_64 : decode cL_first 64 = .ok (.if_icmp .ne 12, 3) := by decide +kernel
theorem dL_first_67 : decode cL_first 67 = .ok (.aload_n 0, 1) := by decide +kernel
theorem dL_first_68 : decode cL_first 68 = .ok (.iload 6, 2) := by decide +kernel
theorem dL_first_70 : decode cL_first 70 = .ok (.invokestatic 16, 3) := by decide +kernel
theorem dL_first_73 : decode cL_first 73 = .ok (.goto 9, 3) := by decide +kernel
theorem dL_first_76 : decode cL_first 76 = .ok (.aload_n 0, 1) := by decide +kernel
theorem dL_first_77 : decode cL_first 77 = .ok (.iload 6, 2) := by decide +kernel
theorem dL_first_79 : decode cL_first 79 = .ok (.invokestatic 10, 3) := by decide +kernel
theorem dL_first_82 : decode cL_first 82 = .ok (.istore 8, 2) := by decide +kernel
theorem dL_first_84 : decode cL_first 84 = .ok (.iload 7, 2) := by decide +kernel
theorem dL_first_86 : decode cL_first 86 = .ok (.ifCond .eq 30, 3) := by decide +kernel
theorem dL_first_89 : decode cL_first 89 = .ok (.aload_n 2, 1) := by decide +kernel
theorem dL_first_90 : decode cL_first 90 = .ok (.iload 8, 2) := by decide +kernel
theorem dL_first_92 : decode cL_first 92 = .ok (.iaload, 1) := by decide +kernel
theorem dL_first_93 : decode cL_first 93 = .ok (.bipush 100, 2) := by decide +kernel
theorem dL_first_95 : decode cL_first 95 = .ok (.aload_n 0, 1) := by decide +kernel
theorem dL_first_96 : decode cL_first 96 = .ok (.iload 6, 2) := by decide +kernel
theorem dL_first_98 : decode cL_first 98 = .ok (.invokestatic 48, 3) := by decide +kernel
theorem dL_first_101 : decode cL_first 101 = .ok (.imul, 1) := by decide +kernel
theorem dL_first_102 : decode cL_first 102 = .ok (.iadd, 1) := by decide +kernel
theorem dL_first_103 : decode cL_first 103 = .ok (.iconst 1, 1) := by decide +kernel
theorem dL_first_104 : decode cL_first 104 = .ok (.iadd, 1) := by decide +kernel
theorem dL_first_105 : decode cL_first 105 = .ok (.aload_n 2, 1) := by decide +kernel
theorem dL_first_106 : decode cL_first 106 = .ok (.iload_n 3, 1) := by decide +kernel
theorem dL_first_107 : decode cL_first 107 = .ok (.iaload, 1) := by decide +kernel
theorem dL_first_108 : decode cL_first 108 = .ok (.if_icmp .ne 8, 3) := by decide +kernel
theorem dL_first_111 : decode cL_first 111 = .ok (.iload 6, 2) := by decide +kernel
theorem dL_first_113 : decode cL_first 113 = .ok (.goto 5, 3) := by decide +kernel
theorem dL_first_116 : decode cL_first 116 = .ok (.iload 5, 2) := by decide +kernel
theorem dL_first_118 : decode cL_first 118 = .ok (.istore 5, 2) := by decide +kernel
theorem dL_first_120 : decode cL_first 120 = .ok (.iinc 6 1, 3) := by decide +kernel
theorem dL_first_123 : decode cL_first 123 = .ok (.goto (-117), 3) := by decide +kernel
theorem dL_first_126 : decode cL_first 126 = .ok (.iload 5, 2) := by decide +kernel
theorem dL_first_128 : decode cL_first 128 = .ok (.ireturn, 1) := by decide +kernel
theorem dL_ways_0 : decode cL_ways 0 = .ok (.aload_n 1, 1) := by decide +kernel
theorem dL_ways_1 : decode cL_ways 1 = .ok (.aload_n 2, 1) := by decide +kernel
theorem dL_ways_2 : decode cL_ways 2 = .ok (.aload_n 3, 1) := by decide +kernel
theorem dL_ways_3 : decode cL_ways 3 = .ok (.aload 4, 2) := by decide +kernel
theorem dL_ways_5 : decode cL_ways 5 = .ok (.iload 5, 2) := by decide +kernel
theorem dL_ways_7 : decode cL_ways 7 = .ok (.invokestatic 56, 3) := by decide +kernel
theorem dL_ways_10 : decode cL_ways 10 = .ok (.istore 7, 2) := by decide +kernel
theorem dL_ways_12 : decode cL_ways 12 = .ok (.aload_n 1, 1) := by decide +kernel
theorem dL_ways_13 : decode cL_ways 13 = .ok (.aload 4, 2) := by decide +kernel
theorem dL_ways_15 : decode cL_ways 15 = .ok (.iload 6, 2) := by decide +kernel
theorem dL_ways_17 : decode cL_ways 17 = .ok (.iload 7, 2) := by decide +kernel
theorem dL_ways_19 : decode cL_ways 19 = .ok (.invokestatic 60, 3) := by decide +kernel
theorem dL_ways_22 : decode cL_ways 22 = .ok (.astore 8, 2) := by decide +kernel
theorem dL_ways_24 : decode cL_ways 24 = .ok (.aload_n 2, 1) := by decide +kernel
theorem dL_ways_25 : decode cL_ways 25 = .ok (.iload 5, 2) := by decide +kernel
theorem dL_ways_27 : decode cL_ways 27 = .ok (.iaload, 1) := by decide +kernel
theorem dL_ways_28 : decode cL_ways 28 = .ok (.istore 9, 2) := by decide +kernel
theorem dL_ways_30 : decode cL_ways 30 = .ok (.bipush (-6), 2) := by decide +kernel
theorem dL_ways_32 : decode cL_ways 32 = .ok (.istore 10, 2) := by decide +kernel
theorem dL_ways_34 : decode cL_ways 34 = .ok (.aload 8, 2) := by decide +kernel
theorem dL_ways_36 : decode cL_ways 36 = .ok (.iload 9, 2) := by decide +kernel
theorem dL_ways_38 : decode cL_ways 38 = .ok (.iaload, 1) := by decide +kernel
theorem dL_ways_39 : decode cL_ways 39 = .ok (.ldc 55, 2) := by decide +kernel
theorem dL_ways_41 : decode cL_ways 41 = .ok (.if_icmp .lt 50, 3) := by decide +kernel
theorem dL_ways_44 : decode cL_ways 44 = .ok (.aload_n 0, 1) := by decide +kernel
theorem dL_ways_45 : decode cL_ways 45 = .ok (.iload 5, 2) := by decide +kernel
theorem dL_ways_47 : decode cL_ways 47 = .ok (.iload 6, 2) := by decide +kernel
theorem dL_ways_49 : decode cL_ways 49 = .ok (.iconst 0, 1) := by decide +kernel
theorem dL_ways_50 : decode cL_ways 50 = .ok (.invokevirtual 64, 3) := by decide +kernel
theorem dL_ways_53 : decode cL_ways 53 = .ok (.iload 10, 2) := by decide +kernel
theorem dL_ways_55 : decode cL_ways 55 = .ok (.if_icmp .ne 34, 3) := by decide +kernel
theorem dL_ways_58 : decode cL_ways 58 = .ok (.aload_n 0, 1) := by decide +kernel
theorem dL_ways_59 : decode cL_ways 59 = .ok (.iload 5, 2) := by decide +kernel
theorem dL_ways_61 : decode cL_ways 61 = .ok (.iload 6, 2) := by decide +kernel
theorem dL_ways_63 : decode cL_ways 63 = .ok (.iconst 2, 1) := by decide +kernel
theorem dL_ways_64 : decode cL_ways 64 = .ok (.invokevirtual 64, 3) := by decide +kernel
theorem dL_ways_67 : decode cL_ways 67 = .ok (.iload 10, 2) := by decide +kernel
theorem dL_ways_69 : decode cL_ways 69 = .ok (.if_icmp .ne 20, 3) := by decide +kernel
theorem dL_ways_72 : decode cL_ways 72 = .ok (.aload_n 0, 1) := by decide +kernel
theorem dL_ways_73 : decode cL_ways 73 = .ok (.iload 5, 2) := by decide +kernel
theorem dL_ways_75 : decode cL_ways 75 = .ok (.iload 6, 2) := by decide +kernel
theorem dL_ways_77 : decode cL_ways 77 = .ok (.invokevirtual 68, 3) := by decide +kernel
theorem dL_ways_80 : decode cL_ways 80 = .ok (.iload 10, 2) := by decide +kernel
theorem dL_ways_82 : decode cL_ways 82 = .ok (.if_icmp .ne 7, 3) := by decide +kernel
theorem dL_ways_85 : decode cL_ways 85 = .ok (.iconst 1, 1) := by decide +kernel
theorem dL_ways_86 : decode cL_ways 86 = .ok (.goto 4, 3) := by decide +kernel
theorem dL_ways_89 : decode cL_ways 89 = .ok (.iconst 0, 1) := by decide +kernel
theorem dL_ways_90 : decode cL_ways 90 = .ok (.ireturn, 1) := by decide +kernel
theorem dL_ways_91 : decode cL_ways 91 = .ok (.aload_n 0, 1) := by decide +kernel
theorem dL_ways_92 : decode cL_ways 92 = .ok (.iload 5, 2) := by decide +kernel
theorem dL_ways_94 : decode cL_ways 94 = .ok (.iload 6, 2) := by decide +kernel
theorem dL_ways_96 : decode cL_ways 96 = .ok (.iconst 0, 1) := by decide +kernel
theorem dL_ways_97 : decode cL_ways 97 = .ok (.invokevirtual 64, 3) := by decide +kernel
theorem dL_ways_100 : decode cL_ways 100 = .ok (.aload 8, 2) := by decide +kernel
theorem dL_ways_102 : decode cL_ways 102 = .ok (.iload 9, 2) := by decide +kernel
theorem dL_ways_104 : decode cL_ways 104 = .ok (.iaload, 1) := by decide +kernel
theorem dL_ways_105 : decode cL_ways 105 = .ok (.bipush 100, 2) := by decide +kernel
theorem dL_ways_107 : decode cL_ways 107 = .ok (.idiv, 1) := by decide +kernel
theorem dL_ways_108 : decode cL_ways 108 = .ok (.if_icmp .ne 27, 3) := by decide +kernel
theorem dL_ways_111 : decode cL_ways 111 = .ok (.aload_n 0, 1) := by decide +kernel
theorem dL_ways_112 : decode cL_ways 112 = .ok (.iload 5, 2) := by decide +kernel
theorem dL_ways_114 : decode cL_ways 114 = .ok (.iload 6, 2) := by decide +kernel
theorem dL_ways_116 : decode cL_ways 116 = .ok (.iconst 1, 1) := by decide +kernel
theorem dL_ways_117 : decode cL_ways 117 = .ok (.invokevirtual 64, 3) := by decide +kernel
theorem dL_ways_120 : decode cL_ways 120 = .ok (.aload 8, 2) := by decide +kernel
theorem dL_ways_122 : decode cL_ways 122 = .ok (.iload 9, 2) := by decide +kernel
theorem dL_ways_124 : decode cL_ways 124 = .ok (.iaload, 1) := by decide +kernel
theorem dL_ways_125 : decode cL_ways 125 = .ok (.bipush 100, 2) := by decide +kernel
theorem dL_ways_127 : decode cL_ways 127 = .ok (.irem, 1) := by decide +kernel
theorem dL_ways_128 : decode cL_ways 128 = .ok (.if_icmp .ne 7, 3) := by decide +kernel
theorem dL_ways_131 : decode cL_ways 131 = .ok (.iconst 1, 1) := by decide +kernel
theorem dL_ways_132 : decode cL_ways 132 = .ok (.goto 4, 3) := by decide +kernel
theorem dL_ways_135 : decode cL_ways 135 = .ok (.iconst 0, 1) := by decide +kernel
theorem dL_ways_136 : decode cL_ways 136 = .ok (.istore 11, 2) := by decide +kernel
theorem dL_ways_138 : decode cL_ways 138 = .ok (.iconst 2, 1) := by decide +kernel
theorem dL_ways_139 : decode cL_ways 139 = .ok (.istore 12, 2) := by decide +kernel
theorem dL_ways_141 : decode cL_ways 141 = .ok (.iload 9, 2) := by decide +kernel
theorem dL_ways_143 : decode cL_ways 143 = .ok (.iload 6, 2) := by decide +kernel
theorem dL_ways_145 : decode cL_ways 145 = .ok (.if_icmp .eq 78, 3) := by decide +kernel
theorem dL_ways_148 : decode cL_ways 148 = .ok (.iload 11, 2) := by decide +kernel
theorem dL_ways_150 : decode cL_ways 150 = .ok (.ifCond .eq 73, 3) := by decide +kernel
theorem dL_ways_153 : decode cL_ways 153 = .ok (.aload_n 1, 1) := by decide +kernel
theorem dL_ways_154 : decode cL_ways 154 = .ok (.aload 4, 2) := by decide +kernel
theorem dL_ways_156 : decode cL_ways 156 = .ok (.aload 8, 2) := by decide +kernel
theorem dL_ways_158 : decode cL_ways 158 = .ok (.iload 9, 2) := by decide +kernel
theorem dL_ways_160 : decode cL_ways 160 = .ok (.iload 7, 2) := by decide +kernel
theorem dL_ways_162 : decode cL_ways 162 = .ok (.invokestatic 72, 3) := by decide +kernel
theorem dL_ways_165 : decode cL_ways 165 = .ok (.istore 13, 2) := by decide +kernel
theorem dL_ways_167 : decode cL_ways 167 = .ok (.aload_n 0, 1) := by decide +kernel
theorem dL_ways_168 : decode cL_ways 168 = .ok (.iload 5, 2) := by decide +kernel
theorem dL_ways_170 : decode cL_ways 170 = .ok (.iload 6, 2) := by decide +kernel
theorem dL_ways_172 : decode cL_ways 172 = .ok (.iload 12, 2) := by decide +kernel
theorem dL_ways_174 : decode cL_ways 174 = .ok (.invokevirtual 64, 3) := by decide +kernel
theorem dL_ways_177 : decode cL_ways 177 = .ok (.iload 13, 2) := by decide +kernel
theorem dL_ways_179 : decode cL_ways 179 = .ok (.if_icmp .ne 7, 3) := by decide +kernel
theorem dL_ways_182 : decode cL_ways 182 = .ok (.iconst 1, 1) := by decide +kernel
theorem dL_ways_183 : decode cL_ways 183 = .ok (.goto 4, 3) := by decide +kernel
theorem dL_ways_186 : decode cL_ways 186 = .ok (.iconst 0, 1) := by decide +kernel
theorem dL_ways_187 : decode cL_ways 187 = .ok (.istore 11, 2) := by decide +kernel
theorem dL_ways_189 : decode cL_ways 189 = .ok (.aload_n 1, 1) := by decide +kernel
theorem dL_ways_190 : decode cL_ways 190 = .ok (.iload 13, 2) := by decide +kernel
theorem dL_ways_192 : decode cL_ways 192 = .ok (.invokestatic 10, 3) := by decide +kernel
theorem dL_ways_195 : decode cL_ways 195 = .ok (.iload 9, 2) := by decide +kernel
theorem dL_ways_197 : decode cL_ways 197 = .ok (.if_icmp .ne 12, 3) := by decide +kernel
theorem dL_ways_200 : decode cL_ways 200 = .ok (.aload_n 1, 1) := by decide +kernel
theorem dL_ways_201 : decode cL_ways 201 = .ok (.iload 13, 2) := by decide +kernel
theorem dL_ways_203 : decode cL_ways 203 = .ok (.invokestatic 16, 3) := by decide +kernel
theorem dL_ways_206 : decode cL_ways 206 = .ok (.goto 9, 3) := by decide +kernel
theorem dL_ways_209 : decode cL_ways 209 = .ok (.aload_n 1, 1) := by decide +kernel
theorem dL_ways_210 : decode cL_ways 210 = .ok (.iload 13, 2) := by decide +kernel
theorem dL_ways_212 : decode cL_ways 212 = .ok (.invokestatic 10, 3) := by decide +kernel
theorem dL_ways_215 : decode cL_ways 215 = .ok (.istore 9, 2) := by decide +kernel
theorem dL_ways_217 : decode cL_ways 217 = .ok (.iinc 12 1, 3) := by decide +kernel
theorem dL_ways_220 : decode cL_ways 220 = .ok (.goto (-79), 3) := by decide +kernel
theorem dL_ways_223 : decode cL_ways 223 = .ok (.iload 10, 2) := by decide +kernel
theorem dL_ways_225 : decode cL_ways 225 = .ok (.istore 13, 2) := by decide +kernel
theorem dL_ways_227 : decode cL_ways 227 = .ok (.bipush 9, 2) := by decide +kernel
theorem dL_ways_229 : decode cL_ways 229 = .ok (.istore 14, 2) := by decide +kernel
theorem dL_ways_231 : decode cL_ways 231 = .ok (.iload 14, 2) := by decide +kernel
theorem dL_ways_233 : decode cL_ways 233 = .ok (.ifCond .lt 97, 3) := by decide +kernel
theorem dL_ways_236 : decode cL_ways 236 = .ok (.iconst 0, 1) := by decide +kernel
theorem dL_ways_237 : decode cL_ways 237 = .ok (.istore 15, 2) := by decide +kernel
theorem dL_ways_239 : decode cL_ways 239 = .ok (.iconst 0, 1) := by decide +kernel
theorem dL_ways_240 : decode cL_ways 240 = .ok (.istore 16, 2) := by decide +kernel
theorem dL_ways_242 : decode cL_ways 242 = .ok (.iload 16, 2) := by decide +kernel
theorem dL_ways_244 : decode cL_ways 244 = .ok (.aload 4, 2) := by decide +kernel
theorem dL_ways_246 : decode cL_ways 246 = .ok (.iconst 4, 1) := by decide +kernel
theorem dL_ways_247 : decode cL_ways 247 = .ok (.iaload, 1) := by decide +kernel
theorem dL_ways_248 : decode cL_ways 248 = .ok (.if_icmp .ge 44, 3) := by decide +kernel
theorem dL_ways_251 : decode cL_ways 251 = .ok (.iload 15, 2) := by decide +kernel
theorem dL_ways_253 : decode cL_ways 253 = .ok (.iload 7, 2) := by decide +kernel
theorem dL_ways_255 : decode cL_ways 255 = .ok (.iload 16, 2) := by decide +kernel
theorem dL_ways_257 : decode cL_ways 257 = .ok (.ishr, 1) := by decide +kernel
theorem dL_ways_258 : decode cL_ways 258 = .ok (.iconst 1, 1) := by decide +kernel
theorem dL_ways_259 : decode cL_ways 259 = .ok (.iand, 1) := by decide +kernel
theorem dL_ways_260 : decode cL_ways 260 = .ok (.iconst 1, 1) := by decide +kernel
theorem dL_ways_261 : decode cL_ways 261 = .ok (.if_icmp .ne 21, 3) := by decide +kernel
theorem dL_ways_264 : decode cL_ways 264 = .ok (.aload_n 1, 1) := by decide +kernel
theorem dL_ways_265 : decode cL_ways 265 = .ok (.iload 16, 2) := by decide +kernel
theorem dL_ways_267 : decode cL_ways 267 = .ok (.invokestatic 33, 3) := by decide +kernel
theorem dL_ways_270 : decode cL_ways 270 = .ok (.iload 14, 2) := by decide +kernel
theorem dL_ways_272 : decode cL_ways 272 = .ok (.if_icmp .gt 10, 3) := by decide +kernel
theorem dL_ways_275 : decode cL_ways 275 = .ok (.iconst 1, 1) := by decide +kernel
theorem dL_ways_276 : decode cL_ways 276 = .ok (.iload 16, 2) := by decide +kernel
theorem dL_ways_278 : decode cL_ways 278 = .ok (.ishl, 1) := by decide +kernel
theorem dL_ways_279 : decode cL_ways 279 = .ok (.goto 4, 3) := by decide +kernel
theorem dL_ways_282 : decode cL_ways 282 = .ok (.iconst 0, 1) := by decide +kernel
theorem dL_ways_283 : decode cL_ways 283 = .ok (.ior, 1) := by decide +kernel
theorem dL_ways_284 : decode cL_ways 284 = .ok (.istore 15, 2) := by decide +kernel
theorem dL_ways_286 : decode cL_ways 286 = .ok (.iinc 16 1, 3) := by decide +kernel
theorem dL_ways_289 : decode cL_ways 289 = .ok (.goto (-47), 3) := by decide +kernel
theorem dL_ways_292 : decode cL_ways 292 = .ok (.aload_n 1, 1) := by decide +kernel
theorem dL_ways_293 : decode cL_ways 293 = .ok (.aload 4, 2) := by decide +kernel
theorem dL_ways_295 : decode cL_ways 295 = .ok (.aload_n 2, 1) := by decide +kernel
theorem dL_ways_296 : decode cL_ways 296 = .ok (.iload 5, 2) := by decide +kernel
theorem dL_ways_298 : decode cL_ways 298 = .ok (.iaload, 1) := by decide +kernel
theorem dL_ways_299 : decode cL_ways 299 = .ok (.iload 15, 2) := by decide +kernel
theorem dL_ways_301 : decode cL_ways 301 = .ok (.bipush 9, 2) := by decide +kernel
theorem dL_ways_303 : decode cL_ways 303 = .ok (.invokestatic 25, 3) := by decide +kernel
theorem dL_ways_306 : decode cL_ways 306 = .ok (.iload 6, 2) := by decide +kernel
theorem dL_ways_308 : decode cL_ways 308 = .ok (.ishr, 1) := by decide +kernel
theorem dL_ways_309 : decode cL_ways 309 = .ok (.iconst 1, 1) := by decide +kernel
theorem dL_ways_310 : decode cL_ways 310 = .ok (.iand, 1) := by decide +kernel
theorem dL_ways_311 : decode cL_ways 311 = .ok (.iconst 1, 1) := by decide +kernel
theorem dL_ways_312 : decode cL_ways 312 = .ok (.if_icmp .ne 8, 3) := by decide +kernel
theorem dL_ways_315 : decode cL_ways 315 = .ok (.iload 14, 2) := by decide +kernel
theorem dL_ways_317 : decode cL_ways 317 = .ok (.goto 5, 3) := by decide +kernel
theorem dL_ways_320 : decode cL_ways 320 = .ok (.iload 13, 2) := by decide +kernel
theorem dL_ways_322 : decode cL_ways 322 = .ok (.istore 13, 2) := by decide +kernel
theorem dL_ways_324 : decode cL_ways 324 = .ok (.iinc 14 (-1), 3) := by decide +kernel
theorem dL_ways_327 : decode cL_ways 327 = .ok (.goto (-96), 3) := by decide +kernel
theorem dL_ways_330 : decode cL_ways 330 = .ok (.iload 11, 2) := by decide +kernel
theorem dL_ways_332 : decode cL_ways 332 = .ok (.ifCond .eq 35, 3) := by decide +kernel
theorem dL_ways_335 : decode cL_ways 335 = .ok (.aload_n 0, 1) := by decide +kernel
theorem dL_ways_336 : decode cL_ways 336 = .ok (.iload 5, 2) := by decide +kernel
theorem dL_ways_338 : decode cL_ways 338 = .ok (.iload 6, 2) := by decide +kernel
theorem dL_ways_340 : decode cL_ways 340 = .ok (.iload 12, 2) := by decide +kernel
theorem dL_ways_342 : decode cL_ways 342 = .ok (.invokevirtual 64, 3) := by decide +kernel
theorem dL_ways_345 : decode cL_ways 345 = .ok (.iload 10, 2) := by decide +kernel
theorem dL_ways_347 : decode cL_ways 347 = .ok (.if_icmp .ne 20, 3) := by decide +kernel
theorem dL_ways_350 : decode cL_ways 350 = .ok (.aload_n 0, 1) := by decide +kernel
theorem dL_ways_351 : decode cL_ways 351 = .ok (.iload 5, 2) := by decide +kernel
theorem dL_ways_353 : decode cL_ways 353 = .ok (.iload 6, 2) := by decide +kernel
theorem dL_ways_355 : decode cL_ways 355 = .ok (.invokevirtual 68, 3) := by decide +kernel
theorem dL_ways_358 : decode cL_ways 358 = .ok (.iload 13, 2) := by decide +kernel
theorem dL_ways_360 : decode cL_ways 360 = .ok (.if_icmp .ne 7, 3) := by decide +kernel
theorem dL_ways_363 : decode cL_ways 363 = .ok (.iconst 1, 1) := by decide +kernel
theorem dL_ways_364 : decode cL_ways 364 = .ok (.goto 4, 3) := by decide +kernel
theorem dL_ways_367 : decode cL_ways 367 = .ok (.iconst 0, 1) := by decide +kernel
theorem dL_ways_368 : decode cL_ways 368 = .ok (.ireturn, 1) := by decide +kernel
theorem dL_degree_0 : decode cL_degree 0 = .ok (.iconst 0, 1) := by decide +kernel
theorem dL_degree_1 : decode cL_degree 1 = .ok (.istore 4, 2) := by decide +kernel
theorem dL_degree_3 : decode cL_degree 3 = .ok (.iconst 0, 1) := by decide +kernel
theorem dL_degree_4 : decode cL_degree 4 = .ok (.istore 5, 2) := by decide +kernel
theorem dL_degree_6 : decode cL_degree 6 = .ok (.iload 5, 2) := by decide +kernel
theorem dL_degree_8 : decode cL_degree 8 = .ok (.aload_n 1, 1) := by decide +kernel
theorem dL_degree_9 : decode cL_degree 9 = .ok (.iconst 4, 1) := by decide +kernel
theorem dL_degree_10 : decode cL_degree 10 = .ok (.iaload, 1) := by decide +kernel
theorem dL_degree_11 : decode cL_degree 11 = .ok (.if_icmp .ge 49, 3) := by decide +kernel
theorem dL_degree_14 : decode cL_degree 14 = .ok (.iload 4, 2) := by decide +kernel
theorem dL_degree_16 : decode cL_degree 16 = .ok (.iload_n 3, 1) := by decide +kernel
theorem dL_degree_17 : decode cL_degree 17 = .ok (.iload 5, 2) := by decide +kernel
theorem dL_degree_19 : decode cL_degree 19 = .ok (.ishr, 1) := by decide +kernel
theorem dL_degree_20 : decode cL_degree 20 = .ok (.iconst 1, 1) := by decide +kernel
theorem dL_degree_21 : decode cL_degree 21 = .ok (.iand, 1) := by decide +kernel
theorem dL_degree_22 : decode cL_degree 22 = .ok (.iconst 1, 1) := by decide +kernel
theorem dL_degree_23 : decode cL_degree 23 = .ok (.if_icmp .ne 27, 3) := by decide +kernel
theorem dL_degree_26 : decode cL_degree 26 = .ok (.aload_n 0, 1) := by decide +kernel
theorem dL_degree_27 : decode cL_degree 27 = .ok (.iload 5, 2) := by decide +kernel
theorem dL_degree_29 : decode cL_degree 29 = .ok (.invokestatic 10, 3) := by decide +kernel
theorem dL_degree_32 : decode cL_degree 32 = .ok (.iload_n 2, 1) := by decide +kernel
theorem dL_degree_33 : decode cL_degree 33 = .ok (.if_icmp .eq 13, 3) := by decide +kernel
theorem dL_degree_36 : decode cL_degree 36 = .ok (.aload_n 0, 1) := by decide +kernel
theorem dL_degree_37 : decode cL_degree 37 = .ok (.iload 5, 2) := by decide +kernel
theorem dL_degree_39 : decode cL_degree 39 = .ok (.invokestatic 16, 3) := by decide +kernel
theorem dL_degree_42 : decode cL_degree 42 = .ok (.iload_n 2, 1) := by decide +kernel
theorem dL_degree_43 : decode cL_degree 43 = .ok (.if_icmp .ne 7, 3) := by decide +kernel
theorem dL_degree_46 : decode cL_degree 46 = .ok (.iconst 1, 1) := by decide +kernel
theorem dL_degree_47 : decode cL_degree 47 = .ok (.goto 4, 3) := by decide +kernel
theorem dL_degree_50 : decode cL_degree 50 = .ok (.iconst 0, 1) := by decide +kernel
theorem dL_degree_51 : decode cL_degree 51 = .ok (.iadd, 1) := by decide +kernel
theorem dL_degree_52 : decode cL_degree 52 = .ok (.istore 4, 2) := by decide +kernel
theorem dL_degree_54 : decode cL_degree 54 = .ok (.iinc 5 1, 3) := by decide +kernel
theorem dL_degree_57 : decode cL_degree 57 = .ok (.goto (-51), 3) := by decide +kernel
theorem dL_degree_60 : decode cL_degree 60 = .ok (.iload 4, 2) := by decide +kernel
theorem dL_degree_62 : decode cL_degree 62 = .ok (.ireturn, 1) := by decide +kernel
theorem dL_reason_0 : decode cL_reason 0 = .ok (.aload_n 0, 1) := by decide +kernel
theorem dL_reason_1 : decode cL_reason 1 = .ok (.aload_n 1, 1) := by decide +kernel
theorem dL_reason_2 : decode cL_reason 2 = .ok (.iload_n 2, 1) := by decide +kernel
theorem dL_reason_3 : decode cL_reason 3 = .ok (.iload_n 3, 1) := by decide +kernel
theorem dL_reason_4 : decode cL_reason 4 = .ok (.bipush 9, 2) := by decide +kernel
theorem dL_reason_6 : decode cL_reason 6 = .ok (.invokestatic 25, 3) := by decide +kernel
theorem dL_reason_9 : decode cL_reason 9 = .ok (.istore 4, 2) := by decide +kernel
theorem dL_reason_11 : decode cL_reason 11 = .ok (.iconst 0, 1) := by decide +kernel
theorem dL_reason_12 : decode cL_reason 12 = .ok (.istore 5, 2) := by decide +kernel
theorem dL_reason_14 : decode cL_reason 14 = .ok (.iconst 0, 1) := by decide +kernel
theorem dL_reason_15 : decode cL_reason 15 = .ok (.istore 6, 2) := by decide +kernel
theorem dL_reason_17 : decode cL_reason 17 = .ok (.iconst 0, 1) := by decide +kernel
theorem dL_reason_18 : decode cL_reason 18 = .ok (.istore 7, 2) := by decide +kernel
theorem dL_reason_20 : decode cL_reason 20 = .ok (.iload 7, 2) := by decide +kernel
theorem dL_reason_22 : decode cL_reason 22 = .ok (.bipush 10, 2) := by decide +kernel
theorem dL_reason_24 : decode cL_reason 24 = .ok (.if_icmp .ge 55, 3) := by decide +kernel
theorem dL_reason_27 : decode cL_reason 27 = .ok (.aload_n 0, 1) := by decide +kernel
theorem dL_reason_28 : decode cL_reason 28 = .ok (.aload_n 1, 1) := by decide +kernel
theorem dL_reason_29 : decode cL_reason 29 = .ok (.iload 7, 2) := by decide +kernel
theorem dL_reason_31 : decode cL_reason 31 = .ok (.iload_n 3, 1) := by decide +kernel
theorem dL_reason_32 : decode cL_reason 32 = .ok (.invokestatic 75, 3) := by decide +kernel
theorem dL_reason_35 : decode cL_reason 35 = .ok (.istore 8, 2) := by decide +kernel
theorem dL_reason_37 : decode cL_reason 37 = .ok (.iload 5, 2) := by decide +kernel
theorem dL_reason_39 : decode cL_reason 39 = .ok (.ifCond .ne 18, 3) := by decide +kernel
theorem dL_reason_42 : decode cL_reason 42 = .ok (.iload 8, 2) := by decide +kernel
theorem dL_reason_44 : decode cL_reason 44 = .ok (.ifCond .le 17, 3) := by decide +kernel
theorem dL_reason_47 : decode cL_reason 47 = .ok (.iload 4, 2) := by decide +kernel
theorem dL_reason_49 : decode cL_reason 49 = .ok (.iload 7, 2) := by decide +kernel
theorem dL_reason_51 : decode cL_reason 51 = .ok (.ishr, 1) := by decide +kernel
theorem dL_reason_52 : decode cL_reason 52 = .ok (.iconst 1, 1) := by decide +kernel
theorem dL_reason_53 : decode cL_reason 53 = .ok (.iand, 1) := by decide +kernel
theorem dL_reason_54 : decode cL_reason 54 = .ok (.ifCond .ne 7, 3) := by decide +kernel
theorem dL_reason_57 : decode cL_reason 57 = .ok (.iconst 1, 1) := by decide +kernel
theorem dL_reason_58 : decode cL_reason 58 = .ok (.goto 4, 3) := by decide +kernel
theorem dL_reason_61 : decode cL_reason 61 = .ok (.iconst 0, 1) := by decide +kernel
theorem dL_reason_62 : decode cL_reason 62 = .ok (.istore 5, 2) := by decide +kernel
theorem dL_reason_64 : decode cL_reason 64 = .ok (.iload 6, 2) := by decide +kernel
theorem dL_reason_66 : decode cL_reason 66 = .ok (.iload 8, 2) := by decide +kernel
theorem dL_reason_68 : decode cL_reason 68 = .ok (.iconst 1, 1) := by decide +kernel
theorem dL_reason_69 : decode cL_reason 69 = .ok (.iand, 1) := by decide +kernel
theorem dL_reason_70 : decode cL_reason 70 = .ok (.iadd, 1) := by decide +kernel
theorem dL_reason_71 : decode cL_reason 71 = .ok (.istore 6, 2) := by decide +kernel
theorem dL_reason_73 : decode cL_reason 73 = .ok (.iinc 7 1, 3) := by decide +kernel
theorem dL_reason_76 : decode cL_reason 76 = .ok (.goto (-56), 3) := by decide +kernel
theorem dL_reason_79 : decode cL_reason 79 = .ok (.iload_n 3, 1) := by decide +kernel
theorem dL_reason_80 : decode cL_reason 80 = .ok (.ifCond .ne 7, 3) := by decide +kernel
theorem dL_reason_83 : decode cL_reason 83 = .ok (.iconst 1, 1) := by decide +kernel
theorem dL_reason_84 : decode cL_reason 84 = .ok (.goto 59, 3) := by decide +kernel
theorem dL_reason_87 : decode cL_reason 87 = .ok (.aload_n 0, 1) := by decide +kernel
theorem dL_reason_88 : decode cL_reason 88 = .ok (.aload_n 1, 1) := by decide +kernel
theorem dL_reason_89 : decode cL_reason 89 = .ok (.iload_n 2, 1) := by decide +kernel
theorem dL_reason_90 : decode cL_reason 90 = .ok (.iload_n 3, 1) := by decide +kernel
theorem dL_reason_91 : decode cL_reason 91 = .ok (.invokestatic 75, 3) := by decide +kernel
theorem dL_reason_94 : decode cL_reason 94 = .ok (.ifCond .ne 7, 3) := by decide +kernel
theorem dL_reason_97 : decode cL_reason 97 = .ok (.iconst 2, 1) := by decide +kernel
theorem dL_reason_98 : decode cL_reason 98 = .ok (.goto 45, 3) := by decide +kernel
theorem dL_reason_101 : decode cL_reason 101 = .ok (.iload 5, 2) := by decide +kernel
theorem dL_reason_103 : decode cL_reason 103 = .ok (.ifCond .eq 7, 3) := by decide +kernel
theorem dL_reason_106 : decode cL_reason 106 = .ok (.iconst 3, 1) := by decide +kernel
theorem dL_reason_107 : decode cL_reason 107 = .ok (.goto 36, 3) := by decide +kernel
theorem dL_reason_110 : decode cL_reason 110 = .ok (.iload 6, 2) := by decide +kernel
theorem dL_reason_112 : decode cL_reason 112 = .ok (.iconst 2, 1) := by decide +kernel
theorem dL_reason_113 : decode cL_reason 113 = .ok (.if_icmp .le 7, 3) := by decide +kernel
theorem dL_reason_116 : decode cL_reason 116 = .ok (.iconst 4, 1) := by decide +kernel
theorem dL_reason_117 : decode cL_reason 117 = .ok (.goto 26, 3) := by decide +kernel
theorem dL_reason_120 : decode cL_reason 120 = .ok (.iload 6, 2) := by decide +kernel
theorem dL_reason_122 : decode cL_reason 122 = .ok (.iconst 2, 1) := by decide +kernel
theorem dL_reason_123 : decode cL_reason 123 = .ok (.if_icmp .ne 19, 3) := by decide +kernel
theorem dL_reason_126 : decode cL_reason 126 = .ok (.aload_n 0, 1) := by decide +kernel
theorem dL_reason_127 : decode cL_reason 127 = .ok (.aload_n 1, 1) := by decide +kernel
theorem dL_reason_128 : decode cL_reason 128 = .ok (.iload_n 2, 1) := by decide +kernel
theorem dL_reason_129 : decode cL_reason 129 = .ok (.iload_n 3, 1) := by decide +kernel
theorem dL_reason_130 : decode cL_reason 130 = .ok (.invokestatic 75, 3) := by decide +kernel
theorem dL_reason_133 : decode cL_reason 133 = .ok (.iconst 1, 1) := by decide +kernel
theorem dL_reason_134 : decode cL_reason 134 = .ok (.iand, 1) := by decide +kernel
theorem dL_reason_135 : decode cL_reason 135 = .ok (.ifCond .ne 7, 3) := by decide +kernel
theorem dL_reason_138 : decode cL_reason 138 = .ok (.iconst 5, 1) := by decide +kernel
theorem dL_reason_139 : decode cL_reason 139 = .ok (.goto 4, 3) := by decide +kernel
theorem dL_reason_142 : decode cL_reason 142 = .ok (.iconst 0, 1) := by decide +kernel
theorem dL_reason_143 : decode cL_reason 143 = .ok (.ireturn, 1) := by decide +kernel
theorem dL_trail_0 : decode cL_trail 0 = .ok (.aload_n 3, 1) := by decide +kernel
theorem dL_trail_1 : decode cL_trail 1 = .ok (.invokestatic 21, 3) := by decide +kernel
theorem dL_trail_4 : decode cL_trail 4 = .ok (.aload_n 2, 1) := by decide +kernel
theorem dL_trail_5 : decode cL_trail 5 = .ok (.iconst 4, 1) := by decide +kernel
theorem dL_trail_6 : decode cL_trail 6 = .ok (.iload 4, 2) := by decide +kernel
theorem dL_trail_8 : decode cL_trail 8 = .ok (.iadd, 1) := by decide +kernel
theorem dL_trail_9 : decode cL_trail 9 = .ok (.iaload, 1) := by decide +kernel
theorem dL_trail_10 : decode cL_trail 10 = .ok (.iconst (-1), 1) := by decide +kernel
theorem dL_trail_11 : decode cL_trail 11 = .ok (.ixor, 1) := by decide +kernel
theorem dL_trail_12 : decode cL_trail 12 = .ok (.iand, 1) := by decide +kernel
theorem dL_trail_13 : decode cL_trail 13 = .ok (.istore 5, 2) := by decide +kernel
theorem dL_trail_15 : decode cL_trail 15 = .ok (.aload_n 2, 1) := by decide +kernel
theorem dL_trail_16 : decode cL_trail 16 = .ok (.iload 4, 2) := by decide +kernel
theorem dL_trail_18 : decode cL_trail 18 = .ok (.iaload, 1) := by decide +kernel
theorem dL_trail_19 : decode cL_trail 19 = .ok (.istore 6, 2) := by decide +kernel
theorem dL_trail_21 : decode cL_trail 21 = .ok (.aload_n 1, 1) := by decide +kernel
theorem dL_trail_22 : decode cL_trail 22 = .ok (.aload_n 3, 1) := by decide +kernel
theorem dL_trail_23 : decode cL_trail 23 = .ok (.iload 6, 2) := by decide +kernel
theorem dL_trail_25 : decode cL_trail 25 = .ok (.iload 5, 2) := by decide +kernel
theorem dL_trail_27 : decode cL_trail 27 = .ok (.invokestatic 78, 3) := by decide +kernel
theorem dL_trail_30 : decode cL_trail 30 = .ok (.istore 7, 2) := by decide +kernel
theorem dL_trail_32 : decode cL_trail 32 = .ok (.aload_n 0, 1) := by decide +kernel
theorem dL_trail_33 : decode cL_trail 33 = .ok (.iload 4, 2) := by decide +kernel
theorem dL_trail_35 : decode cL_trail 35 = .ok (.invokevirtual 81, 3) := by decide +kernel
theorem dL_trail_38 : decode cL_trail 38 = .ok (.iload 7, 2) := by decide +kernel
theorem dL_trail_40 : decode cL_trail 40 = .ok (.if_icmp .ne 8, 3) := by decide +kernel
theorem dL_trail_43 : decode cL_trail 43 = .ok (.iload 7, 2) := by decide +kernel
theorem dL_trail_45 : decode cL_trail 45 = .ok (.ifCond .eq 32, 3) := by decide +kernel
theorem dL_trail_48 : decode cL_trail 48 = .ok (.aload_n 0, 1) := by decide +kernel
theorem dL_trail_49 : decode cL_trail 49 = .ok (.iload 4, 2) := by decide +kernel
theorem dL_trail_51 : decode cL_trail 51 = .ok (.invokevirtual 81, 3) := by decide +kernel
theorem dL_trail_54 : decode cL_trail 54 = .ok (.iload 7, 2) := by decide +kernel
theorem dL_trail_56 : decode cL_trail 56 = .ok (.if_icmp .ne 19, 3) := by decide +kernel
theorem dL_trail_59 : decode cL_trail 59 = .ok (.aload_n 0, 1) := by decide +kernel
theorem dL_trail_60 : decode cL_trail 60 = .ok (.iload 4, 2) := by decide +kernel
theorem dL_trail_62 : decode cL_trail 62 = .ok (.iconst 0, 1) := by decide +kernel
theorem dL_trail_63 : decode cL_trail 63 = .ok (.invokevirtual 84, 3) := by decide +kernel
theorem dL_trail_66 : decode cL_trail 66 = .ok (.bipush (-5), 2) := by decide +kernel
theorem dL_trail_68 : decode cL_trail 68 = .ok (.if_icmp .ne 7, 3) := by decide +kernel
theorem dL_trail_71 : decode cL_trail 71 = .ok (.iconst 1, 1) := by decide +kernel
theorem dL_trail_72 : decode cL_trail 72 = .ok (.goto 4, 3) := by decide +kernel
theorem dL_trail_75 : decode cL_trail 75 = .ok (.iconst 0, 1) := by decide +kernel
theorem dL_trail_76 : decode cL_trail 76 = .ok (.ireturn, 1) := by decide +kernel
theorem dL_trail_77 : decode cL_trail 77 = .ok (.iconst 0, 1) := by decide +kernel
theorem dL_trail_78 : decode cL_trail 78 = .ok (.istore 8, 2) := by decide +kernel
theorem dL_trail_80 : decode cL_trail 80 = .ok (.iload 5, 2) := by decide +kernel
theorem dL_trail_82 : decode cL_trail 82 = .ok (.ifCond .eq 232, 3) := by decide +kernel
theorem dL_trail_85 : decode cL_trail 85 = .ok (.aload_n 0, 1) := by decide +kernel
theorem dL_trail_86 : decode cL_trail 86 = .ok (.iload 4, 2) := by decide +kernel
theorem dL_trail_88 : decode cL_trail 88 = .ok (.iload 8, 2) := by decide +kernel
theorem dL_trail_90 : decode cL_trail 90 = .ok (.invokevirtual 84, 3) := by decide +kernel
theorem dL_trail_93 : decode cL_trail 93 = .ok (.istore 9, 2) := by decide +kernel
theorem dL_trail_95 : decode cL_trail 95 = .ok (.iload 9, 2) := by decide +kernel
theorem dL_trail_97 : decode cL_trail 97 = .ok (.ifCond .lt 35, 3) := by decide +kernel
theorem dL_trail_100 : decode cL_trail 100 = .ok (.iload 5, 2) := by decide +kernel
theorem dL_trail_102 : decode cL_trail 102 = .ok (.iload 9, 2) := by decide +kernel
theorem dL_trail_104 : decode cL_trail 104 = .ok (.ishr, 1) := by decide +kernel
theorem dL_trail_105 : decode cL_trail 105 = .ok (.iconst 1, 1) := by decide +kernel
theorem dL_trail_106 : decode cL_trail 106 = .ok (.iand, 1) := by decide +kernel
theorem dL_trail_107 : decode cL_trail 107 = .ok (.ifCond .eq 25, 3) := by decide +kernel
theorem dL_trail_110 : decode cL_trail 110 = .ok (.aload_n 1, 1) := by decide +kernel
theorem dL_trail_111 : decode cL_trail 111 = .ok (.iload 9, 2) := by decide +kernel
theorem dL_trail_113 : decode cL_trail 113 = .ok (.invokestatic 10, 3) := by decide +kernel
theorem dL_trail_116 : decode cL_trail 116 = .ok (.iload 6, 2) := by decide +kernel
theorem dL_trail_118 : decode cL_trail 118 = .ok (.if_icmp .eq 16, 3) := by decide +kernel
theorem dL_trail_121 : decode cL_trail 121 = .ok (.aload_n 1, 1) := by decide +kernel
theorem dL_trail_122 : decode cL_trail 122 = .ok (.iload 9, 2) := by decide +kernel
theorem dL_trail_124 : decode cL_trail 124 = .ok (.invokestatic 16, 3) := by decide +kernel
theorem dL_trail_127 : decode cL_trail 127 = .ok (.iload 6, 2) := by decide +kernel
theorem dL_trail_129 : decode cL_trail 129 = .ok (.if_icmp .eq 5, 3) := by decide +kernel
theorem dL_trail_132 : decode cL_trail 132 = .ok (.iconst 0, 1) := by decide +kernel
theorem dL_trail_133 : decode cL_trail 133 = .ok (.ireturn, 1) := by decide +kernel
theorem dL_trail_134 : decode cL_trail 134 = .ok (.iconst 0, 1) := by decide +kernel
theorem dL_trail_135 : decode cL_trail 135 = .ok (.istore 10, 2) := by decide +kernel
theorem dL_trail_137 : decode cL_trail 137 = .ok (.iload 10, 2) := by decide +kernel
theorem dL_trail_139 : decode cL_trail 139 = .ok (.iload 9, 2) := by decide +kernel
theorem dL_trail_141 : decode cL_trail 141 = .ok (.if_icmp .gt 128, 3) := by decide +kernel
theorem dL_trail_144 : decode cL_trail 144 = .ok (.iload 5, 2) := by decide +kernel
theorem dL_trail_146 : decode cL_trail 146 = .ok (.iload 10, 2) := by decide +kernel
theorem dL_trail_148 : decode cL_trail 148 = .ok (.ishr, 1) := by decide +kernel
theorem dL_trail_149 : decode cL_trail 149 = .ok (.iconst 1, 1) := by decide +kernel
theorem dL_trail_150 : decode cL_trail 150 = .ok (.iand, 1) := by decide +kernel
theorem dL_trail_151 : decode cL_trail 151 = .ok (.iconst 1, 1) := by decide +kernel
theorem dL_trail_152 : decode cL_trail 152 = .ok (.if_icmp .ne 29, 3) := by decide +kernel
theorem dL_trail_155 : decode cL_trail 155 = .ok (.aload_n 1, 1) := by decide +kernel
theorem dL_trail_156 : decode cL_trail 156 = .ok (.iload 10, 2) := by decide +kernel
theorem dL_trail_158 : decode cL_trail 158 = .ok (.invokestatic 10, 3) := by decide +kernel
theorem dL_trail_161 : decode cL_trail 161 = .ok (.iload 6, 2) := by decide +kernel
theorem dL_trail_163 : decode cL_trail 163 = .ok (.if_icmp .eq 14, 3) := by decide +kernel
theorem dL_trail_166 : decode cL_trail 166 = .ok (.aload_n 1, 1) := by decide +kernel
theorem dL_trail_167 : decode cL_trail 167 = .ok (.iload 10, 2) := by decide +kernel
theorem dL_trail_169 : decode cL_trail 169 = .ok (.invokestatic 16, 3) := by decide +kernel
theorem dL_trail_172 : decode cL_trail 172 = .ok (.iload 6, 2) := by decide +kernel
theorem dL_trail_174 : decode cL_trail 174 = .ok (.if_icmp .ne 7, 3) := by decide +kernel
theorem dL_trail_177 : decode cL_trail 177 = .ok (.iconst 1, 1) := by decide +kernel
theorem dL_trail_178 : decode cL_trail 178 = .ok (.goto 4, 3) := by decide +kernel
theorem dL_trail_181 : decode cL_trail 181 = .ok (.iconst 0, 1) := by decide +kernel
theorem dL_trail_182 : decode cL_trail 182 = .ok (.istore 11, 2) := by decide +kernel
theorem dL_trail_184 : decode cL_trail 184 = .ok (.aload_n 1, 1) := by decide +kernel
theorem dL_trail_185 : decode cL_trail 185 = .ok (.iload 10, 2) := by decide +kernel
theorem dL_trail_187 : decode cL_trail 187 = .ok (.invokestatic 10, 3) := by decide +kernel
theorem dL_trail_190 : decode cL_trail 190 = .ok (.iload 6, 2) := by decide +kernel
theorem dL_trail_192 : decode cL_trail 192 = .ok (.if_icmp .ne 12, 3) := by decide +kernel
theorem dL_trail_195 : decode cL_trail 195 = .ok (.aload_n 1, 1) := by decide +kernel
theorem dL_trail_196 : decode cL_trail 196 = .ok (.iload 10, 2) := by decide +kernel
theorem dL_trail_198 : decode cL_trail 198 = .ok (.invokestatic 16, 3) := by decide +kernel
theorem dL_trail_201 : decode cL_trail 201 = .ok (.goto 9, 3) := by decide +kernel
theorem dL_trail_204 : decode cL_trail 204 = .ok (.aload_n 1, 1) := by decide +kernel
theorem dL_trail_205 : decode cL_trail 205 = .ok (.iload 10, 2) := by decide +kernel
theorem dL_trail_207 : decode cL_trail 207 = .ok (.invokestatic 10, 3) := by decide +kernel
theorem dL_trail_210 : decode cL_trail 210 = .ok (.istore 12, 2) := by decide +kernel
theorem dL_trail_212 : decode cL_trail 212 = .ok (.iload 11, 2) := by decide +kernel
theorem dL_trail_214 : decode cL_trail 214 = .ok (.ifCond .eq 27, 3) := by decide +kernel
theorem dL_trail_217 : decode cL_trail 217 = .ok (.aload_n 1, 1) := by decide +kernel
theorem dL_trail_218 : decode cL_trail 218 = .ok (.aload_n 3, 1) := by decide +kernel
theorem dL_trail_219 : decode cL_trail 219 = .ok (.iload 12, 2) := by decide +kernel
theorem dL_trail_221 : decode cL_trail 221 = .ok (.iload 5, 2) := by decide +kernel
theorem dL_trail_223 : decode cL_trail 223 = .ok (.iconst 1, 1) := by decide +kernel
theorem dL_trail_224 : decode cL_trail 224 = .ok (.iload 10, 2) := by decide +kernel
theorem dL_trail_226 : decode cL_trail 226 = .ok (.ishl, 1) := by decide +kernel
theorem dL_trail_227 : decode cL_trail 227 = .ok (.iconst (-1), 1) := by decide +kernel
theorem dL_trail_228 : decode cL_trail 228 = .ok (.ixor, 1) := by decide +kernel
theorem dL_trail_229 : decode cL_trail 229 = .ok (.iand, 1) := by decide +kernel
theorem dL_trail_230 : decode cL_trail 230 = .ok (.invokestatic 78, 3) := by decide +kernel
theorem dL_trail_233 : decode cL_trail 233 = .ok (.iconst 2, 1) := by decide +kernel
theorem dL_trail_234 : decode cL_trail 234 = .ok (.if_icmp .ge 7, 3) := by decide +kernel
theorem dL_trail_237 : decode cL_trail 237 = .ok (.iconst 1, 1) := by decide +kernel
theorem dL_trail_238 : decode cL_trail 238 = .ok (.goto 4, 3) := by decide +kernel
theorem dL_trail_241 : decode cL_trail 241 = .ok (.iconst 0, 1) := by decide +kernel
theorem dL_trail_242 : decode cL_trail 242 = .ok (.istore 13, 2) := by decide +kernel
theorem dL_trail_244 : decode cL_trail 244 = .ok (.iload 13, 2) := by decide +kernel
theorem dL_trail_246 : decode cL_trail 246 = .ok (.iload 10, 2) := by decide +kernel
theorem dL_trail_248 : decode cL_trail 248 = .ok (.iload 9, 2) := by decide +kernel
theorem dL_trail_250 : decode cL_trail 250 = .ok (.if_icmp .ne 7, 3) := by decide +kernel
theorem dL_trail_253 : decode cL_trail 253 = .ok (.iconst 1, 1) := by decide +kernel
theorem dL_trail_254 : decode cL_trail 254 = .ok (.goto 4, 3) := by decide +kernel
theorem dL_trail_257 : decode cL_trail 257 = .ok (.iconst 0, 1) := by decide +kernel
theorem dL_trail_258 : decode cL_trail 258 = .ok (.if_icmp .eq 5, 3) := by decide +kernel
theorem dL_trail_261 : decode cL_trail 261 = .ok (.iconst 0, 1) := by decide +kernel
theorem dL_trail_262 : decode cL_trail 262 = .ok (.ireturn, 1) := by decide +kernel
theorem dL_trail_263 : decode cL_trail 263 = .ok (.iinc 10 1, 3) := by decide +kernel
theorem dL_trail_266 : decode cL_trail 266 = .ok (.goto (-129), 3) := by decide +kernel
theorem dL_trail_269 : decode cL_trail 269 = .ok (.iload 5, 2) := by decide +kernel
theorem dL_trail_271 : decode cL_trail 271 = .ok (.iconst 1, 1) := by decide +kernel
theorem dL_trail_272 : decode cL_trail 272 = .ok (.iload 9, 2) := by decide +kernel
theorem dL_trail_274 : decode cL_trail 274 = .ok (.ishl, 1) := by decide +kernel
theorem dL_trail_275 : decode cL_trail 275 = .ok (.iconst (-1), 1) := by decide +kernel
theorem dL_trail_276 : decode cL_trail 276 = .ok (.ixor, 1) := by decide +kernel
theorem dL_trail_277 : decode cL_trail 277 = .ok (.iand, 1) := by decide +kernel
theorem dL_trail_278 : decode cL_trail 278 = .ok (.istore 5, 2) := by decide +kernel
theorem dL_trail_280 : decode cL_trail 280 = .ok (.aload_n 1, 1) := by decide +kernel
theorem dL_trail_281 : decode cL_trail 281 = .ok (.iload 9, 2) := by decide +kernel
theorem dL_trail_283 : decode cL_trail 283 = .ok (.invokestatic 10, 3) := by decide +kernel
theorem dL_trail_286 : decode cL_trail 286 = .ok (.iload 6, 2) := by decide +kernel
theorem dL_trail_288 : decode cL_trail 288 = .ok (.if_icmp .ne 12, 3) := by decide +kernel
theorem dL_trail_291 : decode cL_trail 291 = .ok (.aload_n 1, 1) := by decide +kernel
theorem dL_trail_292 : decode cL_trail 292 = .ok (.iload 9, 2) := by decide +kernel
theorem dL_trail_294 : decode cL_trail 294 = .ok (.invokestatic 16, 3) := by decide +kernel
theorem dL_trail_297 : decode cL_trail 297 = .ok (.goto 9, 3) := by decide +kernel
theorem dL_trail_300 : decode cL_trail 300 = .ok (.aload_n 1, 1) := by decide +kernel
theorem dL_trail_301 : decode cL_trail 301 = .ok (.iload 9, 2) := by decide +kernel
theorem dL_trail_303 : decode cL_trail 303 = .ok (.invokestatic 10, 3) := by decide +kernel
theorem dL_trail_306 : decode cL_trail 306 = .ok (.istore 6, 2) := by decide +kernel
theorem dL_trail_308 : decode cL_trail 308 = .ok (.iinc 8 1, 3) := by decide +kernel
theorem dL_trail_311 : decode cL_trail 311 = .ok (.goto (-231), 3) := by decide +kernel
theorem dL_trail_314 : decode cL_trail 314 = .ok (.aload_n 0, 1) := by decide +kernel
theorem dL_trail_315 : decode cL_trail 315 = .ok (.iload 4, 2) := by decide +kernel
theorem dL_trail_317 : decode cL_trail 317 = .ok (.iload 8, 2) := by decide +kernel
theorem dL_trail_319 : decode cL_trail 319 = .ok (.invokevirtual 84, 3) := by decide +kernel
theorem dL_trail_322 : decode cL_trail 322 = .ok (.bipush (-6), 2) := by decide +kernel
theorem dL_trail_324 : decode cL_trail 324 = .ok (.if_icmp .ne 7, 3) := by decide +kernel
theorem dL_trail_327 : decode cL_trail 327 = .ok (.iconst 1, 1) := by decide +kernel
theorem dL_trail_328 : decode cL_trail 328 = .ok (.goto 4, 3) := by decide +kernel
theorem dL_trail_331 : decode cL_trail 331 = .ok (.iconst 0, 1) := by decide +kernel
theorem dL_trail_332 : decode cL_trail 332 = .ok (.ireturn, 1) := by decide +kernel
theorem dL_pairs_0 : decode cL_pairs 0 = .ok (.iconst 0, 1) := by decide +kernel
theorem dL_pairs_1 : decode cL_pairs 1 = .ok (.istore_n 3, 1) := by decide +kernel
theorem dL_pairs_2 : decode cL_pairs 2 = .ok (.iconst 0, 1) := by decide +kernel
theorem dL_pairs_3 : decode cL_pairs 3 = .ok (.istore 4, 2) := by decide +kernel
theorem dL_pairs_5 : decode cL_pairs 5 = .ok (.iload 4, 2) := by decide +kernel
theorem dL_pairs_7 : decode cL_pairs 7 = .ok (.bipush 100, 2) := by decide +kernel
theorem dL_pairs_9 : decode cL_pairs 9 = .ok (.if_icmp .ge 50, 3) := by decide +kernel
theorem dL_pairs_12 : decode cL_pairs 12 = .ok (.iload_n 3, 1) := by decide +kernel
theorem dL_pairs_13 : decode cL_pairs 13 = .ok (.iload 4, 2) := by decide +kernel
theorem dL_pairs_15 : decode cL_pairs 15 = .ok (.bipush 10, 2) := by decide +kernel
theorem dL_pairs_17 : decode cL_pairs 17 = .ok (.irem, 1) := by decide +kernel
theorem dL_pairs_18 : decode cL_pairs 18 = .ok (.iload 4, 2) := by decide +kernel
theorem dL_pairs_20 : decode cL_pairs 20 = .ok (.bipush 10, 2) := by decide +kernel
theorem dL_pairs_22 : decode cL_pairs 22 = .ok (.idiv, 1) := by decide +kernel
theorem dL_pairs_23 : decode cL_pairs 23 = .ok (.if_icmp .ge 27, 3) := by decide +kernel
theorem dL_pairs_26 : decode cL_pairs 26 = .ok (.aload_n 0, 1) := by decide +kernel
theorem dL_pairs_27 : decode cL_pairs 27 = .ok (.aload_n 1, 1) := by decide +kernel
theorem dL_pairs_28 : decode cL_pairs 28 = .ok (.iload 4, 2) := by decide +kernel
theorem dL_pairs_30 : decode cL_pairs 30 = .ok (.bipush 10, 2) := by decide +kernel
theorem dL_pairs_32 : decode cL_pairs 32 = .ok (.idiv, 1) := by decide +kernel
theorem dL_pairs_33 : decode cL_pairs 33 = .ok (.iload_n 2, 1) := by decide +kernel
theorem dL_pairs_34 : decode cL_pairs 34 = .ok (.bipush 9, 2) := by decide +kernel
theorem dL_pairs_36 : decode cL_pairs 36 = .ok (.invokestatic 25, 3) := by decide +kernel
theorem dL_pairs_39 : decode cL_pairs 39 = .ok (.iload 4, 2) := by decide +kernel
theorem dL_pairs_41 : decode cL_pairs 41 = .ok (.bipush 10, 2) := by decide +kernel
theorem dL_pairs_43 : decode cL_pairs 43 = .ok (.irem, 1) := by decide +kernel
theorem dL_pairs_44 : decode cL_pairs 44 = .ok (.ishr, 1) := by decide +kernel
theorem dL_pairs_45 : decode cL_pairs 45 = .ok (.iconst 1, 1) := by decide +kernel
theorem dL_pairs_46 : decode cL_pairs 46 = .ok (.iand, 1) := by decide +kernel
theorem dL_pairs_47 : decode cL_pairs 47 = .ok (.goto 4, 3) := by decide +kernel
theorem dL_pairs_50 : decode cL_pairs 50 = .ok (.iconst 0, 1) := by decide +kernel
theorem dL_pairs_51 : decode cL_pairs 51 = .ok (.iadd, 1) := by decide +kernel
theorem dL_pairs_52 : decode cL_pairs 52 = .ok (.istore_n 3, 1) := by decide +kernel
theorem dL_pairs_53 : decode cL_pairs 53 = .ok (.iinc 4 1, 3) := by decide +kernel
theorem dL_pairs_56 : decode cL_pairs 56 = .ok (.goto (-51), 3) := by decide +kernel
theorem dL_pairs_59 : decode cL_pairs 59 = .ok (.iload_n 3, 1) := by decide +kernel
theorem dL_pairs_60 : decode cL_pairs 60 = .ok (.ireturn, 1) := by decide +kernel
theorem dL_gap_0 : decode cL_gap 0 = .ok (.aload_n 1, 1) := by decide +kernel
theorem dL_gap_1 : decode cL_gap 1 = .ok (.aload_n 2, 1) := by decide +kernel
theorem dL_gap_2 : decode cL_gap 2 = .ok (.aload_n 2, 1) := by decide +kernel
theorem dL_gap_3 : decode cL_gap 3 = .ok (.invokestatic 21, 3) := by decide +kernel
theorem dL_gap_6 : decode cL_gap 6 = .ok (.invokestatic 87, 3) := by decide +kernel
theorem dL_gap_9 : decode cL_gap 9 = .ok (.istore_n 3, 1) := by decide +kernel
theorem dL_gap_10 : decode cL_gap 10 = .ok (.bipush (-6), 2) := by decide +kernel
theorem dL_gap_12 : decode cL_gap 12 = .ok (.istore 4, 2) := by decide +kernel
theorem dL_gap_14 : decode cL_gap 14 = .ok (.bipush (-6), 2) := by decide +kernel
theorem dL_gap_16 : decode cL_gap 16 = .ok (.istore 5, 2) := by decide +kernel
theorem dL_gap_18 : decode cL_gap 18 = .ok (.aload_n 2, 1) := by decide +kernel
theorem dL_gap_19 : decode cL_gap 19 = .ok (.iconst 4, 1) := by decide +kernel
theorem dL_gap_20 : decode cL_gap 20 = .ok (.iaload, 1) := by decide +kernel
theorem dL_gap_21 : decode cL_gap 21 = .ok (.iconst 1, 1) := by decide +kernel
theorem dL_gap_22 : decode cL_gap 22 = .ok (.isub, 1) := by decide +kernel
theorem dL_gap_23 : decode cL_gap 23 = .ok (.istore 6, 2) := by decide +kernel
theorem dL_gap_25 : decode cL_gap 25 = .ok (.iload 6, 2) := by decide +kernel
theorem dL_gap_27 : decode cL_gap 27 = .ok (.ifCond .lt 71, 3) := by decide +kernel
theorem dL_gap_30 : decode cL_gap 30 = .ok (.iload_n 3, 1) := by decide +kernel
theorem dL_gap_31 : decode cL_gap 31 = .ok (.aload_n 1, 1) := by decide +kernel
theorem dL_gap_32 : decode cL_gap 32 = .ok (.aload_n 2, 1) := by decide +kernel
theorem dL_gap_33 : decode cL_gap 33 = .ok (.aload_n 2, 1) := by decide +kernel
theorem dL_gap_34 : decode cL_gap 34 = .ok (.invokestatic 21, 3) := by decide +kernel
theorem dL_gap_37 : decode cL_gap 37 = .ok (.iconst 1, 1) := by decide +kernel
theorem dL_gap_38 : decode cL_gap 38 = .ok (.iload 6, 2) := by decide +kernel
theorem dL_gap_40 : decode cL_gap 40 = .ok (.ishl, 1) := by decide +kernel
theorem dL_gap_41 : decode cL_gap 41 = .ok (.iconst (-1), 1) := by decide +kernel
theorem dL_gap_42 : decode cL_gap 42 = .ok (.ixor, 1) := by decide +kernel
theorem dL_gap_43 : decode cL_gap 43 = .ok (.iand, 1) := by decide +kernel
theorem dL_gap_44 : decode cL_gap 44 = .ok (.invokestatic 87, 3) := by decide +kernel
theorem dL_gap_47 : decode cL_gap 47 = .ok (.isub, 1) := by decide +kernel
theorem dL_gap_48 : decode cL_gap 48 = .ok (.istore 7, 2) := by decide +kernel
theorem dL_gap_50 : decode cL_gap 50 = .ok (.iload 7, 2) := by decide +kernel
theorem dL_gap_52 : decode cL_gap 52 = .ok (.ifCond .le 15, 3) := by decide +kernel
theorem dL_gap_55 : decode cL_gap 55 = .ok (.iload 7, 2) := by decide +kernel
theorem dL_gap_57 : decode cL_gap 57 = .ok (.iload 5, 2) := by decide +kernel
theorem dL_gap_59 : decode cL_gap 59 = .ok (.if_icmp .lt 8, 3) := by decide +kernel
theorem dL_gap_62 : decode cL_gap 62 = .ok (.iload 6, 2) := by decide +kernel
theorem dL_gap_64 : decode cL_gap 64 = .ok (.goto 5, 3) := by decide +kernel
theorem dL_gap_67 : decode cL_gap 67 = .ok (.iload 4, 2) := by decide +kernel
theorem dL_gap_69 : decode cL_gap 69 = .ok (.istore 4, 2) := by decide +kernel
theorem dL_gap_71 : decode cL_gap 71 = .ok (.iload 7, 2) := by decide +kernel
theorem dL_gap_73 : decode cL_gap 73 = .ok (.ifCond .le 15, 3) := by decide +kernel
theorem dL_gap_76 : decode cL_gap 76 = .ok (.iload 7, 2) := by decide +kernel
theorem dL_gap_78 : decode cL_gap 78 = .ok (.iload 5, 2) := by decide +kernel
theorem dL_gap_80 : decode cL_gap 80 = .ok (.if_icmp .lt 8, 3) := by decide +kernel
theorem dL_gap_83 : decode cL_gap 83 = .ok (.iload 7, 2) := by decide +kernel
theorem dL_gap_85 : decode cL_gap 85 = .ok (.goto 5, 3) := by decide +kernel
theorem dL_gap_88 : decode cL_gap 88 = .ok (.iload 5, 2) := by decide +kernel
theorem dL_gap_90 : decode cL_gap 90 = .ok (.istore 5, 2) := by decide +kernel
theorem dL_gap_92 : decode cL_gap 92 = .ok (.iinc 6 (-1), 3) := by decide +kernel
theorem dL_gap_95 : decode cL_gap 95 = .ok (.goto (-70), 3) := by decide +kernel
theorem dL_gap_98 : decode cL_gap 98 = .ok (.aload_n 0, 1) := by decide +kernel
theorem dL_gap_99 : decode cL_gap 99 = .ok (.iconst 0, 1) := by decide +kernel
theorem dL_gap_100 : decode cL_gap 100 = .ok (.invokevirtual 91, 3) := by decide +kernel
theorem dL_gap_103 : decode cL_gap 103 = .ok (.iload 4, 2) := by decide +kernel
theorem dL_gap_105 : decode cL_gap 105 = .ok (.if_icmp .ne 17, 3) := by decide +kernel
theorem dL_gap_108 : decode cL_gap 108 = .ok (.aload_n 0, 1) := by decide +kernel
theorem dL_gap_109 : decode cL_gap 109 = .ok (.iconst 1, 1) := by decide +kernel
theorem dL_gap_110 : decode cL_gap 110 = .ok (.invokevirtual 91, 3) := by decide +kernel
theorem dL_gap_113 : decode cL_gap 113 = .ok (.iload 5, 2) := by decide +kernel
theorem dL_gap_115 : decode cL_gap 115 = .ok (.if_icmp .ne 7, 3) := by decide +kernel
theorem dL_gap_118 : decode cL_gap 118 = .ok (.iconst 1, 1) := by decide +kernel
theorem dL_gap_119 : decode cL_gap 119 = .ok (.goto 4, 3) := by decide +kernel
theorem dL_gap_122 : decode cL_gap 122 = .ok (.iconst 0, 1) := by decide +kernel
theorem dL_gap_123 : decode cL_gap 123 = .ok (.ireturn, 1) := by decide +kernel
theorem dL_boards_0 : decode cL_boards 0 = .ok (.iconst 0, 1) := by decide +kernel
theorem dL_boards_1 : decode cL_boards 1 = .ok (.istore 6, 2) := by decide +kernel
theorem dL_boards_3 : decode cL_boards 3 = .ok (.iload 6, 2) := by decide +kernel
theorem dL_boards_5 : decode cL_boards 5 = .ok (.aload 5, 2) := by decide +kernel
theorem dL_boards_7 : decode cL_boards 7 = .ok (.iconst 4, 1) := by decide +kernel
theorem dL_boards_8 : decode cL_boards 8 = .ok (.iaload, 1) := by decide +kernel
theorem dL_boards_9 : decode cL_boards 9 = .ok (.if_icmp .ge 183, 3) := by decide +kernel
theorem dL_boards_12 : decode cL_boards 12 = .ok (.iconst 0, 1) := by decide +kernel
theorem dL_boards_13 : decode cL_boards 13 = .ok (.istore 7, 2) := by decide +kernel
theorem dL_boards_15 : decode cL_boards 15 = .ok (.iconst 0, 1) := by decide +kernel
theorem dL_boards_16 : decode cL_boards 16 = .ok (.istore 8, 2) := by decide +kernel
theorem dL_boards_18 : decode cL_boards 18 = .ok (.iconst 0, 1) := by decide +kernel
theorem dL_boards_19 : decode cL_boards 19 = .ok (.istore 9, 2) := by decide +kernel
theorem dL_boards_21 : decode cL_boards 21 = .ok (.iload 9, 2) := by decide +kernel
theorem dL_boards_23 : decode cL_boards 23 = .ok (.iconst 4, 1) := by decide +kernel
theorem dL_boards_24 : decode cL_boards 24 = .ok (.if_icmp .ge 57, 3) := by decide +kernel
theorem dL_boards_27 : decode cL_boards 27 = .ok (.iload 7, 2) := by decide +kernel
theorem dL_boards_29 : decode cL_boards 29 = .ok (.aload_n 3, 1) := by decide +kernel
theorem dL_boards_30 : decode cL_boards 30 = .ok (.iconst 4, 1) := by decide +kernel
theorem dL_boards_31 : decode cL_boards 31 = .ok (.iload 9, 2) := by decide +kernel
theorem dL_boards_33 : decode cL_boards 33 = .ok (.iadd, 1) := by decide +kernel
theorem dL_boards_34 : decode cL_boards 34 = .ok (.iaload, 1) := by decide +kernel
theorem dL_boards_35 : decode cL_boards 35 = .ok (.iload 6, 2) := by decide +kernel
theorem dL_boards_37 : decode cL_boards 37 = .ok (.ishr, 1) := by decide +kernel
theorem dL_boards_38 : decode cL_boards 38 = .ok (.iconst 1, 1) := by decide +kernel
theorem dL_boards_39 : decode cL_boards 39 = .ok (.iand, 1) := by decide +kernel
theorem dL_boards_40 : decode cL_boards 40 = .ok (.iload 9, 2) := by decide +kernel
theorem dL_boards_42 : decode cL_boards 42 = .ok (.ishl, 1) := by decide +kernel
theorem dL_boards_43 : decode cL_boards 43 = .ok (.ior, 1) := by decide +kernel
theorem dL_boards_44 : decode cL_boards 44 = .ok (.istore 7, 2) := by decide +kernel
theorem dL_boards_46 : decode cL_boards 46 = .ok (.iload 8, 2) := by decide +kernel
theorem dL_boards_48 : decode cL_boards 48 = .ok (.aload_n 1, 1) := by decide +kernel
theorem dL_boards_49 : decode cL_boards 49 = .ok (.aload_n 3, 1) := by decide +kernel
theorem dL_boards_50 : decode cL_boards 50 = .ok (.aload 4, 2) := by decide +kernel
theorem dL_boards_52 : decode cL_boards 52 = .ok (.aload 5, 2) := by decide +kernel
theorem dL_boards_54 : decode cL_boards 54 = .ok (.iload 9, 2) := by decide +kernel
theorem dL_boards_56 : decode cL_boards 56 = .ok (.iload 6, 2) := by decide +kernel
theorem dL_boards_58 : decode cL_boards 58 = .ok (.invokestatic 40, 3) := by decide +kernel
theorem dL_boards_61 : decode cL_boards 61 = .ok (.ifCond .eq 10, 3) := by decide +kernel
theorem dL_boards_64 : decode cL_boards 64 = .ok (.iconst 1, 1) := by decide +kernel
theorem dL_boards_65 : decode cL_boards 65 = .ok (.iload 9, 2) := by decide +kernel
theorem dL_boards_67 : decode cL_boards 67 = .ok (.ishl, 1) := by decide +kernel
theorem dL_boards_68 : decode cL_boards 68 = .ok (.goto 4, 3) := by decide +kernel
theorem dL_boards_71 : decode cL_boards 71 = .ok (.iconst 0, 1) := by decide +kernel
theorem dL_boards_72 : decode cL_boards 72 = .ok (.ior, 1) := by decide +kernel
theorem dL_boards_73 : decode cL_boards 73 = .ok (.istore 8, 2) := by decide +kernel
theorem dL_boards_75 : decode cL_boards 75 = .ok (.iinc 9 1, 3) := by decide +kernel
theorem dL_boards_78 : decode cL_boards 78 = .ok (.goto (-57), 3) := by decide +kernel
theorem dL_boards_81 : decode cL_boards 81 = .ok (.aload_n 0, 1) := by decide +kernel
theorem dL_boards_82 : decode cL_boards 82 = .ok (.iload 6, 2) := by decide +kernel
theorem dL_boards_84 : decode cL_boards 84 = .ok (.iconst 0, 1) := by decide +kernel
theorem dL_boards_85 : decode cL_boards 85 = .ok (.invokevirtual 94, 3) := by decide +kernel
theorem dL_boards_88 : decode cL_boards 88 = .ok (.aload_n 1, 1) := by decide +kernel
theorem dL_boards_89 : decode cL_boards 89 = .ok (.iload 6, 2) := by decide +kernel
theorem dL_boards_91 : decode cL_boards 91 = .ok (.invokestatic 10, 3) := by decide +kernel
theorem dL_boards_94 : decode cL_boards 94 = .ok (.if_icmp .ne 90, 3) := by decide +kernel
theorem dL_boards_97 : decode cL_boards 97 = .ok (.aload_n 0, 1) := by decide +kernel
theorem dL_boards_98 : decode cL_boards 98 = .ok (.iload 6, 2) := by decide +kernel
theorem dL_boards_100 : decode cL_boards 100 = .ok (.iconst 1, 1) := by decide +kernel
theorem dL_boards_101 : decode cL_boards 101 = .ok (.invokevirtual 94, 3) := by decide +kernel
theorem dL_boards_104 : decode cL_boards 104 = .ok (.aload_n 1, 1) := by decide +kernel
theorem dL_boards_105 : decode cL_boards 105 = .ok (.iload 6, 2) := by decide +kernel
theorem dL_boards_107 : decode cL_boards 107 = .ok (.invokestatic 16, 3) := by decide +kernel
theorem dL_boards_110 : decode cL_boards 110 = .ok (.if_icmp .ne 74, 3) := by decide +kernel
theorem dL_boards_113 : decode cL_boards 113 = .ok (.aload_n 0, 1) := by decide +kernel
theorem dL_boards_114 : decode cL_boards 114 = .ok (.iload 6, 2) := by decide +kernel
theorem dL_boards_116 : decode cL_boards 116 = .ok (.iconst 2, 1) := by decide +kernel
theorem dL_boards_117 : decode cL_boards 117 = .ok (.invokevirtual 94, 3) := by decide +kernel
theorem dL_boards_120 : decode cL_boards 120 = .ok (.aload_n 1, 1) := by decide +kernel
theorem dL_boards_121 : decode cL_boards 121 = .ok (.iload 6, 2) := by decide +kernel
theorem dL_boards_123 : decode cL_boards 123 = .ok (.invokestatic 33, 3) := by decide +kernel
theorem dL_boards_126 : decode cL_boards 126 = .ok (.if_icmp .ne 58, 3) := by decide +kernel
theorem dL_boards_129 : decode cL_boards 129 = .ok (.aload_n 0, 1) := by decide +kernel
theorem dL_boards_130 : decode cL_boards 130 = .ok (.iload 6, 2) := by decide +kernel
theorem dL_boards_132 : decode cL_boards 132 = .ok (.iconst 3, 1) := by decide +kernel
theorem dL_boards_133 : decode cL_boards 133 = .ok (.invokevirtual 94, 3) := by decide +kernel
theorem dL_boards_136 : decode cL_boards 136 = .ok (.aload_n 1, 1) := by decide +kernel
theorem dL_boards_137 : decode cL_boards 137 = .ok (.iload 6, 2) := by decide +kernel
theorem dL_boards_139 : decode cL_boards 139 = .ok (.invokestatic 48, 3) := by decide +kernel
theorem dL_boards_142 : decode cL_boards 142 = .ok (.if_icmp .ne 42, 3) := by decide +kernel
theorem dL_boards_145 : decode cL_boards 145 = .ok (.aload_n 0, 1) := by decide +kernel
theorem dL_boards_146 : decode cL_boards 146 = .ok (.iload 6, 2) := by decide +kernel
theorem dL_boards_148 : decode cL_boards 148 = .ok (.iconst 4, 1) := by decide +kernel
theorem dL_boards_149 : decode cL_boards 149 = .ok (.invokevirtual 94, 3) := by decide +kernel
theorem dL_boards_152 : decode cL_boards 152 = .ok (.iload 7, 2) := by decide +kernel
theorem dL_boards_154 : decode cL_boards 154 = .ok (.if_icmp .ne 30, 3) := by decide +kernel
theorem dL_boards_157 : decode cL_boards 157 = .ok (.aload_n 0, 1) := by decide +kernel
theorem dL_boards_158 : decode cL_boards 158 = .ok (.iload 6, 2) := by decide +kernel
theorem dL_boards_160 : decode cL_boards 160 = .ok (.iconst 5, 1) := by decide +kernel
theorem dL_boards_161 : decode cL_boards 161 = .ok (.invokevirtual 94, 3) := by decide +kernel
theorem dL_boards_164 : decode cL_boards 164 = .ok (.iload 8, 2) := by decide +kernel
theorem dL_boards_166 : decode cL_boards 166 = .ok (.if_icmp .ne 18, 3) := by decide +kernel
theorem dL_boards_169 : decode cL_boards 169 = .ok (.aload_n 0, 1) := by decide +kernel
theorem dL_boards_170 : decode cL_boards 170 = .ok (.iload 6, 2) := by decide +kernel
theorem dL_boards_172 : decode cL_boards 172 = .ok (.bipush 6, 2) := by decide +kernel
theorem dL_boards_174 : decode cL_boards 174 = .ok (.invokevirtual 94, 3) := by decide +kernel
theorem dL_boards_177 : decode cL_boards 177 = .ok (.aload_n 2, 1) := by decide +kernel
theorem dL_boards_178 : decode cL_boards 178 = .ok (.iload 6, 2) := by decide +kernel
theorem dL_boards_180 : decode cL_boards 180 = .ok (.iaload, 1) := by decide +kernel
theorem dL_boards_181 : decode cL_boards 181 = .ok (.if_icmp .eq 5, 3) := by decide +kernel
theorem dL_boards_184 : decode cL_boards 184 = .ok (.iconst 0, 1) := by decide +kernel
theorem dL_boards_185 : decode cL_boards 185 = .ok (.ireturn, 1) := by decide +kernel
theorem dL_boards_186 : decode cL_boards 186 = .ok (.iinc 6 1, 3) := by decide +kernel
theorem dL_boards_189 : decode cL_boards 189 = .ok (.goto (-186), 3) := by decide +kernel
theorem dL_boards_192 : decode cL_boards 192 = .ok (.aload_n 0, 1) := by decide +kernel
theorem dL_boards_193 : decode cL_boards 193 = .ok (.aload 5, 2) := by decide +kernel
theorem dL_boards_195 : decode cL_boards 195 = .ok (.iconst 4, 1) := by decide +kernel
theorem dL_boards_196 : decode cL_boards 196 = .ok (.iaload, 1) := by decide +kernel
theorem dL_boards_197 : decode cL_boards 197 = .ok (.iconst 0, 1) := by decide +kernel
theorem dL_boards_198 : decode cL_boards 198 = .ok (.invokevirtual 94, 3) := by decide +kernel
theorem dL_boards_201 : decode cL_boards 201 = .ok (.iconst (-1), 1) := by decide +kernel
theorem dL_boards_202 : decode cL_boards 202 = .ok (.if_icmp .ne 7, 3) := by decide +kernel
theorem dL_boards_205 : decode cL_boards 205 = .ok (.iconst 1, 1) := by decide +kernel
theorem dL_boards_206 : decode cL_boards 206 = .ok (.goto 4, 3) := by decide +kernel
theorem dL_boards_209 : decode cL_boards 209 = .ok (.iconst 0, 1) := by decide +kernel
theorem dL_boards_210 : decode cL_boards 210 = .ok (.ireturn, 1) := by decide +kernel
theorem dL_tells_0 : decode cL_tells 0 = .ok (.iconst 0, 1) := by decide +kernel
theorem dL_tells_1 : decode cL_tells 1 = .ok (.istore 6, 2) := by decide +kernel
theorem dL_tells_3 : decode cL_tells 3 = .ok (.iconst 0, 1) := by decide +kernel
theorem dL_tells_4 : decode cL_tells 4 = .ok (.istore 7, 2) := by decide +kernel
theorem dL_tells_6 : decode cL_tells 6 = .ok (.iload 7, 2) := by decide +kernel
theorem dL_tells_8 : decode cL_tells 8 = .ok (.iconst 4, 1) := by decide +kernel
theorem dL_tells_9 : decode cL_tells 9 = .ok (.if_icmp .ge 178, 3) := by decide +kernel
theorem dL_tells_12 : decode cL_tells 12 = .ok (.aload_n 1, 1) := by decide +kernel
theorem dL_tells_13 : decode cL_tells 13 = .ok (.aload_n 3, 1) := by decide +kernel
theorem dL_tells_14 : decode cL_tells 14 = .ok (.aload 4, 2) := by decide +kernel
theorem dL_tells_16 : decode cL_tells 16 = .ok (.aload 5, 2) := by decide +kernel
theorem dL_tells_18 : decode cL_tells 18 = .ok (.iload 7, 2) := by decide +kernel
theorem dL_tells_20 : decode cL_tells 20 = .ok (.invokestatic 56, 3) := by decide +kernel
theorem dL_tells_23 : decode cL_tells 23 = .ok (.istore 8, 2) := by decide +kernel
theorem dL_tells_25 : decode cL_tells 25 = .ok (.iconst 0, 1) := by decide +kernel
theorem dL_tells_26 : decode cL_tells 26 = .ok (.istore 9, 2) := by decide +kernel
theorem dL_tells_28 : decode cL_tells 28 = .ok (.iconst 0, 1) := by decide +kernel
theorem dL_tells_29 : decode cL_tells 29 = .ok (.istore 10, 2) := by decide +kernel
theorem dL_tells_31 : decode cL_tells 31 = .ok (.iload 10, 2) := by decide +kernel
theorem dL_tells_33 : decode cL_tells 33 = .ok (.aload 5, 2) := by decide +kernel
theorem dL_tells_35 : decode cL_tells 35 = .ok (.iconst 4, 1) := by decide +kernel
theorem dL_tells_36 : decode cL_tells 36 = .ok (.iaload, 1) := by decide +kernel
theorem dL_tells_37 : decode cL_tells 37 = .ok (.if_icmp .ge 59, 3) := by decide +kernel
theorem dL_tells_40 : decode cL_tells 40 = .ok (.iload 9, 2) := by decide +kernel
theorem dL_tells_42 : decode cL_tells 42 = .ok (.iload 8, 2) := by decide +kernel
theorem dL_tells_44 : decode cL_tells 44 = .ok (.iload 10, 2) := by decide +kernel
theorem dL_tells_46 : decode cL_tells 46 = .ok (.ishr, 1) := by decide +kernel
theorem dL_tells_47 : decode cL_tells 47 = .ok (.iconst 1, 1) := by decide +kernel
theorem dL_tells_48 : decode cL_tells 48 = .ok (.iand, 1) := by decide +kernel
theorem dL_tells_49 : decode cL_tells 49 = .ok (.iconst 1, 1) := by decide +kernel
theorem dL_tells_50 : decode cL_tells 50 = .ok (.if_icmp .ne 36, 3) := by decide +kernel
theorem dL_tells_53 : decode cL_tells 53 = .ok (.aload_n 1, 1) := by decide +kernel
theorem dL_tells_54 : decode cL_tells 54 = .ok (.iload 10, 2) := by decide +kernel
theorem dL_tells_56 : decode cL_tells 56 = .ok (.invokestatic 10, 3) := by decide +kernel
theorem dL_tells_59 : decode cL_tells 59 = .ok (.aload_n 3, 1) := by decide +kernel
theorem dL_tells_60 : decode cL_tells 60 = .ok (.iload 7, 2) := by decide +kernel
theorem dL_tells_62 : decode cL_tells 62 = .ok (.iaload, 1) := by decide +kernel
theorem dL_tells_63 : decode cL_tells 63 = .ok (.if_icmp .eq 16, 3) := by decide +kernel
theorem dL_tells_66 : decode cL_tells 66 = .ok (.aload_n 1, 1) := by decide +kernel
theorem dL_tells_67 : decode cL_tells 67 = .ok (.iload 10, 2) := by decide +kernel
theorem dL_tells_69 : decode cL_tells 69 = .ok (.invokestatic 16, 3) := by decide +kernel
theorem dL_tells_72 : decode cL_tells 72 = .ok (.aload_n 3, 1) := by decide +kernel
theorem dL_tells_73 : decode cL_tells 73 = .ok (.iload 7, 2) := by decide +kernel
theorem dL_tells_75 : decode cL_tells 75 = .ok (.iaload, 1) := by decide +kernel
theorem dL_tells_76 : decode cL_tells 76 = .ok (.if_icmp .ne 10, 3) := by decide +kernel
theorem dL_tells_79 : decode cL_tells 79 = .ok (.iconst 1, 1) := by decide +kernel
theorem dL_tells_80 : decode cL_tells 80 = .ok (.iload 10, 2) := by decide +kernel
theorem dL_tells_82 : decode cL_tells 82 = .ok (.ishl, 1) := by decide +kernel
theorem dL_tells_83 : decode cL_tells 83 = .ok (.goto 4, 3) := by decide +kernel
theorem dL_tells_86 : decode cL_tells 86 = .ok (.iconst 0, 1) := by decide +kernel
theorem dL_tells_87 : decode cL_tells 87 = .ok (.ior, 1) := by decide +kernel
theorem dL_tells_88 : decode cL_tells 88 = .ok (.istore 9, 2) := by decide +kernel
theorem dL_tells_90 : decode cL_tells 90 = .ok (.iinc 10 1, 3) := by decide +kernel
theorem dL_tells_93 : decode cL_tells 93 = .ok (.goto (-62), 3) := by decide +kernel
theorem dL_tells_96 : decode cL_tells 96 = .ok (.aload_n 0, 1) := by decide +kernel
theorem dL_tells_97 : decode cL_tells 97 = .ok (.iload 7, 2) := by decide +kernel
theorem dL_tells_99 : decode cL_tells 99 = .ok (.iconst 0, 1) := by decide +kernel
theorem dL_tells_100 : decode cL_tells 100 = .ok (.invokevirtual 97, 3) := by decide +kernel
theorem dL_tells_103 : decode cL_tells 103 = .ok (.aload_n 3, 1) := by decide +kernel
theorem dL_tells_104 : decode cL_tells 104 = .ok (.iload 7, 2) := by decide +kernel
theorem dL_tells_106 : decode cL_tells 106 = .ok (.iaload, 1) := by decide +kernel
theorem dL_tells_107 : decode cL_tells 107 = .ok (.if_icmp .ne 72, 3) := by decide +kernel
theorem dL_tells_110 : decode cL_tells 110 = .ok (.aload_n 0, 1) := by decide +kernel
theorem dL_tells_111 : decode cL_tells 111 = .ok (.iload 7, 2) := by decide +kernel
theorem dL_tells_113 : decode cL_tells 113 = .ok (.iconst 1, 1) := by decide +kernel
theorem dL_tells_114 : decode cL_tells 114 = .ok (.invokevirtual 97, 3) := by decide +kernel
theorem dL_tells_117 : decode cL_tells 117 = .ok (.aload_n 3, 1) := by decide +kernel
theorem dL_tells_118 : decode cL_tells 118 = .ok (.iconst 4, 1) := by decide +kernel
theorem dL_tells_119 : decode cL_tells 119 = .ok (.iload 7, 2) := by decide +kernel
theorem dL_tells_121 : decode cL_tells 121 = .ok (.iadd, 1) := by decide +kernel
theorem dL_tells_122 : decode cL_tells 122 = .ok (.iaload, 1) := by decide +kernel
theorem dL_tells_123 : decode cL_tells 123 = .ok (.if_icmp .ne 56, 3) := by decide +kernel
theorem dL_tells_126 : decode cL_tells 126 = .ok (.aload_n 0, 1) := by decide +kernel
theorem dL_tells_127 : decode cL_tells 127 = .ok (.iload 7, 2) := by decide +kernel
theorem dL_tells_129 : decode cL_tells 129 = .ok (.iconst 2, 1) := by decide +kernel
theorem dL_tells_130 : decode cL_tells 130 = .ok (.invokevirtual 97, 3) := by decide +kernel
theorem dL_tells_133 : decode cL_tells 133 = .ok (.iload 9, 2) := by decide +kernel
theorem dL_tells_135 : decode cL_tells 135 = .ok (.if_icmp .ne 44, 3) := by decide +kernel
theorem dL_tells_138 : decode cL_tells 138 = .ok (.aload_n 0, 1) := by decide +kernel
theorem dL_tells_139 : decode cL_tells 139 = .ok (.iload 7, 2) := by decide +kernel
theorem dL_tells_141 : decode cL_tells 141 = .ok (.iconst 3, 1) := by decide +kernel
theorem dL_tells_142 : decode cL_tells 142 = .ok (.invokevirtual 97, 3) := by decide +kernel
theorem dL_tells_145 : decode cL_tells 145 = .ok (.aload_n 1, 1) := by decide +kernel
theorem dL_tells_146 : decode cL_tells 146 = .ok (.aload 5, 2) := by decide +kernel
theorem dL_tells_148 : decode cL_tells 148 = .ok (.aload_n 3, 1) := by decide +kernel
theorem dL_tells_149 : decode cL_tells 149 = .ok (.iload 7, 2) := by decide +kernel
theorem dL_tells_151 : decode cL_tells 151 = .ok (.iaload, 1) := by decide +kernel
theorem dL_tells_152 : decode cL_tells 152 = .ok (.iload 8, 2) := by decide +kernel
theorem dL_tells_154 : decode cL_tells 154 = .ok (.bipush 9, 2) := by decide +kernel
theorem dL_tells_156 : decode cL_tells 156 = .ok (.invokestatic 25, 3) := by decide +kernel
theorem dL_tells_159 : decode cL_tells 159 = .ok (.if_icmp .ne 20, 3) := by decide +kernel
theorem dL_tells_162 : decode cL_tells 162 = .ok (.aload_n 0, 1) := by decide +kernel
theorem dL_tells_163 : decode cL_tells 163 = .ok (.iload 7, 2) := by decide +kernel
theorem dL_tells_165 : decode cL_tells 165 = .ok (.iconst 4, 1) := by decide +kernel
theorem dL_tells_166 : decode cL_tells 166 = .ok (.invokevirtual 97, 3) := by decide +kernel
theorem dL_tells_169 : decode cL_tells 169 = .ok (.aload_n 3, 1) := by decide +kernel
theorem dL_tells_170 : decode cL_tells 170 = .ok (.bipush 8, 2) := by decide +kernel
theorem dL_tells_172 : decode cL_tells 172 = .ok (.iload 7, 2) := by decide +kernel
theorem dL_tells_174 : decode cL_tells 174 = .ok (.iadd, 1) := by decide +kernel
theorem dL_tells_175 : decode cL_tells 175 = .ok (.iaload, 1) := by decide +kernel
theorem dL_tells_176 : decode cL_tells 176 = .ok (.if_icmp .eq 5, 3) := by decide +kernel
theorem dL_tells_179 : decode cL_tells 179 = .ok (.iconst 0, 1) := by decide +kernel
theorem dL_tells_180 : decode cL_tells 180 = .ok (.ireturn, 1) := by decide +kernel
theorem dL_tells_181 : decode cL_tells 181 = .ok (.iinc 7 1, 3) := by decide +kernel
theorem dL_tells_184 : decode cL_tells 184 = .ok (.goto (-178), 3) := by decide +kernel
theorem dL_tells_187 : decode cL_tells 187 = .ok (.iconst 0, 1) := by decide +kernel
theorem dL_tells_188 : decode cL_tells 188 = .ok (.istore 7, 2) := by decide +kernel
theorem dL_tells_190 : decode cL_tells 190 = .ok (.iload 7, 2) := by decide +kernel
theorem dL_tells_192 : decode cL_tells 192 = .ok (.aload 5, 2) := by decide +kernel
theorem dL_tells_194 : decode cL_tells 194 = .ok (.iconst 5, 1) := by decide +kernel
theorem dL_tells_195 : decode cL_tells 195 = .ok (.iaload, 1) := by decide +kernel
theorem dL_tells_196 : decode cL_tells 196 = .ok (.if_icmp .ge 190, 3) := by decide +kernel
theorem dL_tells_199 : decode cL_tells 199 = .ok (.iconst 0, 1) := by decide +kernel
theorem dL_tells_200 : decode cL_tells 200 = .ok (.istore 8, 2) := by decide +kernel
theorem dL_tells_202 : decode cL_tells 202 = .ok (.iconst 0, 1) := by decide +kernel
theorem dL_tells_203 : decode cL_tells 203 = .ok (.istore 9, 2) := by decide +kernel
theorem dL_tells_205 : decode cL_tells 205 = .ok (.iload 9, 2) := by decide +kernel
theorem dL_tells_207 : decode cL_tells 207 = .ok (.aload 5, 2) := by decide +kernel
theorem dL_tells_209 : decode cL_tells 209 = .ok (.iconst 4, 1) := by decide +kernel
theorem dL_tells_210 : decode cL_tells 210 = .ok (.iaload, 1) := by decide +kernel
theorem dL_tells_211 : decode cL_tells 211 = .ok (.if_icmp .ge 63, 3) := by decide +kernel
theorem dL_tells_214 : decode cL_tells 214 = .ok (.aload_n 1, 1) := by decide +kernel
theorem dL_tells_215 : decode cL_tells 215 = .ok (.aload 4, 2) := by decide +kernel
theorem dL_tells_217 : decode cL_tells 217 = .ok (.aload 5, 2) := by decide +kernel
theorem dL_tells_219 : decode cL_tells 219 = .ok (.iload 9, 2) := by decide +kernel
theorem dL_tells_221 : decode cL_tells 221 = .ok (.iload 7, 2) := by decide +kernel
theorem dL_tells_223 : decode cL_tells 223 = .ok (.invokestatic 44, 3) := by decide +kernel
theorem dL_tells_226 : decode cL_tells 226 = .ok (.istore 10, 2) := by decide +kernel
theorem dL_tells_228 : decode cL_tells 228 = .ok (.iload 8, 2) := by decide +kernel
theorem dL_tells_230 : decode cL_tells 230 = .ok (.iload 10, 2) := by decide +kernel
theorem dL_tells_232 : decode cL_tells 232 = .ok (.aload 4, 2) := by decide +kernel
theorem dL_tells_234 : decode cL_tells 234 = .ok (.iconst 5, 1) := by decide +kernel
theorem dL_tells_235 : decode cL_tells 235 = .ok (.iload 7, 2) := by decide +kernel
theorem dL_tells_237 : decode cL_tells 237 = .ok (.iadd, 1) := by decide +kernel
theorem dL_tells_238 : decode cL_tells 238 = .ok (.iaload, 1) := by decide +kernel
theorem dL_tells_239 : decode cL_tells 239 = .ok (.if_icmp .lt 10, 3) := by decide +kernel
theorem dL_tells_242 : decode cL_tells 242 = .ok (.iconst 1, 1) := by decide +kernel
theorem dL_tells_243 : decode cL_tells 243 = .ok (.iload 9, 2) := by decide +kernel
theorem dL_tells_245 : decode cL_tells 245 = .ok (.ishl, 1) := by decide +kernel
theorem dL_tells_246 : decode cL_tells 246 = .ok (.goto 4, 3) := by decide +kernel
theorem dL_tells_249 : decode cL_tells 249 = .ok (.iconst 0, 1) := by decide +kernel
theorem dL_tells_250 : decode cL_tells 250 = .ok (.ior, 1) := by decide +kernel
theorem dL_tells_251 : decode cL_tells 251 = .ok (.istore 8, 2) := by decide +kernel
theorem dL_tells_253 : decode cL_tells 253 = .ok (.aload_n 0, 1) := by decide +kernel
theorem dL_tells_254 : decode cL_tells 254 = .ok (.iload 9, 2) := by decide +kernel
theorem dL_tells_256 : decode cL_tells 256 = .ok (.iload 7, 2) := by decide +kernel
theorem dL_tells_258 : decode cL_tells 258 = .ok (.invokevirtual 100, 3) := by decide +kernel
theorem dL_tells_261 : decode cL_tells 261 = .ok (.iload 10, 2) := by decide +kernel
theorem dL_tells_263 : decode cL_tells 263 = .ok (.if_icmp .eq 5, 3) := by decide +kernel
theorem dL_tells_266 : decode cL_tells 266 = .ok (.iconst 0, 1) := by decide +kernel
theorem dL_tells_267 : decode cL_tells 267 = .ok (.ireturn, 1) := by decide +kernel
theorem dL_tells_268 : decode cL_tells 268 = .ok (.iinc 9 1, 3) := by decide +kernel
theorem dL_tells_271 : decode cL_tells 271 = .ok (.goto (-66), 3) := by decide +kernel
theorem dL_tells_274 : decode cL_tells 274 = .ok (.iload 6, 2) := by decide +kernel
theorem dL_tells_276 : decode cL_tells 276 = .ok (.aload 4, 2) := by decide +kernel
theorem dL_tells_278 : decode cL_tells 278 = .ok (.bipush 10, 2) := by decide +kernel
theorem dL_tells_280 : decode cL_tells 280 = .ok (.iload 7, 2) := by decide +kernel
theorem dL_tells_282 : decode cL_tells 282 = .ok (.iadd, 1) := by decide +kernel
theorem dL_tells_283 : decode cL_tells 283 = .ok (.iaload, 1) := by decide +kernel
theorem dL_tells_284 : decode cL_tells 284 = .ok (.ifCond .le 10, 3) := by decide +kernel
theorem dL_tells_287 : decode cL_tells 287 = .ok (.iconst 1, 1) := by decide +kernel
theorem dL_tells_288 : decode cL_tells 288 = .ok (.iload 7, 2) := by decide +kernel
theorem dL_tells_290 : decode cL_tells 290 = .ok (.ishl, 1) := by decide +kernel
theorem dL_tells_291 : decode cL_tells 291 = .ok (.goto 4, 3) := by decide +kernel
theorem dL_tells_294 : decode cL_tells 294 = .ok (.iconst 0, 1) := by decide +kernel
theorem dL_tells_295 : decode cL_tells 295 = .ok (.ior, 1) := by decide +kernel
theorem dL_tells_296 : decode cL_tells 296 = .ok (.istore 6, 2) := by decide +kernel
theorem dL_tells_298 : decode cL_tells 298 = .ok (.aload_n 0, 1) := by decide +kernel
theorem dL_tells_299 : decode cL_tells 299 = .ok (.iload 7, 2) := by decide +kernel
theorem dL_tells_301 : decode cL_tells 301 = .ok (.iconst 0, 1) := by decide +kernel
theorem dL_tells_302 : decode cL_tells 302 = .ok (.invokevirtual 103, 3) := by decide +kernel
theorem dL_tells_305 : decode cL_tells 305 = .ok (.aload 4, 2) := by decide +kernel
theorem dL_tells_307 : decode cL_tells 307 = .ok (.iload 7, 2) := by decide +kernel
theorem dL_tells_309 : decode cL_tells 309 = .ok (.iaload, 1) := by decide +kernel
theorem dL_tells_310 : decode cL_tells 310 = .ok (.if_icmp .ne 68, 3) := by decide +kernel
theorem dL_tells_313 : decode cL_tells 313 = .ok (.aload_n 0, 1) := by decide +kernel
theorem dL_tells_314 : decode cL_tells 314 = .ok (.iload 7, 2) := by decide +kernel
theorem dL_tells_316 : decode cL_tells 316 = .ok (.iconst 1, 1) := by decide +kernel
theorem dL_tells_317 : decode cL_tells 317 = .ok (.invokevirtual 103, 3) := by decide +kernel
theorem dL_tells_320 : decode cL_tells 320 = .ok (.aload 4, 2) := by decide +kernel
theorem dL_tells_322 : decode cL_tells 322 = .ok (.iconst 5, 1) := by decide +kernel
theorem dL_tells_323 : decode cL_tells 323 = .ok (.iload 7, 2) := by decide +kernel
theorem dL_tells_325 : decode cL_tells 325 = .ok (.iadd, 1) := by decide +kernel
theorem dL_tells_326 : decode cL_tells 326 = .ok (.iaload, 1) := by decide +kernel
theorem dL_tells_327 : decode cL_tells 327 = .ok (.if_icmp .ne 51, 3) := by decide +kernel
theorem dL_tells_330 : decode cL_tells 330 = .ok (.aload_n 0, 1) := by decide +kernel
theorem dL_tells_331 : decode cL_tells 331 = .ok (.iload 7, 2) := by decide +kernel
theorem dL_tells_333 : decode cL_tells 333 = .ok (.iconst 2, 1) := by decide +kernel
theorem dL_tells_334 : decode cL_tells 334 = .ok (.invokevirtual 103, 3) := by decide +kernel
theorem dL_tells_337 : decode cL_tells 337 = .ok (.aload 4, 2) := by decide +kernel
theorem dL_tells_339 : decode cL_tells 339 = .ok (.bipush 10, 2) := by decide +kernel
theorem dL_tells_341 : decode cL_tells 341 = .ok (.iload 7, 2) := by decide +kernel
theorem dL_tells_343 : decode cL_tells 343 = .ok (.iadd, 1) := by decide +kernel
theorem dL_tells_344 : decode cL_tells 344 = .ok (.iaload, 1) := by decide +kernel
theorem dL_tells_345 : decode cL_tells 345 = .ok (.if_icmp .ne 33, 3) := by decide +kernel
theorem dL_tells_348 : decode cL_tells 348 = .ok (.aload_n 0, 1) := by decide +kernel
theorem dL_tells_349 : decode cL_tells 349 = .ok (.iload 7, 2) := by decide +kernel
theorem dL_tells_351 : decode cL_tells 351 = .ok (.iconst 3, 1) := by decide +kernel
theorem dL_tells_352 : decode cL_tells 352 = .ok (.invokevirtual 103, 3) := by decide +kernel
theorem dL_tells_355 : decode cL_tells 355 = .ok (.aload 4, 2) := by decide +kernel
theorem dL_tells_357 : decode cL_tells 357 = .ok (.bipush 15, 2) := by decide +kernel
theorem dL_tells_359 : decode cL_tells 359 = .ok (.iload 7, 2) := by decide +kernel
theorem dL_tells_361 : decode cL_tells 361 = .ok (.iadd, 1) := by decide +kernel
theorem dL_tells_362 : decode cL_tells 362 = .ok (.iaload, 1) := by decide +kernel
theorem dL_tells_363 : decode cL_tells 363 = .ok (.if_icmp .ne 15, 3) := by decide +kernel
theorem dL_tells_366 : decode cL_tells 366 = .ok (.aload_n 0, 1) := by decide +kernel
theorem dL_tells_367 : decode cL_tells 367 = .ok (.iload 7, 2) := by decide +kernel
theorem dL_tells_369 : decode cL_tells 369 = .ok (.iconst 4, 1) := by decide +kernel
theorem dL_tells_370 : decode cL_tells 370 = .ok (.invokevirtual 103, 3) := by decide +kernel
theorem dL_tells_373 : decode cL_tells 373 = .ok (.iload 8, 2) := by decide +kernel
theorem dL_tells_375 : decode cL_tells 375 = .ok (.if_icmp .eq 5, 3) := by decide +kernel
theorem dL_tells_378 : decode cL_tells 378 = .ok (.iconst 0, 1) := by decide +kernel
theorem dL_tells_379 : decode cL_tells 379 = .ok (.ireturn, 1) := by decide +kernel
theorem dL_tells_380 : decode cL_tells 380 = .ok (.iinc 7 1, 3) := by decide +kernel
theorem dL_tells_383 : decode cL_tells 383 = .ok (.goto (-193), 3) := by decide +kernel
theorem dL_tells_386 : decode cL_tells 386 = .ok (.aload_n 0, 1) := by decide +kernel
theorem dL_tells_387 : decode cL_tells 387 = .ok (.iconst 0, 1) := by decide +kernel
theorem dL_tells_388 : decode cL_tells 388 = .ok (.invokevirtual 106, 3) := by decide +kernel
theorem dL_tells_391 : decode cL_tells 391 = .ok (.aload 5, 2) := by decide +kernel
theorem dL_tells_393 : decode cL_tells 393 = .ok (.iconst 0, 1) := by decide +kernel
theorem dL_tells_394 : decode cL_tells 394 = .ok (.iaload, 1) := by decide +kernel
theorem dL_tells_395 : decode cL_tells 395 = .ok (.if_icmp .ne 117, 3) := by decide +kernel
theorem dL_tells_398 : decode cL_tells 398 = .ok (.aload_n 0, 1) := by decide +kernel
theorem dL_tells_399 : decode cL_tells 399 = .ok (.iconst 1, 1) := by decide +kernel
theorem dL_tells_400 : decode cL_tells 400 = .ok (.invokevirtual 106, 3) := by decide +kernel
theorem dL_tells_403 : decode cL_tells 403 = .ok (.aload 5, 2) := by decide +kernel
theorem dL_tells_405 : decode cL_tells 405 = .ok (.iconst 1, 1) := by decide +kernel
theorem dL_tells_406 : decode cL_tells 406 = .ok (.iaload, 1) := by decide +kernel
theorem dL_tells_407 : decode cL_tells 407 = .ok (.if_icmp .ne 105, 3) := by decide +kernel
theorem dL_tells_410 : decode cL_tells 410 = .ok (.aload_n 0, 1) := by decide +kernel
theorem dL_tells_411 : decode cL_tells 411 = .ok (.iconst 2, 1) := by decide +kernel
theorem dL_tells_412 : decode cL_tells 412 = .ok (.invokevirtual 106, 3) := by decide +kernel
theorem dL_tells_415 : decode cL_tells 415 = .ok (.aload 5, 2) := by decide +kernel
theorem dL_tells_417 : decode cL_tells 417 = .ok (.iconst 2, 1) := by decide +kernel
theorem dL_tells_418 : decode cL_tells 418 = .ok (.iaload, 1) := by decide +kernel
theorem dL_tells_419 : decode cL_tells 419 = .ok (.if_icmp .ne 93, 3) := by decide +kernel
theorem dL_tells_422 : decode cL_tells 422 = .ok (.aload_n 0, 1) := by decide +kernel
theorem dL_tells_423 : decode cL_tells 423 = .ok (.iconst 3, 1) := by decide +kernel
theorem dL_tells_424 : decode cL_tells 424 = .ok (.invokevirtual 106, 3) := by decide +kernel
theorem dL_tells_427 : decode cL_tells 427 = .ok (.aload 5, 2) := by decide +kernel
theorem dL_tells_429 : decode cL_tells 429 = .ok (.iconst 4, 1) := by decide +kernel
theorem dL_tells_430 : decode cL_tells 430 = .ok (.iaload, 1) := by decide +kernel
theorem dL_tells_431 : decode cL_tells 431 = .ok (.if_icmp .ne 81, 3) := by decide +kernel
theorem dL_tells_434 : decode cL_tells 434 = .ok (.aload_n 0, 1) := by decide +kernel
theorem dL_tells_435 : decode cL_tells 435 = .ok (.iconst 4, 1) := by decide +kernel
theorem dL_tells_436 : decode cL_tells 436 = .ok (.invokevirtual 106, 3) := by decide +kernel
theorem dL_tells_439 : decode cL_tells 439 = .ok (.aload 5, 2) := by decide +kernel
theorem dL_tells_441 : decode cL_tells 441 = .ok (.iconst 5, 1) := by decide +kernel
theorem dL_tells_442 : decode cL_tells 442 = .ok (.iaload, 1) := by decide +kernel
theorem dL_tells_443 : decode cL_tells 443 = .ok (.if_icmp .ne 69, 3) := by decide +kernel
theorem dL_tells_446 : decode cL_tells 446 = .ok (.aload_n 0, 1) := by decide +kernel
theorem dL_tells_447 : decode cL_tells 447 = .ok (.iconst 5, 1) := by decide +kernel
theorem dL_tells_448 : decode cL_tells 448 = .ok (.invokevirtual 106, 3) := by decide +kernel
theorem dL_tells_451 : decode cL_tells 451 = .ok (.iload 6, 2) := by decide +kernel
theorem dL_tells_453 : decode cL_tells 453 = .ok (.if_icmp .ne 59, 3) := by decide +kernel
theorem dL_tells_456 : decode cL_tells 456 = .ok (.aload_n 0, 1) := by decide +kernel
theorem dL_tells_457 : decode cL_tells 457 = .ok (.bipush 6, 2) := by decide +kernel
theorem dL_tells_459 : decode cL_tells 459 = .ok (.invokevirtual 106, 3) := by decide +kernel
theorem dL_tells_462 : decode cL_tells 462 = .ok (.aload 4, 2) := by decide +kernel
theorem dL_tells_464 : decode cL_tells 464 = .ok (.aload 5, 2) := by decide +kernel
theorem dL_tells_466 : decode cL_tells 466 = .ok (.invokestatic 36, 3) := by decide +kernel
theorem dL_tells_469 : decode cL_tells 469 = .ok (.if_icmp .ne 43, 3) := by decide +kernel
theorem dL_tells_472 : decode cL_tells 472 = .ok (.aload_n 0, 1) := by decide +kernel
theorem dL_tells_473 : decode cL_tells 473 = .ok (.bipush 7, 2) := by decide +kernel
theorem dL_tells_475 : decode cL_tells 475 = .ok (.invokevirtual 106, 3) := by decide +kernel
theorem dL_tells_478 : decode cL_tells 478 = .ok (.aload 5, 2) := by decide +kernel
theorem dL_tells_480 : decode cL_tells 480 = .ok (.iconst 3, 1) := by decide +kernel
theorem dL_tells_481 : decode cL_tells 481 = .ok (.iaload, 1) := by decide +kernel
theorem dL_tells_482 : decode cL_tells 482 = .ok (.if_icmp .ne 30, 3) := by decide +kernel
theorem dL_tells_485 : decode cL_tells 485 = .ok (.aload_n 0, 1) := by decide +kernel
theorem dL_tells_486 : decode cL_tells 486 = .ok (.bipush 8, 2) := by decide +kernel
theorem dL_tells_488 : decode cL_tells 488 = .ok (.invokevirtual 106, 3) := by decide +kernel
theorem dL_tells_491 : decode cL_tells 491 = .ok (.aload 5, 2) := by decide +kernel
theorem dL_tells_493 : decode cL_tells 493 = .ok (.iconst 0, 1) := by decide +kernel
theorem dL_tells_494 : decode cL_tells 494 = .ok (.iaload, 1) := by decide +kernel
theorem dL_tells_495 : decode cL_tells 495 = .ok (.aload 5, 2) := by decide +kernel
theorem dL_tells_497 : decode cL_tells 497 = .ok (.iconst 2, 1) := by decide +kernel
theorem dL_tells_498 : decode cL_tells 498 = .ok (.iaload, 1) := by decide +kernel
theorem dL_tells_499 : decode cL_tells 499 = .ok (.aload 5, 2) := by decide +kernel
theorem dL_tells_501 : decode cL_tells 501 = .ok (.iconst 0, 1) := by decide +kernel
theorem dL_tells_502 : decode cL_tells 502 = .ok (.iaload, 1) := by decide +kernel
theorem dL_tells_503 : decode cL_tells 503 = .ok (.irem, 1) := by decide +kernel
theorem dL_tells_504 : decode cL_tells 504 = .ok (.isub, 1) := by decide +kernel
theorem dL_tells_505 : decode cL_tells 505 = .ok (.if_icmp .ne 7, 3) := by decide +kernel
theorem dL_tells_508 : decode cL_tells 508 = .ok (.iconst 1, 1) := by decide +kernel
theorem dL_tells_509 : decode cL_tells 509 = .ok (.goto 4, 3) := by decide +kernel
theorem dL_tells_512 : decode cL_tells 512 = .ok (.iconst 0, 1) := by decide +kernel
theorem dL_tells_513 : decode cL_tells 513 = .ok (.istore 7, 2) := by decide +kernel
theorem dL_tells_515 : decode cL_tells 515 = .ok (.iload 7, 2) := by decide +kernel
theorem dL_tells_517 : decode cL_tells 517 = .ok (.ifCond .eq 21, 3) := by decide +kernel
theorem dL_tells_520 : decode cL_tells 520 = .ok (.aload_n 0, 1) := by decide +kernel
theorem dL_tells_521 : decode cL_tells 521 = .ok (.aload_n 1, 1) := by decide +kernel
theorem dL_tells_522 : decode cL_tells 522 = .ok (.aload_n 2, 1) := by decide +kernel
theorem dL_tells_523 : decode cL_tells 523 = .ok (.aload_n 3, 1) := by decide +kernel
theorem dL_tells_524 : decode cL_tells 524 = .ok (.aload 4, 2) := by decide +kernel
theorem dL_tells_526 : decode cL_tells 526 = .ok (.aload 5, 2) := by decide +kernel
theorem dL_tells_528 : decode cL_tells 528 = .ok (.invokestatic 109, 3) := by decide +kernel
theorem dL_tells_531 : decode cL_tells 531 = .ok (.ifCond .eq 7, 3) := by decide +kernel
theorem dL_tells_534 : decode cL_tells 534 = .ok (.iconst 1, 1) := by decide +kernel
theorem dL_tells_535 : decode cL_tells 535 = .ok (.goto 4, 3) := by decide +kernel
theorem dL_tells_538 : decode cL_tells 538 = .ok (.iconst 0, 1) := by decide +kernel
theorem dL_tells_539 : decode cL_tells 539 = .ok (.ireturn, 1) := by decide +kernel
end
section
theorem dX10_init_0 : decode cX10_init 0 = .ok (.aload_n 0, 1) := by decide +kernel
theorem dX10_init_1 : decode cX10_init 1 = .ok (.invokespecial 1, 3) := by decide +kernel
theorem dX10_init_4 : decode cX10_init 4 = .ok (.aload_n 0, 1) := by decide +kernel
theorem dX10_init_5 : decode cX10_init 5 = .ok (.new 7, 3) := by decide +kernel
theorem dX10_init_8 : decode cX10_init 8 = .ok (.dup, 1) := by decide +kernel
theorem dX10_init_9 : decode cX10_init 9 = .ok (.invokespecial 9, 3) := by decide +kernel
theorem dX10_init_12 : decode cX10_init 12 = .ok (.putfield 10, 3) := by decide +kernel
theorem dX10_init_15 : decode cX10_init 15 = .ok (.aload_n 0, 1) := by decide +kernel
theorem dX10_init_16 : decode cX10_init 16 = .ok (.new 16, 3) := by decide +kernel
theorem dX10_init_19 : decode cX10_init 19 = .ok (.dup, 1) := by decide +kernel
theorem dX10_init_20 : decode cX10_init 20 = .ok (.invokespecial 18, 3) := by decide +kernel
theorem dX10_init_23 : decode cX10_init 23 = .ok (.putfield 19, 3) := by decide +kernel
theorem dX10_init_26 : decode cX10_init 26 = .ok (.aload_n 0, 1) := by decide +kernel
theorem dX10_init_27 : decode cX10_init 27 = .ok (.new 23, 3) := by decide +kernel
theorem dX10_init_30 : decode cX10_init 30 = .ok (.dup, 1) := by decide +kernel
theorem dX10_init_31 : decode cX10_init 31 = .ok (.invokespecial 25, 3) := by decide +kernel
theorem dX10_init_34 : decode cX10_init 34 = .ok (.putfield 26, 3) := by decide +kernel
theorem dX10_init_37 : decode cX10_init 37 = .ok (.aload_n 0, 1) := by decide +kernel
theorem dX10_init_38 : decode cX10_init 38 = .ok (.new 30, 3) := by decide +kernel
theorem dX10_init_41 : decode cX10_init 41 = .ok (.dup, 1) := by decide +kernel
theorem dX10_init_42 : decode cX10_init 42 = .ok (.iconst 2, 1) := by decide +kernel
theorem dX10_init_43 : decode cX10_init 43 = .ok (.invokespecial 32, 3) := by decide +kernel
theorem dX10_init_46 : decode cX10_init 46 = .ok (.putfield 35, 3) := by decide +kernel
theorem dX10_init_49 : decode cX10_init 49 = .ok (.aload_n 0, 1) := by decide +kernel
theorem dX10_init_50 : decode cX10_init 50 = .ok (.new 39, 3) := by decide +kernel
theorem dX10_init_53 : decode cX10_init 53 = .ok (.dup, 1) := by decide +kernel
theorem dX10_init_54 : decode cX10_init 54 = .ok (.invokespecial 41, 3) := by decide +kernel
theorem dX10_init_57 : decode cX10_init 57 = .ok (.putfield 42, 3) := by decide +kernel
theorem dX10_init_60 : decode cX10_init 60 = .ok (.return_, 1) := by decide +kernel
theorem dX10_set_0 : decode cX10_set 0 = .ok (.iload_n 1, 1) := by decide +kernel
theorem dX10_set_1 : decode cX10_set 1 = .ok (.iload_n 2, 1) := by decide +kernel
theorem dX10_set_2 : decode cX10_set 2 = .ok (.invokestatic 46, 3) := by decide +kernel
theorem dX10_set_5 : decode cX10_set 5 = .ok (.ifCond .ne 6, 3) := by decide +kernel
theorem dX10_set_8 : decode cX10_set 8 = .ok (.bipush (-2), 2) := by decide +kernel
theorem dX10_set_10 : decode cX10_set 10 = .ok (.ireturn, 1) := by decide +kernel
theorem dX10_set_11 : decode cX10_set 11 = .ok (.aload_n 0, 1) := by decide +kernel
theorem dX10_set_12 : decode cX10_set 12 = .ok (.getfield 26, 3) := by decide +kernel
theorem dX10_set_15 : decode cX10_set 15 = .ok (.aload_n 0, 1) := by decide +kernel
theorem dX10_set_16 : decode cX10_set 16 = .ok (.getfield 10, 3) := by decide +kernel
theorem dX10_set_19 : decode cX10_set 19 = .ok (.invokevirtual 50, 3) := by decide +kernel
theorem dX10_set_22 : decode cX10_set 22 = .ok (.aload_n 0, 1) := by decide +kernel
theorem dX10_set_23 : decode cX10_set 23 = .ok (.getfield 10, 3) := by decide +kernel
theorem dX10_set_26 : decode cX10_set 26 = .ok (.getfield 54, 3) := by decide +kernel
theorem dX10_set_29 : decode cX10_set 29 = .ok (.iload_n 1, 1) := by decide +kernel
theorem dX10_set_30 : decode cX10_set 30 = .ok (.invokevirtual 58, 3) := by decide +kernel
theorem dX10_set_33 : decode cX10_set 33 = .ok (.istore_n 3, 1) := by decide +kernel
theorem dX10_set_34 : decode cX10_set 34 = .ok (.aload_n 0, 1) := by decide +kernel
theorem dX10_set_35 : decode cX10_set 35 = .ok (.getfield 10, 3) := by decide +kernel
theorem dX10_set_38 : decode cX10_set 38 = .ok (.getfield 54, 3) := by decide +kernel
theorem dX10_set_41 : decode cX10_set 41 = .ok (.iload_n 1, 1) := by decide +kernel
theorem dX10_set_42 : decode cX10_set 42 = .ok (.iload_n 2, 1) := by decide +kernel
theorem dX10_set_43 : decode cX10_set 43 = .ok (.invokevirtual 64, 3) := by decide +kernel
theorem dX10_set_46 : decode cX10_set 46 = .ok (.iload_n 3, 1) := by decide +kernel
theorem dX10_set_47 : decode cX10_set 47 = .ok (.ireturn, 1) := by decide +kernel
theorem dX10_lay_0 : decode cX10_lay 0 = .ok (.iload_n 1, 1) := by decide +kernel
theorem dX10_lay_1 : decode cX10_lay 1 = .ok (.invokestatic 68, 3) := by decide +kernel
theorem dX10_lay_4 : decode cX10_lay 4 = .ok (.ifCond .eq 10, 3) := by decide +kernel
theorem dX10_lay_7 : decode cX10_lay 7 = .ok (.iload_n 2, 1) := by decide +kernel
theorem dX10_lay_8 : decode cX10_lay 8 = .ok (.invokestatic 68, 3) := by decide +kernel
theorem dX10_lay_11 : decode cX10_lay 11 = .ok (.ifCond .ne 5, 3) := by decide +kernel
theorem dX10_lay_14 : decode cX10_lay 14 = .ok (.iconst (-1), 1) := by decide +kernel
theorem dX10_lay_15 : decode cX10_lay 15 = .ok (.ireturn, 1) := by decide +kernel
theorem dX10_lay_16 : decode cX10_lay 16 = .ok (.iload_n 1, 1) := by decide +kernel
theorem dX10_lay_17 : decode cX10_lay 17 = .ok (.iload_n 2, 1) := by decide +kernel
theorem dX10_lay_18 : decode cX10_lay 18 = .ok (.if_icmp .eq 24, 3) := by decide +kernel
theorem dX10_lay_21 : decode cX10_lay 21 = .ok (.iload_n 3, 1) := by decide +kernel
theorem dX10_lay_22 : decode cX10_lay 22 = .ok (.iconst 1, 1) := by decide +kernel
theorem dX10_lay_23 : decode cX10_lay 23 = .ok (.bipush 9, 2) := by decide +kernel
theorem dX10_lay_25 : decode cX10_lay 25 = .ok (.invokestatic 72, 3) := by decide +kernel
theorem dX10_lay_28 : decode cX10_lay 28 = .ok (.ifCond .eq 14, 3) := by decide +kernel
theorem dX10_lay_31 : decode cX10_lay 31 = .ok (.iload 4, 2) := by decide +kernel
theorem dX10_lay_33 : decode cX10_lay 33 = .ok (.iconst 1, 1) := by decide +kernel
theorem dX10_lay_34 : decode cX10_lay 34 = .ok (.bipush 9, 2) := by decide +kernel
theorem dX10_lay_36 : decode cX10_lay 36 = .ok (.invokestatic 72, 3) := by decide +kernel
theorem dX10_lay_39 : decode cX10_lay 39 = .ok (.ifCond .ne 6, 3) := by decide +kernel
theorem dX10_lay_42 : decode cX10_lay 42 = .ok (.bipush (-2), 2) := by decide +kernel
theorem dX10_lay_44 : decode cX10_lay 44 = .ok (.ireturn, 1) := by decide +kernel
theorem dX10_lay_45 : decode cX10_lay 45 = .ok (.aload_n 0, 1) := by decide +kernel
theorem dX10_lay_46 : decode cX10_lay 46 = .ok (.getfield 10, 3) := by decide +kernel
theorem dX10_lay_49 : decode cX10_lay 49 = .ok (.getfield 76, 3) := by decide +kernel
theorem dX10_lay_52 : decode cX10_lay 52 = .ok (.getfield 80, 3) := by decide +kernel
theorem dX10_lay_55 : decode cX10_lay 55 = .ok (.bipush 20, 2) := by decide +kernel
theorem dX10_lay_57 : decode cX10_lay 57 = .ok (.if_icmp .lt 6, 3) := by decide +kernel
theorem dX10_lay_60 : decode cX10_lay 60 = .ok (.bipush (-4), 2) := by decide +kernel
theorem dX10_lay_62 : decode cX10_lay 62 = .ok (.ireturn, 1) := by decide +kernel
theorem dX10_lay_63 : decode cX10_lay 63 = .ok (.aload_n 0, 1) := by decide +kernel
theorem dX10_lay_64 : decode cX10_lay 64 = .ok (.getfield 26, 3) := by decide +kernel
theorem dX10_lay_67 : decode cX10_lay 67 = .ok (.aload_n 0, 1) := by decide +kernel
theorem dX10_lay_68 : decode cX10_lay 68 = .ok (.getfield 10, 3) := by decide +kernel
theorem dX10_lay_71 : decode cX10_lay 71 = .ok (.invokevirtual 50, 3) := by decide +kernel
theorem dX10_lay_74 : decode cX10_lay 74 = .ok (.aload_n 0, 1) := by decide +kernel
theorem dX10_lay_75 : decode cX10_lay 75 = .ok (.getfield 10, 3) := by decide +kernel
theorem dX10_lay_78 : decode cX10_lay 78 = .ok (.getfield 76, 3) := by decide +kernel
theorem dX10_lay_81 : decode cX10_lay 81 = .ok (.iload_n 1, 1) := by decide +kernel
theorem dX10_lay_82 : decode cX10_lay 82 = .ok (.iload_n 2, 1) := by decide +kernel
theorem dX10_lay_83 : decode cX10_lay 83 = .ok (.iload_n 3, 1) := by decide +kernel
theorem dX10_lay_84 : decode cX10_lay 84 = .ok (.iload 4, 2) := by decide +kernel
theorem dX10_lay_86 : decode cX10_lay 86 = .ok (.invokevirtual 86, 3) := by decide +kernel
theorem dX10_lay_89 : decode cX10_lay 89 = .ok (.aload_n 0, 1) := by decide +kernel
theorem dX10_lay_90 : decode cX10_lay 90 = .ok (.getfield 10, 3) := by decide +kernel
theorem dX10_lay_93 : decode cX10_lay 93 = .ok (.getfield 76, 3) := by decide +kernel
theorem dX10_lay_96 : decode cX10_lay 96 = .ok (.getfield 80, 3) := by decide +kernel
theorem dX10_lay_99 : decode cX10_lay 99 = .ok (.iconst 1, 1) := by decide +kernel
theorem dX10_lay_100 : decode cX10_lay 100 = .ok (.isub, 1) := by decide +kernel
theorem dX10_lay_101 : decode cX10_lay 101 = .ok (.ireturn, 1) := by decide +kernel
theorem dX10_takeUp_0 : decode cX10_takeUp 0 = .ok (.aload_n 0, 1) := by decide +kernel
theorem dX10_takeUp_1 : decode cX10_takeUp 1 = .ok (.getfield 10, 3) := by decide +kernel
theorem dX10_takeUp_4 : decode cX10_takeUp 4 = .ok (.getfield 76, 3) := by decide +kernel
theorem dX10_takeUp_7 : decode cX10_takeUp 7 = .ok (.iload_n 1, 1) := by decide +kernel
theorem dX10_takeUp_8 : decode cX10_takeUp 8 = .ok (.invokevirtual 104, 3) := by decide +kernel
theorem dX10_takeUp_11 : decode cX10_takeUp 11 = .ok (.ifCond .ne 5, 3) := by decide +kernel
theorem dX10_takeUp_14 : decode cX10_takeUp 14 = .ok (.iconst (-1), 1) := by decide +kernel
theorem dX10_takeUp_15 : decode cX10_takeUp 15 = .ok (.ireturn, 1) := by decide +kernel
theorem dX10_takeUp_16 : decode cX10_takeUp 16 = .ok (.aload_n 0, 1) := by decide +kernel
theorem dX10_takeUp_17 : decode cX10_takeUp 17 = .ok (.getfield 26, 3) := by decide +kernel
theorem dX10_takeUp_20 : decode cX10_takeUp 20 = .ok (.aload_n 0, 1) := by decide +kernel
theorem dX10_takeUp_21 : decode cX10_takeUp 21 = .ok (.getfield 10, 3) := by decide +kernel
theorem dX10_takeUp_24 : decode cX10_takeUp 24 = .ok (.invokevirtual 50, 3) := by decide +kernel
theorem dX10_takeUp_27 : decode cX10_takeUp 27 = .ok (.aload_n 0, 1) := by decide +kernel
theorem dX10_takeUp_28 : decode cX10_takeUp 28 = .ok (.getfield 10, 3) := by decide +kernel
theorem dX10_takeUp_31 : decode cX10_takeUp 31 = .ok (.getfield 76, 3) := by decide +kernel
theorem dX10_takeUp_34 : decode cX10_takeUp 34 = .ok (.iload_n 1, 1) := by decide +kernel
theorem dX10_takeUp_35 : decode cX10_takeUp 35 = .ok (.invokevirtual 107, 3) := by decide +kernel
theorem dX10_takeUp_38 : decode cX10_takeUp 38 = .ok (.aload_n 0, 1) := by decide +kernel
theorem dX10_takeUp_39 : decode cX10_takeUp 39 = .ok (.getfield 10, 3) := by decide +kernel
theorem dX10_takeUp_42 : decode cX10_takeUp 42 = .ok (.getfield 110, 3) := by decide +kernel
theorem dX10_takeUp_45 : decode cX10_takeUp 45 = .ok (.iload_n 1, 1) := by decide +kernel
theorem dX10_takeUp_46 : decode cX10_takeUp 46 = .ok (.invokevirtual 114, 3) := by decide +kernel
theorem dX10_takeUp_49 : decode cX10_takeUp 49 = .ok (.aload_n 0, 1) := by decide +kernel
theorem dX10_takeUp_50 : decode cX10_takeUp 50 = .ok (.getfield 10, 3) := by decide +kernel
theorem dX10_takeUp_53 : decode cX10_takeUp 53 = .ok (.getfield 76, 3) := by decide +kernel
theorem dX10_takeUp_56 : decode cX10_takeUp 56 = .ok (.getfield 80, 3) := by decide +kernel
theorem dX10_takeUp_59 : decode cX10_takeUp 59 = .ok (.ireturn, 1) := by decide +kernel
theorem dX10_sleeper_0 : decode cX10_sleeper 0 = .ok (.iload_n 1, 1) := by decide +kernel
theorem dX10_sleeper_1 : decode cX10_sleeper 1 = .ok (.invokestatic 68, 3) := by decide +kernel
theorem dX10_sleeper_4 : decode cX10_sleeper 4 = .ok (.ifCond .ne 5, 3) := by decide +kernel
theorem dX10_sleeper_7 : decode cX10_sleeper 7 = .ok (.iconst (-1), 1) := by decide +kernel
theorem dX10_sleeper_8 : decode cX10_sleeper 8 = .ok (.ireturn, 1) := by decide +kernel
theorem dX10_sleeper_9 : decode cX10_sleeper 9 = .ok (.iload_n 2, 1) := by decide +kernel
theorem dX10_sleeper_10 : decode cX10_sleeper 10 = .ok (.iconst 1, 1) := by decide +kernel
theorem dX10_sleeper_11 : decode cX10_sleeper 11 = .ok (.bipush 9, 2) := by decide +kernel
theorem dX10_sleeper_13 : decode cX10_sleeper 13 = .ok (.invokestatic 72, 3) := by decide +kernel
theorem dX10_sleeper_16 : decode cX10_sleeper 16 = .ok (.ifCond .ne 6, 3) := by decide +kernel
theorem dX10_sleeper_19 : decode cX10_sleeper 19 = .ok (.bipush (-2), 2) := by decide +kernel
theorem dX10_sleeper_21 : decode cX10_sleeper 21 = .ok (.ireturn, 1) := by decide +kernel
theorem dX10_sleeper_22 : decode cX10_sleeper 22 = .ok (.aload_n 0, 1) := by decide +kernel
theorem dX10_sleeper_23 : decode cX10_sleeper 23 = .ok (.getfield 10, 3) := by decide +kernel
theorem dX10_sleeper_26 : decode cX10_sleeper 26 = .ok (.getfield 119, 3) := by decide +kernel
theorem dX10_sleeper_29 : decode cX10_sleeper 29 = .ok (.getfield 123, 3) := by decide +kernel
theorem dX10_sleeper_32 : decode cX10_sleeper 32 = .ok (.iconst 5, 1) := by decide +kernel
theorem dX10_sleeper_33 : decode cX10_sleeper 33 = .ok (.if_icmp .lt 6, 3) := by decide +kernel
theorem dX10_sleeper_36 : decode cX10_sleeper 36 = .ok (.bipush (-4), 2) := by decide +kernel
theorem dX10_sleeper_38 : decode cX10_sleeper 38 = .ok (.ireturn, 1) := by decide +kernel
theorem dX10_sleeper_39 : decode cX10_sleeper 39 = .ok (.aload_n 0, 1) := by decide +kernel
theorem dX10_sleeper_40 : decode cX10_sleeper 40 = .ok (.getfield 26, 3) := by decide +kernel
theorem dX10_sleeper_43 : decode cX10_sleeper 43 = .ok (.aload_n 0, 1) := by decide +kernel
theorem dX10_sleeper_44 : decode cX10_sleeper 44 = .ok (.getfield 10, 3) := by decide +kernel
theorem dX10_sleeper_47 : decode cX10_sleeper 47 = .ok (.invokevirtual 50, 3) := by decide +kernel
theorem dX10_sleeper_50 : decode cX10_sleeper 50 = .ok (.aload_n 0, 1) := by decide +kernel
theorem dX10_sleeper_51 : decode cX10_sleeper 51 = .ok (.getfield 10, 3) := by decide +kernel
theorem dX10_sleeper_54 : decode cX10_sleeper 54 = .ok (.getfield 119, 3) := by decide +kernel
theorem dX10_sleeper_57 : decode cX10_sleeper 57 = .ok (.iload_n 1, 1) := by decide +kernel
theorem dX10_sleeper_58 : decode cX10_sleeper 58 = .ok (.iload_n 2, 1) := by decide +kernel
theorem dX10_sleeper_59 : decode cX10_sleeper 59 = .ok (.invokevirtual 128, 3) := by decide +kernel
theorem dX10_sleeper_62 : decode cX10_sleeper 62 = .ok (.aload_n 0, 1) := by decide +kernel
theorem dX10_sleeper_63 : decode cX10_sleeper 63 = .ok (.getfield 10, 3) := by decide +kernel
theorem dX10_sleeper_66 : decode cX10_sleeper 66 = .ok (.getfield 119, 3) := by decide +kernel
theorem dX10_sleeper_69 : decode cX10_sleeper 69 = .ok (.getfield 123, 3) := by decide +kernel
theorem dX10_sleeper_72 : decode cX10_sleeper 72 = .ok (.iconst 1, 1) := by decide +kernel
theorem dX10_sleeper_73 : decode cX10_sleeper 73 = .ok (.isub, 1) := by decide +kernel
theorem dX10_sleeper_74 : decode cX10_sleeper 74 = .ok (.ireturn, 1) := by decide +kernel
theorem dX10_put_0 : decode cX10_put 0 = .ok (.iload_n 1, 1) := by decide +kernel
theorem dX10_put_1 : decode cX10_put 1 = .ok (.invokestatic 130, 3) := by decide +kernel
theorem dX10_put_4 : decode cX10_put 4 = .ok (.ifCond .eq 10, 3) := by decide +kernel
theorem dX10_put_7 : decode cX10_put 7 = .ok (.iload_n 2, 1) := by decide +kernel
theorem dX10_put_8 : decode cX10_put 8 = .ok (.invokestatic 68, 3) := by decide +kernel
theorem dX10_put_11 : decode cX10_put 11 = .ok (.ifCond .ne 5, 3) := by decide +kernel
theorem dX10_put_14 : decode cX10_put 14 = .ok (.iconst (-1), 1) := by decide +kernel
theorem dX10_put_15 : decode cX10_put 15 = .ok (.ireturn, 1) := by decide +kernel
theorem dX10_put_16 : decode cX10_put 16 = .ok (.aload_n 0, 1) := by decide +kernel
theorem dX10_put_17 : decode cX10_put 17 = .ok (.getfield 26, 3) := by decide +kernel
theorem dX10_put_20 : decode cX10_put 20 = .ok (.aload_n 0, 1) := by decide +kernel
theorem dX10_put_21 : decode cX10_put 21 = .ok (.getfield 10, 3) := by decide +kernel
theorem dX10_put_24 : decode cX10_put 24 = .ok (.invokevirtual 50, 3) := by decide +kernel
theorem dX10_put_27 : decode cX10_put 27 = .ok (.aload_n 0, 1) := by decide +kernel
theorem dX10_put_28 : decode cX10_put 28 = .ok (.getfield 10, 3) := by decide +kernel
theorem dX10_put_31 : decode cX10_put 31 = .ok (.getfield 110, 3) := by decide +kernel
theorem dX10_put_34 : decode cX10_put 34 = .ok (.getfield 133, 3) := by decide +kernel
theorem dX10_put_37 : decode cX10_put 37 = .ok (.iload_n 1, 1) := by decide +kernel
theorem dX10_put_38 : decode cX10_put 38 = .ok (.invokevirtual 58, 3) := by decide +kernel
theorem dX10_put_41 : decode cX10_put 41 = .ok (.istore_n 3, 1) := by decide +kernel
theorem dX10_put_42 : decode cX10_put 42 = .ok (.aload_n 0, 1) := by decide +kernel
theorem dX10_put_43 : decode cX10_put 43 = .ok (.getfield 10, 3) := by decide +kernel
theorem dX10_put_46 : decode cX10_put 46 = .ok (.getfield 110, 3) := by decide +kernel
theorem dX10_put_49 : decode cX10_put 49 = .ok (.getfield 133, 3) := by decide +kernel
theorem dX10_put_52 : decode cX10_put 52 = .ok (.iload_n 1, 1) := by decide +kernel
theorem dX10_put_53 : decode cX10_put 53 = .ok (.iload_n 2, 1) := by decide +kernel
theorem dX10_put_54 : decode cX10_put 54 = .ok (.invokevirtual 64, 3) := by decide +kernel
theorem dX10_put_57 : decode cX10_put 57 = .ok (.iload_n 3, 1) := by decide +kernel
theorem dX10_put_58 : decode cX10_put 58 = .ok (.ireturn, 1) := by decide +kernel
theorem dX10_glide_0 : decode cX10_glide 0 = .ok (.iload_n 1, 1) := by decide +kernel
theorem dX10_glide_1 : decode cX10_glide 1 = .ok (.invokestatic 130, 3) := by decide +kernel
theorem dX10_glide_4 : decode cX10_glide 4 = .ok (.ifCond .eq 17, 3) := by decide +kernel
theorem dX10_glide_7 : decode cX10_glide 7 = .ok (.aload_n 0, 1) := by decide +kernel
theorem dX10_glide_8 : decode cX10_glide 8 = .ok (.getfield 10, 3) := by decide +kernel
theorem dX10_glide_11 : decode cX10_glide 11 = .ok (.getfield 76, 3) := by decide +kernel
theorem dX10_glide_14 : decode cX10_glide 14 = .ok (.iload_n 2, 1) := by decide +kernel
theorem dX10_glide_15 : decode cX10_glide 15 = .ok (.invokevirtual 104, 3) := by decide +kernel
theorem dX10_glide_18 : decode cX10_glide 18 = .ok (.ifCond .ne 5, 3) := by decide +kernel
theorem dX10_glide_21 : decode cX10_glide 21 = .ok (.iconst (-1), 1) := by decide +kernel
theorem dX10_glide_22 : decode cX10_glide 22 = .ok (.ireturn, 1) := by decide +kernel
theorem dX10_glide_23 : decode cX10_glide 23 = .ok (.aload_n 0, 1) := by decide +kernel
theorem dX10_glide_24 : decode cX10_glide 24 = .ok (.getfield 10, 3) := by decide +kernel
theorem dX10_glide_27 : decode cX10_glide 27 = .ok (.iload_n 1, 1) := by decide +kernel
theorem dX10_glide_28 : decode cX10_glide 28 = .ok (.invokevirtual 136, 3) := by decide +kernel
theorem dX10_glide_31 : decode cX10_glide 31 = .ok (.iload_n 2, 1) := by decide +kernel
theorem dX10_glide_32 : decode cX10_glide 32 = .ok (.invokestatic 139, 3) := by decide +kernel
theorem dX10_glide_35 : decode cX10_glide 35 = .ok (.ifCond .ne 6, 3) := by decide +kernel
theorem dX10_glide_38 : decode cX10_glide 38 = .ok (.bipush (-5), 2) := by decide +kernel
theorem dX10_glide_40 : decode cX10_glide 40 = .ok (.ireturn, 1) := by decide +kernel
theorem dX10_glide_41 : decode cX10_glide 41 = .ok (.aload_n 0, 1) := by decide +kernel
theorem dX10_glide_42 : decode cX10_glide 42 = .ok (.getfield 26, 3) := by decide +kernel
theorem dX10_glide_45 : decode cX10_glide 45 = .ok (.aload_n 0, 1) := by decide +kernel
theorem dX10_glide_46 : decode cX10_glide 46 = .ok (.getfield 10, 3) := by decide +kernel
theorem dX10_glide_49 : decode cX10_glide 49 = .ok (.invokevirtual 50, 3) := by decide +kernel
theorem dX10_glide_52 : decode cX10_glide 52 = .ok (.aload_n 0, 1) := by decide +kernel
theorem dX10_glide_53 : decode cX10_glide 53 = .ok (.getfield 10, 3) := by decide +kernel
theorem dX10_glide_56 : decode cX10_glide 56 = .ok (.iload_n 1, 1) := by decide +kernel
theorem dX10_glide_57 : decode cX10_glide 57 = .ok (.iload_n 2, 1) := by decide +kernel
theorem dX10_glide_58 : decode cX10_glide 58 = .ok (.invokevirtual 142, 3) := by decide +kernel
theorem dX10_glide_61 : decode cX10_glide 61 = .ok (.ireturn, 1) := by decide +kernel
theorem dX10_go_0 : decode cX10_go 0 = .ok (.iload_n 1, 1) := by decide +kernel
theorem dX10_go_1 : decode cX10_go 1 = .ok (.invokestatic 130, 3) := by decide +kernel
theorem dX10_go_4 : decode cX10_go 4 = .ok (.ifCond .eq 10, 3) := by decide +kernel
theorem dX10_go_7 : decode cX10_go 7 = .ok (.iload_n 2, 1) := by decide +kernel
theorem dX10_go_8 : decode cX10_go 8 = .ok (.invokestatic 68, 3) := by decide +kernel
theorem dX10_go_11 : decode cX10_go 11 = .ok (.ifCond .ne 5, 3) := by decide +kernel
theorem dX10_go_14 : decode cX10_go 14 = .ok (.iconst (-1), 1) := by decide +kernel
theorem dX10_go_15 : decode cX10_go 15 = .ok (.ireturn, 1) := by decide +kernel
theorem dX10_go_16 : decode cX10_go 16 = .ok (.aload_n 0, 1) := by decide +kernel
theorem dX10_go_17 : decode cX10_go 17 = .ok (.iload_n 1, 1) := by decide +kernel
theorem dX10_go_18 : decode cX10_go 18 = .ok (.iload_n 2, 1) := by decide +kernel
theorem dX10_go_19 : decode cX10_go 19 = .ok (.invokevirtual 146, 3) := by decide +kernel
theorem dX10_go_22 : decode cX10_go 22 = .ok (.aload_n 0, 1) := by decide +kernel
theorem dX10_go_23 : decode cX10_go 23 = .ok (.getfield 42, 3) := by decide +kernel
theorem dX10_go_26 : decode cX10_go 26 = .ok (.getfield 149, 3) := by decide +kernel
theorem dX10_go_29 : decode cX10_go 29 = .ok (.ifCond .ne 6, 3) := by decide +kernel
theorem dX10_go_32 : decode cX10_go 32 = .ok (.bipush (-5), 2) := by decide +kernel
theorem dX10_go_34 : decode cX10_go 34 = .ok (.ireturn, 1) := by decide +kernel
theorem dX10_go_35 : decode cX10_go 35 = .ok (.aload_n 0, 1) := by decide +kernel
theorem dX10_go_36 : decode cX10_go 36 = .ok (.getfield 26, 3) := by decide +kernel
theorem dX10_go_39 : decode cX10_go 39 = .ok (.aload_n 0, 1) := by decide +kernel
theorem dX10_go_40 : decode cX10_go 40 = .ok (.getfield 10, 3) := by decide +kernel
theorem dX10_go_43 : decode cX10_go 43 = .ok (.invokevirtual 50, 3) := by decide +kernel
theorem dX10_go_46 : decode cX10_go 46 = .ok (.iconst 0, 1) := by decide +kernel
theorem dX10_go_47 : decode cX10_go 47 = .ok (.istore_n 3, 1) := by decide +kernel
theorem dX10_go_48 : decode cX10_go 48 = .ok (.iload_n 3, 1) := by decide +kernel
theorem dX10_go_49 : decode cX10_go 49 = .ok (.aload_n 0, 1) := by decide +kernel
theorem dX10_go_50 : decode cX10_go 50 = .ok (.getfield 42, 3) := by decide +kernel
theorem dX10_go_53 : decode cX10_go 53 = .ok (.getfield 153, 3) := by decide +kernel
theorem dX10_go_56 : decode cX10_go 56 = .ok (.if_icmp .ge 52, 3) := by decide +kernel
theorem dX10_go_59 : decode cX10_go 59 = .ok (.aload_n 0, 1) := by decide +kernel
theorem dX10_go_60 : decode cX10_go 60 = .ok (.getfield 42, 3) := by decide +kernel
theorem dX10_go_63 : decode cX10_go 63 = .ok (.getfield 154, 3) := by decide +kernel
theorem dX10_go_66 : decode cX10_go 66 = .ok (.iload_n 3, 1) := by decide +kernel
theorem dX10_go_67 : decode cX10_go 67 = .ok (.invokevirtual 58, 3) := by decide +kernel
theorem dX10_go_70 : decode cX10_go 70 = .ok (.istore 4, 2) := by decide +kernel
theorem dX10_go_72 : decode cX10_go 72 = .ok (.aload_n 0, 1) := by decide +kernel
theorem dX10_go_73 : decode cX10_go 73 = .ok (.getfield 10, 3) := by decide +kernel
theorem dX10_go_76 : decode cX10_go 76 = .ok (.iload_n 1, 1) := by decide +kernel
theorem dX10_go_77 : decode cX10_go 77 = .ok (.invokevirtual 136, 3) := by decide +kernel
theorem dX10_go_80 : decode cX10_go 80 = .ok (.iload 4, 2) := by decide +kernel
theorem dX10_go_82 : decode cX10_go 82 = .ok (.invokestatic 139, 3) := by decide +kernel
theorem dX10_go_85 : decode cX10_go 85 = .ok (.ifCond .ne 6, 3) := by decide +kernel
theorem dX10_go_88 : decode cX10_go 88 = .ok (.goto 20, 3) := by decide +kernel
theorem dX10_go_91 : decode cX10_go 91 = .ok (.aload_n 0, 1) := by decide +kernel
theorem dX10_go_92 : decode cX10_go 92 = .ok (.getfield 10, 3) := by decide +kernel
theorem dX10_go_95 : decode cX10_go 95 = .ok (.iload_n 1, 1) := by decide +kernel
theorem dX10_go_96 : decode cX10_go 96 = .ok (.iload 4, 2) := by decide +kernel
theorem dX10_go_98 : decode cX10_go 98 = .ok (.invokevirtual 142, 3) := by decide +kernel
theorem dX10_go_101 : decode cX10_go 101 = .ok (.pop, 1) := by decide +kernel
theorem dX10_go_102 : decode cX10_go 102 = .ok (.iinc 3 1, 3) := by decide +kernel
theorem dX10_go_105 : decode cX10_go 105 = .ok (.goto (-57), 3) := by decide +kernel
theorem dX10_go_108 : decode cX10_go 108 = .ok (.aload_n 0, 1) := by decide +kernel
theorem dX10_go_109 : decode cX10_go 109 = .ok (.getfield 10, 3) := by decide +kernel
theorem dX10_go_112 : decode cX10_go 112 = .ok (.getfield 110, 3) := by decide +kernel
theorem dX10_go_115 : decode cX10_go 115 = .ok (.getfield 133, 3) := by decide +kernel
theorem dX10_go_118 : decode cX10_go 118 = .ok (.iload_n 1, 1) := by decide +kernel
theorem dX10_go_119 : decode cX10_go 119 = .ok (.invokevirtual 58, 3) := by decide +kernel
theorem dX10_go_122 : decode cX10_go 122 = .ok (.ireturn, 1) := by decide +kernel
theorem dX10_pass_0 : decode cX10_pass 0 = .ok (.iload_n 1, 1) := by decide +kernel
theorem dX10_pass_1 : decode cX10_pass 1 = .ok (.iconst 1, 1) := by decide +kernel
theorem dX10_pass_2 : decode cX10_pass 2 = .ok (.sipush 200, 3) := by decide +kernel
theorem dX10_pass_5 : decode cX10_pass 5 = .ok (.invokestatic 72, 3) := by decide +kernel
theorem dX10_pass_8 : decode cX10_pass 8 = .ok (.ifCond .ne 6, 3) := by decide +kernel
theorem dX10_pass_11 : decode cX10_pass 11 = .ok (.bipush (-2), 2) := by decide +kernel
theorem dX10_pass_13 : decode cX10_pass 13 = .ok (.ireturn, 1) := by decide +kernel
theorem dX10_pass_14 : decode cX10_pass 14 = .ok (.aload_n 0, 1) := by decide +kernel
theorem dX10_pass_15 : decode cX10_pass 15 = .ok (.getfield 10, 3) := by decide +kernel
theorem dX10_pass_18 : decode cX10_pass 18 = .ok (.getfield 157, 3) := by decide +kernel
theorem dX10_pass_21 : decode cX10_pass 21 = .ok (.iload_n 1, 1) := by decide +kernel
theorem dX10_pass_22 : decode cX10_pass 22 = .ok (.iadd, 1) := by decide +kernel
theorem dX10_pass_23 : decode cX10_pass 23 = .ok (.ldc 160, 2) := by decide +kernel
theorem dX10_pass_25 : decode cX10_pass 25 = .ok (.if_icmp .le 6, 3) := by decide +kernel
theorem dX10_pass_28 : decode cX10_pass 28 = .ok (.bipush (-4), 2) := by decide +kernel
theorem dX10_pass_30 : decode cX10_pass 30 = .ok (.ireturn, 1) := by decide +kernel
theorem dX10_pass_31 : decode cX10_pass 31 = .ok (.aload_n 0, 1) := by decide +kernel
theorem dX10_pass_32 : decode cX10_pass 32 = .ok (.getfield 26, 3) := by decide +kernel
theorem dX10_pass_35 : decode cX10_pass 35 = .ok (.aload_n 0, 1) := by decide +kernel
theorem dX10_pass_36 : decode cX10_pass 36 = .ok (.getfield 10, 3) := by decide +kernel
theorem dX10_pass_39 : decode cX10_pass 39 = .ok (.invokevirtual 50, 3) := by decide +kernel
theorem dX10_pass_42 : decode cX10_pass 42 = .ok (.aload_n 0, 1) := by decide +kernel
theorem dX10_pass_43 : decode cX10_pass 43 = .ok (.getfield 10, 3) := by decide +kernel
theorem dX10_pass_46 : decode cX10_pass 46 = .ok (.iload_n 1, 1) := by decide +kernel
theorem dX10_pass_47 : decode cX10_pass 47 = .ok (.invokevirtual 161, 3) := by decide +kernel
theorem dX10_pass_50 : decode cX10_pass 50 = .ok (.ireturn, 1) := by decide +kernel
theorem dX10_board_0 : decode cX10_board 0 = .ok (.aload_n 0, 1) := by decide +kernel
theorem dX10_board_1 : decode cX10_board 1 = .ok (.getfield 10, 3) := by decide +kernel
theorem dX10_board_4 : decode cX10_board 4 = .ok (.getfield 76, 3) := by decide +kernel
theorem dX10_board_7 : decode cX10_board 7 = .ok (.iload_n 1, 1) := by decide +kernel
theorem dX10_board_8 : decode cX10_board 8 = .ok (.invokevirtual 104, 3) := by decide +kernel
theorem dX10_board_11 : decode cX10_board 11 = .ok (.ifCond .ne 5, 3) := by decide +kernel
theorem dX10_board_14 : decode cX10_board 14 = .ok (.iconst (-1), 1) := by decide +kernel
theorem dX10_board_15 : decode cX10_board 15 = .ok (.ireturn, 1) := by decide +kernel
theorem dX10_board_16 : decode cX10_board 16 = .ok (.iload_n 2, 1) := by decide +kernel
theorem dX10_board_17 : decode cX10_board 17 = .ok (.tableswitch 139 0 6 #[43, 58, 73, 88, 103, 115, 124], 43) := by decide +kernel
theorem dX10_board_60 : decode cX10_board 60 = .ok (.aload_n 0, 1) := by decide +kernel
theorem dX10_board_61 : decode cX10_board 61 = .ok (.getfield 10, 3) := by decide +kernel
theorem dX10_board_64 : decode cX10_board 64 = .ok (.getfield 76, 3) := by decide +kernel
theorem dX10_board_67 : decode cX10_board 67 = .ok (.getfield 164, 3) := by decide +kernel
theorem dX10_board_70 : decode cX10_board 70 = .ok (.iload_n 1, 1) := by decide +kernel
theorem dX10_board_71 : decode cX10_board 71 = .ok (.invokevirtual 58, 3) := by decide +kernel
theorem dX10_board_74 : decode cX10_board 74 = .ok (.ireturn, 1) := by decide +kernel
theorem dX10_board_75 : decode cX10_board 75 = .ok (.aload_n 0, 1) := by decide +kernel
theorem dX10_board_76 : decode cX10_board 76 = .ok (.getfield 10, 3) := by decide +kernel
theorem dX10_board_79 : decode cX10_board 79 = .ok (.getfield 76, 3) := by decide +kernel
theorem dX10_board_82 : decode cX10_board 82 = .ok (.getfield 167, 3) := by decide +kernel
theorem dX10_board_85 : decode cX10_board 85 = .ok (.iload_n 1, 1) := by decide +kernel
theorem dX10_board_86 : decode cX10_board 86 = .ok (.invokevirtual 58, 3) := by decide +kernel
theorem dX10_board_89 : decode cX10_board 89 = .ok (.ireturn, 1) := by decide +kernel
theorem dX10_board_90 : decode cX10_board 90 = .ok (.aload_n 0, 1) := by decide +kernel
theorem dX10_board_91 : decode cX10_board 91 = .ok (.getfield 10, 3) := by decide +kernel
theorem dX10_board_94 : decode cX10_board 94 = .ok (.getfield 76, 3) := by decide +kernel
theorem dX10_board_97 : decode cX10_board 97 = .ok (.getfield 170, 3) := by decide +kernel
theorem dX10_board_100 : decode cX10_board 100 = .ok (.iload_n 1, 1) := by decide +kernel
theorem dX10_board_101 : decode cX10_board 101 = .ok (.invokevirtual 58, 3) := by decide +kernel
theorem dX10_board_104 : decode cX10_board 104 = .ok (.ireturn, 1) := by decide +kernel
theorem dX10_board_105 : decode cX10_board 105 = .ok (.aload_n 0, 1) := by decide +kernel
theorem dX10_board_106 : decode cX10_board 106 = .ok (.getfield 10, 3) := by decide +kernel
theorem dX10_board_109 : decode cX10_board 109 = .ok (.getfield 76, 3) := by decide +kernel
theorem dX10_board_112 : decode cX10_board 112 = .ok (.getfield 173, 3) := by decide +kernel
theorem dX10_board_115 : decode cX10_board 115 = .ok (.iload_n 1, 1) := by decide +kernel
theorem dX10_board_116 : decode cX10_board 116 = .ok (.invokevirtual 58, 3) := by decide +kernel
theorem dX10_board_119 : decode cX10_board 119 = .ok (.ireturn, 1) := by decide +kernel
theorem dX10_board_120 : decode cX10_board 120 = .ok (.aload_n 0, 1) := by decide +kernel
theorem dX10_board_121 : decode cX10_board 121 = .ok (.getfield 10, 3) := by decide +kernel
theorem dX10_board_124 : decode cX10_board 124 = .ok (.getfield 110, 3) := by decide +kernel
theorem dX10_board_127 : decode cX10_board 127 = .ok (.iload_n 1, 1) := by decide +kernel
theorem dX10_board_128 : decode cX10_board 128 = .ok (.invokevirtual 175, 3) := by decide +kernel
theorem dX10_board_131 : decode cX10_board 131 = .ok (.ireturn, 1) := by decide +kernel
theorem dX10_board_132 : decode cX10_board 132 = .ok (.aload_n 0, 1) := by decide +kernel
theorem dX10_board_133 : decode cX10_board 133 = .ok (.getfield 10, 3) := by decide +kernel
theorem dX10_board_136 : decode cX10_board 136 = .ok (.iload_n 1, 1) := by decide +kernel
theorem dX10_board_137 : decode cX10_board 137 = .ok (.invokevirtual 178, 3) := by decide +kernel
theorem dX10_board_140 : decode cX10_board 140 = .ok (.ireturn, 1) := by decide +kernel
theorem dX10_board_141 : decode cX10_board 141 = .ok (.aload_n 0, 1) := by decide +kernel
theorem dX10_board_142 : decode cX10_board 142 = .ok (.getfield 10, 3) := by decide +kernel
theorem dX10_board_145 : decode cX10_board 145 = .ok (.getfield 76, 3) := by decide +kernel
theorem dX10_board_148 : decode cX10_board 148 = .ok (.getfield 181, 3) := by decide +kernel
theorem dX10_board_151 : decode cX10_board 151 = .ok (.iload_n 1, 1) := by decide +kernel
theorem dX10_board_152 : decode cX10_board 152 = .ok (.invokevirtual 58, 3) := by decide +kernel
theorem dX10_board_155 : decode cX10_board 155 = .ok (.ireturn, 1) := by decide +kernel
theorem dX10_board_156 : decode cX10_board 156 = .ok (.bipush (-2), 2) := by decide +kernel
theorem dX10_board_158 : decode cX10_board 158 = .ok (.ireturn, 1) := by decide +kernel
theorem dX10_ghost_0 : decode cX10_ghost 0 = .ok (.iload_n 1, 1) := by decide +kernel
theorem dX10_ghost_1 : decode cX10_ghost 1 = .ok (.invokestatic 130, 3) := by decide +kernel
theorem dX10_ghost_4 : decode cX10_ghost 4 = .ok (.ifCond .ne 5, 3) := by decide +kernel
theorem dX10_ghost_7 : decode cX10_ghost 7 = .ok (.iconst (-1), 1) := by decide +kernel
theorem dX10_ghost_8 : decode cX10_ghost 8 = .ok (.ireturn, 1) := by decide +kernel
theorem dX10_ghost_9 : decode cX10_ghost 9 = .ok (.iload_n 2, 1) := by decide +kernel
theorem dX10_ghost_10 : decode cX10_ghost 10 = .ok (.tableswitch 121 0 4 #[34, 49, 64, 73, 106], 34) := by decide +kernel
theorem dX10_ghost_44 : decode cX10_ghost 44 = .ok (.aload_n 0, 1) := by decide +kernel
theorem dX10_ghost_45 : decode cX10_ghost 45 = .ok (.getfield 10, 3) := by decide +kernel
theorem dX10_ghost_48 : decode cX10_ghost 48 = .ok (.getfield 110, 3) := by decide +kernel
theorem dX10_ghost_51 : decode cX10_ghost 51 = .ok (.getfield 133, 3) := by decide +kernel
theorem dX10_ghost_54 : decode cX10_ghost 54 = .ok (.iload_n 1, 1) := by decide +kernel
theorem dX10_ghost_55 : decode cX10_ghost 55 = .ok (.invokevirtual 58, 3) := by decide +kernel
theorem dX10_ghost_58 : decode cX10_ghost 58 = .ok (.ireturn, 1) := by decide +kernel
theorem dX10_ghost_59 : decode cX10_ghost 59 = .ok (.aload_n 0, 1) := by decide +kernel
theorem dX10_ghost_60 : decode cX10_ghost 60 = .ok (.getfield 10, 3) := by decide +kernel
theorem dX10_ghost_63 : decode cX10_ghost 63 = .ok (.getfield 110, 3) := by decide +kernel
theorem dX10_ghost_66 : decode cX10_ghost 66 = .ok (.getfield 184, 3) := by decide +kernel
theorem dX10_ghost_69 : decode cX10_ghost 69 = .ok (.iload_n 1, 1) := by decide +kernel
theorem dX10_ghost_70 : decode cX10_ghost 70 = .ok (.invokevirtual 58, 3) := by decide +kernel
theorem dX10_ghost_73 : decode cX10_ghost 73 = .ok (.ireturn, 1) := by decide +kernel
theorem dX10_ghost_74 : decode cX10_ghost 74 = .ok (.aload_n 0, 1) := by decide +kernel
theorem dX10_ghost_75 : decode cX10_ghost 75 = .ok (.getfield 10, 3) := by decide +kernel
theorem dX10_ghost_78 : decode cX10_ghost 78 = .ok (.iload_n 1, 1) := by decide +kernel
theorem dX10_ghost_79 : decode cX10_ghost 79 = .ok (.invokevirtual 136, 3) := by decide +kernel
theorem dX10_ghost_82 : decode cX10_ghost 82 = .ok (.ireturn, 1) := by decide +kernel
theorem dX10_ghost_83 : decode cX10_ghost 83 = .ok (.aload_n 0, 1) := by decide +kernel
theorem dX10_ghost_84 : decode cX10_ghost 84 = .ok (.getfield 10, 3) := by decide +kernel
theorem dX10_ghost_87 : decode cX10_ghost 87 = .ok (.getfield 76, 3) := by decide +kernel
theorem dX10_ghost_90 : decode cX10_ghost 90 = .ok (.aload_n 0, 1) := by decide +kernel
theorem dX10_ghost_91 : decode cX10_ghost 91 = .ok (.getfield 10, 3) := by decide +kernel
theorem dX10_ghost_94 : decode cX10_ghost 94 = .ok (.getfield 110, 3) := by decide +kernel
theorem dX10_ghost_97 : decode cX10_ghost 97 = .ok (.getfield 133, 3) := by decide +kernel
theorem dX10_ghost_100 : decode cX10_ghost 100 = .ok (.iload_n 1, 1) := by decide +kernel
theorem dX10_ghost_101 : decode cX10_ghost 101 = .ok (.invokevirtual 58, 3) := by decide +kernel
theorem dX10_ghost_104 : decode cX10_ghost 104 = .ok (.aload_n 0, 1) := by decide +kernel
theorem dX10_ghost_105 : decode cX10_ghost 105 = .ok (.getfield 10, 3) := by decide +kernel
theorem dX10_ghost_108 : decode cX10_ghost 108 = .ok (.iload_n 1, 1) := by decide +kernel
theorem dX10_ghost_109 : decode cX10_ghost 109 = .ok (.invokevirtual 187, 3) := by decide +kernel
theorem dX10_ghost_112 : decode cX10_ghost 112 = .ok (.invokevirtual 190, 3) := by decide +kernel
theorem dX10_ghost_115 : decode cX10_ghost 115 = .ok (.ireturn, 1) := by decide +kernel
theorem dX10_ghost_116 : decode cX10_ghost 116 = .ok (.aload_n 0, 1) := by decide +kernel
theorem dX10_ghost_117 : decode cX10_ghost 117 = .ok (.getfield 10, 3) := by decide +kernel
theorem dX10_ghost_120 : decode cX10_ghost 120 = .ok (.getfield 110, 3) := by decide +kernel
theorem dX10_ghost_123 : decode cX10_ghost 123 = .ok (.getfield 193, 3) := by decide +kernel
theorem dX10_ghost_126 : decode cX10_ghost 126 = .ok (.iload_n 1, 1) := by decide +kernel
theorem dX10_ghost_127 : decode cX10_ghost 127 = .ok (.invokevirtual 58, 3) := by decide +kernel
theorem dX10_ghost_130 : decode cX10_ghost 130 = .ok (.ireturn, 1) := by decide +kernel
theorem dX10_ghost_131 : decode cX10_ghost 131 = .ok (.bipush (-2), 2) := by decide +kernel
theorem dX10_ghost_133 : decode cX10_ghost 133 = .ok (.ireturn, 1) := by decide +kernel
theorem dX10_sleeperOf_0 : decode cX10_sleeperOf 0 = .ok (.aload_n 0, 1) := by decide +kernel
theorem dX10_sleeperOf_1 : decode cX10_sleeperOf 1 = .ok (.getfield 10, 3) := by decide +kernel
theorem dX10_sleeperOf_4 : decode cX10_sleeperOf 4 = .ok (.getfield 119, 3) := by decide +kernel
theorem dX10_sleeperOf_7 : decode cX10_sleeperOf 7 = .ok (.iload_n 1, 1) := by decide +kernel
theorem dX10_sleeperOf_8 : decode cX10_sleeperOf 8 = .ok (.invokevirtual 196, 3) := by decide +kernel
theorem dX10_sleeperOf_11 : decode cX10_sleeperOf 11 = .ok (.ifCond .ne 5, 3) := by decide +kernel
theorem dX10_sleeperOf_14 : decode cX10_sleeperOf 14 = .ok (.iconst (-1), 1) := by decide +kernel
theorem dX10_sleeperOf_15 : decode cX10_sleeperOf 15 = .ok (.ireturn, 1) := by decide +kernel
theorem dX10_sleeperOf_16 : decode cX10_sleeperOf 16 = .ok (.iload_n 2, 1) := by decide +kernel
theorem dX10_sleeperOf_17 : decode cX10_sleeperOf 17 = .ok (.tableswitch 104 0 4 #[35, 50, 65, 80, 95], 35) := by decide +kernel
theorem dX10_sleeperOf_52 : decode cX10_sleeperOf 52 = .ok (.aload_n 0, 1) := by decide +kernel
theorem dX10_sleeperOf_53 : decode cX10_sleeperOf 53 = .ok (.getfield 10, 3) := by decide +kernel
theorem dX10_sleeperOf_56 : decode cX10_sleeperOf 56 = .ok (.getfield 119, 3) := by decide +kernel
theorem dX10_sleeperOf_59 : decode cX10_sleeperOf 59 = .ok (.getfield 197, 3) := by decide +kernel
theorem dX10_sleeperOf_62 : decode cX10_sleeperOf 62 = .ok (.iload_n 1, 1) := by decide +kernel
theorem dX10_sleeperOf_63 : decode cX10_sleeperOf 63 = .ok (.invokevirtual 58, 3) := by decide +kernel
theorem dX10_sleeperOf_66 : decode cX10_sleeperOf 66 = .ok (.ireturn, 1) := by decide +kernel
theorem dX10_sleeperOf_67 : decode cX10_sleeperOf 67 = .ok (.aload_n 0, 1) := by decide +kernel
theorem dX10_sleeperOf_68 : decode cX10_sleeperOf 68 = .ok (.getfield 10, 3) := by decide +kernel
theorem dX10_sleeperOf_71 : decode cX10_sleeperOf 71 = .ok (.getfield 119, 3) := by decide +kernel
theorem dX10_sleeperOf_74 : decode cX10_sleeperOf 74 = .ok (.getfield 198, 3) := by decide +kernel
theorem dX10_sleeperOf_77 : decode cX10_sleeperOf 77 = .ok (.iload_n 1, 1) := by decide +kernel
theorem dX10_sleeperOf_78 : decode cX10_sleeperOf 78 = .ok (.invokevirtual 58, 3) := by decide +kernel
theorem dX10_sleeperOf_81 : decode cX10_sleeperOf 81 = .ok (.ireturn, 1) := by decide +kernel
theorem dX10_sleeperOf_82 : decode cX10_sleeperOf 82 = .ok (.aload_n 0, 1) := by decide +kernel
theorem dX10_sleeperOf_83 : decode cX10_sleeperOf 83 = .ok (.getfield 10, 3) := by decide +kernel
theorem dX10_sleeperOf_86 : decode cX10_sleeperOf 86 = .ok (.getfield 119, 3) := by decide +kernel
theorem dX10_sleeperOf_89 : decode cX10_sleeperOf 89 = .ok (.getfield 201, 3) := by decide +kernel
theorem dX10_sleeperOf_92 : decode cX10_sleeperOf 92 = .ok (.iload_n 1, 1) := by decide +kernel
theorem dX10_sleeperOf_93 : decode cX10_sleeperOf 93 = .ok (.invokevirtual 58, 3) := by decide +kernel
theorem dX10_sleeperOf_96 : decode cX10_sleeperOf 96 = .ok (.ireturn, 1) := by decide +kernel
theorem dX10_sleeperOf_97 : decode cX10_sleeperOf 97 = .ok (.aload_n 0, 1) := by decide +kernel
theorem dX10_sleeperOf_98 : decode cX10_sleeperOf 98 = .ok (.getfield 10, 3) := by decide +kernel
theorem dX10_sleeperOf_101 : decode cX10_sleeperOf 101 = .ok (.getfield 119, 3) := by decide +kernel
theorem dX10_sleeperOf_104 : decode cX10_sleeperOf 104 = .ok (.getfield 204, 3) := by decide +kernel
theorem dX10_sleeperOf_107 : decode cX10_sleeperOf 107 = .ok (.iload_n 1, 1) := by decide +kernel
theorem dX10_sleeperOf_108 : decode cX10_sleeperOf 108 = .ok (.invokevirtual 58, 3) := by decide +kernel
theorem dX10_sleeperOf_111 : decode cX10_sleeperOf 111 = .ok (.ireturn, 1) := by decide +kernel
theorem dX10_sleeperOf_112 : decode cX10_sleeperOf 112 = .ok (.aload_n 0, 1) := by decide +kernel
theorem dX10_sleeperOf_113 : decode cX10_sleeperOf 113 = .ok (.getfield 10, 3) := by decide +kernel
theorem dX10_sleeperOf_116 : decode cX10_sleeperOf 116 = .ok (.iload_n 1, 1) := by decide +kernel
theorem dX10_sleeperOf_117 : decode cX10_sleeperOf 117 = .ok (.invokevirtual 207, 3) := by decide +kernel
theorem dX10_sleeperOf_120 : decode cX10_sleeperOf 120 = .ok (.ireturn, 1) := by decide +kernel
theorem dX10_sleeperOf_121 : decode cX10_sleeperOf 121 = .ok (.bipush (-2), 2) := by decide +kernel
theorem dX10_sleeperOf_123 : decode cX10_sleeperOf 123 = .ok (.ireturn, 1) := by decide +kernel
theorem dX10_loudness_0 : decode cX10_loudness 0 = .ok (.aload_n 0, 1) := by decide +kernel
theorem dX10_loudness_1 : decode cX10_loudness 1 = .ok (.getfield 10, 3) := by decide +kernel
theorem dX10_loudness_4 : decode cX10_loudness 4 = .ok (.getfield 76, 3) := by decide +kernel
theorem dX10_loudness_7 : decode cX10_loudness 7 = .ok (.iload_n 1, 1) := by decide +kernel
theorem dX10_loudness_8 : decode cX10_loudness 8 = .ok (.invokevirtual 104, 3) := by decide +kernel
theorem dX10_loudness_11 : decode cX10_loudness 11 = .ok (.ifCond .eq 17, 3) := by decide +kernel
theorem dX10_loudness_14 : decode cX10_loudness 14 = .ok (.aload_n 0, 1) := by decide +kernel
theorem dX10_loudness_15 : decode cX10_loudness 15 = .ok (.getfield 10, 3) := by decide +kernel
theorem dX10_loudness_18 : decode cX10_loudness 18 = .ok (.getfield 119, 3) := by decide +kernel
theorem dX10_loudness_21 : decode cX10_loudness 21 = .ok (.iload_n 2, 1) := by decide +kernel
theorem dX10_loudness_22 : decode cX10_loudness 22 = .ok (.invokevirtual 196, 3) := by decide +kernel
theorem dX10_loudness_25 : decode cX10_loudness 25 = .ok (.ifCond .ne 5, 3) := by decide +kernel
theorem dX10_loudness_28 : decode cX10_loudness 28 = .ok (.iconst (-1), 1) := by decide +kernel
theorem dX10_loudness_29 : decode cX10_loudness 29 = .ok (.ireturn, 1) := by decide +kernel
theorem dX10_loudness_30 : decode cX10_loudness 30 = .ok (.aload_n 0, 1) := by decide +kernel
theorem dX10_loudness_31 : decode cX10_loudness 31 = .ok (.getfield 10, 3) := by decide +kernel
theorem dX10_loudness_34 : decode cX10_loudness 34 = .ok (.getfield 76, 3) := by decide +kernel
theorem dX10_loudness_37 : decode cX10_loudness 37 = .ok (.aload_n 0, 1) := by decide +kernel
theorem dX10_loudness_38 : decode cX10_loudness 38 = .ok (.getfield 10, 3) := by decide +kernel
theorem dX10_loudness_41 : decode cX10_loudness 41 = .ok (.getfield 119, 3) := by decide +kernel
theorem dX10_loudness_44 : decode cX10_loudness 44 = .ok (.getfield 197, 3) := by decide +kernel
theorem dX10_loudness_47 : decode cX10_loudness 47 = .ok (.iload_n 2, 1) := by decide +kernel
theorem dX10_loudness_48 : decode cX10_loudness 48 = .ok (.invokevirtual 58, 3) := by decide +kernel
theorem dX10_loudness_51 : decode cX10_loudness 51 = .ok (.iload_n 1, 1) := by decide +kernel
theorem dX10_loudness_52 : decode cX10_loudness 52 = .ok (.invokevirtual 210, 3) := by decide +kernel
theorem dX10_loudness_55 : decode cX10_loudness 55 = .ok (.ireturn, 1) := by decide +kernel
theorem dX10_far_0 : decode cX10_far 0 = .ok (.iload_n 1, 1) := by decide +kernel
theorem dX10_far_1 : decode cX10_far 1 = .ok (.invokestatic 68, 3) := by decide +kernel
theorem dX10_far_4 : decode cX10_far 4 = .ok (.ifCond .eq 10, 3) := by decide +kernel
theorem dX10_far_7 : decode cX10_far 7 = .ok (.iload_n 2, 1) := by decide +kernel
theorem dX10_far_8 : decode cX10_far 8 = .ok (.invokestatic 68, 3) := by decide +kernel
theorem dX10_far_11 : decode cX10_far 11 = .ok (.ifCond .ne 5, 3) := by decide +kernel
theorem dX10_far_14 : decode cX10_far 14 = .ok (.iconst (-1), 1) := by decide +kernel
theorem dX10_far_15 : decode cX10_far 15 = .ok (.ireturn, 1) := by decide +kernel
theorem dX10_far_16 : decode cX10_far 16 = .ok (.aload_n 0, 1) := by decide +kernel
theorem dX10_far_17 : decode cX10_far 17 = .ok (.getfield 10, 3) := by decide +kernel
theorem dX10_far_20 : decode cX10_far 20 = .ok (.getfield 76, 3) := by decide +kernel
theorem dX10_far_23 : decode cX10_far 23 = .ok (.iload_n 1, 1) := by decide +kernel
theorem dX10_far_24 : decode cX10_far 24 = .ok (.iconst 1, 1) := by decide +kernel
theorem dX10_far_25 : decode cX10_far 25 = .ok (.iload_n 2, 1) := by decide +kernel
theorem dX10_far_26 : decode cX10_far 26 = .ok (.ishl, 1) := by decide +kernel
theorem dX10_far_27 : decode cX10_far 27 = .ok (.invokevirtual 213, 3) := by decide +kernel
theorem dX10_far_30 : decode cX10_far 30 = .ok (.ireturn, 1) := by decide +kernel
theorem dX10_count_0 : decode cX10_count 0 = .ok (.iload_n 1, 1) := by decide +kernel
theorem dX10_count_1 : decode cX10_count 1 = .ok (.tableswitch 167 0 10 #[59, 71, 83, 91, 102, 113, 124, 135, 143, 151, 159], 59) := by decide +kernel
theorem dX10_count_60 : decode cX10_count 60 = .ok (.aload_n 0, 1) := by decide +kernel
theorem dX10_count_61 : decode cX10_count 61 = .ok (.getfield 10, 3) := by decide +kernel
theorem dX10_count_64 : decode cX10_count 64 = .ok (.getfield 54, 3) := by decide +kernel
theorem dX10_count_67 : decode cX10_count 67 = .ok (.iconst 0, 1) := by decide +kernel
theorem dX10_count_68 : decode cX10_count 68 = .ok (.invokevirtual 58, 3) := by decide +kernel
theorem dX10_count_71 : decode cX10_count 71 = .ok (.ireturn, 1) := by decide +kernel
theorem dX10_count_72 : decode cX10_count 72 = .ok (.aload_n 0, 1) := by decide +kernel
theorem dX10_count_73 : decode cX10_count 73 = .ok (.getfield 10, 3) := by decide +kernel
theorem dX10_count_76 : decode cX10_count 76 = .ok (.getfield 54, 3) := by decide +kernel
theorem dX10_count_79 : decode cX10_count 79 = .ok (.iconst 1, 1) := by decide +kernel
theorem dX10_count_80 : decode cX10_count 80 = .ok (.invokevirtual 58, 3) := by decide +kernel
theorem dX10_count_83 : decode cX10_count 83 = .ok (.ireturn, 1) := by decide +kernel
theorem dX10_count_84 : decode cX10_count 84 = .ok (.aload_n 0, 1) := by decide +kernel
theorem dX10_count_85 : decode cX10_count 85 = .ok (.getfield 10, 3) := by decide +kernel
theorem dX10_count_88 : decode cX10_count 88 = .ok (.getfield 157, 3) := by decide +kernel
theorem dX10_count_91 : decode cX10_count 91 = .ok (.ireturn, 1) := by decide +kernel
theorem dX10_count_92 : decode cX10_count 92 = .ok (.aload_n 0, 1) := by decide +kernel
theorem dX10_count_93 : decode cX10_count 93 = .ok (.getfield 10, 3) := by decide +kernel
theorem dX10_count_96 : decode cX10_count 96 = .ok (.getfield 76, 3) := by decide +kernel
theorem dX10_count_99 : decode cX10_count 99 = .ok (.getfield 80, 3) := by decide +kernel
theorem dX10_count_102 : decode cX10_count 102 = .ok (.ireturn, 1) := by decide +kernel
theorem dX10_count_103 : decode cX10_count 103 = .ok (.aload_n 0, 1) := by decide +kernel
theorem dX10_count_104 : decode cX10_count 104 = .ok (.getfield 10, 3) := by decide +kernel
theorem dX10_count_107 : decode cX10_count 107 = .ok (.getfield 119, 3) := by decide +kernel
theorem dX10_count_110 : decode cX10_count 110 = .ok (.getfield 123, 3) := by decide +kernel
theorem dX10_count_113 : decode cX10_count 113 = .ok (.ireturn, 1) := by decide +kernel
theorem dX10_count_114 : decode cX10_count 114 = .ok (.aload_n 0, 1) := by decide +kernel
theorem dX10_count_115 : decode cX10_count 115 = .ok (.getfield 10, 3) := by decide +kernel
theorem dX10_count_118 : decode cX10_count 118 = .ok (.getfield 119, 3) := by decide +kernel
theorem dX10_count_121 : decode cX10_count 121 = .ok (.invokevirtual 216, 3) := by decide +kernel
theorem dX10_count_124 : decode cX10_count 124 = .ok (.ireturn, 1) := by decide +kernel
theorem dX10_count_125 : decode cX10_count 125 = .ok (.aload_n 0, 1) := by decide +kernel
theorem dX10_count_126 : decode cX10_count 126 = .ok (.getfield 10, 3) := by decide +kernel
theorem dX10_count_129 : decode cX10_count 129 = .ok (.getfield 119, 3) := by decide +kernel
theorem dX10_count_132 : decode cX10_count 132 = .ok (.invokevirtual 219, 3) := by decide +kernel
theorem dX10_count_135 : decode cX10_count 135 = .ok (.ireturn, 1) := by decide +kernel
theorem dX10_count_136 : decode cX10_count 136 = .ok (.aload_n 0, 1) := by decide +kernel
theorem dX10_count_137 : decode cX10_count 137 = .ok (.getfield 10, 3) := by decide +kernel
theorem dX10_count_140 : decode cX10_count 140 = .ok (.getfield 222, 3) := by decide +kernel
theorem dX10_count_143 : decode cX10_count 143 = .ok (.ireturn, 1) := by decide +kernel
theorem dX10_count_144 : decode cX10_count 144 = .ok (.aload_n 0, 1) := by decide +kernel
theorem dX10_count_145 : decode cX10_count 145 = .ok (.getfield 10, 3) := by decide +kernel
theorem dX10_count_148 : decode cX10_count 148 = .ok (.invokevirtual 225, 3) := by decide +kernel
theorem dX10_count_151 : decode cX10_count 151 = .ok (.ireturn, 1) := by decide +kernel
theorem dX10_count_152 : decode cX10_count 152 = .ok (.aload_n 0, 1) := by decide +kernel
theorem dX10_count_153 : decode cX10_count 153 = .ok (.getfield 19, 3) := by decide +kernel
theorem dX10_count_156 : decode cX10_count 156 = .ok (.getfield 101, 3) := by decide +kernel
theorem dX10_count_159 : decode cX10_count 159 = .ok (.ireturn, 1) := by decide +kernel
theorem dX10_count_160 : decode cX10_count 160 = .ok (.aload_n 0, 1) := by decide +kernel
theorem dX10_count_161 : decode cX10_count 161 = .ok (.getfield 26, 3) := by decide +kernel
theorem dX10_count_164 : decode cX10_count 164 = .ok (.getfield 228, 3) := by decide +kernel
theorem dX10_count_167 : decode cX10_count 167 = .ok (.ireturn, 1) := by decide +kernel
theorem dX10_count_168 : decode cX10_count 168 = .ok (.bipush (-2), 2) := by decide +kernel
theorem dX10_count_170 : decode cX10_count 170 = .ok (.ireturn, 1) := by decide +kernel
theorem dX10_soonest_0 : decode cX10_soonest 0 = .ok (.iload_n 1, 1) := by decide +kernel
theorem dX10_soonest_1 : decode cX10_soonest 1 = .ok (.invokestatic 130, 3) := by decide +kernel
theorem dX10_soonest_4 : decode cX10_soonest 4 = .ok (.ifCond .eq 10, 3) := by decide +kernel
theorem dX10_soonest_7 : decode cX10_soonest 7 = .ok (.iload_n 2, 1) := by decide +kernel
theorem dX10_soonest_8 : decode cX10_soonest 8 = .ok (.invokestatic 68, 3) := by decide +kernel
theorem dX10_soonest_11 : decode cX10_soonest 11 = .ok (.ifCond .ne 5, 3) := by decide +kernel
theorem dX10_soonest_14 : decode cX10_soonest 14 = .ok (.iconst (-1), 1) := by decide +kernel
theorem dX10_soonest_15 : decode cX10_soonest 15 = .ok (.ireturn, 1) := by decide +kernel
theorem dX10_soonest_16 : decode cX10_soonest 16 = .ok (.iload_n 3, 1) := by decide +kernel
theorem dX10_soonest_17 : decode cX10_soonest 17 = .ok (.ifCond .ge 6, 3) := by decide +kernel
theorem dX10_soonest_20 : decode cX10_soonest 20 = .ok (.bipush (-2), 2) := by decide +kernel
theorem dX10_soonest_22 : decode cX10_soonest 22 = .ok (.ireturn, 1) := by decide +kernel
theorem dX10_soonest_23 : decode cX10_soonest 23 = .ok (.aload_n 0, 1) := by decide +kernel
theorem dX10_soonest_24 : decode cX10_soonest 24 = .ok (.iload_n 1, 1) := by decide +kernel
theorem dX10_soonest_25 : decode cX10_soonest 25 = .ok (.iload_n 2, 1) := by decide +kernel
theorem dX10_soonest_26 : decode cX10_soonest 26 = .ok (.invokevirtual 146, 3) := by decide +kernel
theorem dX10_soonest_29 : decode cX10_soonest 29 = .ok (.aload_n 0, 1) := by decide +kernel
theorem dX10_soonest_30 : decode cX10_soonest 30 = .ok (.getfield 42, 3) := by decide +kernel
theorem dX10_soonest_33 : decode cX10_soonest 33 = .ok (.getfield 149, 3) := by decide +kernel
theorem dX10_soonest_36 : decode cX10_soonest 36 = .ok (.ifCond .ne 6, 3) := by decide +kernel
theorem dX10_soonest_39 : decode cX10_soonest 39 = .ok (.bipush (-6), 2) := by decide +kernel
theorem dX10_soonest_41 : decode cX10_soonest 41 = .ok (.ireturn, 1) := by decide +kernel
theorem dX10_soonest_42 : decode cX10_soonest 42 = .ok (.iload_n 3, 1) := by decide +kernel
theorem dX10_soonest_43 : decode cX10_soonest 43 = .ok (.ifCond .ne 11, 3) := by decide +kernel
theorem dX10_soonest_46 : decode cX10_soonest 46 = .ok (.aload_n 0, 1) := by decide +kernel
theorem dX10_soonest_47 : decode cX10_soonest 47 = .ok (.getfield 42, 3) := by decide +kernel
theorem dX10_soonest_50 : decode cX10_soonest 50 = .ok (.getfield 231, 3) := by decide +kernel
theorem dX10_soonest_53 : decode cX10_soonest 53 = .ok (.ireturn, 1) := by decide +kernel
theorem dX10_soonest_54 : decode cX10_soonest 54 = .ok (.iload_n 3, 1) := by decide +kernel
theorem dX10_soonest_55 : decode cX10_soonest 55 = .ok (.iconst 1, 1) := by decide +kernel
theorem dX10_soonest_56 : decode cX10_soonest 56 = .ok (.if_icmp .ne 11, 3) := by decide +kernel
theorem dX10_soonest_59 : decode cX10_soonest 59 = .ok (.aload_n 0, 1) := by decide +kernel
theorem dX10_soonest_60 : decode cX10_soonest 60 = .ok (.getfield 42, 3) := by decide +kernel
theorem dX10_soonest_63 : decode cX10_soonest 63 = .ok (.getfield 153, 3) := by decide +kernel
theorem dX10_soonest_66 : decode cX10_soonest 66 = .ok (.ireturn, 1) := by decide +kernel
theorem dX10_soonest_67 : decode cX10_soonest 67 = .ok (.iload_n 3, 1) := by decide +kernel
theorem dX10_soonest_68 : decode cX10_soonest 68 = .ok (.iconst 2, 1) := by decide +kernel
theorem dX10_soonest_69 : decode cX10_soonest 69 = .ok (.isub, 1) := by decide +kernel
theorem dX10_soonest_70 : decode cX10_soonest 70 = .ok (.aload_n 0, 1) := by decide +kernel
theorem dX10_soonest_71 : decode cX10_soonest 71 = .ok (.getfield 42, 3) := by decide +kernel
theorem dX10_soonest_74 : decode cX10_soonest 74 = .ok (.getfield 153, 3) := by decide +kernel
theorem dX10_soonest_77 : decode cX10_soonest 77 = .ok (.if_icmp .ge 19, 3) := by decide +kernel
theorem dX10_soonest_80 : decode cX10_soonest 80 = .ok (.aload_n 0, 1) := by decide +kernel
theorem dX10_soonest_81 : decode cX10_soonest 81 = .ok (.getfield 42, 3) := by decide +kernel
theorem dX10_soonest_84 : decode cX10_soonest 84 = .ok (.getfield 154, 3) := by decide +kernel
theorem dX10_soonest_87 : decode cX10_soonest 87 = .ok (.iload_n 3, 1) := by decide +kernel
theorem dX10_soonest_88 : decode cX10_soonest 88 = .ok (.iconst 2, 1) := by decide +kernel
theorem dX10_soonest_89 : decode cX10_soonest 89 = .ok (.isub, 1) := by decide +kernel
theorem dX10_soonest_90 : decode cX10_soonest 90 = .ok (.invokevirtual 58, 3) := by decide +kernel
theorem dX10_soonest_93 : decode cX10_soonest 93 = .ok (.goto 5, 3) := by decide +kernel
theorem dX10_soonest_96 : decode cX10_soonest 96 = .ok (.bipush (-6), 2) := by decide +kernel
theorem dX10_soonest_98 : decode cX10_soonest 98 = .ok (.ireturn, 1) := by decide +kernel
theorem dX10_quietest_0 : decode cX10_quietest 0 = .ok (.iload_n 1, 1) := by decide +kernel
theorem dX10_quietest_1 : decode cX10_quietest 1 = .ok (.invokestatic 130, 3) := by decide +kernel
theorem dX10_quietest_4 : decode cX10_quietest 4 = .ok (.ifCond .eq 10, 3) := by decide +kernel
theorem dX10_quietest_7 : decode cX10_quietest 7 = .ok (.iload_n 2, 1) := by decide +kernel
theorem dX10_quietest_8 : decode cX10_quietest 8 = .ok (.invokestatic 68, 3) := by decide +kernel
theorem dX10_quietest_11 : decode cX10_quietest 11 = .ok (.ifCond .ne 5, 3) := by decide +kernel
theorem dX10_quietest_14 : decode cX10_quietest 14 = .ok (.iconst (-1), 1) := by decide +kernel
theorem dX10_quietest_15 : decode cX10_quietest 15 = .ok (.ireturn, 1) := by decide +kernel
theorem dX10_quietest_16 : decode cX10_quietest 16 = .ok (.aload_n 0, 1) := by decide +kernel
theorem dX10_quietest_17 : decode cX10_quietest 17 = .ok (.getfield 10, 3) := by decide +kernel
theorem dX10_quietest_20 : decode cX10_quietest 20 = .ok (.getfield 110, 3) := by decide +kernel
theorem dX10_quietest_23 : decode cX10_quietest 23 = .ok (.getfield 133, 3) := by decide +kernel
theorem dX10_quietest_26 : decode cX10_quietest 26 = .ok (.iload_n 1, 1) := by decide +kernel
theorem dX10_quietest_27 : decode cX10_quietest 27 = .ok (.invokevirtual 58, 3) := by decide +kernel
theorem dX10_quietest_30 : decode cX10_quietest 30 = .ok (.istore_n 3, 1) := by decide +kernel
theorem dX10_quietest_31 : decode cX10_quietest 31 = .ok (.aload_n 0, 1) := by decide +kernel
theorem dX10_quietest_32 : decode cX10_quietest 32 = .ok (.getfield 10, 3) := by decide +kernel
theorem dX10_quietest_35 : decode cX10_quietest 35 = .ok (.iload_n 1, 1) := by decide +kernel
theorem dX10_quietest_36 : decode cX10_quietest 36 = .ok (.invokevirtual 187, 3) := by decide +kernel
theorem dX10_quietest_39 : decode cX10_quietest 39 = .ok (.istore 4, 2) := by decide +kernel
theorem dX10_quietest_41 : decode cX10_quietest 41 = .ok (.iconst 0, 1) := by decide +kernel
theorem dX10_quietest_42 : decode cX10_quietest 42 = .ok (.istore 5, 2) := by decide +kernel
theorem dX10_quietest_44 : decode cX10_quietest 44 = .ok (.iload 5, 2) := by decide +kernel
theorem dX10_quietest_46 : decode cX10_quietest 46 = .ok (.bipush 9, 2) := by decide +kernel
theorem dX10_quietest_48 : decode cX10_quietest 48 = .ok (.if_icmp .gt 45, 3) := by decide +kernel
theorem dX10_quietest_51 : decode cX10_quietest 51 = .ok (.aload_n 0, 1) := by decide +kernel
theorem dX10_quietest_52 : decode cX10_quietest 52 = .ok (.getfield 10, 3) := by decide +kernel
theorem dX10_quietest_55 : decode cX10_quietest 55 = .ok (.getfield 76, 3) := by decide +kernel
theorem dX10_quietest_58 : decode cX10_quietest 58 = .ok (.iload_n 3, 1) := by decide +kernel
theorem dX10_quietest_59 : decode cX10_quietest 59 = .ok (.iload 4, 2) := by decide +kernel
theorem dX10_quietest_61 : decode cX10_quietest 61 = .ok (.aload_n 0, 1) := by decide +kernel
theorem dX10_quietest_62 : decode cX10_quietest 62 = .ok (.getfield 10, 3) := by decide +kernel
theorem dX10_quietest_65 : decode cX10_quietest 65 = .ok (.getfield 76, 3) := by decide +kernel
theorem dX10_quietest_68 : decode cX10_quietest 68 = .ok (.iload 5, 2) := by decide +kernel
theorem dX10_quietest_70 : decode cX10_quietest 70 = .ok (.invokevirtual 232, 3) := by decide +kernel
theorem dX10_quietest_73 : decode cX10_quietest 73 = .ok (.iand, 1) := by decide +kernel
theorem dX10_quietest_74 : decode cX10_quietest 74 = .ok (.invokevirtual 190, 3) := by decide +kernel
theorem dX10_quietest_77 : decode cX10_quietest 77 = .ok (.iload_n 2, 1) := by decide +kernel
theorem dX10_quietest_78 : decode cX10_quietest 78 = .ok (.invokestatic 139, 3) := by decide +kernel
theorem dX10_quietest_81 : decode cX10_quietest 81 = .ok (.ifCond .eq 6, 3) := by decide +kernel
theorem dX10_quietest_84 : decode cX10_quietest 84 = .ok (.iload 5, 2) := by decide +kernel
theorem dX10_quietest_86 : decode cX10_quietest 86 = .ok (.ireturn, 1) := by decide +kernel
theorem dX10_quietest_87 : decode cX10_quietest 87 = .ok (.iinc 5 1, 3) := by decide +kernel
theorem dX10_quietest_90 : decode cX10_quietest 90 = .ok (.goto (-46), 3) := by decide +kernel
theorem dX10_quietest_93 : decode cX10_quietest 93 = .ok (.bipush (-6), 2) := by decide +kernel
theorem dX10_quietest_95 : decode cX10_quietest 95 = .ok (.ireturn, 1) := by decide +kernel
theorem dX10_reason_0 : decode cX10_reason 0 = .ok (.iload_n 1, 1) := by decide +kernel
theorem dX10_reason_1 : decode cX10_reason 1 = .ok (.invokestatic 130, 3) := by decide +kernel
theorem dX10_reason_4 : decode cX10_reason 4 = .ok (.ifCond .ne 5, 3) := by decide +kernel
theorem dX10_reason_7 : decode cX10_reason 7 = .ok (.iconst (-1), 1) := by decide +kernel
theorem dX10_reason_8 : decode cX10_reason 8 = .ok (.ireturn, 1) := by decide +kernel
theorem dX10_reason_9 : decode cX10_reason 9 = .ok (.aload_n 0, 1) := by decide +kernel
theorem dX10_reason_10 : decode cX10_reason 10 = .ok (.getfield 10, 3) := by decide +kernel
theorem dX10_reason_13 : decode cX10_reason 13 = .ok (.getfield 76, 3) := by decide +kernel
theorem dX10_reason_16 : decode cX10_reason 16 = .ok (.aload_n 0, 1) := by decide +kernel
theorem dX10_reason_17 : decode cX10_reason 17 = .ok (.getfield 10, 3) := by decide +kernel
theorem dX10_reason_20 : decode cX10_reason 20 = .ok (.iload_n 1, 1) := by decide +kernel
theorem dX10_reason_21 : decode cX10_reason 21 = .ok (.invokevirtual 235, 3) := by decide +kernel
theorem dX10_reason_24 : decode cX10_reason 24 = .ok (.aload_n 0, 1) := by decide +kernel
theorem dX10_reason_25 : decode cX10_reason 25 = .ok (.getfield 10, 3) := by decide +kernel
theorem dX10_reason_28 : decode cX10_reason 28 = .ok (.getfield 110, 3) := by decide +kernel
theorem dX10_reason_31 : decode cX10_reason 31 = .ok (.getfield 133, 3) := by decide +kernel
theorem dX10_reason_34 : decode cX10_reason 34 = .ok (.iload_n 1, 1) := by decide +kernel
theorem dX10_reason_35 : decode cX10_reason 35 = .ok (.invokevirtual 58, 3) := by decide +kernel
theorem dX10_reason_38 : decode cX10_reason 38 = .ok (.invokestatic 238, 3) := by decide +kernel
theorem dX10_reason_41 : decode cX10_reason 41 = .ok (.ireturn, 1) := by decide +kernel
theorem dX10_trail_0 : decode cX10_trail 0 = .ok (.iload_n 1, 1) := by decide +kernel
theorem dX10_trail_1 : decode cX10_trail 1 = .ok (.invokestatic 130, 3) := by decide +kernel
theorem dX10_trail_4 : decode cX10_trail 4 = .ok (.ifCond .eq 7, 3) := by decide +kernel
theorem dX10_trail_7 : decode cX10_trail 7 = .ok (.iload_n 2, 1) := by decide +kernel
theorem dX10_trail_8 : decode cX10_trail 8 = .ok (.ifCond .ge 5, 3) := by decide +kernel
theorem dX10_trail_11 : decode cX10_trail 11 = .ok (.iconst (-1), 1) := by decide +kernel
theorem dX10_trail_12 : decode cX10_trail 12 = .ok (.ireturn, 1) := by decide +kernel
theorem dX10_trail_13 : decode cX10_trail 13 = .ok (.aload_n 0, 1) := by decide +kernel
theorem dX10_trail_14 : decode cX10_trail 14 = .ok (.getfield 10, 3) := by decide +kernel
theorem dX10_trail_17 : decode cX10_trail 17 = .ok (.iload_n 1, 1) := by decide +kernel
theorem dX10_trail_18 : decode cX10_trail 18 = .ok (.invokevirtual 235, 3) := by decide +kernel
theorem dX10_trail_21 : decode cX10_trail 21 = .ok (.istore_n 3, 1) := by decide +kernel
theorem dX10_trail_22 : decode cX10_trail 22 = .ok (.aload_n 0, 1) := by decide +kernel
theorem dX10_trail_23 : decode cX10_trail 23 = .ok (.getfield 10, 3) := by decide +kernel
theorem dX10_trail_26 : decode cX10_trail 26 = .ok (.getfield 110, 3) := by decide +kernel
theorem dX10_trail_29 : decode cX10_trail 29 = .ok (.getfield 133, 3) := by decide +kernel
theorem dX10_trail_32 : decode cX10_trail 32 = .ok (.iload_n 1, 1) := by decide +kernel
theorem dX10_trail_33 : decode cX10_trail 33 = .ok (.invokevirtual 58, 3) := by decide +kernel
theorem dX10_trail_36 : decode cX10_trail 36 = .ok (.istore 4, 2) := by decide +kernel
theorem dX10_trail_38 : decode cX10_trail 38 = .ok (.aload_n 0, 1) := by decide +kernel
theorem dX10_trail_39 : decode cX10_trail 39 = .ok (.getfield 10, 3) := by decide +kernel
theorem dX10_trail_42 : decode cX10_trail 42 = .ok (.getfield 76, 3) := by decide +kernel
theorem dX10_trail_45 : decode cX10_trail 45 = .ok (.iload_n 3, 1) := by decide +kernel
theorem dX10_trail_46 : decode cX10_trail 46 = .ok (.iload 4, 2) := by decide +kernel
theorem dX10_trail_48 : decode cX10_trail 48 = .ok (.invokestatic 238, 3) := by decide +kernel
theorem dX10_trail_51 : decode cX10_trail 51 = .ok (.ifCond .eq 6, 3) := by decide +kernel
theorem dX10_trail_54 : decode cX10_trail 54 = .ok (.bipush (-5), 2) := by decide +kernel
theorem dX10_trail_56 : decode cX10_trail 56 = .ok (.ireturn, 1) := by decide +kernel
theorem dX10_trail_57 : decode cX10_trail 57 = .ok (.aload_n 0, 1) := by decide +kernel
theorem dX10_trail_58 : decode cX10_trail 58 = .ok (.getfield 10, 3) := by decide +kernel
theorem dX10_trail_61 : decode cX10_trail 61 = .ok (.getfield 76, 3) := by decide +kernel
theorem dX10_trail_64 : decode cX10_trail 64 = .ok (.iload_n 3, 1) := by decide +kernel
theorem dX10_trail_65 : decode cX10_trail 65 = .ok (.iload 4, 2) := by decide +kernel
theorem dX10_trail_67 : decode cX10_trail 67 = .ok (.iload_n 2, 1) := by decide +kernel
theorem dX10_trail_68 : decode cX10_trail 68 = .ok (.invokestatic 244, 3) := by decide +kernel
theorem dX10_trail_71 : decode cX10_trail 71 = .ok (.ireturn, 1) := by decide +kernel
theorem dX10_worstGap_0 : decode cX10_worstGap 0 = .ok (.iload_n 1, 1) := by decide +kernel
theorem dX10_worstGap_1 : decode cX10_worstGap 1 = .ok (.ifCond .eq 11, 3) := by decide +kernel
theorem dX10_worstGap_4 : decode cX10_worstGap 4 = .ok (.iload_n 1, 1) := by decide +kernel
theorem dX10_worstGap_5 : decode cX10_worstGap 5 = .ok (.iconst 1, 1) := by decide +kernel
theorem dX10_worstGap_6 : decode cX10_worstGap 6 = .ok (.if_icmp .eq 6, 3) := by decide +kernel
theorem dX10_worstGap_9 : decode cX10_worstGap 9 = .ok (.bipush (-2), 2) := by decide +kernel
theorem dX10_worstGap_11 : decode cX10_worstGap 11 = .ok (.ireturn, 1) := by decide +kernel
theorem dX10_worstGap_12 : decode cX10_worstGap 12 = .ok (.bipush (-6), 2) := by decide +kernel
theorem dX10_worstGap_14 : decode cX10_worstGap 14 = .ok (.istore_n 2, 1) := by decide +kernel
theorem dX10_worstGap_15 : decode cX10_worstGap 15 = .ok (.iconst 0, 1) := by decide +kernel
theorem dX10_worstGap_16 : decode cX10_worstGap 16 = .ok (.istore_n 3, 1) := by decide +kernel
theorem dX10_worstGap_17 : decode cX10_worstGap 17 = .ok (.iconst 0, 1) := by decide +kernel
theorem dX10_worstGap_18 : decode cX10_worstGap 18 = .ok (.istore 4, 2) := by decide +kernel
theorem dX10_worstGap_20 : decode cX10_worstGap 20 = .ok (.iload 4, 2) := by decide +kernel
theorem dX10_worstGap_22 : decode cX10_worstGap 22 = .ok (.aload_n 0, 1) := by decide +kernel
theorem dX10_worstGap_23 : decode cX10_worstGap 23 = .ok (.getfield 10, 3) := by decide +kernel
theorem dX10_worstGap_26 : decode cX10_worstGap 26 = .ok (.getfield 76, 3) := by decide +kernel
theorem dX10_worstGap_29 : decode cX10_worstGap 29 = .ok (.getfield 80, 3) := by decide +kernel
theorem dX10_worstGap_32 : decode cX10_worstGap 32 = .ok (.if_icmp .ge 35, 3) := by decide +kernel
theorem dX10_worstGap_35 : decode cX10_worstGap 35 = .ok (.aload_n 0, 1) := by decide +kernel
theorem dX10_worstGap_36 : decode cX10_worstGap 36 = .ok (.getfield 10, 3) := by decide +kernel
theorem dX10_worstGap_39 : decode cX10_worstGap 39 = .ok (.getfield 76, 3) := by decide +kernel
theorem dX10_worstGap_42 : decode cX10_worstGap 42 = .ok (.iload 4, 2) := by decide +kernel
theorem dX10_worstGap_44 : decode cX10_worstGap 44 = .ok (.invokevirtual 248, 3) := by decide +kernel
theorem dX10_worstGap_47 : decode cX10_worstGap 47 = .ok (.istore 5, 2) := by decide +kernel
theorem dX10_worstGap_49 : decode cX10_worstGap 49 = .ok (.iload 5, 2) := by decide +kernel
theorem dX10_worstGap_51 : decode cX10_worstGap 51 = .ok (.iload_n 3, 1) := by decide +kernel
theorem dX10_worstGap_52 : decode cX10_worstGap 52 = .ok (.if_icmp .le 9, 3) := by decide +kernel
theorem dX10_worstGap_55 : decode cX10_worstGap 55 = .ok (.iload 5, 2) := by decide +kernel
theorem dX10_worstGap_57 : decode cX10_worstGap 57 = .ok (.istore_n 3, 1) := by decide +kernel
theorem dX10_worstGap_58 : decode cX10_worstGap 58 = .ok (.iload 4, 2) := by decide +kernel
theorem dX10_worstGap_60 : decode cX10_worstGap 60 = .ok (.istore_n 2, 1) := by decide +kernel
theorem dX10_worstGap_61 : decode cX10_worstGap 61 = .ok (.iinc 4 1, 3) := by decide +kernel
theorem dX10_worstGap_64 : decode cX10_worstGap 64 = .ok (.goto (-44), 3) := by decide +kernel
theorem dX10_worstGap_67 : decode cX10_worstGap 67 = .ok (.iload_n 3, 1) := by decide +kernel
theorem dX10_worstGap_68 : decode cX10_worstGap 68 = .ok (.ifCond .ne 6, 3) := by decide +kernel
theorem dX10_worstGap_71 : decode cX10_worstGap 71 = .ok (.bipush (-6), 2) := by decide +kernel
theorem dX10_worstGap_73 : decode cX10_worstGap 73 = .ok (.ireturn, 1) := by decide +kernel
theorem dX10_worstGap_74 : decode cX10_worstGap 74 = .ok (.iload_n 1, 1) := by decide +kernel
theorem dX10_worstGap_75 : decode cX10_worstGap 75 = .ok (.ifCond .ne 7, 3) := by decide +kernel
theorem dX10_worstGap_78 : decode cX10_worstGap 78 = .ok (.iload_n 2, 1) := by decide +kernel
theorem dX10_worstGap_79 : decode cX10_worstGap 79 = .ok (.goto 4, 3) := by decide +kernel
theorem dX10_worstGap_82 : decode cX10_worstGap 82 = .ok (.iload_n 3, 1) := by decide +kernel
theorem dX10_worstGap_83 : decode cX10_worstGap 83 = .ok (.ireturn, 1) := by decide +kernel
theorem dX10_findWay_0 : decode cX10_findWay 0 = .ok (.aload_n 0, 1) := by decide +kernel
theorem dX10_findWay_1 : decode cX10_findWay 1 = .ok (.getfield 42, 3) := by decide +kernel
theorem dX10_findWay_4 : decode cX10_findWay 4 = .ok (.aload_n 0, 1) := by decide +kernel
theorem dX10_findWay_5 : decode cX10_findWay 5 = .ok (.getfield 10, 3) := by decide +kernel
theorem dX10_findWay_8 : decode cX10_findWay 8 = .ok (.getfield 76, 3) := by decide +kernel
theorem dX10_findWay_11 : decode cX10_findWay 11 = .ok (.aload_n 0, 1) := by decide +kernel
theorem dX10_findWay_12 : decode cX10_findWay 12 = .ok (.getfield 10, 3) := by decide +kernel
theorem dX10_findWay_15 : decode cX10_findWay 15 = .ok (.iload_n 1, 1) := by decide +kernel
theorem dX10_findWay_16 : decode cX10_findWay 16 = .ok (.invokevirtual 187, 3) := by decide +kernel
theorem dX10_findWay_19 : decode cX10_findWay 19 = .ok (.aload_n 0, 1) := by decide +kernel
theorem dX10_findWay_20 : decode cX10_findWay 20 = .ok (.getfield 10, 3) := by decide +kernel
theorem dX10_findWay_23 : decode cX10_findWay 23 = .ok (.getfield 110, 3) := by decide +kernel
theorem dX10_findWay_26 : decode cX10_findWay 26 = .ok (.getfield 133, 3) := by decide +kernel
theorem dX10_findWay_29 : decode cX10_findWay 29 = .ok (.iload_n 1, 1) := by decide +kernel
theorem dX10_findWay_30 : decode cX10_findWay 30 = .ok (.invokevirtual 58, 3) := by decide +kernel
theorem dX10_findWay_33 : decode cX10_findWay 33 = .ok (.iload_n 2, 1) := by decide +kernel
theorem dX10_findWay_34 : decode cX10_findWay 34 = .ok (.invokevirtual 274, 3) := by decide +kernel
theorem dX10_findWay_37 : decode cX10_findWay 37 = .ok (.return_, 1) := by decide +kernel
theorem dX10_isWithin_0 : decode cX10_isWithin 0 = .ok (.iload_n 0, 1) := by decide +kernel
theorem dX10_isWithin_1 : decode cX10_isWithin 1 = .ok (.iload_n 1, 1) := by decide +kernel
theorem dX10_isWithin_2 : decode cX10_isWithin 2 = .ok (.if_icmp .lt 12, 3) := by decide +kernel
theorem dX10_isWithin_5 : decode cX10_isWithin 5 = .ok (.iload_n 0, 1) := by decide +kernel
theorem dX10_isWithin_6 : decode cX10_isWithin 6 = .ok (.iload_n 2, 1) := by decide +kernel
theorem dX10_isWithin_7 : decode cX10_isWithin 7 = .ok (.if_icmp .gt 7, 3) := by decide +kernel
theorem dX10_isWithin_10 : decode cX10_isWithin 10 = .ok (.iconst 1, 1) := by decide +kernel
theorem dX10_isWithin_11 : decode cX10_isWithin 11 = .ok (.goto 4, 3) := by decide +kernel
theorem dX10_isWithin_14 : decode cX10_isWithin 14 = .ok (.iconst 0, 1) := by decide +kernel
theorem dX10_isWithin_15 : decode cX10_isWithin 15 = .ok (.ireturn, 1) := by decide +kernel
theorem dX10_isSetting_0 : decode cX10_isSetting 0 = .ok (.iload_n 0, 1) := by decide +kernel
theorem dX10_isSetting_1 : decode cX10_isSetting 1 = .ok (.ifCond .ne 13, 3) := by decide +kernel
theorem dX10_isSetting_4 : decode cX10_isSetting 4 = .ok (.iload_n 1, 1) := by decide +kernel
theorem dX10_isSetting_5 : decode cX10_isSetting 5 = .ok (.bipush 10, 2) := by decide +kernel
theorem dX10_isSetting_7 : decode cX10_isSetting 7 = .ok (.sipush 200, 3) := by decide +kernel
theorem dX10_isSetting_10 : decode cX10_isSetting 10 = .ok (.invokestatic 72, 3) := by decide +kernel
theorem dX10_isSetting_13 : decode cX10_isSetting 13 = .ok (.ireturn, 1) := by decide +kernel
theorem dX10_isSetting_14 : decode cX10_isSetting 14 = .ok (.iload_n 0, 1) := by decide +kernel
theorem dX10_isSetting_15 : decode cX10_isSetting 15 = .ok (.iconst 1, 1) := by decide +kernel
theorem dX10_isSetting_16 : decode cX10_isSetting 16 = .ok (.if_icmp .ne 17, 3) := by decide +kernel
theorem dX10_isSetting_19 : decode cX10_isSetting 19 = .ok (.iload_n 1, 1) := by decide +kernel
theorem dX10_isSetting_20 : decode cX10_isSetting 20 = .ok (.iconst 0, 1) := by decide +kernel
theorem dX10_isSetting_21 : decode cX10_isSetting 21 = .ok (.bipush 60, 2) := by decide +kernel
theorem dX10_isSetting_23 : decode cX10_isSetting 23 = .ok (.invokestatic 72, 3) := by decide +kernel
theorem dX10_isSetting_26 : decode cX10_isSetting 26 = .ok (.ifCond .eq 7, 3) := by decide +kernel
theorem dX10_isSetting_29 : decode cX10_isSetting 29 = .ok (.iconst 1, 1) := by decide +kernel
theorem dX10_isSetting_30 : decode cX10_isSetting 30 = .ok (.goto 4, 3) := by decide +kernel
theorem dX10_isSetting_33 : decode cX10_isSetting 33 = .ok (.iconst 0, 1) := by decide +kernel
theorem dX10_isSetting_34 : decode cX10_isSetting 34 = .ok (.ireturn, 1) := by decide +kernel
theorem dX10_isRoom_0 : decode cX10_isRoom 0 = .ok (.iload_n 0, 1) := by decide +kernel
theorem dX10_isRoom_1 : decode cX10_isRoom 1 = .ok (.iconst 0, 1) := by decide +kernel
theorem dX10_isRoom_2 : decode cX10_isRoom 2 = .ok (.bipush 9, 2) := by decide +kernel
theorem dX10_isRoom_4 : decode cX10_isRoom 4 = .ok (.invokestatic 72, 3) := by decide +kernel
theorem dX10_isRoom_7 : decode cX10_isRoom 7 = .ok (.ireturn, 1) := by decide +kernel
theorem dX10_isGhost_0 : decode cX10_isGhost 0 = .ok (.iload_n 0, 1) := by decide +kernel
theorem dX10_isGhost_1 : decode cX10_isGhost 1 = .ok (.iconst 0, 1) := by decide +kernel
theorem dX10_isGhost_2 : decode cX10_isGhost 2 = .ok (.iconst 3, 1) := by decide +kernel
theorem dX10_isGhost_3 : decode cX10_isGhost 3 = .ok (.invokestatic 72, 3) := by decide +kernel
theorem dX10_isGhost_6 : decode cX10_isGhost 6 = .ok (.ireturn, 1) := by decide +kernel
theorem dX10_holds_0 : decode cX10_holds 0 = .ok (.iload_n 0, 1) := by decide +kernel
theorem dX10_holds_1 : decode cX10_holds 1 = .ok (.iload_n 1, 1) := by decide +kernel
theorem dX10_holds_2 : decode cX10_holds 2 = .ok (.ishr, 1) := by decide +kernel
theorem dX10_holds_3 : decode cX10_holds 3 = .ok (.iconst 1, 1) := by decide +kernel
theorem dX10_holds_4 : decode cX10_holds 4 = .ok (.iand, 1) := by decide +kernel
theorem dX10_holds_5 : decode cX10_holds 5 = .ok (.ifCond .eq 7, 3) := by decide +kernel
theorem dX10_holds_8 : decode cX10_holds 8 = .ok (.iconst 1, 1) := by decide +kernel
theorem dX10_holds_9 : decode cX10_holds 9 = .ok (.goto 4, 3) := by decide +kernel
theorem dX10_holds_12 : decode cX10_holds 12 = .ok (.iconst 0, 1) := by decide +kernel
theorem dX10_holds_13 : decode cX10_holds 13 = .ok (.ireturn, 1) := by decide +kernel
end
section
-- the words that may be carried into any call, the classes of the worlds, the world as a function of cells, and the rows over it
def gT : List Cond := lw_tbl.filter goodWord
theorem gmem {w : Cond} (i : Nat) (h : lw_tbl[i]? = some w) (hg : goodWord w = true) : w ∈ gT := List.mem_filter.mpr ⟨List.mem_of_getElem? h, hg⟩
theorem gT_good : ∀ w ∈ gT, (w.onTables && w.keeps) = true ∨ ∃ ty, w = .arrayClass ty := fun w h => good_of_word (List.mem_filter.mp h).2
theorem gmems {ws : List Cond} (ps : List Nat) (h : ws = ps.filterMap (fun i => lw_tbl[i]?)) (hg : ws.all goodWord = true) : ∀ w ∈ ws, w ∈ gT := by
  intro w hw
  have h1 := List.all_eq_true.mp hg w hw
  rw [h] at hw
  obtain ⟨i, -, hi⟩ := List.mem_filterMap.mp hw
  exact gmem i hi h1
/-- a method's words: its own code, and the tables' -/
def gW (y : MethodName) (b : ByteArray) (n : Nat) (ret : Option FieldType) : List Cond := .code y b n ret :: gT
theorem gW_in {y : MethodName} {b : ByteArray} {n : Nat} {ret : Option FieldType} (h : Cond.code y b n ret ∈ gT) : GoodIn gT (gW y b n ret) := by
  intro w hw
  rcases List.mem_cons.mp hw with rfl | hw
  · exact ⟨h, gT_good _ h⟩
  · exact ⟨hw, gT_good _ hw⟩
def gCls : List vw_C := [(RX0, TX0, 6), (RX1, TX1, 7), (RX2, TX2, 3), (RX3, TX3, 3), (RX4, TX4, 2), (RX5, TX5, 1), (RX6, TX6, 1), (RX7, TX7, 5), (RX9, TX9, 5), (RX10, TX10, 6)]
abbrev gG : Type := va_G × (Nat → ClassId)
abbrev gTys (G : gG) : List (ClassId × FieldType) := [(G.2 0, .int), (G.2 1, .object "CreakingGhosts$Attic")]
def gNestW : List Cond := [.methodLinkNest RX1 43 yX10_isWithin RX10, .methodLinkNest RX7 37 yX10_isWithin RX10, .methodLinkNest RX1 71 yX10_holds RX10, .methodLinkNest RX9 65 yX10_holds RX10, .methodLinkNest RX2 34 yX10_holds RX10, .methodLinkNest RX0 100 yX10_holds RX10, .methodLinkNest RX8 15 yX10_holds RX10, .methodLinkNest RX0 22 yX1_init RX10, .methodLinkNest RX0 29 yX2_init RX10, .methodLinkNest RX0 36 yX7_init RX10, .methodLinkNest RX10 18 yX4_init RX10, .methodLinkNest RX10 25 yX3_init RX10, .methodLinkNest RX10 41 yX9_init RX10]
def gNest (U : State) : Prop := ∀ w ∈ gNestW, va_Nw w U
theorem gNest.warm {s U : State} (hW : s.WarmedH U.vm) (h : gNest s) : gNest U := by
  intro w hw
  have h1 := h w hw
  simp only [gNestW, List.mem_cons, List.not_mem_nil, or_false] at hw
  rcases hw with rfl | rfl | rfl | rfl | rfl | rfl | rfl | rfl | rfl | rfl | rfl | rfl | rfl <;> exact va_Nw.warmM hW h1
def gEnv (G : gG) (U : State) : Prop := va_K G.1 gCls (gTys G) U ∧ gNest U
theorem gEnv.warm {G : gG} {s U : State} (hW : s.WarmedH U.vm) (h : gEnv G s) : gEnv G U := ⟨va_K.moved hW.alike h.1, h.2.warm hW⟩
/-- the state of a world: what ints its cells hold -/
abbrev gS : Type := Nat → Nat → Int32
def gU (σ : gS) (c : Nat) (f : Nat → Int32) : gS := fun j => if j = c then f else σ j
def up2 (σ : gS) (c k : Nat) (x : Int32) : gS := gU σ c (upd (σ c) k x)
abbrev gEnt : Type := Nat → (Nat → Int32) → va_E
def gL (ent : gEnt) (o N : Nat) (σ : gS) : va_W := (List.range N).map fun c => (o + c, ent c (σ c))
theorem gL_get {ent : gEnt} {o N c : Nat} {σ : gS} (hc : c < N) : (gL ent o N σ)[c]? = some (o + c, ent c (σ c)) := by simp [gL, hc]
theorem gL_at {ent : gEnt} {o N c : Nat} {σ : gS} {q : Nat × va_E} (h : (gL ent o N σ)[c]? = some q) : c < N ∧ q = (o + c, ent c (σ c)) := by
  have hc : c < N := by
    have := (List.getElem?_eq_some_iff.mp h).1
    simpa [gL] using this
  rw [gL_get hc] at h
  exact ⟨hc, (Option.some.inj h).symm⟩
theorem gL_set {ent : gEnt} {o N c : Nat} {σ : gS} {f : Nat → Int32} (hc : c < N) : (gL ent o N σ).set c (o + c, ent c f) = gL ent o N (gU σ c f) := by
  apply List.ext_getElem?
  intro i
  by_cases hi : i < N
  · rw [gL_get hi]
    by_cases hic : i = c
    · subst hic
      rw [List.getElem?_set_self (by simpa [gL] using hc)]
      simp [gU]
    · rw [List.getElem?_set_ne (Ne.symm hic), gL_get hi]
      simp [gU, hic]
  · rw [List.getElem?_eq_none (by simp [gL]; omega), List.getElem?_eq_none (by simp [gL]; omega)]
def gA (o N : Nat) : Nat → Prop := fun q => o ≤ q ∧ q < o + N
theorem gL_D {ent : gEnt} {o N : Nat} {σ : gS} : va_D (gA o N) (gL ent o N σ) := by
  refine ⟨fun i j p q hi hj h => ?_, fun k q hk => ?_⟩
  · obtain ⟨-, rfl⟩ := gL_at hi
    obtain ⟨-, rfl⟩ := gL_at hj
    exact Nat.add_left_cancel h
  · obtain ⟨hk2, rfl⟩ := gL_at hk
    exact ⟨Nat.le_add_right _ _, Nat.add_lt_add_left hk2 _⟩
def gP (G : gG) (ent : gEnt) (o N : Nat) (σ : gS) (H : Heap) : Prop := va_P G.1 gCls (gL ent o N σ) H
def gSt (G : gG) (ent : gEnt) (o N : Nat) (s : State) (σ : gS) (H : Heap) (locs : List Loc) : Prop := gP G ent o N σ H ∧ va_S (gA o N) s.heap H locs
def gK (p : Program) (s : State) (m : MethodId) (args : Array Value) (meth : Method) (c : Code) (G : gG) (cc : ByteArray) (nL : Nat) (own : String) (ret : Option FieldType) : Prop :=
  p.tables.exec = Jvm.exec ∧ c.code = cc ∧ c.maxLocals = nL ∧ s.vm.findClass own = some m.cls ∧ (∀ w ∈ gT, w.before args s = true) ∧ gEnv G s ∧ meth.sig.returnType = ret ∧ meth.locks = false
def gPc (G : gG) (ent : gEnt) (o N : Nat) (av : List Value) (σ : gS) : Array Value → State → Prop := va_Pc av (fun U => gP G ent o N σ U.heap ∧ gEnv G U)
def gQi (G : gG) (ent : gEnt) (o N : Nat) (q : Int32 × gS) : Array Value → State → Outcome → State → Prop := fun _ st oc t => (oc = .returned (some (.int q.1)) ∧ gP G ent o N q.2 t.heap) ∧ va_F (gA o N) st t
def gQv (G : gG) (ent : gEnt) (o N : Nat) (q : gS) : Array Value → State → Outcome → State → Prop := fun _ st oc t => (oc = .returned none ∧ gP G ent o N q t.heap) ∧ va_F (gA o N) st t
theorem gPc_blind {G : gG} {ent : gEnt} {o N : Nat} {av : List Value} {σ : gS} : FrameBlind (gPc G ent o N av σ) := by
  intro a U g mk q
  obtain ⟨q0, q1, q2, q3⟩ := q
  refine ⟨q0, q1, va_K.moved (u := U) (U := U.calling g mk a) (Vm.Alike.refl U.vm) q2, fun w hw => ?_⟩
  have h1 := q3 w hw
  refine va_tabs ?_ (u := U) (A := #[]) rfl h1
  simp only [gNestW, List.mem_cons, List.not_mem_nil, or_false] at hw
  rcases hw with rfl | rfl | rfl | rfl | rfl | rfl | rfl | rfl | rfl | rfl | rfl | rfl | rfl <;> rfl
/-! guards, names and continuations of the functions that the methods compute -/
def gGd {α : Type} (b : Bool) (x : Option α) : Option α := match b with
  | true => x
  | false => none
theorem gGd_some {α : Type} {b : Bool} {x : Option α} {q : α} (h : gGd b x = some q) : b = true ∧ x = some q := by
  cases b with
  | true => exact ⟨rfl, h⟩
  | false => cases h
def gLet {α β : Type} (a : α) (f : α → β) : β := f a
theorem gLet_some {α β : Type} {a : α} {f : α → Option β} {q : β} (h : gLet a f = some q) : ∃ x, x = a ∧ f x = some q := ⟨a, rfl, h⟩
def gin (i : Int32) (n : Nat) : Bool := decide (0 ≤ i.toInt ∧ i.toInt < n)
theorem gin_in {i : Int32} {n : Nat} (h : gin i n = true) : vp_in i n := vp_in_iff.mpr (of_decide_eq_true h)
def gne (x : Int32) : Bool := !(x == 0)
theorem gne_ne {x : Int32} (h : gne x = true) : ¬ x = 0 := by
  intro h0
  subst h0
  exact absurd h (by decide)
def gbo (x : Int32) : Bool := (x == 0 || x == 1)
theorem gbo_nar {x : Int32} (h : gbo x = true) : narrow .boolean (.int x) = .int x := by
  simp only [gbo, Bool.or_eq_true, beq_iff_eq] at h
  rcases h with rfl | rfl <;> rfl
theorem gbo_fit {x : Int32} (h : gbo x = true) : fits .boolean (.int x) = true := by
  simp only [gbo, Bool.or_eq_true, beq_iff_eq] at h
  rcases h with rfl | rfl <;> rfl
def gil (i : Int32) : Nat := i.toNatClampNeg
/-! links -/
def gFl (own : String) (idx ci k : Nat) : Prop := ∃ (C : String) (T : u_T) (n : Nat), gCls[ci]? = some (C, T, n) ∧ (∀ w ∈ u_ws C T n, w ∈ gT) ∧ k < n ∧ Cond.fieldLink own idx (T k).1 (T k).2.1 (T k).2.2.1 ∈ gT
def gFp (own : String) (idx ci k : Nat) (ty : FieldType) : Prop := ∃ (C : String) (T : u_T) (n : Nat) (t0 : Nat → FieldType), gCls[ci]? = some (C, T, n) ∧ (∀ w ∈ u_ws C T n, w ∈ gT) ∧ k < n ∧ Cond.fieldLink own idx (T k).1 (T k).2.1 (T k).2.2.1 ∈ gT ∧ (∀ k, k < n → parseFieldDescriptor (T k).2.2.1 = some (t0 k)) ∧ (∀ a, a < n → ∀ b, b < n → a ≠ b → (T a).2.1 ≠ (T b).2.1) ∧ (T k).2.2.2 = false ∧ parseFieldDescriptor (T k).2.2.1 = some ty
def gMV (own : String) (idx : Nat) (y : MethodName) (C : String) (b : ByteArray) (mL : Nat) (ret : Option FieldType) (n : Nat) : Prop := Cond.methodLink own idx y ∈ gT ∧ Cond.instanceMethod y ∈ gT ∧ Cond.selects C y y ∈ gT ∧ Cond.initialized y.cls ∈ gT ∧ Cond.code y b mL ret ∈ gT ∧ (y.cls ≠ "java/lang/invoke/MethodHandle" ∧ y.cls ≠ "java/lang/invoke/VarHandle" ∧ (parseMethodDescriptor y.desc).map (fun d => d.parameters.length) = some n)
def gMS (own : String) (idx : Nat) (y : MethodName) (b : ByteArray) (mL : Nat) (ret : Option FieldType) (n : Nat) : Prop := Cond.methodLink own idx y ∈ gT ∧ Cond.static y ∈ gT ∧ Cond.initialized y.cls ∈ gT ∧ Cond.code y b mL ret ∈ gT ∧ (y.cls ≠ "java/lang/invoke/MethodHandle" ∧ y.cls ≠ "java/lang/invoke/VarHandle" ∧ (parseMethodDescriptor y.desc).map (fun d => d.parameters.length) = some n)
def gMN (own : String) (idx : Nat) (y : MethodName) (host : String) (b : ByteArray) (mL : Nat) (ret : Option FieldType) (n : Nat) : Prop := Cond.methodLinkNest own idx y host ∈ gNestW ∧ Cond.static y ∈ gT ∧ Cond.initialized y.cls ∈ gT ∧ Cond.code y b mL ret ∈ gT ∧ (y.cls ≠ "java/lang/invoke/MethodHandle" ∧ y.cls ≠ "java/lang/invoke/VarHandle" ∧ (parseMethodDescriptor y.desc).map (fun d => d.parameters.length) = some n)
section GR
variable {p : Program} {l : Launch} {e : Env} {R : Room} {s : State} {m : MethodId} {args : Array Value} {below : List Frame} {meth : Method} {c : Code} {H : Heap} {locs : List Loc} {cells slots : Nat} {Q : State → Prop}
variable {cc : ByteArray} {pc nL : Nat} {ls : Array Slot} {rest st0 : List Value} {G : gG} {ent : gEnt} {o N : Nat} {σ : gS} {own : String} {ret : Option FieldType}
theorem g_get {idx ci k cx : Nat} {fs : List Value} {v : Value} (K : gK p s m args meth c G cc nL own ret) (hS : gSt G ent o N s σ H locs) (L : gFl own idx ci k) (he : ent cx (σ cx) = .inr (ci, fs)) (hc : cx < N) (hv : fs[k]? = some v) (hd : decode cc pc = .ok (.getfield idx, 3))
    (kk : W p l e R s m args below meth c H locs cells slots Q (F0 m (pc + 3) ls (v :: rest))) : W p l e R s m args below meth c H locs cells slots Q (F0 m pc ls (.ref (o + cx) :: rest)) := by
  obtain ⟨hx, hb, hml, hown, hts, hE, hr, hlk⟩ := K
  obtain ⟨C, T, n, h1, h2, h3, h4⟩ := L
  exact va_get hx hb hts h2 hown hE.1 hS.1 cx ((gL_get hc).trans (by rw [he])) h1 k h3 (hts _ h4) (fun _ h => h) hv hd kk
theorem g_put {idx ci k cx : Nat} {fs : (Nat → Int32) → List Value} {ty : FieldType} {x : Int32} (K : gK p s m args meth c G cc nL own ret) (hS : gSt G ent o N s σ H locs) (L : gFp own idx ci k ty) (he : ∀ f, ent cx f = .inr (ci, fs f)) (hc : cx < N) (hv : (fs (σ cx)).set k (.int x) = fs (upd (σ cx) k x)) (hl : k < (fs (σ cx)).length) (hn : narrow ty (.int x) = .int x) (hfit : fits ty (.int x) = true) (hd : decode cc pc = .ok (.putfield idx, 3))
    (kk : ∀ (H1 : Heap) (locs1 : List Loc), gSt G ent o N s (up2 σ cx k x) H1 locs1 → W p l e R s m args below meth c H1 locs1 cells slots Q (F0 m (pc + 3) ls rest)) : W p l e R s m args below meth c H locs cells slots Q (F0 m pc ls (.int x :: .ref (o + cx) :: rest)) := by
  obtain ⟨hx, hb, hml, hown, hts, hE, hr, hlk⟩ := K
  obtain ⟨C, T, n, t0, h1, h2, h3, h4, h5, h6, h7, h8⟩ := L
  refine va_put hx hb hts h2 t0 h5 h6 hown hE.1 hS.1 gL_D hS.2 cx ((gL_get hc).trans (by rw [he])) h1 k h3 (hts _ h4) (fun _ h => h) h7 h8 hn hfit hl hd (fun H1 locs1 a1 a2 a3 => kk H1 locs1 ⟨?_, a3⟩)
  rw [hv, ← he, gL_set hc] at a1
  exact a1
theorem g_iald {cx n j : Nat} {i : Int32} (K : gK p s m args meth c G cc nL own ret) (hS : gSt G ent o N s σ H locs) (he : ∀ f, ent cx f = .inl (G.2 0, n, .inl f)) (hc : cx < N) (hin : gin i n = true) (hj : gil i = j) (hd : decode cc pc = .ok (.iaload, 1))
    (kk : W p l e R s m args below meth c H locs cells slots Q (F0 m (pc + 1) ls (.int (σ cx j) :: rest))) : W p l e R s m args below meth c H locs cells slots Q (F0 m pc ls (.int i :: .ref (o + cx) :: rest)) := by
  subst hj
  obtain ⟨hx, hb, hml, hown, hts, hE, hr, hlk⟩ := K
  exact va_iald hx hb hE.1 hS.1 cx 0 ((gL_get hc).trans (by rw [he])) rfl (gin_in hin) hd kk
theorem g_iast {cx n j : Nat} {i x : Int32} (K : gK p s m args meth c G cc nL own ret) (hS : gSt G ent o N s σ H locs) (he : ∀ f, ent cx f = .inl (G.2 0, n, .inl f)) (hc : cx < N) (hin : gin i n = true) (hj : gil i = j) (hd : decode cc pc = .ok (.iastore, 1))
    (kk : ∀ (H1 : Heap) (locs1 : List Loc), gSt G ent o N s (up2 σ cx j x) H1 locs1 → W p l e R s m args below meth c H1 locs1 cells slots Q (F0 m (pc + 1) ls rest)) : W p l e R s m args below meth c H locs cells slots Q (F0 m pc ls (.int x :: .int i :: .ref (o + cx) :: rest)) := by
  subst hj
  obtain ⟨hx, hb, hml, hown, hts, hE, hr, hlk⟩ := K
  refine va_iast hx hb hE.1 hS.1 gL_D hS.2 cx 0 ((gL_get hc).trans (by rw [he])) rfl (gin_in hin) hd (fun H1 locs1 a1 a2 a3 => kk H1 locs1 ⟨?_, a3⟩)
  rw [← he, gL_set hc] at a1
  exact a1
theorem g_alen {cx t0 : Nat} {a : vp_A} {ty : FieldType} {v : Int32} (K : gK p s m args meth c G cc nL own ret) (hS : gSt G ent o N s σ H locs) (he : ent cx (σ cx) = .inl (G.2 t0, a)) (hc : cx < N) (ht : (gTys G)[t0]? = some (G.2 t0, ty)) (hv : Int32.ofNat a.1 = v) (hd : decode cc pc = .ok (.arraylength, 1))
    (kk : W p l e R s m args below meth c H locs cells slots Q (F0 m (pc + 1) ls (.int v :: rest))) : W p l e R s m args below meth c H locs cells slots Q (F0 m pc ls (.ref (o + cx) :: rest)) := by
  obtain ⟨hx, hb, hml, hown, hts, hE, hr, hlk⟩ := K
  exact va_alen hx hb hE.1 hS.1 cx t0 ((gL_get hc).trans (by rw [he])) ht hv hd kk
theorem g_aald {cx n : Nat} {f : Nat → Option Nat} {i : Int32} (K : gK p s m args meth c G cc nL own ret) (hS : gSt G ent o N s σ H locs) (he : ent cx (σ cx) = .inl (G.2 1, n, .inr (.inr (.inr (.inr f))))) (hc : cx < N) (hin : gin i n = true) (hd : decode cc pc = .ok (.aaload, 1))
    (kk : W p l e R s m args below meth c H locs cells slots Q (F0 m (pc + 1) ls (va_rf (f (gil i)) :: rest))) : W p l e R s m args below meth c H locs cells slots Q (F0 m pc ls (.int i :: .ref (o + cx) :: rest)) := by
  obtain ⟨hx, hb, hml, hown, hts, hE, hr, hlk⟩ := K
  exact va_aldq hx hb hE.1 hS.1 cx 1 ((gL_get hc).trans (by rw [he])) rfl (gin_in hin) hd kk
theorem g_copy {idx c0 c1 n0 n1 : Nat} {sp dp n : Int32} (K : gK p s m args meth c G cc nL own ret) (hS : gSt G ent o N s σ H locs) (hls : ls.size = nL) (hlk : Cond.methodLink own idx arraycopyName ∈ gT) (he0 : ∀ f, ent c0 f = .inl (G.2 0, n0, .inl f)) (he1 : ∀ f, ent c1 f = .inl (G.2 0, n1, .inl f)) (hc0 : c0 < N) (hc1 : c1 < N) (hn : sp = 0 ∧ dp = 0 ∧ 0 ≤ n.toInt ∧ n.toInt ≤ n0 ∧ n.toInt ≤ n1) (hnat : Cond.native arraycopyName ∈ gT) (hstat : Cond.static arraycopyName ∈ gT) (hini : Cond.initialized "java/lang/System" ∈ gT)
    (hframes : 1 ≤ R.frames) (hlocals : (rest.map fun v => v.category).sum + (nativeFrameWords "java/lang/System" "arraycopy" 5 + 11) ≤ R.locals) (hd : decode cc pc = .ok (.invokestatic idx, 3))
    (kk : ∀ (H1 : Heap) (locs1 : List Loc), gSt G ent o N s (gU σ c1 (va_cpy (σ c0) (σ c1) 0 0 (gil n))) H1 locs1 → W p l e R s m args below meth c H1 locs1 cells slots Q (F0 m (pc + 3) ls rest)) : W p l e R s m args below meth c H locs cells slots Q (F0 m pc ls (.int n :: .int dp :: .ref (o + c1) :: .int sp :: .ref (o + c0) :: rest)) := by
  obtain ⟨hx, hb, hml, hown, hts, hE, hr, -⟩ := K
  obtain ⟨rfl, rfl, h1, h2, h3⟩ := hn
  have hnn : ¬ n < 0 := by
    intro h
    have := Int32.lt_iff_toInt_lt.mp h
    simp at this
    omega
  have hcl : ((gil n : Nat) : Int) = n.toInt := by
    show ((n.toInt.toNat : Nat) : Int) = n.toInt
    omega
  refine va_copyi hx hb (hml.trans hls.symm) hown (hts _ hlk) (hts _ hnat) (hts _ hstat) (hts _ hini) hE.1 hS.1 gL_D hS.2 c0 c1 0 0 ((gL_get hc0).trans (by rw [he0])) ((gL_get hc1).trans (by rw [he1])) rfl rfl rfl (by decide) (by decide) hnn (by show 0 + gil n ≤ n0; omega) (by show 0 + gil n ≤ n1; omega) (fun i _ => rfl) hframes hlocals hd (fun H1 locs1 a1 a2 a3 => kk H1 locs1 ⟨?_, a3⟩)
  rw [← he1, gL_set hc1] at a1
  exact a1
theorem g_mmax {idx : Nat} {x y : Int32} (K : gK p s m args meth c G cc nL own ret) (hls : ls.size = nL) (hlk : Cond.methodLink own idx Lib.Math.max.name ∈ gT) (hst : Cond.static Lib.Math.max.name ∈ gT) (hini : Cond.initialized "java/lang/Math" ∈ gT) (hcode : Cond.code Lib.Math.max.name Lib.Math.max.code 2 (some .int) ∈ gT) (hframes : 1 ≤ R.frames) (hlocals : (rest.map fun v => v.category).sum + 13 ≤ R.locals) (hc : cells ≤ R.cells) (hs : slots ≤ R.slots) (hd : decode cc pc = .ok (.invokestatic idx, 3))
    (kk : W p l e R s m args below meth c H locs cells slots Q (F0 m (pc + 3) ls (.int (if x < y then y else x) :: rest))) : W p l e R s m args below meth c H locs cells slots Q (F0 m pc ls (.int y :: .int x :: rest)) := by
  obtain ⟨hx, hb, hml, hown, hts, hE, hr, -⟩ := K
  exact va_mmax hx hb (hml.trans hls.symm) hown (hts _ hlk) (hts _ hst) (hts _ hini) (hts _ hcode) hframes hlocals hc hs hd kk
theorem g_mmin {idx : Nat} {x y : Int32} (K : gK p s m args meth c G cc nL own ret) (hls : ls.size = nL) (hlk : Cond.methodLink own idx Lib.Math.min.name ∈ gT) (hst : Cond.static Lib.Math.min.name ∈ gT) (hini : Cond.initialized "java/lang/Math" ∈ gT) (hcode : Cond.code Lib.Math.min.name Lib.Math.min.code 2 (some .int) ∈ gT) (hframes : 1 ≤ R.frames) (hlocals : (rest.map fun v => v.category).sum + 13 ≤ R.locals) (hc : cells ≤ R.cells) (hs : slots ≤ R.slots) (hd : decode cc pc = .ok (.invokestatic idx, 3))
    (kk : W p l e R s m args below meth c H locs cells slots Q (F0 m (pc + 3) ls (.int (if y < x then y else x) :: rest))) : W p l e R s m args below meth c H locs cells slots Q (F0 m pc ls (.int y :: .int x :: rest)) := by
  obtain ⟨hx, hb, hml, hown, hts, hE, hr, -⟩ := K
  exact va_mmin hx hb (hml.trans hls.symm) hown (hts _ hlk) (hts _ hst) (hts _ hini) (hts _ hcode) hframes hlocals hc hs hd kk
theorem g_top {x y : Int32} (h : y = x) (k : W p l e R s m args below meth c H locs cells slots Q (F0 m pc ls (.int y :: rest))) : W p l e R s m args below meth c H locs cells slots Q (F0 m pc ls (.int x :: rest)) := by
  rw [← h]
  exact k
theorem g_topl {x y : Int64} (h : y = x) (k : W p l e R s m args below meth c H locs cells slots Q (F0 m pc ls (.long y :: rest))) : W p l e R s m args below meth c H locs cells slots Q (F0 m pc ls (.long x :: rest)) := by
  rw [← h]
  exact k
/-! returns -/
theorem g_iret {q : Int32 × gS} {v : Int32} (K : gK p s m args meth c G cc nL own (some .int)) (hS : gSt G ent o N s σ H locs) (hf : some (v, σ) = some q) (hd : decode cc pc = .ok (.ireturn, 1)) : W p l e R s m args below meth c H locs cells slots (MQ below (gQi G ent o N q) args s cells slots (gA o N)) (F0 m pc ls [.int v]) := by
  obtain ⟨hx, hb, hml, hown, hts, hE, hr, hlk⟩ := K
  obtain rfl := Option.some.inj hf
  exact W.iret hx hb hr (fun t ht hW => ⟨⟨rfl, by rw [ht]; exact hS.1⟩, hS.2.F ht⟩) hS.2.2.2 hd hlk
theorem g_zret {q : Int32 × gS} {v : Int32} (K : gK p s m args meth c G cc nL own (some .boolean)) (hS : gSt G ent o N s σ H locs) (hv : narrow .boolean (.int v) = .int v) (hf : some (v, σ) = some q) (hd : decode cc pc = .ok (.ireturn, 1)) : W p l e R s m args below meth c H locs cells slots (MQ below (gQi G ent o N q) args s cells slots (gA o N)) (F0 m pc ls [.int v]) := by
  obtain ⟨hx, hb, hml, hown, hts, hE, hr, hlk⟩ := K
  obtain rfl := Option.some.inj hf
  exact W.zret hx hb hr hv (fun t ht hW => ⟨⟨rfl, by rw [ht]; exact hS.1⟩, hS.2.F ht⟩) hS.2.2.2 hd hlk
theorem g_vret {q : gS} (K : gK p s m args meth c G cc nL own none) (hS : gSt G ent o N s σ H locs) (hf : some σ = some q) (hd : decode cc pc = .ok (.return_, 1)) : W p l e R s m args below meth c H locs cells slots (MQ below (gQv G ent o N q) args s cells slots (gA o N)) (F0 m pc ls []) := by
  obtain ⟨hx, hb, hml, hown, hts, hE, hr, hlk⟩ := K
  obtain rfl := Option.some.inj hf
  exact W.vret hx hb hr (fun t ht hW => ⟨⟨rfl, by rw [ht]; exact hS.1⟩, hS.2.F ht⟩) hS.2.2.2 hd hlk
end GR
end
section
section GC
variable {p : Program} {l : Launch} {e : Env} {R : Room} {s : State} {m : MethodId} {args : Array Value} {below : List Frame} {meth : Method} {c : Code} {H : Heap} {locs : List Loc} {cells slots : Nat} {Q : State → Prop}
variable {cc : ByteArray} {pc nL : Nat} {ls : Array Slot} {rest st0 : List Value} {G : gG} {ent : gEnt} {o N : Nat} {σ : gS} {own : String} {ret : Option FieldType}
variable {idx mL n cx ci : Nat} {y : MethodName} {C : String} {b : ByteArray} {rm : Room} {As : List Value} {fs : List Value}
/-- what a call's room must be -/
def gR (rm R : Room) (mL : Nat) : Prop := (rm.frames + 1 ≤ R.frames ∧ 8 + (mL + 11) + rm.locals ≤ R.locals) ∧ rm.cells = 0 ∧ rm.slots = 0
theorem g_after {mc ms : Nat} {g : JFrame} {Qa : State → Outcome → State → Prop} {Pq : Option Value → Heap → Prop} (hS : gSt G ent o N s σ H locs) (hr : va_Run p l e R s m args below meth c H locs cells slots 0 0 (F0 m pc ls st0) rest Qa (gA o N))
    (hq : ∀ (v : Option Value) (st t : State), st.heap = H → Qa st (.returned v) t → Pq v t.heap ∧ va_F (gA o N) st t)
    (kk : ∀ (v : Option Value) (H1 : Heap) (locs1 : List Loc), Pq v H1 → va_S (gA o N) s.heap H1 locs1 → W p l e R s m args below meth c H1 locs1 cells slots Q (F0 m (pc + 3) ls (v.toList ++ rest))) : W p l e R s m args below meth c H locs cells slots Q (F0 m pc ls st0) := by
  intro T hT X
  obtain ⟨v, st₀, t, T', L, h0, X', hL, e1, e2, hQ, st⟩ := hr T hT X
  obtain ⟨h1, hz, hk⟩ := hq v st₀ t h0 hQ
  rw [h0] at hz hk
  obtain ⟨t2, a1, b1⟩ := kk v T'.heap (locs ++ L) (by rw [e1]; exact h1) ⟨Nat.le_trans hS.2.1 (by rw [e1]; exact hz), fun q h2 h3 => by rw [e1, hk q (Nat.lt_of_lt_of_le h2 hS.2.1) h3]; exact hS.2.2.1 q h2 h3, fun q hq => by
      rcases List.mem_append.mp hq with h | h
      · exact hS.2.2.2 q h
      · exact hL q h⟩ T' rfl X'
  exact ⟨t2, st t2 a1, b1⟩
theorem g_callB (K : gK p s m args meth c G cc nL own ret) {ry : Option FieldType} (hcode : Cond.code y b mL ry ∈ gT) (hini : Cond.initialized y.cls ∈ gT) (hl : Cond.methodLink own idx y ∈ gT) (hd : y.cls ≠ "java/lang/invoke/MethodHandle" ∧ y.cls ≠ "java/lang/invoke/VarHandle" ∧ (parseMethodDescriptor y.desc).map (fun d => d.parameters.length) = some n) (hR : gR rm R mL) : CallB R s args own idx y b mL ry (gW y b mL ry) rm 0 0 n :=
  callB_of n K.2.2.2.2.1 (gW_in hcode) rfl hR.2.1 hR.2.2 (K.2.2.2.2.1 _ hini) (K.2.2.2.2.1 _ hl) hd hR.1
theorem g_preS (K : gK p s m args meth c G cc nL own ret) (hS : gSt G ent o N s σ H locs) : PreS s H (gPc G ent o N As σ) As := ⟨gPc_blind, fun U hU hW => ⟨rfl, by rw [hU]; exact hS.1, K.2.2.2.2.2.1.warm hW⟩⟩
theorem g_preV (K : gK p s m args meth c G cc nL own ret) (hS : gSt G ent o N s σ H locs) (he : ent cx (σ cx) = .inr (ci, fs)) (hc : cx < N) {T : u_T} {k : Nat} (hcl : gCls[ci]? = some (C, T, k)) : PreV s H C (o + cx) (gPc G ent o N (.ref (o + cx) :: As) σ) As := by
  refine ⟨gPc_blind, ?_, fun U hU hW => ⟨rfl, by rw [hU]; exact hS.1, K.2.2.2.2.2.1.warm hW⟩⟩
  exact va_recv (q := (C, T, k)) K.2.2.2.2.2.1.1 hS.1 hcl ((gL_get hc).trans (by rw [he]))
theorem g_runV {ry : Option FieldType} {Qc : Array Value → State → Outcome → State → Prop} (K : gK p s m args meth c G cc nL own ret) (hS : gSt G ent o N s σ H locs) (L : gMV own idx y C b mL ry n) (hM : Met l y (gW y b mL ry) rm (gPc G ent o N (.ref (o + cx) :: As) σ) Qc 0 0 (gA o N)) (he : ent cx (σ cx) = .inr (ci, fs)) (hc : cx < N) {T : u_T} {k : Nat} (hcl : gCls[ci]? = some (C, T, k)) (hn : As.length = n) (hst : st0 = As.reverse ++ .ref (o + cx) :: rest) (hw : (rest.map fun v => v.category).sum ≤ 8) (hR : gR rm R mL) (hls : ls.size = nL) (hcs : cells ≤ R.cells ∧ slots ≤ R.slots) (hd : decode cc pc = .ok (.invokevirtual idx, 3)) :
    va_Run p l e R s m args below meth c H locs cells slots 0 0 (F0 m pc ls st0) rest (Qc (Value.ref (o + cx) :: As).toArray) (gA o N) := by
  obtain ⟨h1, h2, h3, h4, h5, h6⟩ := L
  have K2 := K
  obtain ⟨hx, hb, hml, hown, hts, hE, hr, hlk⟩ := K
  exact va_runV (As := As) (rest := rest) ⟨hx, hb, hml, hown, hts⟩ hM ⟨g_callB K2 h5 h4 h1 h6 hR, hts _ h2, hts _ h3⟩ (g_preV K2 hS he hc hcl) rfl hn hls hst (lv_room (pc := pc) (ls := ls) (m := m) (rest := rest) hw) hd hcs
theorem g_runS {ry : Option FieldType} {Qc : Array Value → State → Outcome → State → Prop} (K : gK p s m args meth c G cc nL own ret) (hS : gSt G ent o N s σ H locs) (L : gMS own idx y b mL ry n) (hM : Met l y (gW y b mL ry) rm (gPc G ent o N As σ) Qc 0 0 (gA o N)) (hn : As.length = n) (hst : st0 = As.reverse ++ rest) (hw : (rest.map fun v => v.category).sum ≤ 8) (hR : gR rm R mL) (hls : ls.size = nL) (hcs : cells ≤ R.cells ∧ slots ≤ R.slots) (hd : decode cc pc = .ok (.invokestatic idx, 3)) :
    va_Run p l e R s m args below meth c H locs cells slots 0 0 (F0 m pc ls st0) rest (Qc As.toArray) (gA o N) := by
  obtain ⟨h1, h2, h4, h5, h6⟩ := L
  have K2 := K
  obtain ⟨hx, hb, hml, hown, hts, hE, hr, hlk⟩ := K
  exact va_runS (As := As) (rest := rest) ⟨hx, hb, hml, hown, hts⟩ hM ⟨g_callB K2 h5 h4 h1 h6 hR, hts _ h2⟩ (g_preS K2 hS) rfl hn hls hst (lv_room (pc := pc) (ls := ls) (m := m) (rest := rest) hw) hd hcs
theorem g_runN {ry : Option FieldType} {host : String} {Qc : Array Value → State → Outcome → State → Prop} (K : gK p s m args meth c G cc nL own ret) (hS : gSt G ent o N s σ H locs) (L : gMN own idx y host b mL ry n) (hM : Met l y (gW y b mL ry) rm (gPc G ent o N As σ) Qc 0 0 (gA o N)) (hn : As.length = n) (hst : st0 = As.reverse ++ rest) (hw : (rest.map fun v => v.category).sum ≤ 8) (hR : gR rm R mL) (hls : ls.size = nL) (hcs : cells ≤ R.cells ∧ slots ≤ R.slots) (hd : decode cc pc = .ok (.invokestatic idx, 3)) :
    va_Run p l e R s m args below meth c H locs cells slots 0 0 (F0 m pc ls st0) rest (Qc As.toArray) (gA o N) := by
  obtain ⟨h1, h2, h4, h5, h6⟩ := L
  have K2 := K
  obtain ⟨hx, hb, hml, hown, hts, hE, hr, hlk⟩ := K
  exact va_runSN (As := As) (rest := rest) ⟨hx, hb, hml, hown, hts⟩ hM ⟨va_cnB n hts (gW_in h5) rfl hR.2.1 hR.2.2 (hE.2 _ h1) (hts _ h4) h6 hR.1, hts _ h2, trivial⟩ (g_preS K2 hS) rfl hn hls hst (lv_room (pc := pc) (ls := ls) (m := m) (rest := rest) hw) hd hcs
/-- behind a call whose answer is an int, and behind one without -/
theorem g_goi {a : Array Value} {q : Int32 × gS} (hS : gSt G ent o N s σ H locs) (hr : va_Run p l e R s m args below meth c H locs cells slots 0 0 (F0 m pc ls st0) rest (gQi G ent o N q a) (gA o N))
    (kk : ∀ (H1 : Heap) (locs1 : List Loc), gSt G ent o N s q.2 H1 locs1 → W p l e R s m args below meth c H1 locs1 cells slots Q (F0 m (pc + 3) ls (.int q.1 :: rest))) : W p l e R s m args below meth c H locs cells slots Q (F0 m pc ls st0) := by
  refine g_after (g := F0 m pc ls st0) (mc := 0) (ms := 0) (Pq := fun v H => v = some (.int q.1) ∧ gP G ent o N q.2 H) hS hr (fun v st t h0 h => ⟨⟨Outcome.returned.inj h.1.1, h.1.2⟩, h.2⟩) (fun v H1 locs1 h hs => ?_)
  obtain ⟨rfl, h2⟩ := h
  exact kk H1 locs1 ⟨h2, hs⟩
theorem g_gov {a : Array Value} {q : gS} (hS : gSt G ent o N s σ H locs) (hr : va_Run p l e R s m args below meth c H locs cells slots 0 0 (F0 m pc ls st0) rest (gQv G ent o N q a) (gA o N))
    (kk : ∀ (H1 : Heap) (locs1 : List Loc), gSt G ent o N s q H1 locs1 → W p l e R s m args below meth c H1 locs1 cells slots Q (F0 m (pc + 3) ls rest)) : W p l e R s m args below meth c H locs cells slots Q (F0 m pc ls st0) := by
  refine g_after (g := F0 m pc ls st0) (mc := 0) (ms := 0) (Pq := fun v H => v = none ∧ gP G ent o N q H) hS hr (fun v st t h0 h => ⟨⟨Outcome.returned.inj h.1.1, h.1.2⟩, h.2⟩) (fun v H1 locs1 h hs => ?_)
  obtain ⟨rfl, h2⟩ := h
  exact kk H1 locs1 ⟨h2, hs⟩
theorem g_Vi {q : Int32 × gS} {ry : Option FieldType} (K : gK p s m args meth c G cc nL own ret) (hS : gSt G ent o N s σ H locs) (L : gMV own idx y C b mL ry n) (hM : Met l y (gW y b mL ry) rm (gPc G ent o N (.ref (o + cx) :: As) σ) (gQi G ent o N q) 0 0 (gA o N)) (he : ent cx (σ cx) = .inr (ci, fs)) (hc : cx < N) {T : u_T} {k : Nat} (hcl : gCls[ci]? = some (C, T, k)) (hn : As.length = n) (hst : st0 = As.reverse ++ .ref (o + cx) :: rest) (hw : (rest.map fun v => v.category).sum ≤ 8) (hR : gR rm R mL) (hls : ls.size = nL) (hcs : cells ≤ R.cells ∧ slots ≤ R.slots) (hd : decode cc pc = .ok (.invokevirtual idx, 3))
    (kk : ∀ (H1 : Heap) (locs1 : List Loc), gSt G ent o N s q.2 H1 locs1 → W p l e R s m args below meth c H1 locs1 cells slots Q (F0 m (pc + 3) ls (.int q.1 :: rest))) : W p l e R s m args below meth c H locs cells slots Q (F0 m pc ls st0) :=
  g_goi hS (g_runV K hS L hM he hc hcl hn hst hw hR hls hcs hd) kk
theorem g_Vv {q : gS} {ry : Option FieldType} (K : gK p s m args meth c G cc nL own ret) (hS : gSt G ent o N s σ H locs) (L : gMV own idx y C b mL ry n) (hM : Met l y (gW y b mL ry) rm (gPc G ent o N (.ref (o + cx) :: As) σ) (gQv G ent o N q) 0 0 (gA o N)) (he : ent cx (σ cx) = .inr (ci, fs)) (hc : cx < N) {T : u_T} {k : Nat} (hcl : gCls[ci]? = some (C, T, k)) (hn : As.length = n) (hst : st0 = As.reverse ++ .ref (o + cx) :: rest) (hw : (rest.map fun v => v.category).sum ≤ 8) (hR : gR rm R mL) (hls : ls.size = nL) (hcs : cells ≤ R.cells ∧ slots ≤ R.slots) (hd : decode cc pc = .ok (.invokevirtual idx, 3))
    (kk : ∀ (H1 : Heap) (locs1 : List Loc), gSt G ent o N s q H1 locs1 → W p l e R s m args below meth c H1 locs1 cells slots Q (F0 m (pc + 3) ls rest)) : W p l e R s m args below meth c H locs cells slots Q (F0 m pc ls st0) :=
  g_gov hS (g_runV K hS L hM he hc hcl hn hst hw hR hls hcs hd) kk
theorem g_Si {q : Int32 × gS} {ry : Option FieldType} (K : gK p s m args meth c G cc nL own ret) (hS : gSt G ent o N s σ H locs) (L : gMS own idx y b mL ry n) (hM : Met l y (gW y b mL ry) rm (gPc G ent o N As σ) (gQi G ent o N q) 0 0 (gA o N)) (hn : As.length = n) (hst : st0 = As.reverse ++ rest) (hw : (rest.map fun v => v.category).sum ≤ 8) (hR : gR rm R mL) (hls : ls.size = nL) (hcs : cells ≤ R.cells ∧ slots ≤ R.slots) (hd : decode cc pc = .ok (.invokestatic idx, 3))
    (kk : ∀ (H1 : Heap) (locs1 : List Loc), gSt G ent o N s q.2 H1 locs1 → W p l e R s m args below meth c H1 locs1 cells slots Q (F0 m (pc + 3) ls (.int q.1 :: rest))) : W p l e R s m args below meth c H locs cells slots Q (F0 m pc ls st0) :=
  g_goi hS (g_runS K hS L hM hn hst hw hR hls hcs hd) kk
theorem g_Ni {q : Int32 × gS} {host : String} {ry : Option FieldType} (K : gK p s m args meth c G cc nL own ret) (hS : gSt G ent o N s σ H locs) (L : gMN own idx y host b mL ry n) (hM : Met l y (gW y b mL ry) rm (gPc G ent o N As σ) (gQi G ent o N q) 0 0 (gA o N)) (hn : As.length = n) (hst : st0 = As.reverse ++ rest) (hw : (rest.map fun v => v.category).sum ≤ 8) (hR : gR rm R mL) (hls : ls.size = nL) (hcs : cells ≤ R.cells ∧ slots ≤ R.slots) (hd : decode cc pc = .ok (.invokestatic idx, 3))
    (kk : ∀ (H1 : Heap) (locs1 : List Loc), gSt G ent o N s q.2 H1 locs1 → W p l e R s m args below meth c H1 locs1 cells slots Q (F0 m (pc + 3) ls (.int q.1 :: rest))) : W p l e R s m args below meth c H locs cells slots Q (F0 m pc ls st0) :=
  g_goi hS (g_runN K hS L hM hn hst hw hR hls hcs hd) kk
/-- a method's contract out of a walk of its body -/
theorem g_met {av : List Value} {Qc : Array Value → State → Outcome → State → Prop} {ry : Option FieldType} (hy : plainName y.cls = true) (hrm : rm.cells = 0 ∧ rm.slots = 0)
    (body : ∀ (p : Program) (e : Env) (s : State) (m : MethodId) (args : Array Value) (below : List Frame) (meth : Method) (c : Code) (ls : Array Slot), gK p s m args meth c G b mL y.cls ry → gSt G ent o N s σ s.heap [] → lv_has ls mL (lv_args 0 av) → W p l e rm s m args below meth c s.heap [] 0 0 (MQ below Qc args s 0 0 (gA o N)) (F0 m 0 ls []))
    (hav : (lg_sl av).length ≤ mL) : Met l y (gW y b mL ry) rm (gPc G ent o N av σ) Qc 0 0 (gA o N) := by
  refine Met.ofW (cc := b) (maxL := mL) (ret := ry) hy rfl ?_
  intro p e s m args below meth c s₁ B hml hv
  obtain ⟨rfl, hP, hE⟩ := hv
  have hts := atoms_spec (ws := gW y b mL ry) B.pre
  have hown : s.vm.findClass y.cls = some m.cls := findClass_of_methodNamed B.named
  have K : gK p s m av.toArray meth c G b mL y.cls ry := ⟨B.exec, B.bytes, hml, hown, fun w hw => hts w (List.mem_cons_of_mem _ hw), hE, B.returns, B.notSynchronized⟩
  have hl := lv_entry av hav
  rw [lg_entry_eq]
  exact body p e s m _ below meth c _ K ⟨hP, va_S.rf⟩ hl
end GC
end
section
def eAt (G : gG) (o b j : Nat) (f : Nat → Int32) : va_E := match j with
  | 0 => .inr (0, [.int (f 0), .int (f 1), .ref (o + (b + 1)), .ref (o + (b + 3)), .ref (o + (b + 16)), .ref (o + (b + 23))])
  | 1 => .inr (5, [.ref (o + (b + 2))])
  | 2 => .inl (G.2 0, 2, .inl f)
  | 3 => .inr (1, [.int (f 0), .ref (o + (b + 4)), .ref (o + (b + 6)), .ref (o + (b + 8)), .ref (o + (b + 10)), .ref (o + (b + 12)), .ref (o + (b + 14))])
  | 4 => .inr (5, [.ref (o + (b + 5))])
  | 5 => .inl (G.2 0, 20, .inl f)
  | 6 => .inr (5, [.ref (o + (b + 7))])
  | 7 => .inl (G.2 0, 20, .inl f)
  | 8 => .inr (5, [.ref (o + (b + 9))])
  | 9 => .inl (G.2 0, 20, .inl f)
  | 10 => .inr (5, [.ref (o + (b + 11))])
  | 11 => .inl (G.2 0, 20, .inl f)
  | 12 => .inr (5, [.ref (o + (b + 13))])
  | 13 => .inl (G.2 0, 20, .inl f)
  | 14 => .inr (5, [.ref (o + (b + 15))])
  | 15 => .inl (G.2 0, 20, .inl f)
  | 16 => .inr (2, [.ref (o + (b + 17)), .ref (o + (b + 19)), .ref (o + (b + 21))])
  | 17 => .inr (5, [.ref (o + (b + 18))])
  | 18 => .inl (G.2 0, 4, .inl f)
  | 19 => .inr (5, [.ref (o + (b + 20))])
  | 20 => .inl (G.2 0, 4, .inl f)
  | 21 => .inr (5, [.ref (o + (b + 22))])
  | 22 => .inl (G.2 0, 4, .inl f)
  | 23 => .inr (7, [.int (f 0), .ref (o + (b + 24)), .ref (o + (b + 26)), .ref (o + (b + 28)), .ref (o + (b + 30))])
  | 24 => .inr (5, [.ref (o + (b + 25))])
  | 25 => .inl (G.2 0, 5, .inl f)
  | 26 => .inr (5, [.ref (o + (b + 27))])
  | 27 => .inl (G.2 0, 5, .inl f)
  | 28 => .inr (5, [.ref (o + (b + 29))])
  | 29 => .inl (G.2 0, 5, .inl f)
  | 30 => .inr (5, [.ref (o + (b + 31))])
  | _ => .inl (G.2 0, 5, .inl f)
def entX (G : gG) (o c : Nat) (f : Nat → Int32) : va_E := if c = 0 then .inr (9, [.ref (o + 1), .ref (o + 33), .ref (o + 36), .ref (o + 231), .int (f 4), .ref (o + 297)]) else if c < 33 then eAt G o 1 (c - 1) f
  else if c < 39 then (match c - 33 with
    | 0 => .inr (4, [.int (f 0), .ref (o + 34)])
    | 1 => .inr (5, [.ref (o + 35)])
    | 2 => .inl (G.2 0, 60, .inl f)
    | 3 => .inr (3, [.ref (o + 37), .int (f 1), .int (f 2)])
    | 4 => .inr (6, [.ref (o + 38)])
    | _ => .inl (G.2 1, 6, .inr (.inr (.inr (.inr (fun i => some (o + (39 + 32 * i)))))))
  ) else if c < 231 then eAt G o (39 + (c - 39) / 32 * 32) ((c - 39) % 32) f
  else if c < 233 then (match c - 231 with
    | 0 => .inr (6, [.ref (o + 232)])
    | _ => .inl (G.2 1, 2, .inr (.inr (.inr (.inr (fun i => some (o + (233 + 32 * i)))))))
  ) else if c < 297 then eAt G o (233 + (c - 233) / 32 * 32) ((c - 233) % 32) f
  else (match c - 297 with
    | 0 => .inr (8, [.ref (o + 298), .ref (o + 300), .int (f 2), .int (f 3), .int (f 4)])
    | 1 => .inr (5, [.ref (o + 299)])
    | 2 => .inl (G.2 0, 10, .inl f)
    | 3 => .inr (5, [.ref (o + 301)])
    | _ => .inl (G.2 0, 10, .inl f)
  )
theorem eX_0 (G : gG) (o : Nat) : ∀ f, entX G o 0 f = .inr (9, [.ref (o + 1), .ref (o + 33), .ref (o + 36), .ref (o + 231), .int (f 4), .ref (o + 297)]) := fun _ => rfl
theorem eX_1 (G : gG) (o : Nat) : ∀ f, entX G o 1 f = .inr (0, [.int (f 0), .int (f 1), .ref (o + 2), .ref (o + 4), .ref (o + 17), .ref (o + 24)]) := fun _ => rfl
theorem eX_2 (G : gG) (o : Nat) : ∀ f, entX G o 2 f = .inr (5, [.ref (o + 3)]) := fun _ => rfl
theorem eX_3 (G : gG) (o : Nat) : ∀ f, entX G o 3 f = .inl (G.2 0, 2, .inl f) := fun _ => rfl
theorem eX_4 (G : gG) (o : Nat) : ∀ f, entX G o 4 f = .inr (1, [.int (f 0), .ref (o + 5), .ref (o + 7), .ref (o + 9), .ref (o + 11), .ref (o + 13), .ref (o + 15)]) := fun _ => rfl
theorem eX_5 (G : gG) (o : Nat) : ∀ f, entX G o 5 f = .inr (5, [.ref (o + 6)]) := fun _ => rfl
theorem eX_6 (G : gG) (o : Nat) : ∀ f, entX G o 6 f = .inl (G.2 0, 20, .inl f) := fun _ => rfl
theorem eX_7 (G : gG) (o : Nat) : ∀ f, entX G o 7 f = .inr (5, [.ref (o + 8)]) := fun _ => rfl
theorem eX_8 (G : gG) (o : Nat) : ∀ f, entX G o 8 f = .inl (G.2 0, 20, .inl f) := fun _ => rfl
theorem eX_9 (G : gG) (o : Nat) : ∀ f, entX G o 9 f = .inr (5, [.ref (o + 10)]) := fun _ => rfl
theorem eX_10 (G : gG) (o : Nat) : ∀ f, entX G o 10 f = .inl (G.2 0, 20, .inl f) := fun _ => rfl
theorem eX_11 (G : gG) (o : Nat) : ∀ f, entX G o 11 f = .inr (5, [.ref (o + 12)]) := fun _ => rfl
theorem eX_12 (G : gG) (o : Nat) : ∀ f, entX G o 12 f = .inl (G.2 0, 20, .inl f) := fun _ => rfl
theorem eX_13 (G : gG) (o : Nat) : ∀ f, entX G o 13 f = .inr (5, [.ref (o + 14)]) := fun _ => rfl
theorem eX_14 (G : gG) (o : Nat) : ∀ f, entX G o 14 f = .inl (G.2 0, 20, .inl f) := fun _ => rfl
theorem eX_15 (G : gG) (o : Nat) : ∀ f, entX G o 15 f = .inr (5, [.ref (o + 16)]) := fun _ => rfl
theorem eX_16 (G : gG) (o : Nat) : ∀ f, entX G o 16 f = .inl (G.2 0, 20, .inl f) := fun _ => rfl
theorem eX_17 (G : gG) (o : Nat) : ∀ f, entX G o 17 f = .inr (2, [.ref (o + 18), .ref (o + 20), .ref (o + 22)]) := fun _ => rfl
theorem eX_18 (G : gG) (o : Nat) : ∀ f, entX G o 18 f = .inr (5, [.ref (o + 19)]) := fun _ => rfl
theorem eX_19 (G : gG) (o : Nat) : ∀ f, entX G o 19 f = .inl (G.2 0, 4, .inl f) := fun _ => rfl
theorem eX_20 (G : gG) (o : Nat) : ∀ f, entX G o 20 f = .inr (5, [.ref (o + 21)]) := fun _ => rfl
theorem eX_21 (G : gG) (o : Nat) : ∀ f, entX G o 21 f = .inl (G.2 0, 4, .inl f) := fun _ => rfl
theorem eX_22 (G : gG) (o : Nat) : ∀ f, entX G o 22 f = .inr (5, [.ref (o + 23)]) := fun _ => rfl
theorem eX_23 (G : gG) (o : Nat) : ∀ f, entX G o 23 f = .inl (G.2 0, 4, .inl f) := fun _ => rfl
theorem eX_24 (G : gG) (o : Nat) : ∀ f, entX G o 24 f = .inr (7, [.int (f 0), .ref (o + 25), .ref (o + 27), .ref (o + 29), .ref (o + 31)]) := fun _ => rfl
theorem eX_25 (G : gG) (o : Nat) : ∀ f, entX G o 25 f = .inr (5, [.ref (o + 26)]) := fun _ => rfl
theorem eX_26 (G : gG) (o : Nat) : ∀ f, entX G o 26 f = .inl (G.2 0, 5, .inl f) := fun _ => rfl
theorem eX_27 (G : gG) (o : Nat) : ∀ f, entX G o 27 f = .inr (5, [.ref (o + 28)]) := fun _ => rfl
theorem eX_28 (G : gG) (o : Nat) : ∀ f, entX G o 28 f = .inl (G.2 0, 5, .inl f) := fun _ => rfl
theorem eX_29 (G : gG) (o : Nat) : ∀ f, entX G o 29 f = .inr (5, [.ref (o + 30)]) := fun _ => rfl
theorem eX_30 (G : gG) (o : Nat) : ∀ f, entX G o 30 f = .inl (G.2 0, 5, .inl f) := fun _ => rfl
theorem eX_31 (G : gG) (o : Nat) : ∀ f, entX G o 31 f = .inr (5, [.ref (o + 32)]) := fun _ => rfl
theorem eX_32 (G : gG) (o : Nat) : ∀ f, entX G o 32 f = .inl (G.2 0, 5, .inl f) := fun _ => rfl
theorem eX_33 (G : gG) (o : Nat) : ∀ f, entX G o 33 f = .inr (4, [.int (f 0), .ref (o + 34)]) := fun _ => rfl
theorem eX_34 (G : gG) (o : Nat) : ∀ f, entX G o 34 f = .inr (5, [.ref (o + 35)]) := fun _ => rfl
theorem eX_35 (G : gG) (o : Nat) : ∀ f, entX G o 35 f = .inl (G.2 0, 60, .inl f) := fun _ => rfl
theorem eX_36 (G : gG) (o : Nat) : ∀ f, entX G o 36 f = .inr (3, [.ref (o + 37), .int (f 1), .int (f 2)]) := fun _ => rfl
theorem eX_37 (G : gG) (o : Nat) : ∀ f, entX G o 37 f = .inr (6, [.ref (o + 38)]) := fun _ => rfl
theorem eX_38 (G : gG) (o : Nat) : ∀ f, entX G o 38 f = .inl (G.2 1, 6, .inr (.inr (.inr (.inr (fun i => some (o + (39 + 32 * i))))))) := fun _ => rfl
theorem eX_231 (G : gG) (o : Nat) : ∀ f, entX G o 231 f = .inr (6, [.ref (o + 232)]) := fun _ => rfl
theorem eX_232 (G : gG) (o : Nat) : ∀ f, entX G o 232 f = .inl (G.2 1, 2, .inr (.inr (.inr (.inr (fun i => some (o + (233 + 32 * i))))))) := fun _ => rfl
theorem eX_297 (G : gG) (o : Nat) : ∀ f, entX G o 297 f = .inr (8, [.ref (o + 298), .ref (o + 300), .int (f 2), .int (f 3), .int (f 4)]) := fun _ => rfl
theorem eX_298 (G : gG) (o : Nat) : ∀ f, entX G o 298 f = .inr (5, [.ref (o + 299)]) := fun _ => rfl
theorem eX_299 (G : gG) (o : Nat) : ∀ f, entX G o 299 f = .inl (G.2 0, 10, .inl f) := fun _ => rfl
theorem eX_300 (G : gG) (o : Nat) : ∀ f, entX G o 300 f = .inr (5, [.ref (o + 301)]) := fun _ => rfl
theorem eX_301 (G : gG) (o : Nat) : ∀ f, entX G o 301 f = .inl (G.2 0, 10, .inl f) := fun _ => rfl
/-- where an attic stands -/
def gIsAt (b : Nat) : Prop := b = 1 ∨ (∃ i, i < 6 ∧ b = 39 + 32 * i) ∨ ∃ i, i < 2 ∧ b = 233 + 32 * i
theorem eA_all (G : gG) (o : Nat) {b : Nat} (hb : gIsAt b) (k : Nat) (hk : k < 32) (f : Nat → Int32) : entX G o (b + k) f = eAt G o b k f := by
  rcases hb with rfl | ⟨i, hi, rfl⟩ | ⟨i, hi, rfl⟩
  · unfold entX
    rw [if_neg (by omega), if_pos (by omega), show 1 + k - 1 = k by omega]
  · unfold entX
    rw [if_neg (by omega), if_neg (by omega), if_neg (by omega), if_pos (by omega), show 39 + (39 + 32 * i + k - 39) / 32 * 32 = 39 + 32 * i by omega, show (39 + 32 * i + k - 39) % 32 = k by omega]
  · unfold entX
    rw [if_neg (by omega), if_neg (by omega), if_neg (by omega), if_neg (by omega), if_neg (by omega), if_pos (by omega), show 233 + (233 + 32 * i + k - 233) / 32 * 32 = 233 + 32 * i by omega, show (233 + 32 * i + k - 233) % 32 = k by omega]
theorem eA_lt {b : Nat} (hb : gIsAt b) (k : Nat) (hk : k < 32) : b + k < 302 := by
  rcases hb with rfl | ⟨i, hi, rfl⟩ | ⟨i, hi, rfl⟩ <;> omega
theorem eA_0 (G : gG) (o : Nat) {b : Nat} (hb : gIsAt b) : ∀ f, entX G o b f = .inr (0, [.int (f 0), .int (f 1), .ref (o + (b + 1)), .ref (o + (b + 3)), .ref (o + (b + 16)), .ref (o + (b + 23))]) := fun f => eA_all G o hb 0 (by decide) f
theorem eA_1 (G : gG) (o : Nat) {b : Nat} (hb : gIsAt b) : ∀ f, entX G o (b + 1) f = .inr (5, [.ref (o + (b + 2))]) := fun f => eA_all G o hb 1 (by decide) f
theorem eA_2 (G : gG) (o : Nat) {b : Nat} (hb : gIsAt b) : ∀ f, entX G o (b + 2) f = .inl (G.2 0, 2, .inl f) := fun f => eA_all G o hb 2 (by decide) f
theorem eA_3 (G : gG) (o : Nat) {b : Nat} (hb : gIsAt b) : ∀ f, entX G o (b + 3) f = .inr (1, [.int (f 0), .ref (o + (b + 4)), .ref (o + (b + 6)), .ref (o + (b + 8)), .ref (o + (b + 10)), .ref (o + (b + 12)), .ref (o + (b + 14))]) := fun f => eA_all G o hb 3 (by decide) f
theorem eA_4 (G : gG) (o : Nat) {b : Nat} (hb : gIsAt b) : ∀ f, entX G o (b + 4) f = .inr (5, [.ref (o + (b + 5))]) := fun f => eA_all G o hb 4 (by decide) f
theorem eA_5 (G : gG) (o : Nat) {b : Nat} (hb : gIsAt b) : ∀ f, entX G o (b + 5) f = .inl (G.2 0, 20, .inl f) := fun f => eA_all G o hb 5 (by decide) f
theorem eA_6 (G : gG) (o : Nat) {b : Nat} (hb : gIsAt b) : ∀ f, entX G o (b + 6) f = .inr (5, [.ref (o + (b + 7))]) := fun f => eA_all G o hb 6 (by decide) f
theorem eA_7 (G : gG) (o : Nat) {b : Nat} (hb : gIsAt b) : ∀ f, entX G o (b + 7) f = .inl (G.2 0, 20, .inl f) := fun f => eA_all G o hb 7 (by decide) f
theorem eA_8 (G : gG) (o : Nat) {b : Nat} (hb : gIsAt b) : ∀ f, entX G o (b + 8) f = .inr (5, [.ref (o + (b + 9))]) := fun f => eA_all G o hb 8 (by decide) f
theorem eA_9 (G : gG) (o : Nat) {b : Nat} (hb : gIsAt b) : ∀ f, entX G o (b + 9) f = .inl (G.2 0, 20, .inl f) := fun f => eA_all G o hb 9 (by decide) f
theorem eA_10 (G : gG) (o : Nat) {b : Nat} (hb : gIsAt b) : ∀ f, entX G o (b + 10) f = .inr (5, [.ref (o + (b + 11))]) := fun f => eA_all G o hb 10 (by decide) f
theorem eA_11 (G : gG) (o : Nat) {b : Nat} (hb : gIsAt b) : ∀ f, entX G o (b + 11) f = .inl (G.2 0, 20, .inl f) := fun f => eA_all G o hb 11 (by decide) f
theorem eA_12 (G : gG) (o : Nat) {b : Nat} (hb : gIsAt b) : ∀ f, entX G o (b + 12) f = .inr (5, [.ref (o + (b + 13))]) := fun f => eA_all G o hb 12 (by decide) f
theorem eA_13 (G : gG) (o : Nat) {b : Nat} (hb : gIsAt b) : ∀ f, entX G o (b + 13) f = .inl (G.2 0, 20, .inl f) := fun f => eA_all G o hb 13 (by decide) f
theorem eA_14 (G : gG) (o : Nat) {b : Nat} (hb : gIsAt b) : ∀ f, entX G o (b + 14) f = .inr (5, [.ref (o + (b + 15))]) := fun f => eA_all G o hb 14 (by decide) f
theorem eA_15 (G : gG) (o : Nat) {b : Nat} (hb : gIsAt b) : ∀ f, entX G o (b + 15) f = .inl (G.2 0, 20, .inl f) := fun f => eA_all G o hb 15 (by decide) f
theorem eA_16 (G : gG) (o : Nat) {b : Nat} (hb : gIsAt b) : ∀ f, entX G o (b + 16) f = .inr (2, [.ref (o + (b + 17)), .ref (o + (b + 19)), .ref (o + (b + 21))]) := fun f => eA_all G o hb 16 (by decide) f
theorem eA_17 (G : gG) (o : Nat) {b : Nat} (hb : gIsAt b) : ∀ f, entX G o (b + 17) f = .inr (5, [.ref (o + (b + 18))]) := fun f => eA_all G o hb 17 (by decide) f
theorem eA_18 (G : gG) (o : Nat) {b : Nat} (hb : gIsAt b) : ∀ f, entX G o (b + 18) f = .inl (G.2 0, 4, .inl f) := fun f => eA_all G o hb 18 (by decide) f
theorem eA_19 (G : gG) (o : Nat) {b : Nat} (hb : gIsAt b) : ∀ f, entX G o (b + 19) f = .inr (5, [.ref (o + (b + 20))]) := fun f => eA_all G o hb 19 (by decide) f
theorem eA_20 (G : gG) (o : Nat) {b : Nat} (hb : gIsAt b) : ∀ f, entX G o (b + 20) f = .inl (G.2 0, 4, .inl f) := fun f => eA_all G o hb 20 (by decide) f
theorem eA_21 (G : gG) (o : Nat) {b : Nat} (hb : gIsAt b) : ∀ f, entX G o (b + 21) f = .inr (5, [.ref (o + (b + 22))]) := fun f => eA_all G o hb 21 (by decide) f
theorem eA_22 (G : gG) (o : Nat) {b : Nat} (hb : gIsAt b) : ∀ f, entX G o (b + 22) f = .inl (G.2 0, 4, .inl f) := fun f => eA_all G o hb 22 (by decide) f
theorem eA_23 (G : gG) (o : Nat) {b : Nat} (hb : gIsAt b) : ∀ f, entX G o (b + 23) f = .inr (7, [.int (f 0), .ref (o + (b + 24)), .ref (o + (b + 26)), .ref (o + (b + 28)), .ref (o + (b + 30))]) := fun f => eA_all G o hb 23 (by decide) f
theorem eA_24 (G : gG) (o : Nat) {b : Nat} (hb : gIsAt b) : ∀ f, entX G o (b + 24) f = .inr (5, [.ref (o + (b + 25))]) := fun f => eA_all G o hb 24 (by decide) f
theorem eA_25 (G : gG) (o : Nat) {b : Nat} (hb : gIsAt b) : ∀ f, entX G o (b + 25) f = .inl (G.2 0, 5, .inl f) := fun f => eA_all G o hb 25 (by decide) f
theorem eA_26 (G : gG) (o : Nat) {b : Nat} (hb : gIsAt b) : ∀ f, entX G o (b + 26) f = .inr (5, [.ref (o + (b + 27))]) := fun f => eA_all G o hb 26 (by decide) f
theorem eA_27 (G : gG) (o : Nat) {b : Nat} (hb : gIsAt b) : ∀ f, entX G o (b + 27) f = .inl (G.2 0, 5, .inl f) := fun f => eA_all G o hb 27 (by decide) f
theorem eA_28 (G : gG) (o : Nat) {b : Nat} (hb : gIsAt b) : ∀ f, entX G o (b + 28) f = .inr (5, [.ref (o + (b + 29))]) := fun f => eA_all G o hb 28 (by decide) f
theorem eA_29 (G : gG) (o : Nat) {b : Nat} (hb : gIsAt b) : ∀ f, entX G o (b + 29) f = .inl (G.2 0, 5, .inl f) := fun f => eA_all G o hb 29 (by decide) f
theorem eA_30 (G : gG) (o : Nat) {b : Nat} (hb : gIsAt b) : ∀ f, entX G o (b + 30) f = .inr (5, [.ref (o + (b + 31))]) := fun f => eA_all G o hb 30 (by decide) f
theorem eA_31 (G : gG) (o : Nat) {b : Nat} (hb : gIsAt b) : ∀ f, entX G o (b + 31) f = .inl (G.2 0, 5, .inl f) := fun f => eA_all G o hb 31 (by decide) f
theorem gIsAt_1 : gIsAt 1 := Or.inl rfl
theorem gin_lt {i : Int32} {n : Nat} (h : gin i n = true) : gil i < n := by
  have := of_decide_eq_true h
  show i.toInt.toNat < n
  omega
theorem gIsAt_37 {i : Int32} (h : gin i 6 = true) : gIsAt (39 + 32 * gil i) := Or.inr (Or.inl ⟨gil i, gin_lt h, rfl⟩)
theorem gIsAt_231 {i : Int32} (h : gin i 2 = true) : gIsAt (233 + 32 * gil i) := Or.inr (Or.inr ⟨gil i, gin_lt h, rfl⟩)
/-- where a row stands: its array behind it, of length L -/
def gRow (G : gG) (o r L : Nat) : Prop := (∀ f, entX G o r f = .inr (5, [.ref (o + (r + 1))])) ∧ (∀ f, entX G o (r + 1) f = .inl (G.2 0, L, .inl f)) ∧ r < 302 ∧ r + 1 < 302
theorem gRow_2 (G : gG) (o : Nat) : gRow G o 2 2 := ⟨eX_2 G o, eX_3 G o, by decide, by decide⟩
theorem gRow_5 (G : gG) (o : Nat) : gRow G o 5 20 := ⟨eX_5 G o, eX_6 G o, by decide, by decide⟩
theorem gRow_7 (G : gG) (o : Nat) : gRow G o 7 20 := ⟨eX_7 G o, eX_8 G o, by decide, by decide⟩
theorem gRow_9 (G : gG) (o : Nat) : gRow G o 9 20 := ⟨eX_9 G o, eX_10 G o, by decide, by decide⟩
theorem gRow_11 (G : gG) (o : Nat) : gRow G o 11 20 := ⟨eX_11 G o, eX_12 G o, by decide, by decide⟩
theorem gRow_13 (G : gG) (o : Nat) : gRow G o 13 20 := ⟨eX_13 G o, eX_14 G o, by decide, by decide⟩
theorem gRow_15 (G : gG) (o : Nat) : gRow G o 15 20 := ⟨eX_15 G o, eX_16 G o, by decide, by decide⟩
theorem gRow_18 (G : gG) (o : Nat) : gRow G o 18 4 := ⟨eX_18 G o, eX_19 G o, by decide, by decide⟩
theorem gRow_20 (G : gG) (o : Nat) : gRow G o 20 4 := ⟨eX_20 G o, eX_21 G o, by decide, by decide⟩
theorem gRow_22 (G : gG) (o : Nat) : gRow G o 22 4 := ⟨eX_22 G o, eX_23 G o, by decide, by decide⟩
theorem gRow_25 (G : gG) (o : Nat) : gRow G o 25 5 := ⟨eX_25 G o, eX_26 G o, by decide, by decide⟩
theorem gRow_27 (G : gG) (o : Nat) : gRow G o 27 5 := ⟨eX_27 G o, eX_28 G o, by decide, by decide⟩
theorem gRow_29 (G : gG) (o : Nat) : gRow G o 29 5 := ⟨eX_29 G o, eX_30 G o, by decide, by decide⟩
theorem gRow_31 (G : gG) (o : Nat) : gRow G o 31 5 := ⟨eX_31 G o, eX_32 G o, by decide, by decide⟩
theorem gRow_34 (G : gG) (o : Nat) : gRow G o 34 60 := ⟨eX_34 G o, eX_35 G o, by decide, by decide⟩
theorem gRow_298 (G : gG) (o : Nat) : gRow G o 298 10 := ⟨eX_298 G o, eX_299 G o, by decide, by decide⟩
theorem gRow_300 (G : gG) (o : Nat) : gRow G o 300 10 := ⟨eX_300 G o, eX_301 G o, by decide, by decide⟩
theorem gRowA_1 (G : gG) (o : Nat) {b : Nat} (hb : gIsAt b) : gRow G o (b + 1) 2 := ⟨eA_1 G o hb, eA_2 G o hb, eA_lt hb 1 (by decide), eA_lt hb 2 (by decide)⟩
theorem gRowA_4 (G : gG) (o : Nat) {b : Nat} (hb : gIsAt b) : gRow G o (b + 4) 20 := ⟨eA_4 G o hb, eA_5 G o hb, eA_lt hb 4 (by decide), eA_lt hb 5 (by decide)⟩
theorem gRowA_6 (G : gG) (o : Nat) {b : Nat} (hb : gIsAt b) : gRow G o (b + 6) 20 := ⟨eA_6 G o hb, eA_7 G o hb, eA_lt hb 6 (by decide), eA_lt hb 7 (by decide)⟩
theorem gRowA_8 (G : gG) (o : Nat) {b : Nat} (hb : gIsAt b) : gRow G o (b + 8) 20 := ⟨eA_8 G o hb, eA_9 G o hb, eA_lt hb 8 (by decide), eA_lt hb 9 (by decide)⟩
theorem gRowA_10 (G : gG) (o : Nat) {b : Nat} (hb : gIsAt b) : gRow G o (b + 10) 20 := ⟨eA_10 G o hb, eA_11 G o hb, eA_lt hb 10 (by decide), eA_lt hb 11 (by decide)⟩
theorem gRowA_12 (G : gG) (o : Nat) {b : Nat} (hb : gIsAt b) : gRow G o (b + 12) 20 := ⟨eA_12 G o hb, eA_13 G o hb, eA_lt hb 12 (by decide), eA_lt hb 13 (by decide)⟩
theorem gRowA_14 (G : gG) (o : Nat) {b : Nat} (hb : gIsAt b) : gRow G o (b + 14) 20 := ⟨eA_14 G o hb, eA_15 G o hb, eA_lt hb 14 (by decide), eA_lt hb 15 (by decide)⟩
theorem gRowA_17 (G : gG) (o : Nat) {b : Nat} (hb : gIsAt b) : gRow G o (b + 17) 4 := ⟨eA_17 G o hb, eA_18 G o hb, eA_lt hb 17 (by decide), eA_lt hb 18 (by decide)⟩
theorem gRowA_19 (G : gG) (o : Nat) {b : Nat} (hb : gIsAt b) : gRow G o (b + 19) 4 := ⟨eA_19 G o hb, eA_20 G o hb, eA_lt hb 19 (by decide), eA_lt hb 20 (by decide)⟩
theorem gRowA_21 (G : gG) (o : Nat) {b : Nat} (hb : gIsAt b) : gRow G o (b + 21) 4 := ⟨eA_21 G o hb, eA_22 G o hb, eA_lt hb 21 (by decide), eA_lt hb 22 (by decide)⟩
theorem gRowA_24 (G : gG) (o : Nat) {b : Nat} (hb : gIsAt b) : gRow G o (b + 24) 5 := ⟨eA_24 G o hb, eA_25 G o hb, eA_lt hb 24 (by decide), eA_lt hb 25 (by decide)⟩
theorem gRowA_26 (G : gG) (o : Nat) {b : Nat} (hb : gIsAt b) : gRow G o (b + 26) 5 := ⟨eA_26 G o hb, eA_27 G o hb, eA_lt hb 26 (by decide), eA_lt hb 27 (by decide)⟩
theorem gRowA_28 (G : gG) (o : Nat) {b : Nat} (hb : gIsAt b) : gRow G o (b + 28) 5 := ⟨eA_28 G o hb, eA_29 G o hb, eA_lt hb 28 (by decide), eA_lt hb 29 (by decide)⟩
theorem gRowA_30 (G : gG) (o : Nat) {b : Nat} (hb : gIsAt b) : gRow G o (b + 30) 5 := ⟨eA_30 G o hb, eA_31 G o hb, eA_lt hb 30 (by decide), eA_lt hb 31 (by decide)⟩
theorem wmX0 : ∀ w ∈ u_ws RX0 TX0 6, w ∈ gT := gmems [166, 168, 170, 172, 174, 176] (by decide +kernel) (by decide +kernel)
theorem wmX1 : ∀ w ∈ u_ws RX1 TX1 7, w ∈ gT := gmems [80, 82, 84, 86, 88, 90, 92] (by decide +kernel) (by decide +kernel)
theorem wmX2 : ∀ w ∈ u_ws RX2 TX2 3, w ∈ gT := gmems [111, 113, 115] (by decide +kernel) (by decide +kernel)
theorem wmX3 : ∀ w ∈ u_ws RX3 TX3 3, w ∈ gT := gmems [218, 220, 222] (by decide +kernel) (by decide +kernel)
theorem wmX4 : ∀ w ∈ u_ws RX4 TX4 2, w ∈ gT := gmems [189, 191] (by decide +kernel) (by decide +kernel)
theorem wmX5 : ∀ w ∈ u_ws RX5 TX5 1, w ∈ gT := gmems [46] (by decide +kernel) (by decide +kernel)
theorem wmX6 : ∀ w ∈ u_ws RX6 TX6 1, w ∈ gT := gmems [211] (by decide +kernel) (by decide +kernel)
theorem wmX7 : ∀ w ∈ u_ws RX7 TX7 5, w ∈ gT := gmems [139, 141, 143, 145, 147] (by decide +kernel) (by decide +kernel)
theorem wmX9 : ∀ w ∈ u_ws RX9 TX9 5, w ∈ gT := gmems [244, 246, 248, 250, 252] (by decide +kernel) (by decide +kernel)
theorem wmX10 : ∀ w ∈ u_ws RX10 TX10 6, w ∈ gT := gmems [260, 262, 264, 266, 268, 270] (by decide +kernel) (by decide +kernel)
theorem q_static_max : Cond.static Lib.Math.max.name ∈ gT := gmem 43 (by decide +kernel) rfl
theorem q_static_min : Cond.static Lib.Math.min.name ∈ gT := gmem 304 (by decide +kernel) rfl
theorem q_code_max : Cond.code Lib.Math.max.name Lib.Math.max.code 2 (some .int) ∈ gT := gmem 44 (by decide +kernel) rfl
theorem q_code_min : Cond.code Lib.Math.min.name Lib.Math.min.code 2 (some .int) ∈ gT := gmem 305 (by decide +kernel) rfl
theorem q_init_Math : Cond.initialized "java/lang/Math" ∈ gT := gmem 11 (by decide +kernel) rfl
theorem q_native_copy : Cond.native arraycopyName ∈ gT := gmem 308 (by decide +kernel) rfl
theorem q_static_copy : Cond.static arraycopyName ∈ gT := gmem 307 (by decide +kernel) rfl
theorem q_init_System : Cond.initialized "java/lang/System" ∈ gT := gmem 19 (by decide +kernel) rfl
def gush (x y : Int32) : Int32 := (x.toUInt32 >>> (y.toUInt32 &&& Int32.toUInt32 31)).toInt32
def gushL (x : Int64) (y : Int32) : Int64 := (x.toUInt64 >>> (y.toInt64.toUInt64 &&& Int64.toUInt64 63)).toInt64
def gshlL (x : Int64) (y : Int32) : Int64 := x <<< (y.toInt64 &&& 63)
def gi2c (x : Int32) : Int32 := (x.toUInt32 % 65536).toInt32
def gcp (n : Int32) (l0 l1 : Nat) : Bool := decide (0 ≤ n.toInt ∧ n.toInt ≤ l0 ∧ n.toInt ≤ l1)
theorem gcp_ok {n : Int32} {l0 l1 : Nat} (h : gcp n l0 l1 = true) : (0 : Int32) = 0 ∧ (0 : Int32) = 0 ∧ 0 ≤ n.toInt ∧ n.toInt ≤ l0 ∧ n.toInt ≤ l1 := ⟨rfl, rfl, of_decide_eq_true h⟩
theorem gIf_t {α : Type} {c : Prop} [Decidable c] {a b : Option α} {q : α} (h : c) (hf : (if c then a else b) = some q) : a = some q := by rwa [if_pos h] at hf
theorem gIf_f {α : Type} {c : Prop} [Decidable c] {a b : Option α} {q : α} (h : ¬ c) (hf : (if c then a else b) = some q) : b = some q := by rwa [if_neg h] at hf
def gFu : Nat := 1000000
theorem g_tabOut (hi : Nat) {x : Int32} (h : ∀ k, k ≤ hi → ¬ x = Int32.ofNat k) : x.toInt < 0 ∨ (hi : Int) < x.toInt := by
  rcases Int.lt_or_le x.toInt 0 with h0 | h0
  · exact Or.inl h0
  rcases Int.lt_or_le (hi : Int) x.toInt with h1 | h1
  · exact Or.inr h1
  refine absurd ?_ (h x.toInt.toNat (by omega))
  apply Int32.toInt_inj.mp
  have hlt := Int32.toInt_lt x
  show x.toInt = (nI x.toInt.toNat).toInt
  rw [nI_toInt (by omega)]
  omega
section GT
variable {p : Program} {l : Launch} {e : Env} {R : Room} {s : State} {m : MethodId} {args : Array Value} {below : List Frame} {meth : Method} {c : Code} {H : Heap} {locs : List Loc} {cells slots : Nat} {Q : State → Prop}
variable {cc : ByteArray} {pc : Nat} {ls : Array Slot} {rest : List Value}
theorem g_tab {x v : Int32} (hxv : x = v) {dflt lo hi : Int} {offs : Array Int} {len : Nat} {off : Int} {tgt : Nat} (hexec : p.tables.exec = Jvm.exec) (hb : c.code = cc) (hdg : decode cc pc = .ok (.tableswitch dflt lo hi offs, len)) (h1 : ¬ v.toInt < lo) (h2 : ¬ hi < v.toInt) (ho : offs[(v.toInt - lo).toNat]? = some off) (ht : (pc : Int) + off = (tgt : Int))
    (k : W p l e R s m args below meth c H locs cells slots Q (F0 m tgt ls rest)) : W p l e R s m args below meth c H locs cells slots Q (F0 m pc ls (.int x :: rest)) := by
  subst hxv
  exact lv_tableIn hexec hb hdg h1 h2 ho ht k
end GT
end
section
theorem lF_X0_104 : gFl RX0 104 7 1 := ⟨RX7, TX7, 5, rfl, wmX7, by decide, gmem 130 (by decide +kernel) rfl⟩
theorem lF_X0_105 : gFl RX0 105 1 0 := ⟨RX1, TX1, 7, rfl, wmX1, by decide, gmem 62 (by decide +kernel) rfl⟩
theorem lF_X0_111 : gFl RX0 111 7 2 := ⟨RX7, TX7, 5, rfl, wmX7, by decide, gmem 133 (by decide +kernel) rfl⟩
theorem lF_X0_114 : gFl RX0 114 1 6 := ⟨RX1, TX1, 7, rfl, wmX1, by decide, gmem 78 (by decide +kernel) rfl⟩
theorem lF_X0_120 : gFl RX0 120 7 0 := ⟨RX7, TX7, 5, rfl, wmX7, by decide, gmem 128 (by decide +kernel) rfl⟩
theorem lF_X0_135 : gFl RX0 135 1 5 := ⟨RX1, TX1, 7, rfl, wmX1, by decide, gmem 76 (by decide +kernel) rfl⟩
theorem lF_X0_14 : gFl RX0 14 0 2 := ⟨RX0, TX0, 6, rfl, wmX0, by decide, gmem 158 (by decide +kernel) rfl⟩
theorem lF_X0_23 : gFl RX0 23 0 3 := ⟨RX0, TX0, 6, rfl, wmX0, by decide, gmem 160 (by decide +kernel) rfl⟩
theorem lF_X0_30 : gFl RX0 30 0 4 := ⟨RX0, TX0, 6, rfl, wmX0, by decide, gmem 162 (by decide +kernel) rfl⟩
theorem lF_X0_37 : gFl RX0 37 0 5 := ⟨RX0, TX0, 6, rfl, wmX0, by decide, gmem 164 (by decide +kernel) rfl⟩
theorem lF_X0_45 : gFl RX0 45 0 0 := ⟨RX0, TX0, 6, rfl, wmX0, by decide, gmem 154 (by decide +kernel) rfl⟩
theorem lF_X0_49 : gFl RX0 49 0 1 := ⟨RX0, TX0, 6, rfl, wmX0, by decide, gmem 156 (by decide +kernel) rfl⟩
theorem lF_X0_82 : gFl RX0 82 2 1 := ⟨RX2, TX2, 3, rfl, wmX2, by decide, gmem 107 (by decide +kernel) rfl⟩
theorem lF_X0_97 : gFl RX0 97 2 0 := ⟨RX2, TX2, 3, rfl, wmX2, by decide, gmem 104 (by decide +kernel) rfl⟩
theorem lF_X10_10 : gFl RX10 10 9 0 := ⟨RX10, TX10, 6, rfl, wmX10, by decide, gmem 255 (by decide +kernel) rfl⟩
theorem lF_X10_101 : gFl RX10 101 4 0 := ⟨RX4, TX4, 2, rfl, wmX4, by decide, gmem 187 (by decide +kernel) rfl⟩
theorem lF_X10_110 : gFl RX10 110 0 4 := ⟨RX0, TX0, 6, rfl, wmX0, by decide, gmem 163 (by decide +kernel) rfl⟩
theorem lF_X10_119 : gFl RX10 119 0 5 := ⟨RX0, TX0, 6, rfl, wmX0, by decide, gmem 165 (by decide +kernel) rfl⟩
theorem lF_X10_123 : gFl RX10 123 7 0 := ⟨RX7, TX7, 5, rfl, wmX7, by decide, gmem 127 (by decide +kernel) rfl⟩
theorem lF_X10_133 : gFl RX10 133 2 0 := ⟨RX2, TX2, 3, rfl, wmX2, by decide, gmem 105 (by decide +kernel) rfl⟩
theorem lF_X10_149 : gFl RX10 149 8 2 := ⟨RX9, TX9, 5, rfl, wmX9, by decide, gmem 239 (by decide +kernel) rfl⟩
theorem lF_X10_153 : gFl RX10 153 8 4 := ⟨RX9, TX9, 5, rfl, wmX9, by decide, gmem 243 (by decide +kernel) rfl⟩
theorem lF_X10_154 : gFl RX10 154 8 1 := ⟨RX9, TX9, 5, rfl, wmX9, by decide, gmem 237 (by decide +kernel) rfl⟩
theorem lF_X10_157 : gFl RX10 157 0 0 := ⟨RX0, TX0, 6, rfl, wmX0, by decide, gmem 155 (by decide +kernel) rfl⟩
theorem lF_X10_164 : gFl RX10 164 1 1 := ⟨RX1, TX1, 7, rfl, wmX1, by decide, gmem 65 (by decide +kernel) rfl⟩
theorem lF_X10_167 : gFl RX10 167 1 2 := ⟨RX1, TX1, 7, rfl, wmX1, by decide, gmem 68 (by decide +kernel) rfl⟩
theorem lF_X10_170 : gFl RX10 170 1 4 := ⟨RX1, TX1, 7, rfl, wmX1, by decide, gmem 72 (by decide +kernel) rfl⟩
theorem lF_X10_173 : gFl RX10 173 1 5 := ⟨RX1, TX1, 7, rfl, wmX1, by decide, gmem 75 (by decide +kernel) rfl⟩
theorem lF_X10_181 : gFl RX10 181 1 6 := ⟨RX1, TX1, 7, rfl, wmX1, by decide, gmem 79 (by decide +kernel) rfl⟩
theorem lF_X10_184 : gFl RX10 184 2 1 := ⟨RX2, TX2, 3, rfl, wmX2, by decide, gmem 108 (by decide +kernel) rfl⟩
theorem lF_X10_19 : gFl RX10 19 9 1 := ⟨RX10, TX10, 6, rfl, wmX10, by decide, gmem 256 (by decide +kernel) rfl⟩
theorem lF_X10_193 : gFl RX10 193 2 2 := ⟨RX2, TX2, 3, rfl, wmX2, by decide, gmem 110 (by decide +kernel) rfl⟩
theorem lF_X10_197 : gFl RX10 197 7 1 := ⟨RX7, TX7, 5, rfl, wmX7, by decide, gmem 131 (by decide +kernel) rfl⟩
theorem lF_X10_198 : gFl RX10 198 7 2 := ⟨RX7, TX7, 5, rfl, wmX7, by decide, gmem 134 (by decide +kernel) rfl⟩
theorem lF_X10_201 : gFl RX10 201 7 3 := ⟨RX7, TX7, 5, rfl, wmX7, by decide, gmem 136 (by decide +kernel) rfl⟩
theorem lF_X10_204 : gFl RX10 204 7 4 := ⟨RX7, TX7, 5, rfl, wmX7, by decide, gmem 138 (by decide +kernel) rfl⟩
theorem lF_X10_222 : gFl RX10 222 0 1 := ⟨RX0, TX0, 6, rfl, wmX0, by decide, gmem 157 (by decide +kernel) rfl⟩
theorem lF_X10_228 : gFl RX10 228 3 2 := ⟨RX3, TX3, 3, rfl, wmX3, by decide, gmem 217 (by decide +kernel) rfl⟩
theorem lF_X10_231 : gFl RX10 231 8 3 := ⟨RX9, TX9, 5, rfl, wmX9, by decide, gmem 241 (by decide +kernel) rfl⟩
theorem lF_X10_26 : gFl RX10 26 9 2 := ⟨RX10, TX10, 6, rfl, wmX10, by decide, gmem 257 (by decide +kernel) rfl⟩
theorem lF_X10_42 : gFl RX10 42 9 5 := ⟨RX10, TX10, 6, rfl, wmX10, by decide, gmem 259 (by decide +kernel) rfl⟩
theorem lF_X10_54 : gFl RX10 54 0 2 := ⟨RX0, TX0, 6, rfl, wmX0, by decide, gmem 159 (by decide +kernel) rfl⟩
theorem lF_X10_76 : gFl RX10 76 0 3 := ⟨RX0, TX0, 6, rfl, wmX0, by decide, gmem 161 (by decide +kernel) rfl⟩
theorem lF_X10_80 : gFl RX10 80 1 0 := ⟨RX1, TX1, 7, rfl, wmX1, by decide, gmem 61 (by decide +kernel) rfl⟩
theorem lF_X1_14 : gFl RX1 14 1 1 := ⟨RX1, TX1, 7, rfl, wmX1, by decide, gmem 63 (by decide +kernel) rfl⟩
theorem lF_X1_20 : gFl RX1 20 1 2 := ⟨RX1, TX1, 7, rfl, wmX1, by decide, gmem 66 (by decide +kernel) rfl⟩
theorem lF_X1_23 : gFl RX1 23 1 3 := ⟨RX1, TX1, 7, rfl, wmX1, by decide, gmem 69 (by decide +kernel) rfl⟩
theorem lF_X1_26 : gFl RX1 26 1 4 := ⟨RX1, TX1, 7, rfl, wmX1, by decide, gmem 71 (by decide +kernel) rfl⟩
theorem lF_X1_29 : gFl RX1 29 1 5 := ⟨RX1, TX1, 7, rfl, wmX1, by decide, gmem 73 (by decide +kernel) rfl⟩
theorem lF_X1_32 : gFl RX1 32 1 6 := ⟨RX1, TX1, 7, rfl, wmX1, by decide, gmem 77 (by decide +kernel) rfl⟩
theorem lF_X1_35 : gFl RX1 35 1 0 := ⟨RX1, TX1, 7, rfl, wmX1, by decide, gmem 58 (by decide +kernel) rfl⟩
theorem lF_X2_14 : gFl RX2 14 2 0 := ⟨RX2, TX2, 3, rfl, wmX2, by decide, gmem 103 (by decide +kernel) rfl⟩
theorem lF_X2_20 : gFl RX2 20 2 1 := ⟨RX2, TX2, 3, rfl, wmX2, by decide, gmem 106 (by decide +kernel) rfl⟩
theorem lF_X2_23 : gFl RX2 23 2 2 := ⟨RX2, TX2, 3, rfl, wmX2, by decide, gmem 109 (by decide +kernel) rfl⟩
theorem lF_X3_14 : gFl RX3 14 3 0 := ⟨RX3, TX3, 3, rfl, wmX3, by decide, gmem 214 (by decide +kernel) rfl⟩
theorem lF_X3_20 : gFl RX3 20 3 1 := ⟨RX3, TX3, 3, rfl, wmX3, by decide, gmem 215 (by decide +kernel) rfl⟩
theorem lF_X3_28 : gFl RX3 28 3 2 := ⟨RX3, TX3, 3, rfl, wmX3, by decide, gmem 216 (by decide +kernel) rfl⟩
theorem lF_X5_13 : gFl RX5 13 5 0 := ⟨RX5, TX5, 1, rfl, wmX5, by decide, gmem 45 (by decide +kernel) rfl⟩
theorem lF_X6_15 : gFl RX6 15 6 0 := ⟨RX6, TX6, 1, rfl, wmX6, by decide, gmem 210 (by decide +kernel) rfl⟩
theorem lF_X7_14 : gFl RX7 14 7 1 := ⟨RX7, TX7, 5, rfl, wmX7, by decide, gmem 129 (by decide +kernel) rfl⟩
theorem lF_X7_20 : gFl RX7 20 7 2 := ⟨RX7, TX7, 5, rfl, wmX7, by decide, gmem 132 (by decide +kernel) rfl⟩
theorem lF_X7_23 : gFl RX7 23 7 3 := ⟨RX7, TX7, 5, rfl, wmX7, by decide, gmem 135 (by decide +kernel) rfl⟩
theorem lF_X7_26 : gFl RX7 26 7 4 := ⟨RX7, TX7, 5, rfl, wmX7, by decide, gmem 137 (by decide +kernel) rfl⟩
theorem lF_X7_29 : gFl RX7 29 7 0 := ⟨RX7, TX7, 5, rfl, wmX7, by decide, gmem 126 (by decide +kernel) rfl⟩
theorem lF_X8_19 : gFl RX8 19 1 3 := ⟨RX1, TX1, 7, rfl, wmX1, by decide, gmem 70 (by decide +kernel) rfl⟩
theorem lF_X8_9 : gFl RX8 9 1 0 := ⟨RX1, TX1, 7, rfl, wmX1, by decide, gmem 59 (by decide +kernel) rfl⟩
theorem lF_X9_14 : gFl RX9 14 8 0 := ⟨RX9, TX9, 5, rfl, wmX9, by decide, gmem 235 (by decide +kernel) rfl⟩
theorem lF_X9_20 : gFl RX9 20 8 1 := ⟨RX9, TX9, 5, rfl, wmX9, by decide, gmem 236 (by decide +kernel) rfl⟩
theorem lF_X9_32 : gFl RX9 32 8 2 := ⟨RX9, TX9, 5, rfl, wmX9, by decide, gmem 238 (by decide +kernel) rfl⟩
theorem lF_X9_36 : gFl RX9 36 8 3 := ⟨RX9, TX9, 5, rfl, wmX9, by decide, gmem 240 (by decide +kernel) rfl⟩
theorem lF_X9_40 : gFl RX9 40 8 4 := ⟨RX9, TX9, 5, rfl, wmX9, by decide, gmem 242 (by decide +kernel) rfl⟩
theorem lF_X9_51 : gFl RX9 51 1 5 := ⟨RX1, TX1, 7, rfl, wmX1, by decide, gmem 74 (by decide +kernel) rfl⟩
theorem lF_X9_62 : gFl RX9 62 1 0 := ⟨RX1, TX1, 7, rfl, wmX1, by decide, gmem 60 (by decide +kernel) rfl⟩
theorem lF_X9_73 : gFl RX9 73 1 1 := ⟨RX1, TX1, 7, rfl, wmX1, by decide, gmem 64 (by decide +kernel) rfl⟩
theorem lF_X9_76 : gFl RX9 76 1 2 := ⟨RX1, TX1, 7, rfl, wmX1, by decide, gmem 67 (by decide +kernel) rfl⟩
theorem lN_X0_100 : gMN RX0 100 yX10_holds RX10 cX10_holds 2 (some .boolean) 2 := ⟨List.mem_of_getElem? (i := 5) (by decide +kernel), gmem 416 (by decide +kernel) rfl, gmem 8 (by decide +kernel) rfl, gmem 417 (by decide +kernel) rfl, ⟨by decide, by decide, by decide +kernel⟩⟩
theorem lN_X1_43 : gMN RX1 43 yX10_isWithin RX10 cX10_isWithin 3 (some .boolean) 3 := ⟨List.mem_of_getElem? (i := 0) (by decide +kernel), gmem 281 (by decide +kernel) rfl, gmem 8 (by decide +kernel) rfl, gmem 282 (by decide +kernel) rfl, ⟨by decide, by decide, by decide +kernel⟩⟩
theorem lN_X1_71 : gMN RX1 71 yX10_holds RX10 cX10_holds 2 (some .boolean) 2 := ⟨List.mem_of_getElem? (i := 2) (by decide +kernel), gmem 416 (by decide +kernel) rfl, gmem 8 (by decide +kernel) rfl, gmem 417 (by decide +kernel) rfl, ⟨by decide, by decide, by decide +kernel⟩⟩
theorem lN_X2_34 : gMN RX2 34 yX10_holds RX10 cX10_holds 2 (some .boolean) 2 := ⟨List.mem_of_getElem? (i := 4) (by decide +kernel), gmem 416 (by decide +kernel) rfl, gmem 8 (by decide +kernel) rfl, gmem 417 (by decide +kernel) rfl, ⟨by decide, by decide, by decide +kernel⟩⟩
theorem lN_X7_37 : gMN RX7 37 yX10_isWithin RX10 cX10_isWithin 3 (some .boolean) 3 := ⟨List.mem_of_getElem? (i := 1) (by decide +kernel), gmem 281 (by decide +kernel) rfl, gmem 8 (by decide +kernel) rfl, gmem 282 (by decide +kernel) rfl, ⟨by decide, by decide, by decide +kernel⟩⟩
theorem lN_X8_15 : gMN RX8 15 yX10_holds RX10 cX10_holds 2 (some .boolean) 2 := ⟨List.mem_of_getElem? (i := 6) (by decide +kernel), gmem 416 (by decide +kernel) rfl, gmem 8 (by decide +kernel) rfl, gmem 417 (by decide +kernel) rfl, ⟨by decide, by decide, by decide +kernel⟩⟩
theorem lN_X9_65 : gMN RX9 65 yX10_holds RX10 cX10_holds 2 (some .boolean) 2 := ⟨List.mem_of_getElem? (i := 3) (by decide +kernel), gmem 416 (by decide +kernel) rfl, gmem 8 (by decide +kernel) rfl, gmem 417 (by decide +kernel) rfl, ⟨by decide, by decide, by decide +kernel⟩⟩
theorem lP_X0_45 : gFp RX0 45 0 0 .int := ⟨RX0, TX0, 6, tyX0, rfl, wmX0, by decide, gmem 154 (by decide +kernel) rfl, tyX0_ok, nmX0, rfl, by decide +kernel⟩
theorem lP_X0_49 : gFp RX0 49 0 1 .int := ⟨RX0, TX0, 6, tyX0, rfl, wmX0, by decide, gmem 156 (by decide +kernel) rfl, tyX0_ok, nmX0, rfl, by decide +kernel⟩
theorem lP_X1_35 : gFp RX1 35 1 0 .int := ⟨RX1, TX1, 7, tyX1, rfl, wmX1, by decide, gmem 58 (by decide +kernel) rfl, tyX1_ok, nmX1, rfl, by decide +kernel⟩
theorem lP_X3_20 : gFp RX3 20 3 1 .int := ⟨RX3, TX3, 3, tyX3, rfl, wmX3, by decide, gmem 215 (by decide +kernel) rfl, tyX3_ok, nmX3, rfl, by decide +kernel⟩
theorem lP_X3_28 : gFp RX3 28 3 2 .int := ⟨RX3, TX3, 3, tyX3, rfl, wmX3, by decide, gmem 216 (by decide +kernel) rfl, tyX3_ok, nmX3, rfl, by decide +kernel⟩
theorem lP_X7_29 : gFp RX7 29 7 0 .int := ⟨RX7, TX7, 5, tyX7, rfl, wmX7, by decide, gmem 126 (by decide +kernel) rfl, tyX7_ok, nmX7, rfl, by decide +kernel⟩
theorem lP_X9_32 : gFp RX9 32 8 2 .boolean := ⟨RX9, TX9, 5, tyX9, rfl, wmX9, by decide, gmem 238 (by decide +kernel) rfl, tyX9_ok, nmX9, rfl, by decide +kernel⟩
theorem lP_X9_36 : gFp RX9 36 8 3 .int := ⟨RX9, TX9, 5, tyX9, rfl, wmX9, by decide, gmem 240 (by decide +kernel) rfl, tyX9_ok, nmX9, rfl, by decide +kernel⟩
theorem lP_X9_40 : gFp RX9 40 8 4 .int := ⟨RX9, TX9, 5, tyX9, rfl, wmX9, by decide, gmem 242 (by decide +kernel) rfl, tyX9_ok, nmX9, rfl, by decide +kernel⟩
theorem lS_X10_130 : gMS RX10 130 yX10_isGhost cX10_isGhost 1 (some .boolean) 1 := ⟨gmem 381 (by decide +kernel) rfl, gmem 382 (by decide +kernel) rfl, gmem 8 (by decide +kernel) rfl, gmem 383 (by decide +kernel) rfl, ⟨by decide, by decide, by decide +kernel⟩⟩
theorem lS_X10_139 : gMS RX10 139 yX10_holds cX10_holds 2 (some .boolean) 2 := ⟨gmem 415 (by decide +kernel) rfl, gmem 416 (by decide +kernel) rfl, gmem 8 (by decide +kernel) rfl, gmem 417 (by decide +kernel) rfl, ⟨by decide, by decide, by decide +kernel⟩⟩
theorem lS_X10_238 : gMS RX10 238 yX8_whyNot cX8_whyNot 6 (some .int) 3 := ⟨gmem 612 (by decide +kernel) rfl, gmem 613 (by decide +kernel) rfl, gmem 20 (by decide +kernel) rfl, gmem 614 (by decide +kernel) rfl, ⟨by decide, by decide, by decide +kernel⟩⟩
theorem lS_X10_244 : gMS RX10 244 yX8_boardAt cX8_boardAt 8 (some .int) 4 := ⟨gmem 628 (by decide +kernel) rfl, gmem 629 (by decide +kernel) rfl, gmem 20 (by decide +kernel) rfl, gmem 630 (by decide +kernel) rfl, ⟨by decide, by decide, by decide +kernel⟩⟩
theorem lS_X10_46 : gMS RX10 46 yX10_isSetting cX10_isSetting 2 (some .boolean) 2 := ⟨gmem 277 (by decide +kernel) rfl, gmem 278 (by decide +kernel) rfl, gmem 8 (by decide +kernel) rfl, gmem 279 (by decide +kernel) rfl, ⟨by decide, by decide, by decide +kernel⟩⟩
theorem lS_X10_68 : gMS RX10 68 yX10_isRoom cX10_isRoom 1 (some .boolean) 1 := ⟨gmem 334 (by decide +kernel) rfl, gmem 335 (by decide +kernel) rfl, gmem 8 (by decide +kernel) rfl, gmem 336 (by decide +kernel) rfl, ⟨by decide, by decide, by decide +kernel⟩⟩
theorem lS_X10_72 : gMS RX10 72 yX10_isWithin cX10_isWithin 3 (some .boolean) 3 := ⟨gmem 280 (by decide +kernel) rfl, gmem 281 (by decide +kernel) rfl, gmem 8 (by decide +kernel) rfl, gmem 282 (by decide +kernel) rfl, ⟨by decide, by decide, by decide +kernel⟩⟩
theorem lS_X1_88 : gMS RX1 88 yJ6_bitCount_0f7a4 cJ6_bitCount_0f7a4 1 (some .int) 1 := ⟨gmem 652 (by decide +kernel) rfl, gmem 619 (by decide +kernel) rfl, gmem 21 (by decide +kernel) rfl, gmem 620 (by decide +kernel) rfl, ⟨by decide, by decide, by decide +kernel⟩⟩
theorem lS_X8_35 : gMS RX8 35 yJ6_bitCount_0f7a4 cJ6_bitCount_0f7a4 1 (some .int) 1 := ⟨gmem 618 (by decide +kernel) rfl, gmem 619 (by decide +kernel) rfl, gmem 21 (by decide +kernel) rfl, gmem 620 (by decide +kernel) rfl, ⟨by decide, by decide, by decide +kernel⟩⟩
theorem lS_X8_40 : gMS RX8 40 yX8_firstBoard cX8_firstBoard 6 (some .int) 3 := ⟨gmem 631 (by decide +kernel) rfl, gmem 632 (by decide +kernel) rfl, gmem 20 (by decide +kernel) rfl, gmem 633 (by decide +kernel) rfl, ⟨by decide, by decide, by decide +kernel⟩⟩
theorem lS_X8_50 : gMS RX8 50 yX8_whyNot cX8_whyNot 6 (some .int) 3 := ⟨gmem 636 (by decide +kernel) rfl, gmem 613 (by decide +kernel) rfl, gmem 20 (by decide +kernel) rfl, gmem 614 (by decide +kernel) rfl, ⟨by decide, by decide, by decide +kernel⟩⟩
theorem lS_X9_79 : gMS RX9 79 yX9_priceOf cX9_priceOf 2 (some .int) 2 := ⟨gmem 504 (by decide +kernel) rfl, gmem 505 (by decide +kernel) rfl, gmem 18 (by decide +kernel) rfl, gmem 506 (by decide +kernel) rfl, ⟨by decide, by decide, by decide +kernel⟩⟩
theorem lV_X0_108 : gMV RX0 108 yX1_loudnessIn RX1 cX1_loudnessIn 4 (some .int) 2 := ⟨gmem 432 (by decide +kernel) rfl, gmem 433 (by decide +kernel) rfl, gmem 434 (by decide +kernel) rfl, gmem 12 (by decide +kernel) rfl, gmem 435 (by decide +kernel) rfl, ⟨by decide, by decide, by decide +kernel⟩⟩
theorem lV_X0_117 : gMV RX0 117 yX5_increase RX5 cX5_increase 2 none 1 := ⟨gmem 426 (by decide +kernel) rfl, gmem 427 (by decide +kernel) rfl, gmem 428 (by decide +kernel) rfl, gmem 10 (by decide +kernel) rfl, gmem 429 (by decide +kernel) rfl, ⟨by decide, by decide, by decide +kernel⟩⟩
theorem lV_X0_123 : gMV RX0 123 yX7_wake RX7 cX7_wake 3 none 2 := ⟨gmem 446 (by decide +kernel) rfl, gmem 447 (by decide +kernel) rfl, gmem 448 (by decide +kernel) rfl, gmem 14 (by decide +kernel) rfl, gmem 449 (by decide +kernel) rfl, ⟨by decide, by decide, by decide +kernel⟩⟩
theorem lV_X0_126 : gMV RX0 126 yX7_tire RX7 cX7_tire 3 none 1 := ⟨gmem 460 (by decide +kernel) rfl, gmem 461 (by decide +kernel) rfl, gmem 462 (by decide +kernel) rfl, gmem 14 (by decide +kernel) rfl, gmem 463 (by decide +kernel) rfl, ⟨by decide, by decide, by decide +kernel⟩⟩
theorem lV_X0_129 : gMV RX0 129 yX5_fill RX5 cX5_fill 3 none 1 := ⟨gmem 465 (by decide +kernel) rfl, gmem 466 (by decide +kernel) rfl, gmem 467 (by decide +kernel) rfl, gmem 10 (by decide +kernel) rfl, gmem 468 (by decide +kernel) rfl, ⟨by decide, by decide, by decide +kernel⟩⟩
theorem lV_X0_132 : gMV RX0 132 yX0_letCreak RX0 cX0_letCreak 5 (some .int) 1 := ⟨gmem 422 (by decide +kernel) rfl, gmem 424 (by decide +kernel) rfl, gmem 1 (by decide +kernel) rfl, gmem 9 (by decide +kernel) rfl, gmem 425 (by decide +kernel) rfl, ⟨by decide, by decide, by decide +kernel⟩⟩
theorem lV_X0_137 : gMV RX0 137 yX0_letPass RX0 cX0_letPass 3 (some .int) 1 := ⟨gmem 451 (by decide +kernel) rfl, gmem 452 (by decide +kernel) rfl, gmem 453 (by decide +kernel) rfl, gmem 9 (by decide +kernel) rfl, gmem 454 (by decide +kernel) rfl, ⟨by decide, by decide, by decide +kernel⟩⟩
theorem lV_X0_140 : gMV RX0 140 yX1_beyond RX1 cX1_beyond 3 (some .int) 2 := ⟨gmem 469 (by decide +kernel) rfl, gmem 470 (by decide +kernel) rfl, gmem 471 (by decide +kernel) rfl, gmem 12 (by decide +kernel) rfl, gmem 472 (by decide +kernel) rfl, ⟨by decide, by decide, by decide +kernel⟩⟩
theorem lV_X0_143 : gMV RX0 143 yX2_cross RX2 cX2_cross 4 none 3 := ⟨gmem 473 (by decide +kernel) rfl, gmem 474 (by decide +kernel) rfl, gmem 475 (by decide +kernel) rfl, gmem 13 (by decide +kernel) rfl, gmem 476 (by decide +kernel) rfl, ⟨by decide, by decide, by decide +kernel⟩⟩
theorem lV_X0_52 : gMV RX0 52 yX5_copyFrom RX5 cX5_copyFrom 2 none 1 := ⟨gmem 299 (by decide +kernel) rfl, gmem 300 (by decide +kernel) rfl, gmem 301 (by decide +kernel) rfl, gmem 10 (by decide +kernel) rfl, gmem 302 (by decide +kernel) rfl, ⟨by decide, by decide, by decide +kernel⟩⟩
theorem lV_X0_56 : gMV RX0 56 yX1_copyFrom RX1 cX1_copyFrom 2 none 1 := ⟨gmem 309 (by decide +kernel) rfl, gmem 310 (by decide +kernel) rfl, gmem 311 (by decide +kernel) rfl, gmem 12 (by decide +kernel) rfl, gmem 312 (by decide +kernel) rfl, ⟨by decide, by decide, by decide +kernel⟩⟩
theorem lV_X0_59 : gMV RX0 59 yX2_copyFrom RX2 cX2_copyFrom 2 none 1 := ⟨gmem 314 (by decide +kernel) rfl, gmem 315 (by decide +kernel) rfl, gmem 316 (by decide +kernel) rfl, gmem 13 (by decide +kernel) rfl, gmem 317 (by decide +kernel) rfl, ⟨by decide, by decide, by decide +kernel⟩⟩
theorem lV_X0_62 : gMV RX0 62 yX7_copyFrom RX7 cX7_copyFrom 2 none 1 := ⟨gmem 319 (by decide +kernel) rfl, gmem 320 (by decide +kernel) rfl, gmem 321 (by decide +kernel) rfl, gmem 14 (by decide +kernel) rfl, gmem 322 (by decide +kernel) rfl, ⟨by decide, by decide, by decide +kernel⟩⟩
theorem lV_X0_65 : gMV RX0 65 yX5_at RX5 cX5_at 2 (some .int) 1 := ⟨gmem 404 (by decide +kernel) rfl, gmem 326 (by decide +kernel) rfl, gmem 327 (by decide +kernel) rfl, gmem 10 (by decide +kernel) rfl, gmem 328 (by decide +kernel) rfl, ⟨by decide, by decide, by decide +kernel⟩⟩
theorem lV_X0_75 : gMV RX0 75 yX0_minutesBetweenBells RX0 cX0_minutesBetweenBells 1 (some .int) 0 := ⟨gmem 455 (by decide +kernel) rfl, gmem 457 (by decide +kernel) rfl, gmem 2 (by decide +kernel) rfl, gmem 9 (by decide +kernel) rfl, gmem 458 (by decide +kernel) rfl, ⟨by decide, by decide, by decide +kernel⟩⟩
theorem lV_X0_79 : gMV RX0 79 yX1_all RX1 cX1_all 1 (some .int) 0 := ⟨gmem 400 (by decide +kernel) rfl, gmem 401 (by decide +kernel) rfl, gmem 402 (by decide +kernel) rfl, gmem 12 (by decide +kernel) rfl, gmem 403 (by decide +kernel) rfl, ⟨by decide, by decide, by decide +kernel⟩⟩
theorem lV_X0_85 : gMV RX0 85 yX0_leftTo RX0 cX0_leftTo 2 (some .int) 1 := ⟨gmem 396 (by decide +kernel) rfl, gmem 397 (by decide +kernel) rfl, gmem 398 (by decide +kernel) rfl, gmem 9 (by decide +kernel) rfl, gmem 399 (by decide +kernel) rfl, ⟨by decide, by decide, by decide +kernel⟩⟩
theorem lV_X0_88 : gMV RX0 88 yX7_watchedRooms RX7 cX7_watchedRooms 3 (some .int) 0 := ⟨gmem 405 (by decide +kernel) rfl, gmem 406 (by decide +kernel) rfl, gmem 407 (by decide +kernel) rfl, gmem 14 (by decide +kernel) rfl, gmem 408 (by decide +kernel) rfl, ⟨by decide, by decide, by decide +kernel⟩⟩
theorem lV_X0_91 : gMV RX0 91 yX1_touching RX1 cX1_touching 4 (some .int) 1 := ⟨gmem 410 (by decide +kernel) rfl, gmem 411 (by decide +kernel) rfl, gmem 412 (by decide +kernel) rfl, gmem 12 (by decide +kernel) rfl, gmem 413 (by decide +kernel) rfl, ⟨by decide, by decide, by decide +kernel⟩⟩
theorem lV_X0_94 : gMV RX0 94 yX0_freeTo RX0 cX0_freeTo 2 (some .int) 1 := ⟨gmem 392 (by decide +kernel) rfl, gmem 393 (by decide +kernel) rfl, gmem 394 (by decide +kernel) rfl, gmem 9 (by decide +kernel) rfl, gmem 395 (by decide +kernel) rfl, ⟨by decide, by decide, by decide +kernel⟩⟩
theorem lV_X10_104 : gMV RX10 104 yX1_has RX1 cX1_has 2 (some .boolean) 1 := ⟨gmem 348 (by decide +kernel) rfl, gmem 349 (by decide +kernel) rfl, gmem 350 (by decide +kernel) rfl, gmem 12 (by decide +kernel) rfl, gmem 351 (by decide +kernel) rfl, ⟨by decide, by decide, by decide +kernel⟩⟩
theorem lV_X10_107 : gMV RX10 107 yX1_remove RX1 cX1_remove 2 none 1 := ⟨gmem 353 (by decide +kernel) rfl, gmem 354 (by decide +kernel) rfl, gmem 355 (by decide +kernel) rfl, gmem 12 (by decide +kernel) rfl, gmem 356 (by decide +kernel) rfl, ⟨by decide, by decide, by decide +kernel⟩⟩
theorem lV_X10_114 : gMV RX10 114 yX2_forgetBoard RX2 cX2_forgetBoard 5 none 1 := ⟨gmem 362 (by decide +kernel) rfl, gmem 363 (by decide +kernel) rfl, gmem 364 (by decide +kernel) rfl, gmem 13 (by decide +kernel) rfl, gmem 365 (by decide +kernel) rfl, ⟨by decide, by decide, by decide +kernel⟩⟩
theorem lV_X10_128 : gMV RX10 128 yX7_append RX7 cX7_append 3 none 2 := ⟨gmem 372 (by decide +kernel) rfl, gmem 373 (by decide +kernel) rfl, gmem 374 (by decide +kernel) rfl, gmem 14 (by decide +kernel) rfl, gmem 375 (by decide +kernel) rfl, ⟨by decide, by decide, by decide +kernel⟩⟩
theorem lV_X10_136 : gMV RX10 136 yX0_freeAtRoomOf RX0 cX0_freeAtRoomOf 2 (some .int) 1 := ⟨gmem 388 (by decide +kernel) rfl, gmem 389 (by decide +kernel) rfl, gmem 390 (by decide +kernel) rfl, gmem 9 (by decide +kernel) rfl, gmem 391 (by decide +kernel) rfl, ⟨by decide, by decide, by decide +kernel⟩⟩
theorem lV_X10_142 : gMV RX10 142 yX0_letGlide RX0 cX0_letGlide 4 (some .int) 2 := ⟨gmem 418 (by decide +kernel) rfl, gmem 419 (by decide +kernel) rfl, gmem 420 (by decide +kernel) rfl, gmem 9 (by decide +kernel) rfl, gmem 421 (by decide +kernel) rfl, ⟨by decide, by decide, by decide +kernel⟩⟩
theorem lV_X10_146 : gMV RX10 146 yX10_findWay RX10 cX10_findWay 3 none 2 := ⟨gmem 482 (by decide +kernel) rfl, gmem 484 (by decide +kernel) rfl, gmem 3 (by decide +kernel) rfl, gmem 8 (by decide +kernel) rfl, gmem 485 (by decide +kernel) rfl, ⟨by decide, by decide, by decide +kernel⟩⟩
theorem lV_X10_161 : gMV RX10 161 yX0_letPass RX0 cX0_letPass 3 (some .int) 1 := ⟨gmem 518 (by decide +kernel) rfl, gmem 452 (by decide +kernel) rfl, gmem 453 (by decide +kernel) rfl, gmem 9 (by decide +kernel) rfl, gmem 454 (by decide +kernel) rfl, ⟨by decide, by decide, by decide +kernel⟩⟩
theorem lV_X10_175 : gMV RX10 175 yX2_whoCrossed RX2 cX2_whoCrossed 4 (some .int) 1 := ⟨gmem 698 (by decide +kernel) rfl, gmem 699 (by decide +kernel) rfl, gmem 700 (by decide +kernel) rfl, gmem 13 (by decide +kernel) rfl, gmem 701 (by decide +kernel) rfl, ⟨by decide, by decide, by decide +kernel⟩⟩
theorem lV_X10_178 : gMV RX10 178 yX0_ghostsFreeFor RX0 cX0_ghostsFreeFor 4 (some .int) 1 := ⟨gmem 703 (by decide +kernel) rfl, gmem 704 (by decide +kernel) rfl, gmem 705 (by decide +kernel) rfl, gmem 9 (by decide +kernel) rfl, gmem 706 (by decide +kernel) rfl, ⟨by decide, by decide, by decide +kernel⟩⟩
theorem lV_X10_187 : gMV RX10 187 yX0_freeTo RX0 cX0_freeTo 2 (some .int) 1 := ⟨gmem 486 (by decide +kernel) rfl, gmem 393 (by decide +kernel) rfl, gmem 394 (by decide +kernel) rfl, gmem 9 (by decide +kernel) rfl, gmem 395 (by decide +kernel) rfl, ⟨by decide, by decide, by decide +kernel⟩⟩
theorem lV_X10_190 : gMV RX10 190 yX1_roomsFrom RX1 cX1_roomsFrom 6 (some .int) 2 := ⟨gmem 594 (by decide +kernel) rfl, gmem 595 (by decide +kernel) rfl, gmem 596 (by decide +kernel) rfl, gmem 12 (by decide +kernel) rfl, gmem 597 (by decide +kernel) rfl, ⟨by decide, by decide, by decide +kernel⟩⟩
theorem lV_X10_196 : gMV RX10 196 yX7_has RX7 cX7_has 2 (some .boolean) 1 := ⟨gmem 664 (by decide +kernel) rfl, gmem 665 (by decide +kernel) rfl, gmem 666 (by decide +kernel) rfl, gmem 14 (by decide +kernel) rfl, gmem 667 (by decide +kernel) rfl, ⟨by decide, by decide, by decide +kernel⟩⟩
theorem lV_X10_207 : gMV RX10 207 yX0_boardsThatWake RX0 cX0_boardsThatWake 5 (some .int) 1 := ⟨gmem 674 (by decide +kernel) rfl, gmem 675 (by decide +kernel) rfl, gmem 676 (by decide +kernel) rfl, gmem 9 (by decide +kernel) rfl, gmem 677 (by decide +kernel) rfl, ⟨by decide, by decide, by decide +kernel⟩⟩
theorem lV_X10_210 : gMV RX10 210 yX1_loudnessIn RX1 cX1_loudnessIn 4 (some .int) 2 := ⟨gmem 669 (by decide +kernel) rfl, gmem 433 (by decide +kernel) rfl, gmem 434 (by decide +kernel) rfl, gmem 12 (by decide +kernel) rfl, gmem 435 (by decide +kernel) rfl, ⟨by decide, by decide, by decide +kernel⟩⟩
theorem lV_X10_213 : gMV RX10 213 yX1_fewestTo RX1 cX1_fewestTo 6 (some .int) 2 := ⟨gmem 523 (by decide +kernel) rfl, gmem 437 (by decide +kernel) rfl, gmem 438 (by decide +kernel) rfl, gmem 12 (by decide +kernel) rfl, gmem 439 (by decide +kernel) rfl, ⟨by decide, by decide, by decide +kernel⟩⟩
theorem lV_X10_216 : gMV RX10 216 yX7_whoAreAwake RX7 cX7_whoAreAwake 3 (some .int) 0 := ⟨gmem 682 (by decide +kernel) rfl, gmem 683 (by decide +kernel) rfl, gmem 684 (by decide +kernel) rfl, gmem 14 (by decide +kernel) rfl, gmem 685 (by decide +kernel) rfl, ⟨by decide, by decide, by decide +kernel⟩⟩
theorem lV_X10_219 : gMV RX10 219 yX7_watchedRooms RX7 cX7_watchedRooms 3 (some .int) 0 := ⟨gmem 686 (by decide +kernel) rfl, gmem 406 (by decide +kernel) rfl, gmem 407 (by decide +kernel) rfl, gmem 14 (by decide +kernel) rfl, gmem 408 (by decide +kernel) rfl, ⟨by decide, by decide, by decide +kernel⟩⟩
theorem lV_X10_225 : gMV RX10 225 yX0_minutesToBell RX0 cX0_minutesToBell 1 (some .int) 0 := ⟨gmem 687 (by decide +kernel) rfl, gmem 688 (by decide +kernel) rfl, gmem 689 (by decide +kernel) rfl, gmem 9 (by decide +kernel) rfl, gmem 690 (by decide +kernel) rfl, ⟨by decide, by decide, by decide +kernel⟩⟩
theorem lV_X10_232 : gMV RX10 232 yX1_atMostAsLoud RX1 cX1_atMostAsLoud 4 (some .int) 1 := ⟨gmem 590 (by decide +kernel) rfl, gmem 591 (by decide +kernel) rfl, gmem 592 (by decide +kernel) rfl, gmem 12 (by decide +kernel) rfl, gmem 593 (by decide +kernel) rfl, ⟨by decide, by decide, by decide +kernel⟩⟩
theorem lV_X10_235 : gMV RX10 235 yX0_leftTo RX0 cX0_leftTo 2 (some .int) 1 := ⟨gmem 611 (by decide +kernel) rfl, gmem 397 (by decide +kernel) rfl, gmem 398 (by decide +kernel) rfl, gmem 9 (by decide +kernel) rfl, gmem 399 (by decide +kernel) rfl, ⟨by decide, by decide, by decide +kernel⟩⟩
theorem lV_X10_248 : gMV RX10 248 yX1_pairsApartWithout RX1 cX1_pairsApartWithout 5 (some .int) 1 := ⟨gmem 647 (by decide +kernel) rfl, gmem 648 (by decide +kernel) rfl, gmem 649 (by decide +kernel) rfl, gmem 12 (by decide +kernel) rfl, gmem 650 (by decide +kernel) rfl, ⟨by decide, by decide, by decide +kernel⟩⟩
theorem lV_X10_274 : gMV RX10 274 yX9_find RX9 cX9_find 8 none 4 := ⟨gmem 487 (by decide +kernel) rfl, gmem 488 (by decide +kernel) rfl, gmem 489 (by decide +kernel) rfl, gmem 18 (by decide +kernel) rfl, gmem 490 (by decide +kernel) rfl, ⟨by decide, by decide, by decide +kernel⟩⟩
theorem lV_X10_50 : gMV RX10 50 yX3_remember RX3 cX3_remember 2 none 1 := ⟨gmem 283 (by decide +kernel) rfl, gmem 284 (by decide +kernel) rfl, gmem 285 (by decide +kernel) rfl, gmem 16 (by decide +kernel) rfl, gmem 286 (by decide +kernel) rfl, ⟨by decide, by decide, by decide +kernel⟩⟩
theorem lV_X10_58 : gMV RX10 58 yX5_at RX5 cX5_at 2 (some .int) 1 := ⟨gmem 325 (by decide +kernel) rfl, gmem 326 (by decide +kernel) rfl, gmem 327 (by decide +kernel) rfl, gmem 10 (by decide +kernel) rfl, gmem 328 (by decide +kernel) rfl, ⟨by decide, by decide, by decide +kernel⟩⟩
theorem lV_X10_64 : gMV RX10 64 yX5_store RX5 cX5_store 3 none 2 := ⟨gmem 329 (by decide +kernel) rfl, gmem 151 (by decide +kernel) rfl, gmem 152 (by decide +kernel) rfl, gmem 10 (by decide +kernel) rfl, gmem 153 (by decide +kernel) rfl, ⟨by decide, by decide, by decide +kernel⟩⟩
theorem lV_X10_86 : gMV RX10 86 yX1_append RX1 cX1_append 5 none 4 := ⟨gmem 337 (by decide +kernel) rfl, gmem 338 (by decide +kernel) rfl, gmem 339 (by decide +kernel) rfl, gmem 12 (by decide +kernel) rfl, gmem 340 (by decide +kernel) rfl, ⟨by decide, by decide, by decide +kernel⟩⟩
theorem lV_X1_39 : gMV RX1 39 yX5_copyFrom RX5 cX5_copyFrom 2 none 1 := ⟨gmem 313 (by decide +kernel) rfl, gmem 300 (by decide +kernel) rfl, gmem 301 (by decide +kernel) rfl, gmem 10 (by decide +kernel) rfl, gmem 302 (by decide +kernel) rfl, ⟨by decide, by decide, by decide +kernel⟩⟩
theorem lV_X1_53 : gMV RX1 53 yX5_store RX5 cX5_store 3 none 2 := ⟨gmem 342 (by decide +kernel) rfl, gmem 151 (by decide +kernel) rfl, gmem 152 (by decide +kernel) rfl, gmem 10 (by decide +kernel) rfl, gmem 153 (by decide +kernel) rfl, ⟨by decide, by decide, by decide +kernel⟩⟩
theorem lV_X1_60 : gMV RX1 60 yX1_has RX1 cX1_has 2 (some .boolean) 1 := ⟨gmem 357 (by decide +kernel) rfl, gmem 349 (by decide +kernel) rfl, gmem 350 (by decide +kernel) rfl, gmem 12 (by decide +kernel) rfl, gmem 351 (by decide +kernel) rfl, ⟨by decide, by decide, by decide +kernel⟩⟩
theorem lV_X1_64 : gMV RX1 64 yX5_moveUpBehind RX5 cX5_moveUpBehind 3 none 1 := ⟨gmem 358 (by decide +kernel) rfl, gmem 359 (by decide +kernel) rfl, gmem 360 (by decide +kernel) rfl, gmem 10 (by decide +kernel) rfl, gmem 361 (by decide +kernel) rfl, ⟨by decide, by decide, by decide +kernel⟩⟩
theorem lV_X1_67 : gMV RX1 67 yX5_at RX5 cX5_at 2 (some .int) 1 := ⟨gmem 414 (by decide +kernel) rfl, gmem 326 (by decide +kernel) rfl, gmem 327 (by decide +kernel) rfl, gmem 10 (by decide +kernel) rfl, gmem 328 (by decide +kernel) rfl, ⟨by decide, by decide, by decide +kernel⟩⟩
theorem lV_X1_75 : gMV RX1 75 yX1_widened RX1 cX1_widened 5 (some .int) 2 := ⟨gmem 441 (by decide +kernel) rfl, gmem 442 (by decide +kernel) rfl, gmem 443 (by decide +kernel) rfl, gmem 12 (by decide +kernel) rfl, gmem 444 (by decide +kernel) rfl, ⟨by decide, by decide, by decide +kernel⟩⟩
theorem lV_X1_78 : gMV RX1 78 yX1_all RX1 cX1_all 1 (some .int) 0 := ⟨gmem 440 (by decide +kernel) rfl, gmem 401 (by decide +kernel) rfl, gmem 402 (by decide +kernel) rfl, gmem 12 (by decide +kernel) rfl, gmem 403 (by decide +kernel) rfl, ⟨by decide, by decide, by decide +kernel⟩⟩
theorem lV_X1_82 : gMV RX1 82 yX1_fewestTo RX1 cX1_fewestTo 6 (some .int) 2 := ⟨gmem 436 (by decide +kernel) rfl, gmem 437 (by decide +kernel) rfl, gmem 438 (by decide +kernel) rfl, gmem 12 (by decide +kernel) rfl, gmem 439 (by decide +kernel) rfl, ⟨by decide, by decide, by decide +kernel⟩⟩
theorem lV_X1_85 : gMV RX1 85 yX1_roomsFrom RX1 cX1_roomsFrom 6 (some .int) 2 := ⟨gmem 651 (by decide +kernel) rfl, gmem 595 (by decide +kernel) rfl, gmem 596 (by decide +kernel) rfl, gmem 12 (by decide +kernel) rfl, gmem 597 (by decide +kernel) rfl, ⟨by decide, by decide, by decide +kernel⟩⟩
theorem lV_X2_26 : gMV RX2 26 yX5_copyFrom RX5 cX5_copyFrom 2 none 1 := ⟨gmem 318 (by decide +kernel) rfl, gmem 300 (by decide +kernel) rfl, gmem 301 (by decide +kernel) rfl, gmem 10 (by decide +kernel) rfl, gmem 302 (by decide +kernel) rfl, ⟨by decide, by decide, by decide +kernel⟩⟩
theorem lV_X2_30 : gMV RX2 30 yX5_at RX5 cX5_at 2 (some .int) 1 := ⟨gmem 366 (by decide +kernel) rfl, gmem 326 (by decide +kernel) rfl, gmem 327 (by decide +kernel) rfl, gmem 10 (by decide +kernel) rfl, gmem 328 (by decide +kernel) rfl, ⟨by decide, by decide, by decide +kernel⟩⟩
theorem lV_X2_38 : gMV RX2 38 yX5_store RX5 cX5_store 3 none 2 := ⟨gmem 367 (by decide +kernel) rfl, gmem 151 (by decide +kernel) rfl, gmem 152 (by decide +kernel) rfl, gmem 10 (by decide +kernel) rfl, gmem 153 (by decide +kernel) rfl, ⟨by decide, by decide, by decide +kernel⟩⟩
theorem lV_X2_42 : gMV RX2 42 yX5_increase RX5 cX5_increase 2 none 1 := ⟨gmem 477 (by decide +kernel) rfl, gmem 427 (by decide +kernel) rfl, gmem 428 (by decide +kernel) rfl, gmem 10 (by decide +kernel) rfl, gmem 429 (by decide +kernel) rfl, ⟨by decide, by decide, by decide +kernel⟩⟩
theorem lV_X3_24 : gMV RX3 24 yX6_keep RX6 cX6_keep 3 none 2 := ⟨gmem 287 (by decide +kernel) rfl, gmem 288 (by decide +kernel) rfl, gmem 289 (by decide +kernel) rfl, gmem 17 (by decide +kernel) rfl, gmem 290 (by decide +kernel) rfl, ⟨by decide, by decide, by decide +kernel⟩⟩
theorem lV_X5_19 : gMV RX5 19 yX5_at RX5 cX5_at 2 (some .int) 1 := ⟨gmem 430 (by decide +kernel) rfl, gmem 326 (by decide +kernel) rfl, gmem 327 (by decide +kernel) rfl, gmem 10 (by decide +kernel) rfl, gmem 328 (by decide +kernel) rfl, ⟨by decide, by decide, by decide +kernel⟩⟩
theorem lV_X5_23 : gMV RX5 23 yX5_store RX5 cX5_store 3 none 2 := ⟨gmem 431 (by decide +kernel) rfl, gmem 151 (by decide +kernel) rfl, gmem 152 (by decide +kernel) rfl, gmem 10 (by decide +kernel) rfl, gmem 153 (by decide +kernel) rfl, ⟨by decide, by decide, by decide +kernel⟩⟩
theorem lV_X6_22 : gMV RX6 22 yX6_has RX6 cX6_has 2 (some .boolean) 1 := ⟨gmem 291 (by decide +kernel) rfl, gmem 293 (by decide +kernel) rfl, gmem 0 (by decide +kernel) rfl, gmem 17 (by decide +kernel) rfl, gmem 294 (by decide +kernel) rfl, ⟨by decide, by decide, by decide +kernel⟩⟩
theorem lV_X6_26 : gMV RX6 26 yX0_copyFrom RX0 cX0_copyFrom 2 none 1 := ⟨gmem 295 (by decide +kernel) rfl, gmem 296 (by decide +kernel) rfl, gmem 297 (by decide +kernel) rfl, gmem 9 (by decide +kernel) rfl, gmem 298 (by decide +kernel) rfl, ⟨by decide, by decide, by decide +kernel⟩⟩
theorem lV_X7_33 : gMV RX7 33 yX5_copyFrom RX5 cX5_copyFrom 2 none 1 := ⟨gmem 323 (by decide +kernel) rfl, gmem 300 (by decide +kernel) rfl, gmem 301 (by decide +kernel) rfl, gmem 10 (by decide +kernel) rfl, gmem 302 (by decide +kernel) rfl, ⟨by decide, by decide, by decide +kernel⟩⟩
theorem lV_X7_41 : gMV RX7 41 yX5_store RX5 cX5_store 3 none 2 := ⟨gmem 376 (by decide +kernel) rfl, gmem 151 (by decide +kernel) rfl, gmem 152 (by decide +kernel) rfl, gmem 10 (by decide +kernel) rfl, gmem 153 (by decide +kernel) rfl, ⟨by decide, by decide, by decide +kernel⟩⟩
theorem lV_X7_45 : gMV RX7 45 yX5_at RX5 cX5_at 2 (some .int) 1 := ⟨gmem 409 (by decide +kernel) rfl, gmem 326 (by decide +kernel) rfl, gmem 327 (by decide +kernel) rfl, gmem 10 (by decide +kernel) rfl, gmem 328 (by decide +kernel) rfl, ⟨by decide, by decide, by decide +kernel⟩⟩
theorem lV_X7_49 : gMV RX7 49 yX5_increase RX5 cX5_increase 2 none 1 := ⟨gmem 450 (by decide +kernel) rfl, gmem 427 (by decide +kernel) rfl, gmem 428 (by decide +kernel) rfl, gmem 10 (by decide +kernel) rfl, gmem 429 (by decide +kernel) rfl, ⟨by decide, by decide, by decide +kernel⟩⟩
theorem lV_X8_23 : gMV RX8 23 yX5_at RX5 cX5_at 2 (some .int) 1 := ⟨gmem 616 (by decide +kernel) rfl, gmem 326 (by decide +kernel) rfl, gmem 327 (by decide +kernel) rfl, gmem 10 (by decide +kernel) rfl, gmem 328 (by decide +kernel) rfl, ⟨by decide, by decide, by decide +kernel⟩⟩
theorem lV_X8_31 : gMV RX8 31 yX1_roomsFrom RX1 cX1_roomsFrom 6 (some .int) 2 := ⟨gmem 617 (by decide +kernel) rfl, gmem 595 (by decide +kernel) rfl, gmem 596 (by decide +kernel) rfl, gmem 12 (by decide +kernel) rfl, gmem 597 (by decide +kernel) rfl, ⟨by decide, by decide, by decide +kernel⟩⟩
theorem lV_X8_44 : gMV RX8 44 yX1_beyond RX1 cX1_beyond 3 (some .int) 2 := ⟨gmem 635 (by decide +kernel) rfl, gmem 470 (by decide +kernel) rfl, gmem 471 (by decide +kernel) rfl, gmem 12 (by decide +kernel) rfl, gmem 472 (by decide +kernel) rfl, ⟨by decide, by decide, by decide +kernel⟩⟩
theorem lV_X8_47 : gMV RX8 47 yX1_touching RX1 cX1_touching 4 (some .int) 1 := ⟨gmem 634 (by decide +kernel) rfl, gmem 411 (by decide +kernel) rfl, gmem 412 (by decide +kernel) rfl, gmem 12 (by decide +kernel) rfl, gmem 413 (by decide +kernel) rfl, ⟨by decide, by decide, by decide +kernel⟩⟩
theorem lV_X9_23 : gMV RX9 23 yX9_weigh RX9 cX9_weigh 7 none 3 := ⟨gmem 491 (by decide +kernel) rfl, gmem 493 (by decide +kernel) rfl, gmem 4 (by decide +kernel) rfl, gmem 18 (by decide +kernel) rfl, gmem 494 (by decide +kernel) rfl, ⟨by decide, by decide, by decide +kernel⟩⟩
theorem lV_X9_27 : gMV RX9 27 yX5_at RX5 cX5_at 2 (some .int) 1 := ⟨gmem 503 (by decide +kernel) rfl, gmem 326 (by decide +kernel) rfl, gmem 327 (by decide +kernel) rfl, gmem 10 (by decide +kernel) rfl, gmem 328 (by decide +kernel) rfl, ⟨by decide, by decide, by decide +kernel⟩⟩
theorem lV_X9_43 : gMV RX9 43 yX9_firstStep RX9 cX9_firstStep 7 (some .int) 3 := ⟨gmem 507 (by decide +kernel) rfl, gmem 509 (by decide +kernel) rfl, gmem 6 (by decide +kernel) rfl, gmem 18 (by decide +kernel) rfl, gmem 510 (by decide +kernel) rfl, ⟨by decide, by decide, by decide +kernel⟩⟩
theorem lV_X9_47 : gMV RX9 47 yX5_store RX5 cX5_store 3 none 2 := ⟨gmem 497 (by decide +kernel) rfl, gmem 151 (by decide +kernel) rfl, gmem 152 (by decide +kernel) rfl, gmem 10 (by decide +kernel) rfl, gmem 153 (by decide +kernel) rfl, ⟨by decide, by decide, by decide +kernel⟩⟩
theorem lV_X9_55 : gMV RX9 55 yX1_beyond RX1 cX1_beyond 3 (some .int) 2 := ⟨gmem 512 (by decide +kernel) rfl, gmem 470 (by decide +kernel) rfl, gmem 471 (by decide +kernel) rfl, gmem 12 (by decide +kernel) rfl, gmem 472 (by decide +kernel) rfl, ⟨by decide, by decide, by decide +kernel⟩⟩
theorem lV_X9_59 : gMV RX9 59 yX5_fill RX5 cX5_fill 3 none 1 := ⟨gmem 496 (by decide +kernel) rfl, gmem 466 (by decide +kernel) rfl, gmem 467 (by decide +kernel) rfl, gmem 10 (by decide +kernel) rfl, gmem 468 (by decide +kernel) rfl, ⟨by decide, by decide, by decide +kernel⟩⟩
theorem lV_X9_69 : gMV RX9 69 yX9_lowerCosts RX9 cX9_lowerCosts 6 (some .boolean) 2 := ⟨gmem 499 (by decide +kernel) rfl, gmem 501 (by decide +kernel) rfl, gmem 5 (by decide +kernel) rfl, gmem 18 (by decide +kernel) rfl, gmem 502 (by decide +kernel) rfl, ⟨by decide, by decide, by decide +kernel⟩⟩
theorem lV_X9_83 : gMV RX9 83 yX1_touching RX1 cX1_touching 4 (some .int) 1 := ⟨gmem 511 (by decide +kernel) rfl, gmem 411 (by decide +kernel) rfl, gmem 412 (by decide +kernel) rfl, gmem 12 (by decide +kernel) rfl, gmem 413 (by decide +kernel) rfl, ⟨by decide, by decide, by decide +kernel⟩⟩
end
section
section
variable {p : Program} {l : Launch} {e : Env} {s : State} {m : MethodId} {args : Array Value} {below : List Frame} {meth : Method} {c : Code} {G : gG} {o : Nat}
abbrev rmX5_copyFrom : Room := { frames := 1, cells := 0, slots := 0, locals := 40 }
def f_X5_copyFrom (r L r2 L2 : Nat) (σ : gS) : Option (gS) := gGd (gcp (if (Int32.ofNat L) < (Int32.ofNat L2) then (Int32.ofNat L) else (Int32.ofNat L2)) L2 L) (gLet (gU σ (r + 1) (va_cpy (σ (r2 + 1)) (σ (r + 1)) 0 0 (gil (if (Int32.ofNat L) < (Int32.ofNat L2) then (Int32.ofNat L) else (Int32.ofNat L2))))) (fun s2 => some s2))
set_option maxHeartbeats 4000000 in
set_option maxRecDepth 100000 in
theorem c_X5_copyFrom (r L r2 L2 : Nat) (hr : gRow G o r L) (hr2 : gRow G o r2 L2) (σ : gS) (q : gS) (hf : f_X5_copyFrom r L r2 L2 σ = some q) : Met l yX5_copyFrom (gW yX5_copyFrom cX5_copyFrom 2 none) rmX5_copyFrom (gPc G (entX G o) o 302 [.ref (o + r), .ref (o + r2)] σ) (gQv G (entX G o) o 302 q) 0 0 (gA o 302) := by
  refine g_met (by decide) ⟨rfl, rfl⟩ (fun p e s m args below meth c ls K hS hl => ?_) (Nat.le_of_ble_eq_true rfl)
  have K : gK p s m args meth c G cX5_copyFrom 2 RX5 none := K
  have hl : lv_has ls 2 [(0, .ref (o + r)), (1, .ref (o + r2))] := hl
  obtain ⟨hx, hb, hml, hown, hts, -⟩ := id K
  unfold f_X5_copyFrom at hf
  refine lv_aload_n hx hb dX5_copyFrom_0 rfl (lv_at hl 1 rfl) ?_
  refine g_get (cx := r2) K hS lF_X5_13 (hr2.1 _) hr2.2.2.1 rfl dX5_copyFrom_1 ?_
  refine lv_iconst (v := 0) hx hb dX5_copyFrom_4 (by decide) ?_
  refine lv_aload_n hx hb dX5_copyFrom_5 rfl (lv_at hl 0 rfl) ?_
  refine g_get (cx := r) K hS lF_X5_13 (hr.1 _) hr.2.2.1 rfl dX5_copyFrom_6 ?_
  refine lv_iconst (v := 0) hx hb dX5_copyFrom_9 (by decide) ?_
  refine lv_aload_n hx hb dX5_copyFrom_10 rfl (lv_at hl 1 rfl) ?_
  refine g_get (cx := r2) K hS lF_X5_13 (hr2.1 _) hr2.2.2.1 rfl dX5_copyFrom_11 ?_
  refine g_alen (cx := (r2 + 1)) (t0 := 0) (v := (Int32.ofNat L2)) K hS (hr2.2.1 _) hr2.2.2.2 rfl rfl dX5_copyFrom_14 ?_
  refine lv_aload_n hx hb dX5_copyFrom_15 rfl (lv_at hl 0 rfl) ?_
  refine g_get (cx := r) K hS lF_X5_13 (hr.1 _) hr.2.2.1 rfl dX5_copyFrom_16 ?_
  refine g_alen (cx := (r + 1)) (t0 := 0) (v := (Int32.ofNat L)) K hS (hr.2.1 _) hr.2.2.2 rfl rfl dX5_copyFrom_19 ?_
  refine g_mmin K hl.1 (gmem 303 (by decide +kernel) rfl) q_static_min q_init_Math q_code_min (Nat.le_of_ble_eq_true rfl) (Nat.le_of_ble_eq_true rfl) (Nat.zero_le _) (Nat.zero_le _) dX5_copyFrom_20 ?_
  obtain ⟨h1, hf⟩ := gGd_some hf
  obtain ⟨s2, hs2, hf⟩ := gLet_some hf
  refine g_copy (c0 := (r2 + 1)) (c1 := (r + 1)) K hS hl.1 (gmem 306 (by decide +kernel) rfl) hr2.2.1 hr.2.1 hr2.2.2.2 hr.2.2.2 (gcp_ok h1) q_native_copy q_static_copy q_init_System (Nat.le_of_ble_eq_true rfl) (Nat.le_of_ble_eq_true rfl) dX5_copyFrom_23 (fun H locs hS => ?_)
  rw [← hs2] at hS
  exact g_vret K hS hf dX5_copyFrom_26
abbrev rmX1_copyFrom : Room := { frames := 2, cells := 0, slots := 0, locals := 61 }
def f_X1_copyFrom (b b2 : Nat) (σ : gS) : Option (gS) := gLet (up2 σ (b + 3) 0 (σ (b2 + 3) 0)) (fun s1 => Option.bind (f_X5_copyFrom (b + 4) 20 (b2 + 4) 20 s1) (fun q3 => Option.bind (f_X5_copyFrom (b + 6) 20 (b2 + 6) 20 q3) (fun q4 => Option.bind (f_X5_copyFrom (b + 8) 20 (b2 + 8) 20 q4) (fun q5 => Option.bind (f_X5_copyFrom (b + 10) 20 (b2 + 10) 20 q5) (fun q6 => Option.bind (f_X5_copyFrom (b + 12) 20 (b2 + 12) 20 q6) (fun q7 => Option.bind (f_X5_copyFrom (b + 14) 20 (b2 + 14) 20 q7) (fun q8 => some q8)))))))
set_option maxHeartbeats 4000000 in
set_option maxRecDepth 100000 in
theorem c_X1_copyFrom (b b2 : Nat) (hat : gIsAt b) (hat2 : gIsAt b2) (σ : gS) (q : gS) (hf : f_X1_copyFrom b b2 σ = some q) : Met l yX1_copyFrom (gW yX1_copyFrom cX1_copyFrom 2 none) rmX1_copyFrom (gPc G (entX G o) o 302 [.ref (o + (b + 3)), .ref (o + (b2 + 3))] σ) (gQv G (entX G o) o 302 q) 0 0 (gA o 302) := by
  refine g_met (by decide) ⟨rfl, rfl⟩ (fun p e s m args below meth c ls K hS hl => ?_) (Nat.le_of_ble_eq_true rfl)
  have K : gK p s m args meth c G cX1_copyFrom 2 RX1 none := K
  have hl : lv_has ls 2 [(0, .ref (o + (b + 3))), (1, .ref (o + (b2 + 3)))] := hl
  obtain ⟨hx, hb, hml, hown, hts, -⟩ := id K
  unfold f_X1_copyFrom at hf
  refine lv_aload_n hx hb dX1_copyFrom_0 rfl (lv_at hl 0 rfl) ?_
  refine lv_aload_n hx hb dX1_copyFrom_1 rfl (lv_at hl 1 rfl) ?_
  refine g_get (cx := (b2 + 3)) K hS lF_X1_35 ((eA_3 G o hat2) _) (eA_lt hat2 3 (by decide)) rfl dX1_copyFrom_2 ?_
  obtain ⟨s1, hs1, hf⟩ := gLet_some hf
  refine g_put (cx := (b + 3)) K hS lP_X1_35 (eA_3 G o hat) (eA_lt hat 3 (by decide)) rfl (Nat.le_of_ble_eq_true rfl) rfl rfl dX1_copyFrom_5 (fun H locs hS => ?_)
  rw [← hs1] at hS
  refine lv_aload_n hx hb dX1_copyFrom_8 rfl (lv_at hl 0 rfl) ?_
  refine g_get (cx := (b + 3)) K hS lF_X1_14 ((eA_3 G o hat) _) (eA_lt hat 3 (by decide)) rfl dX1_copyFrom_9 ?_
  refine lv_aload_n hx hb dX1_copyFrom_12 rfl (lv_at hl 1 rfl) ?_
  refine g_get (cx := (b2 + 3)) K hS lF_X1_14 ((eA_3 G o hat2) _) (eA_lt hat2 3 (by decide)) rfl dX1_copyFrom_13 ?_
  obtain ⟨q3, hq3, hf⟩ := Option.bind_eq_some_iff.mp hf
  refine g_Vv (cx := (b + 4)) (As := [.ref (o + (b2 + 4))]) K hS lV_X1_39 (c_X5_copyFrom (b + 4) 20 (b2 + 4) 20 (gRowA_4 G o hat) (gRowA_4 G o hat2) s1 q3 hq3) ((eA_4 G o hat) _) (eA_lt hat 4 (by decide)) rfl rfl rfl (Nat.le_of_ble_eq_true rfl) ⟨⟨Nat.le_of_ble_eq_true rfl, Nat.le_of_ble_eq_true rfl⟩, rfl, rfl⟩ hl.1 ⟨Nat.zero_le _, Nat.zero_le _⟩ dX1_copyFrom_16 (fun H locs hS => ?_)
  refine lv_aload_n hx hb dX1_copyFrom_19 rfl (lv_at hl 0 rfl) ?_
  refine g_get (cx := (b + 3)) K hS lF_X1_20 ((eA_3 G o hat) _) (eA_lt hat 3 (by decide)) rfl dX1_copyFrom_20 ?_
  refine lv_aload_n hx hb dX1_copyFrom_23 rfl (lv_at hl 1 rfl) ?_
  refine g_get (cx := (b2 + 3)) K hS lF_X1_20 ((eA_3 G o hat2) _) (eA_lt hat2 3 (by decide)) rfl dX1_copyFrom_24 ?_
  obtain ⟨q4, hq4, hf⟩ := Option.bind_eq_some_iff.mp hf
  refine g_Vv (cx := (b + 6)) (As := [.ref (o + (b2 + 6))]) K hS lV_X1_39 (c_X5_copyFrom (b + 6) 20 (b2 + 6) 20 (gRowA_6 G o hat) (gRowA_6 G o hat2) q3 q4 hq4) ((eA_6 G o hat) _) (eA_lt hat 6 (by decide)) rfl rfl rfl (Nat.le_of_ble_eq_true rfl) ⟨⟨Nat.le_of_ble_eq_true rfl, Nat.le_of_ble_eq_true rfl⟩, rfl, rfl⟩ hl.1 ⟨Nat.zero_le _, Nat.zero_le _⟩ dX1_copyFrom_27 (fun H locs hS => ?_)
  refine lv_aload_n hx hb dX1_copyFrom_30 rfl (lv_at hl 0 rfl) ?_
  refine g_get (cx := (b + 3)) K hS lF_X1_23 ((eA_3 G o hat) _) (eA_lt hat 3 (by decide)) rfl dX1_copyFrom_31 ?_
  refine lv_aload_n hx hb dX1_copyFrom_34 rfl (lv_at hl 1 rfl) ?_
  refine g_get (cx := (b2 + 3)) K hS lF_X1_23 ((eA_3 G o hat2) _) (eA_lt hat2 3 (by decide)) rfl dX1_copyFrom_35 ?_
  obtain ⟨q5, hq5, hf⟩ := Option.bind_eq_some_iff.mp hf
  refine g_Vv (cx := (b + 8)) (As := [.ref (o + (b2 + 8))]) K hS lV_X1_39 (c_X5_copyFrom (b + 8) 20 (b2 + 8) 20 (gRowA_8 G o hat) (gRowA_8 G o hat2) q4 q5 hq5) ((eA_8 G o hat) _) (eA_lt hat 8 (by decide)) rfl rfl rfl (Nat.le_of_ble_eq_true rfl) ⟨⟨Nat.le_of_ble_eq_true rfl, Nat.le_of_ble_eq_true rfl⟩, rfl, rfl⟩ hl.1 ⟨Nat.zero_le _, Nat.zero_le _⟩ dX1_copyFrom_38 (fun H locs hS => ?_)
  refine lv_aload_n hx hb dX1_copyFrom_41 rfl (lv_at hl 0 rfl) ?_
  refine g_get (cx := (b + 3)) K hS lF_X1_26 ((eA_3 G o hat) _) (eA_lt hat 3 (by decide)) rfl dX1_copyFrom_42 ?_
  refine lv_aload_n hx hb dX1_copyFrom_45 rfl (lv_at hl 1 rfl) ?_
  refine g_get (cx := (b2 + 3)) K hS lF_X1_26 ((eA_3 G o hat2) _) (eA_lt hat2 3 (by decide)) rfl dX1_copyFrom_46 ?_
  obtain ⟨q6, hq6, hf⟩ := Option.bind_eq_some_iff.mp hf
  refine g_Vv (cx := (b + 10)) (As := [.ref (o + (b2 + 10))]) K hS lV_X1_39 (c_X5_copyFrom (b + 10) 20 (b2 + 10) 20 (gRowA_10 G o hat) (gRowA_10 G o hat2) q5 q6 hq6) ((eA_10 G o hat) _) (eA_lt hat 10 (by decide)) rfl rfl rfl (Nat.le_of_ble_eq_true rfl) ⟨⟨Nat.le_of_ble_eq_true rfl, Nat.le_of_ble_eq_true rfl⟩, rfl, rfl⟩ hl.1 ⟨Nat.zero_le _, Nat.zero_le _⟩ dX1_copyFrom_49 (fun H locs hS => ?_)
  refine lv_aload_n hx hb dX1_copyFrom_52 rfl (lv_at hl 0 rfl) ?_
  refine g_get (cx := (b + 3)) K hS lF_X1_29 ((eA_3 G o hat) _) (eA_lt hat 3 (by decide)) rfl dX1_copyFrom_53 ?_
  refine lv_aload_n hx hb dX1_copyFrom_56 rfl (lv_at hl 1 rfl) ?_
  refine g_get (cx := (b2 + 3)) K hS lF_X1_29 ((eA_3 G o hat2) _) (eA_lt hat2 3 (by decide)) rfl dX1_copyFrom_57 ?_
  obtain ⟨q7, hq7, hf⟩ := Option.bind_eq_some_iff.mp hf
  refine g_Vv (cx := (b + 12)) (As := [.ref (o + (b2 + 12))]) K hS lV_X1_39 (c_X5_copyFrom (b + 12) 20 (b2 + 12) 20 (gRowA_12 G o hat) (gRowA_12 G o hat2) q6 q7 hq7) ((eA_12 G o hat) _) (eA_lt hat 12 (by decide)) rfl rfl rfl (Nat.le_of_ble_eq_true rfl) ⟨⟨Nat.le_of_ble_eq_true rfl, Nat.le_of_ble_eq_true rfl⟩, rfl, rfl⟩ hl.1 ⟨Nat.zero_le _, Nat.zero_le _⟩ dX1_copyFrom_60 (fun H locs hS => ?_)
  refine lv_aload_n hx hb dX1_copyFrom_63 rfl (lv_at hl 0 rfl) ?_
  refine g_get (cx := (b + 3)) K hS lF_X1_32 ((eA_3 G o hat) _) (eA_lt hat 3 (by decide)) rfl dX1_copyFrom_64 ?_
  refine lv_aload_n hx hb dX1_copyFrom_67 rfl (lv_at hl 1 rfl) ?_
  refine g_get (cx := (b2 + 3)) K hS lF_X1_32 ((eA_3 G o hat2) _) (eA_lt hat2 3 (by decide)) rfl dX1_copyFrom_68 ?_
  obtain ⟨q8, hq8, hf⟩ := Option.bind_eq_some_iff.mp hf
  refine g_Vv (cx := (b + 14)) (As := [.ref (o + (b2 + 14))]) K hS lV_X1_39 (c_X5_copyFrom (b + 14) 20 (b2 + 14) 20 (gRowA_14 G o hat) (gRowA_14 G o hat2) q7 q8 hq8) ((eA_14 G o hat) _) (eA_lt hat 14 (by decide)) rfl rfl rfl (Nat.le_of_ble_eq_true rfl) ⟨⟨Nat.le_of_ble_eq_true rfl, Nat.le_of_ble_eq_true rfl⟩, rfl, rfl⟩ hl.1 ⟨Nat.zero_le _, Nat.zero_le _⟩ dX1_copyFrom_71 (fun H locs hS => ?_)
  exact g_vret K hS hf dX1_copyFrom_74
abbrev rmX2_copyFrom : Room := { frames := 2, cells := 0, slots := 0, locals := 61 }
def f_X2_copyFrom (b b2 : Nat) (σ : gS) : Option (gS) := Option.bind (f_X5_copyFrom (b + 17) 4 (b2 + 17) 4 σ) (fun q1 => Option.bind (f_X5_copyFrom (b + 19) 4 (b2 + 19) 4 q1) (fun q2 => Option.bind (f_X5_copyFrom (b + 21) 4 (b2 + 21) 4 q2) (fun q3 => some q3)))
set_option maxHeartbeats 4000000 in
set_option maxRecDepth 100000 in
theorem c_X2_copyFrom (b b2 : Nat) (hat : gIsAt b) (hat2 : gIsAt b2) (σ : gS) (q : gS) (hf : f_X2_copyFrom b b2 σ = some q) : Met l yX2_copyFrom (gW yX2_copyFrom cX2_copyFrom 2 none) rmX2_copyFrom (gPc G (entX G o) o 302 [.ref (o + (b + 16)), .ref (o + (b2 + 16))] σ) (gQv G (entX G o) o 302 q) 0 0 (gA o 302) := by
  refine g_met (by decide) ⟨rfl, rfl⟩ (fun p e s m args below meth c ls K hS hl => ?_) (Nat.le_of_ble_eq_true rfl)
  have K : gK p s m args meth c G cX2_copyFrom 2 RX2 none := K
  have hl : lv_has ls 2 [(0, .ref (o + (b + 16))), (1, .ref (o + (b2 + 16)))] := hl
  obtain ⟨hx, hb, hml, hown, hts, -⟩ := id K
  unfold f_X2_copyFrom at hf
  refine lv_aload_n hx hb dX2_copyFrom_0 rfl (lv_at hl 0 rfl) ?_
  refine g_get (cx := (b + 16)) K hS lF_X2_14 ((eA_16 G o hat) _) (eA_lt hat 16 (by decide)) rfl dX2_copyFrom_1 ?_
  refine lv_aload_n hx hb dX2_copyFrom_4 rfl (lv_at hl 1 rfl) ?_
  refine g_get (cx := (b2 + 16)) K hS lF_X2_14 ((eA_16 G o hat2) _) (eA_lt hat2 16 (by decide)) rfl dX2_copyFrom_5 ?_
  obtain ⟨q1, hq1, hf⟩ := Option.bind_eq_some_iff.mp hf
  refine g_Vv (cx := (b + 17)) (As := [.ref (o + (b2 + 17))]) K hS lV_X2_26 (c_X5_copyFrom (b + 17) 4 (b2 + 17) 4 (gRowA_17 G o hat) (gRowA_17 G o hat2) σ q1 hq1) ((eA_17 G o hat) _) (eA_lt hat 17 (by decide)) rfl rfl rfl (Nat.le_of_ble_eq_true rfl) ⟨⟨Nat.le_of_ble_eq_true rfl, Nat.le_of_ble_eq_true rfl⟩, rfl, rfl⟩ hl.1 ⟨Nat.zero_le _, Nat.zero_le _⟩ dX2_copyFrom_8 (fun H locs hS => ?_)
  refine lv_aload_n hx hb dX2_copyFrom_11 rfl (lv_at hl 0 rfl) ?_
  refine g_get (cx := (b + 16)) K hS lF_X2_20 ((eA_16 G o hat) _) (eA_lt hat 16 (by decide)) rfl dX2_copyFrom_12 ?_
  refine lv_aload_n hx hb dX2_copyFrom_15 rfl (lv_at hl 1 rfl) ?_
  refine g_get (cx := (b2 + 16)) K hS lF_X2_20 ((eA_16 G o hat2) _) (eA_lt hat2 16 (by decide)) rfl dX2_copyFrom_16 ?_
  obtain ⟨q2, hq2, hf⟩ := Option.bind_eq_some_iff.mp hf
  refine g_Vv (cx := (b + 19)) (As := [.ref (o + (b2 + 19))]) K hS lV_X2_26 (c_X5_copyFrom (b + 19) 4 (b2 + 19) 4 (gRowA_19 G o hat) (gRowA_19 G o hat2) q1 q2 hq2) ((eA_19 G o hat) _) (eA_lt hat 19 (by decide)) rfl rfl rfl (Nat.le_of_ble_eq_true rfl) ⟨⟨Nat.le_of_ble_eq_true rfl, Nat.le_of_ble_eq_true rfl⟩, rfl, rfl⟩ hl.1 ⟨Nat.zero_le _, Nat.zero_le _⟩ dX2_copyFrom_19 (fun H locs hS => ?_)
  refine lv_aload_n hx hb dX2_copyFrom_22 rfl (lv_at hl 0 rfl) ?_
  refine g_get (cx := (b + 16)) K hS lF_X2_23 ((eA_16 G o hat) _) (eA_lt hat 16 (by decide)) rfl dX2_copyFrom_23 ?_
  refine lv_aload_n hx hb dX2_copyFrom_26 rfl (lv_at hl 1 rfl) ?_
  refine g_get (cx := (b2 + 16)) K hS lF_X2_23 ((eA_16 G o hat2) _) (eA_lt hat2 16 (by decide)) rfl dX2_copyFrom_27 ?_
  obtain ⟨q3, hq3, hf⟩ := Option.bind_eq_some_iff.mp hf
  refine g_Vv (cx := (b + 21)) (As := [.ref (o + (b2 + 21))]) K hS lV_X2_26 (c_X5_copyFrom (b + 21) 4 (b2 + 21) 4 (gRowA_21 G o hat) (gRowA_21 G o hat2) q2 q3 hq3) ((eA_21 G o hat) _) (eA_lt hat 21 (by decide)) rfl rfl rfl (Nat.le_of_ble_eq_true rfl) ⟨⟨Nat.le_of_ble_eq_true rfl, Nat.le_of_ble_eq_true rfl⟩, rfl, rfl⟩ hl.1 ⟨Nat.zero_le _, Nat.zero_le _⟩ dX2_copyFrom_30 (fun H locs hS => ?_)
  exact g_vret K hS hf dX2_copyFrom_33
abbrev rmX7_copyFrom : Room := { frames := 2, cells := 0, slots := 0, locals := 61 }
def f_X7_copyFrom (b b2 : Nat) (σ : gS) : Option (gS) := gLet (up2 σ (b + 23) 0 (σ (b2 + 23) 0)) (fun s1 => Option.bind (f_X5_copyFrom (b + 24) 5 (b2 + 24) 5 s1) (fun q3 => Option.bind (f_X5_copyFrom (b + 26) 5 (b2 + 26) 5 q3) (fun q4 => Option.bind (f_X5_copyFrom (b + 28) 5 (b2 + 28) 5 q4) (fun q5 => Option.bind (f_X5_copyFrom (b + 30) 5 (b2 + 30) 5 q5) (fun q6 => some q6)))))
set_option maxHeartbeats 4000000 in
set_option maxRecDepth 100000 in
theorem c_X7_copyFrom (b b2 : Nat) (hat : gIsAt b) (hat2 : gIsAt b2) (σ : gS) (q : gS) (hf : f_X7_copyFrom b b2 σ = some q) : Met l yX7_copyFrom (gW yX7_copyFrom cX7_copyFrom 2 none) rmX7_copyFrom (gPc G (entX G o) o 302 [.ref (o + (b + 23)), .ref (o + (b2 + 23))] σ) (gQv G (entX G o) o 302 q) 0 0 (gA o 302) := by
  refine g_met (by decide) ⟨rfl, rfl⟩ (fun p e s m args below meth c ls K hS hl => ?_) (Nat.le_of_ble_eq_true rfl)
  have K : gK p s m args meth c G cX7_copyFrom 2 RX7 none := K
  have hl : lv_has ls 2 [(0, .ref (o + (b + 23))), (1, .ref (o + (b2 + 23)))] := hl
  obtain ⟨hx, hb, hml, hown, hts, -⟩ := id K
  unfold f_X7_copyFrom at hf
  refine lv_aload_n hx hb dX7_copyFrom_0 rfl (lv_at hl 0 rfl) ?_
  refine lv_aload_n hx hb dX7_copyFrom_1 rfl (lv_at hl 1 rfl) ?_
  refine g_get (cx := (b2 + 23)) K hS lF_X7_29 ((eA_23 G o hat2) _) (eA_lt hat2 23 (by decide)) rfl dX7_copyFrom_2 ?_
  obtain ⟨s1, hs1, hf⟩ := gLet_some hf
  refine g_put (cx := (b + 23)) K hS lP_X7_29 (eA_23 G o hat) (eA_lt hat 23 (by decide)) rfl (Nat.le_of_ble_eq_true rfl) rfl rfl dX7_copyFrom_5 (fun H locs hS => ?_)
  rw [← hs1] at hS
  refine lv_aload_n hx hb dX7_copyFrom_8 rfl (lv_at hl 0 rfl) ?_
  refine g_get (cx := (b + 23)) K hS lF_X7_14 ((eA_23 G o hat) _) (eA_lt hat 23 (by decide)) rfl dX7_copyFrom_9 ?_
  refine lv_aload_n hx hb dX7_copyFrom_12 rfl (lv_at hl 1 rfl) ?_
  refine g_get (cx := (b2 + 23)) K hS lF_X7_14 ((eA_23 G o hat2) _) (eA_lt hat2 23 (by decide)) rfl dX7_copyFrom_13 ?_
  obtain ⟨q3, hq3, hf⟩ := Option.bind_eq_some_iff.mp hf
  refine g_Vv (cx := (b + 24)) (As := [.ref (o + (b2 + 24))]) K hS lV_X7_33 (c_X5_copyFrom (b + 24) 5 (b2 + 24) 5 (gRowA_24 G o hat) (gRowA_24 G o hat2) s1 q3 hq3) ((eA_24 G o hat) _) (eA_lt hat 24 (by decide)) rfl rfl rfl (Nat.le_of_ble_eq_true rfl) ⟨⟨Nat.le_of_ble_eq_true rfl, Nat.le_of_ble_eq_true rfl⟩, rfl, rfl⟩ hl.1 ⟨Nat.zero_le _, Nat.zero_le _⟩ dX7_copyFrom_16 (fun H locs hS => ?_)
  refine lv_aload_n hx hb dX7_copyFrom_19 rfl (lv_at hl 0 rfl) ?_
  refine g_get (cx := (b + 23)) K hS lF_X7_20 ((eA_23 G o hat) _) (eA_lt hat 23 (by decide)) rfl dX7_copyFrom_20 ?_
  refine lv_aload_n hx hb dX7_copyFrom_23 rfl (lv_at hl 1 rfl) ?_
  refine g_get (cx := (b2 + 23)) K hS lF_X7_20 ((eA_23 G o hat2) _) (eA_lt hat2 23 (by decide)) rfl dX7_copyFrom_24 ?_
  obtain ⟨q4, hq4, hf⟩ := Option.bind_eq_some_iff.mp hf
  refine g_Vv (cx := (b + 26)) (As := [.ref (o + (b2 + 26))]) K hS lV_X7_33 (c_X5_copyFrom (b + 26) 5 (b2 + 26) 5 (gRowA_26 G o hat) (gRowA_26 G o hat2) q3 q4 hq4) ((eA_26 G o hat) _) (eA_lt hat 26 (by decide)) rfl rfl rfl (Nat.le_of_ble_eq_true rfl) ⟨⟨Nat.le_of_ble_eq_true rfl, Nat.le_of_ble_eq_true rfl⟩, rfl, rfl⟩ hl.1 ⟨Nat.zero_le _, Nat.zero_le _⟩ dX7_copyFrom_27 (fun H locs hS => ?_)
  refine lv_aload_n hx hb dX7_copyFrom_30 rfl (lv_at hl 0 rfl) ?_
  refine g_get (cx := (b + 23)) K hS lF_X7_23 ((eA_23 G o hat) _) (eA_lt hat 23 (by decide)) rfl dX7_copyFrom_31 ?_
  refine lv_aload_n hx hb dX7_copyFrom_34 rfl (lv_at hl 1 rfl) ?_
  refine g_get (cx := (b2 + 23)) K hS lF_X7_23 ((eA_23 G o hat2) _) (eA_lt hat2 23 (by decide)) rfl dX7_copyFrom_35 ?_
  obtain ⟨q5, hq5, hf⟩ := Option.bind_eq_some_iff.mp hf
  refine g_Vv (cx := (b + 28)) (As := [.ref (o + (b2 + 28))]) K hS lV_X7_33 (c_X5_copyFrom (b + 28) 5 (b2 + 28) 5 (gRowA_28 G o hat) (gRowA_28 G o hat2) q4 q5 hq5) ((eA_28 G o hat) _) (eA_lt hat 28 (by decide)) rfl rfl rfl (Nat.le_of_ble_eq_true rfl) ⟨⟨Nat.le_of_ble_eq_true rfl, Nat.le_of_ble_eq_true rfl⟩, rfl, rfl⟩ hl.1 ⟨Nat.zero_le _, Nat.zero_le _⟩ dX7_copyFrom_38 (fun H locs hS => ?_)
  refine lv_aload_n hx hb dX7_copyFrom_41 rfl (lv_at hl 0 rfl) ?_
  refine g_get (cx := (b + 23)) K hS lF_X7_26 ((eA_23 G o hat) _) (eA_lt hat 23 (by decide)) rfl dX7_copyFrom_42 ?_
  refine lv_aload_n hx hb dX7_copyFrom_45 rfl (lv_at hl 1 rfl) ?_
  refine g_get (cx := (b2 + 23)) K hS lF_X7_26 ((eA_23 G o hat2) _) (eA_lt hat2 23 (by decide)) rfl dX7_copyFrom_46 ?_
  obtain ⟨q6, hq6, hf⟩ := Option.bind_eq_some_iff.mp hf
  refine g_Vv (cx := (b + 30)) (As := [.ref (o + (b2 + 30))]) K hS lV_X7_33 (c_X5_copyFrom (b + 30) 5 (b2 + 30) 5 (gRowA_30 G o hat) (gRowA_30 G o hat2) q5 q6 hq6) ((eA_30 G o hat) _) (eA_lt hat 30 (by decide)) rfl rfl rfl (Nat.le_of_ble_eq_true rfl) ⟨⟨Nat.le_of_ble_eq_true rfl, Nat.le_of_ble_eq_true rfl⟩, rfl, rfl⟩ hl.1 ⟨Nat.zero_le _, Nat.zero_le _⟩ dX7_copyFrom_49 (fun H locs hS => ?_)
  exact g_vret K hS hf dX7_copyFrom_52
abbrev rmX0_copyFrom : Room := { frames := 3, cells := 0, slots := 0, locals := 82 }
def f_X0_copyFrom (b b2 : Nat) (σ : gS) : Option (gS) := gLet (up2 σ b 0 (σ b2 0)) (fun s1 => gLet (up2 s1 b 1 (s1 b2 1)) (fun s3 => Option.bind (f_X5_copyFrom (b + 1) 2 (b2 + 1) 2 s3) (fun q5 => Option.bind (f_X1_copyFrom b b2 q5) (fun q6 => Option.bind (f_X2_copyFrom b b2 q6) (fun q7 => Option.bind (f_X7_copyFrom b b2 q7) (fun q8 => some q8))))))
set_option maxHeartbeats 4000000 in
set_option maxRecDepth 100000 in
theorem c_X0_copyFrom (b b2 : Nat) (hat : gIsAt b) (hat2 : gIsAt b2) (σ : gS) (q : gS) (hf : f_X0_copyFrom b b2 σ = some q) : Met l yX0_copyFrom (gW yX0_copyFrom cX0_copyFrom 2 none) rmX0_copyFrom (gPc G (entX G o) o 302 [.ref (o + b), .ref (o + b2)] σ) (gQv G (entX G o) o 302 q) 0 0 (gA o 302) := by
  refine g_met (by decide) ⟨rfl, rfl⟩ (fun p e s m args below meth c ls K hS hl => ?_) (Nat.le_of_ble_eq_true rfl)
  have K : gK p s m args meth c G cX0_copyFrom 2 RX0 none := K
  have hl : lv_has ls 2 [(0, .ref (o + b)), (1, .ref (o + b2))] := hl
  obtain ⟨hx, hb, hml, hown, hts, -⟩ := id K
  unfold f_X0_copyFrom at hf
  refine lv_aload_n hx hb dX0_copyFrom_0 rfl (lv_at hl 0 rfl) ?_
  refine lv_aload_n hx hb dX0_copyFrom_1 rfl (lv_at hl 1 rfl) ?_
  refine g_get (cx := b2) K hS lF_X0_45 ((eA_0 G o hat2) _) (eA_lt hat2 0 (by decide)) rfl dX0_copyFrom_2 ?_
  obtain ⟨s1, hs1, hf⟩ := gLet_some hf
  refine g_put (cx := b) K hS lP_X0_45 (eA_0 G o hat) (eA_lt hat 0 (by decide)) rfl (Nat.le_of_ble_eq_true rfl) rfl rfl dX0_copyFrom_5 (fun H locs hS => ?_)
  rw [← hs1] at hS
  refine lv_aload_n hx hb dX0_copyFrom_8 rfl (lv_at hl 0 rfl) ?_
  refine lv_aload_n hx hb dX0_copyFrom_9 rfl (lv_at hl 1 rfl) ?_
  refine g_get (cx := b2) K hS lF_X0_49 ((eA_0 G o hat2) _) (eA_lt hat2 0 (by decide)) rfl dX0_copyFrom_10 ?_
  obtain ⟨s3, hs3, hf⟩ := gLet_some hf
  refine g_put (cx := b) K hS lP_X0_49 (eA_0 G o hat) (eA_lt hat 0 (by decide)) rfl (Nat.le_of_ble_eq_true rfl) rfl rfl dX0_copyFrom_13 (fun H locs hS => ?_)
  rw [← hs3] at hS
  refine lv_aload_n hx hb dX0_copyFrom_16 rfl (lv_at hl 0 rfl) ?_
  refine g_get (cx := b) K hS lF_X0_14 ((eA_0 G o hat) _) (eA_lt hat 0 (by decide)) rfl dX0_copyFrom_17 ?_
  refine lv_aload_n hx hb dX0_copyFrom_20 rfl (lv_at hl 1 rfl) ?_
  refine g_get (cx := b2) K hS lF_X0_14 ((eA_0 G o hat2) _) (eA_lt hat2 0 (by decide)) rfl dX0_copyFrom_21 ?_
  obtain ⟨q5, hq5, hf⟩ := Option.bind_eq_some_iff.mp hf
  refine g_Vv (cx := (b + 1)) (As := [.ref (o + (b2 + 1))]) K hS lV_X0_52 (c_X5_copyFrom (b + 1) 2 (b2 + 1) 2 (gRowA_1 G o hat) (gRowA_1 G o hat2) s3 q5 hq5) ((eA_1 G o hat) _) (eA_lt hat 1 (by decide)) rfl rfl rfl (Nat.le_of_ble_eq_true rfl) ⟨⟨Nat.le_of_ble_eq_true rfl, Nat.le_of_ble_eq_true rfl⟩, rfl, rfl⟩ hl.1 ⟨Nat.zero_le _, Nat.zero_le _⟩ dX0_copyFrom_24 (fun H locs hS => ?_)
  refine lv_aload_n hx hb dX0_copyFrom_27 rfl (lv_at hl 0 rfl) ?_
  refine g_get (cx := b) K hS lF_X0_23 ((eA_0 G o hat) _) (eA_lt hat 0 (by decide)) rfl dX0_copyFrom_28 ?_
  refine lv_aload_n hx hb dX0_copyFrom_31 rfl (lv_at hl 1 rfl) ?_
  refine g_get (cx := b2) K hS lF_X0_23 ((eA_0 G o hat2) _) (eA_lt hat2 0 (by decide)) rfl dX0_copyFrom_32 ?_
  obtain ⟨q6, hq6, hf⟩ := Option.bind_eq_some_iff.mp hf
  refine g_Vv (cx := (b + 3)) (As := [.ref (o + (b2 + 3))]) K hS lV_X0_56 (c_X1_copyFrom b b2 hat hat2 q5 q6 hq6) ((eA_3 G o hat) _) (eA_lt hat 3 (by decide)) rfl rfl rfl (Nat.le_of_ble_eq_true rfl) ⟨⟨Nat.le_of_ble_eq_true rfl, Nat.le_of_ble_eq_true rfl⟩, rfl, rfl⟩ hl.1 ⟨Nat.zero_le _, Nat.zero_le _⟩ dX0_copyFrom_35 (fun H locs hS => ?_)
  refine lv_aload_n hx hb dX0_copyFrom_38 rfl (lv_at hl 0 rfl) ?_
  refine g_get (cx := b) K hS lF_X0_30 ((eA_0 G o hat) _) (eA_lt hat 0 (by decide)) rfl dX0_copyFrom_39 ?_
  refine lv_aload_n hx hb dX0_copyFrom_42 rfl (lv_at hl 1 rfl) ?_
  refine g_get (cx := b2) K hS lF_X0_30 ((eA_0 G o hat2) _) (eA_lt hat2 0 (by decide)) rfl dX0_copyFrom_43 ?_
  obtain ⟨q7, hq7, hf⟩ := Option.bind_eq_some_iff.mp hf
  refine g_Vv (cx := (b + 16)) (As := [.ref (o + (b2 + 16))]) K hS lV_X0_59 (c_X2_copyFrom b b2 hat hat2 q6 q7 hq7) ((eA_16 G o hat) _) (eA_lt hat 16 (by decide)) rfl rfl rfl (Nat.le_of_ble_eq_true rfl) ⟨⟨Nat.le_of_ble_eq_true rfl, Nat.le_of_ble_eq_true rfl⟩, rfl, rfl⟩ hl.1 ⟨Nat.zero_le _, Nat.zero_le _⟩ dX0_copyFrom_46 (fun H locs hS => ?_)
  refine lv_aload_n hx hb dX0_copyFrom_49 rfl (lv_at hl 0 rfl) ?_
  refine g_get (cx := b) K hS lF_X0_37 ((eA_0 G o hat) _) (eA_lt hat 0 (by decide)) rfl dX0_copyFrom_50 ?_
  refine lv_aload_n hx hb dX0_copyFrom_53 rfl (lv_at hl 1 rfl) ?_
  refine g_get (cx := b2) K hS lF_X0_37 ((eA_0 G o hat2) _) (eA_lt hat2 0 (by decide)) rfl dX0_copyFrom_54 ?_
  obtain ⟨q8, hq8, hf⟩ := Option.bind_eq_some_iff.mp hf
  refine g_Vv (cx := (b + 23)) (As := [.ref (o + (b2 + 23))]) K hS lV_X0_62 (c_X7_copyFrom b b2 hat hat2 q7 q8 hq8) ((eA_23 G o hat) _) (eA_lt hat 23 (by decide)) rfl rfl rfl (Nat.le_of_ble_eq_true rfl) ⟨⟨Nat.le_of_ble_eq_true rfl, Nat.le_of_ble_eq_true rfl⟩, rfl, rfl⟩ hl.1 ⟨Nat.zero_le _, Nat.zero_le _⟩ dX0_copyFrom_57 (fun H locs hS => ?_)
  exact g_vret K hS hf dX0_copyFrom_60
abbrev rmX5_at : Room := { frames := 0, cells := 0, slots := 0, locals := 0 }
def f_X5_at (r L : Nat) (p0 : Int32) (σ : gS) : Option (Int32 × gS) := if p0 < 0 then (some (0, σ)) else (if (Int32.ofNat L) ≤ p0 then (some (0, σ)) else (gGd (gin p0 L) (some ((σ (r + 1) (gil p0)), σ))))
set_option maxHeartbeats 4000000 in
set_option maxRecDepth 100000 in
theorem c_X5_at (r L : Nat) (hr : gRow G o r L) (p0 : Int32) (σ : gS) (q : Int32 × gS) (hf : f_X5_at r L p0 σ = some q) : Met l yX5_at (gW yX5_at cX5_at 2 (some .int)) rmX5_at (gPc G (entX G o) o 302 [.ref (o + r), .int p0] σ) (gQi G (entX G o) o 302 q) 0 0 (gA o 302) := by
  refine g_met (by decide) ⟨rfl, rfl⟩ (fun p e s m args below meth c ls K hS hl => ?_) (Nat.le_of_ble_eq_true rfl)
  have K : gK p s m args meth c G cX5_at 2 RX5 (some .int) := K
  have hl : lv_has ls 2 [(0, .ref (o + r)), (1, .int p0)] := hl
  obtain ⟨hx, hb, hml, hown, hts, -⟩ := id K
  unfold f_X5_at at hf
  refine lv_iload_n hx hb dX5_at_0 rfl (lv_at hl 1 rfl) ?_
  refine lv_if_lt (tgt := 22) hx hb dX5_at_1 (by decide) (fun c1 => ?_) (fun c1 => ?_)
  · have hf := gIf_t c1 hf
    refine lv_iconst (v := 0) hx hb dX5_at_22 (by decide) ?_
    exact g_iret K hS hf dX5_at_23
  · have hf := gIf_f c1 hf
    refine lv_iload_n hx hb dX5_at_4 rfl (lv_at hl 1 rfl) ?_
    refine lv_aload_n hx hb dX5_at_5 rfl (lv_at hl 0 rfl) ?_
    refine g_get (cx := r) K hS lF_X5_13 (hr.1 _) hr.2.2.1 rfl dX5_at_6 ?_
    refine g_alen (cx := (r + 1)) (t0 := 0) (v := (Int32.ofNat L)) K hS (hr.2.1 _) hr.2.2.2 rfl rfl dX5_at_9 ?_
    refine lv_icmp_ge (tgt := 22) hx hb dX5_at_10 (by decide) (fun c2 => ?_) (fun c2 => ?_)
    · have hf := gIf_t c2 hf
      refine lv_iconst (v := 0) hx hb dX5_at_22 (by decide) ?_
      exact g_iret K hS hf dX5_at_23
    · have hf := gIf_f c2 hf
      refine lv_aload_n hx hb dX5_at_13 rfl (lv_at hl 0 rfl) ?_
      refine g_get (cx := r) K hS lF_X5_13 (hr.1 _) hr.2.2.1 rfl dX5_at_14 ?_
      refine lv_iload_n hx hb dX5_at_17 rfl (lv_at hl 1 rfl) ?_
      obtain ⟨h3, hf⟩ := gGd_some hf
      refine g_iald (cx := (r + 1)) K hS hr.2.1 hr.2.2.2 h3 rfl dX5_at_18 ?_
      refine lv_goto (tgt := 23) hx hb dX5_at_19 (by decide) ?_
      exact g_iret K hS hf dX5_at_23
abbrev rmX0_minutesBetweenBells : Room := { frames := 1, cells := 0, slots := 0, locals := 21 }
def f_X0_minutesBetweenBells (σ : gS) : Option (Int32 × gS) := Option.bind (f_X5_at 2 2 0 σ) (fun q1 => some ((if q1.1 < 1 then 1 else q1.1), q1.2))
set_option maxHeartbeats 4000000 in
set_option maxRecDepth 100000 in
theorem c_X0_minutesBetweenBells (σ : gS) (q : Int32 × gS) (hf : f_X0_minutesBetweenBells σ = some q) : Met l yX0_minutesBetweenBells (gW yX0_minutesBetweenBells cX0_minutesBetweenBells 1 (some .int)) rmX0_minutesBetweenBells (gPc G (entX G o) o 302 [.ref (o + 1)] σ) (gQi G (entX G o) o 302 q) 0 0 (gA o 302) := by
  refine g_met (by decide) ⟨rfl, rfl⟩ (fun p e s m args below meth c ls K hS hl => ?_) (Nat.le_of_ble_eq_true rfl)
  have K : gK p s m args meth c G cX0_minutesBetweenBells 1 RX0 (some .int) := K
  have hl : lv_has ls 1 [(0, .ref (o + 1))] := hl
  obtain ⟨hx, hb, hml, hown, hts, -⟩ := id K
  unfold f_X0_minutesBetweenBells at hf
  refine lv_aload_n hx hb dX0_minutesBetweenBells_0 rfl (lv_at hl 0 rfl) ?_
  refine g_get (cx := 1) K hS lF_X0_14 ((eX_1 G o) _) (by decide) rfl dX0_minutesBetweenBells_1 ?_
  refine lv_iconst (v := 0) hx hb dX0_minutesBetweenBells_4 (by decide) ?_
  obtain ⟨q1, hq1, hf⟩ := Option.bind_eq_some_iff.mp hf
  refine g_Vi (cx := 2) (As := [.int 0]) K hS lV_X0_65 (c_X5_at 2 2 (gRow_2 G o) 0 σ q1 hq1) ((eX_2 G o) _) (by decide) rfl rfl rfl (Nat.le_of_ble_eq_true rfl) ⟨⟨Nat.le_of_ble_eq_true rfl, Nat.le_of_ble_eq_true rfl⟩, rfl, rfl⟩ hl.1 ⟨Nat.zero_le _, Nat.zero_le _⟩ dX0_minutesBetweenBells_5 (fun H locs hS => ?_)
  refine lv_iconst (v := 1) hx hb dX0_minutesBetweenBells_8 (by decide) ?_
  refine g_mmax K hl.1 (gmem 459 (by decide +kernel) rfl) q_static_max q_init_Math q_code_max (Nat.le_of_ble_eq_true rfl) (Nat.le_of_ble_eq_true rfl) (Nat.zero_le _) (Nat.zero_le _) dX0_minutesBetweenBells_9 ?_
  exact g_iret K hS hf dX0_minutesBetweenBells_12
abbrev rmX0_minutesToBell : Room := { frames := 2, cells := 0, slots := 0, locals := 41 }
def f_X0_minutesToBell (σ : gS) : Option (Int32 × gS) := Option.bind (f_X0_minutesBetweenBells σ) (fun q1 => Option.bind (f_X0_minutesBetweenBells q1.2) (fun q2 => gGd (gne q2.1) (some ((q1.1 - ((q1.2 1 0) - (q1.2 1 0) / q2.1 * q2.1)), q2.2))))
set_option maxHeartbeats 4000000 in
set_option maxRecDepth 100000 in
theorem c_X0_minutesToBell (σ : gS) (q : Int32 × gS) (hf : f_X0_minutesToBell σ = some q) : Met l yX0_minutesToBell (gW yX0_minutesToBell cX0_minutesToBell 1 (some .int)) rmX0_minutesToBell (gPc G (entX G o) o 302 [.ref (o + 1)] σ) (gQi G (entX G o) o 302 q) 0 0 (gA o 302) := by
  refine g_met (by decide) ⟨rfl, rfl⟩ (fun p e s m args below meth c ls K hS hl => ?_) (Nat.le_of_ble_eq_true rfl)
  have K : gK p s m args meth c G cX0_minutesToBell 1 RX0 (some .int) := K
  have hl : lv_has ls 1 [(0, .ref (o + 1))] := hl
  obtain ⟨hx, hb, hml, hown, hts, -⟩ := id K
  unfold f_X0_minutesToBell at hf
  refine lv_aload_n hx hb dX0_minutesToBell_0 rfl (lv_at hl 0 rfl) ?_
  obtain ⟨q1, hq1, hf⟩ := Option.bind_eq_some_iff.mp hf
  refine g_Vi (cx := 1) (As := []) K hS lV_X0_75 (c_X0_minutesBetweenBells σ q1 hq1) ((eX_1 G o) _) (by decide) rfl rfl rfl (Nat.le_of_ble_eq_true rfl) ⟨⟨Nat.le_of_ble_eq_true rfl, Nat.le_of_ble_eq_true rfl⟩, rfl, rfl⟩ hl.1 ⟨Nat.zero_le _, Nat.zero_le _⟩ dX0_minutesToBell_1 (fun H locs hS => ?_)
  refine lv_aload_n hx hb dX0_minutesToBell_4 rfl (lv_at hl 0 rfl) ?_
  refine g_get (cx := 1) K hS lF_X0_45 ((eX_1 G o) _) (by decide) rfl dX0_minutesToBell_5 ?_
  refine lv_aload_n hx hb dX0_minutesToBell_8 rfl (lv_at hl 0 rfl) ?_
  obtain ⟨q2, hq2, hf⟩ := Option.bind_eq_some_iff.mp hf
  refine g_Vi (cx := 1) (As := []) K hS lV_X0_75 (c_X0_minutesBetweenBells q1.2 q2 hq2) ((eX_1 G o) _) (by decide) rfl rfl rfl (Nat.le_of_ble_eq_true rfl) ⟨⟨Nat.le_of_ble_eq_true rfl, Nat.le_of_ble_eq_true rfl⟩, rfl, rfl⟩ hl.1 ⟨Nat.zero_le _, Nat.zero_le _⟩ dX0_minutesToBell_9 (fun H locs hS => ?_)
  obtain ⟨h3, hf⟩ := gGd_some hf
  refine lv_irem hx hb dX0_minutesToBell_12 (gne_ne h3) ?_
  refine lv_isub hx hb dX0_minutesToBell_13 ?_
  exact g_iret K hS hf dX0_minutesToBell_14
abbrev rmX1_all : Room := { frames := 0, cells := 0, slots := 0, locals := 0 }
def f_X1_all (σ : gS) : Option (Int32 × gS) := some (((1 <<< ((σ 4 0) &&& 31)) - 1), σ)
set_option maxHeartbeats 4000000 in
set_option maxRecDepth 100000 in
theorem c_X1_all (σ : gS) (q : Int32 × gS) (hf : f_X1_all σ = some q) : Met l yX1_all (gW yX1_all cX1_all 1 (some .int)) rmX1_all (gPc G (entX G o) o 302 [.ref (o + 4)] σ) (gQi G (entX G o) o 302 q) 0 0 (gA o 302) := by
  refine g_met (by decide) ⟨rfl, rfl⟩ (fun p e s m args below meth c ls K hS hl => ?_) (Nat.le_of_ble_eq_true rfl)
  have K : gK p s m args meth c G cX1_all 1 RX1 (some .int) := K
  have hl : lv_has ls 1 [(0, .ref (o + 4))] := hl
  obtain ⟨hx, hb, hml, hown, hts, -⟩ := id K
  unfold f_X1_all at hf
  refine lv_iconst (v := 1) hx hb dX1_all_0 (by decide) ?_
  refine lv_aload_n hx hb dX1_all_1 rfl (lv_at hl 0 rfl) ?_
  refine g_get (cx := 4) K hS lF_X1_35 ((eX_4 G o) _) (by decide) rfl dX1_all_2 ?_
  refine lv_ishl hx hb dX1_all_5 ?_
  refine lv_iconst (v := 1) hx hb dX1_all_6 (by decide) ?_
  refine lv_isub hx hb dX1_all_7 ?_
  exact g_iret K hS hf dX1_all_8
abbrev rmX0_leftTo : Room := { frames := 1, cells := 0, slots := 0, locals := 21 }
def f_X0_leftTo (p0 : Int32) (σ : gS) : Option (Int32 × gS) := Option.bind (f_X1_all σ) (fun q1 => Option.bind (f_X5_at 20 4 p0 q1.2) (fun q2 => some ((q1.1 &&& (q2.1 ^^^ (-1))), q2.2)))
set_option maxHeartbeats 4000000 in
set_option maxRecDepth 100000 in
theorem c_X0_leftTo (p0 : Int32) (σ : gS) (q : Int32 × gS) (hf : f_X0_leftTo p0 σ = some q) : Met l yX0_leftTo (gW yX0_leftTo cX0_leftTo 2 (some .int)) rmX0_leftTo (gPc G (entX G o) o 302 [.ref (o + 1), .int p0] σ) (gQi G (entX G o) o 302 q) 0 0 (gA o 302) := by
  refine g_met (by decide) ⟨rfl, rfl⟩ (fun p e s m args below meth c ls K hS hl => ?_) (Nat.le_of_ble_eq_true rfl)
  have K : gK p s m args meth c G cX0_leftTo 2 RX0 (some .int) := K
  have hl : lv_has ls 2 [(0, .ref (o + 1)), (1, .int p0)] := hl
  obtain ⟨hx, hb, hml, hown, hts, -⟩ := id K
  unfold f_X0_leftTo at hf
  refine lv_aload_n hx hb dX0_leftTo_0 rfl (lv_at hl 0 rfl) ?_
  refine g_get (cx := 1) K hS lF_X0_23 ((eX_1 G o) _) (by decide) rfl dX0_leftTo_1 ?_
  obtain ⟨q1, hq1, hf⟩ := Option.bind_eq_some_iff.mp hf
  refine g_Vi (cx := 4) (As := []) K hS lV_X0_79 (c_X1_all σ q1 hq1) ((eX_4 G o) _) (by decide) rfl rfl rfl (Nat.le_of_ble_eq_true rfl) ⟨⟨Nat.le_of_ble_eq_true rfl, Nat.le_of_ble_eq_true rfl⟩, rfl, rfl⟩ hl.1 ⟨Nat.zero_le _, Nat.zero_le _⟩ dX0_leftTo_4 (fun H locs hS => ?_)
  refine lv_aload_n hx hb dX0_leftTo_7 rfl (lv_at hl 0 rfl) ?_
  refine g_get (cx := 1) K hS lF_X0_30 ((eX_1 G o) _) (by decide) rfl dX0_leftTo_8 ?_
  refine g_get (cx := 17) K hS lF_X0_82 ((eX_17 G o) _) (by decide) rfl dX0_leftTo_11 ?_
  refine lv_iload_n hx hb dX0_leftTo_14 rfl (lv_at hl 1 rfl) ?_
  obtain ⟨q2, hq2, hf⟩ := Option.bind_eq_some_iff.mp hf
  refine g_Vi (cx := 20) (As := [.int p0]) K hS lV_X0_65 (c_X5_at 20 4 (gRow_20 G o) p0 q1.2 q2 hq2) ((eX_20 G o) _) (by decide) rfl rfl rfl (Nat.le_of_ble_eq_true rfl) ⟨⟨Nat.le_of_ble_eq_true rfl, Nat.le_of_ble_eq_true rfl⟩, rfl, rfl⟩ hl.1 ⟨Nat.zero_le _, Nat.zero_le _⟩ dX0_leftTo_15 (fun H locs hS => ?_)
  refine lv_iconst (v := (-1)) hx hb dX0_leftTo_18 (by decide) ?_
  refine lv_ixor hx hb dX0_leftTo_19 ?_
  refine lv_iand hx hb dX0_leftTo_20 ?_
  exact g_iret K hS hf dX0_leftTo_21
abbrev rmX7_watchedRooms : Room := { frames := 1, cells := 0, slots := 0, locals := 21 }
def f_X7_watchedRooms_L4 : Nat → Int32 → Int32 → gS → Option (Int32 × gS)
  | 0, _, _, _ => none
  | n + 1, v1, v2, σ => if (σ 24 0) ≤ v2 then (some (v1, σ)) else (Option.bind (f_X5_at 29 5 v2 σ) (fun q2 => if q2.1 ≤ 0 then (f_X7_watchedRooms_L4 n v1 (v2 + 1) q2.2) else (Option.bind (f_X5_at 25 5 v2 q2.2) (fun q4 => gLet (v1 ||| (1 <<< (q4.1 &&& 31))) (fun x5 => f_X7_watchedRooms_L4 n x5 (v2 + 1) q4.2)))))
theorem f_X7_watchedRooms_L4_s (n : Nat) (v1 : Int32) (v2 : Int32) (σ : gS) : f_X7_watchedRooms_L4 (n + 1) v1 v2 σ = (if (σ 24 0) ≤ v2 then (some (v1, σ)) else (Option.bind (f_X5_at 29 5 v2 σ) (fun q2 => if q2.1 ≤ 0 then (f_X7_watchedRooms_L4 n v1 (v2 + 1) q2.2) else (Option.bind (f_X5_at 25 5 v2 q2.2) (fun q4 => gLet (v1 ||| (1 <<< (q4.1 &&& 31))) (fun x5 => f_X7_watchedRooms_L4 n x5 (v2 + 1) q4.2)))))) := rfl
def f_X7_watchedRooms (σ : gS) : Option (Int32 × gS) := f_X7_watchedRooms_L4 gFu 0 0 σ
set_option maxHeartbeats 4000000 in
set_option maxRecDepth 100000 in
theorem w_X7_watchedRooms_L4 {q : Int32 × gS} (K : gK p s m args meth c G cX7_watchedRooms 3 RX7 (some .int)) : ∀ (n : Nat) (v1 : Int32) (v2 : Int32) (σ : gS), f_X7_watchedRooms_L4 n v1 v2 σ = some q → ∀ (H : Heap) (locs : List Loc) (ls : Array Slot), gSt G (entX G o) o 302 s σ H locs → lv_has ls 3 [(0, .ref (o + 24)), (1, .int v1), (2, .int v2)] → W p l e rmX7_watchedRooms s m args below meth c H locs 0 0 (MQ below (gQi G (entX G o) o 302 q) args s 0 0 (gA o 302)) (F0 m 4 ls []) := by
  obtain ⟨hx, hb, hml, hown, hts, -⟩ := id K
  intro n
  induction n with
  | zero =>
    intro v1 v2 σ hf
    exact absurd (show (none : Option _) = some q from hf) (by simp)
  | succ n ih =>
    intro v1 v2 σ hf H locs ls hS hl
    rw [f_X7_watchedRooms_L4_s] at hf
    refine lv_iload_n hx hb dX7_watchedRooms_4 rfl (lv_at hl 2 rfl) ?_
    refine lv_aload_n hx hb dX7_watchedRooms_5 rfl (lv_at hl 0 rfl) ?_
    refine g_get (cx := 24) K hS lF_X7_29 ((eX_24 G o) _) (by decide) rfl dX7_watchedRooms_6 ?_
    refine lv_icmp_ge (tgt := 42) hx hb dX7_watchedRooms_9 (by decide) (fun c1 => ?_) (fun c1 => ?_)
    · have hf := gIf_t c1 hf
      refine lv_iload_n hx hb dX7_watchedRooms_42 rfl (lv_at hl 1 rfl) ?_
      exact g_iret K hS hf dX7_watchedRooms_43
    · have hf := gIf_f c1 hf
      refine lv_aload_n hx hb dX7_watchedRooms_12 rfl (lv_at hl 0 rfl) ?_
      refine g_get (cx := 24) K hS lF_X7_23 ((eX_24 G o) _) (by decide) rfl dX7_watchedRooms_13 ?_
      refine lv_iload_n hx hb dX7_watchedRooms_16 rfl (lv_at hl 2 rfl) ?_
      obtain ⟨q2, hq2, hf⟩ := Option.bind_eq_some_iff.mp hf
      refine g_Vi (cx := 29) (As := [.int v2]) K hS lV_X7_45 (c_X5_at 29 5 (gRow_29 G o) v2 σ q2 hq2) ((eX_29 G o) _) (by decide) rfl rfl rfl (Nat.le_of_ble_eq_true rfl) ⟨⟨Nat.le_of_ble_eq_true rfl, Nat.le_of_ble_eq_true rfl⟩, rfl, rfl⟩ hl.1 ⟨Nat.zero_le _, Nat.zero_le _⟩ dX7_watchedRooms_17 (fun H locs hS => ?_)
      refine lv_if_le (tgt := 36) hx hb dX7_watchedRooms_20 (by decide) (fun c3 => ?_) (fun c3 => ?_)
      · have hf := gIf_t c3 hf
        refine lv_iinc (v := (v2 + 1)) (lv' := [(2, .int (v2 + 1)), (0, .ref (o + 24)), (1, .int v1)]) hx hb dX7_watchedRooms_36 hl (k := 2) rfl rfl (by decide) rfl (fun ls hl => ?_)
        refine lv_goto (tgt := 4) hx hb dX7_watchedRooms_39 (by decide) ?_
        exact ih v1 (v2 + 1) q2.2 hf _ _ _ hS (lv_sub hl [1, 2, 0] rfl)
      · have hf := gIf_f c3 hf
        refine lv_iload_n hx hb dX7_watchedRooms_23 rfl (lv_at hl 1 rfl) ?_
        refine lv_iconst (v := 1) hx hb dX7_watchedRooms_24 (by decide) ?_
        refine lv_aload_n hx hb dX7_watchedRooms_25 rfl (lv_at hl 0 rfl) ?_
        refine g_get (cx := 24) K hS lF_X7_14 ((eX_24 G o) _) (by decide) rfl dX7_watchedRooms_26 ?_
        refine lv_iload_n hx hb dX7_watchedRooms_29 rfl (lv_at hl 2 rfl) ?_
        obtain ⟨q4, hq4, hf⟩ := Option.bind_eq_some_iff.mp hf
        refine g_Vi (cx := 25) (As := [.int v2]) K hS lV_X7_45 (c_X5_at 25 5 (gRow_25 G o) v2 q2.2 q4 hq4) ((eX_25 G o) _) (by decide) rfl rfl rfl (Nat.le_of_ble_eq_true rfl) ⟨⟨Nat.le_of_ble_eq_true rfl, Nat.le_of_ble_eq_true rfl⟩, rfl, rfl⟩ hl.1 ⟨Nat.zero_le _, Nat.zero_le _⟩ dX7_watchedRooms_30 (fun H locs hS => ?_)
        refine lv_ishl hx hb dX7_watchedRooms_33 ?_
        refine lv_ior hx hb dX7_watchedRooms_34 ?_
        obtain ⟨x5, hx5, hf⟩ := gLet_some hf
        refine g_top hx5 ?_
        refine lv_istore_n (lv' := [(1, .int x5), (0, .ref (o + 24)), (2, .int v2)]) hx hb dX7_watchedRooms_35 rfl hl (by decide) rfl (fun ls hl => ?_)
        refine lv_iinc (v := (v2 + 1)) (lv' := [(2, .int (v2 + 1)), (1, .int x5), (0, .ref (o + 24))]) hx hb dX7_watchedRooms_36 hl (k := 2) rfl rfl (by decide) rfl (fun ls hl => ?_)
        refine lv_goto (tgt := 4) hx hb dX7_watchedRooms_39 (by decide) ?_
        exact ih x5 (v2 + 1) q4.2 hf _ _ _ hS (lv_sub hl [2, 1, 0] rfl)
set_option maxHeartbeats 4000000 in
set_option maxRecDepth 100000 in
theorem c_X7_watchedRooms (σ : gS) (q : Int32 × gS) (hf : f_X7_watchedRooms σ = some q) : Met l yX7_watchedRooms (gW yX7_watchedRooms cX7_watchedRooms 3 (some .int)) rmX7_watchedRooms (gPc G (entX G o) o 302 [.ref (o + 24)] σ) (gQi G (entX G o) o 302 q) 0 0 (gA o 302) := by
  refine g_met (by decide) ⟨rfl, rfl⟩ (fun p e s m args below meth c ls K hS hl => ?_) (Nat.le_of_ble_eq_true rfl)
  have K : gK p s m args meth c G cX7_watchedRooms 3 RX7 (some .int) := K
  have hl : lv_has ls 3 [(0, .ref (o + 24))] := hl
  obtain ⟨hx, hb, hml, hown, hts, -⟩ := id K
  unfold f_X7_watchedRooms at hf
  refine lv_iconst (v := 0) hx hb dX7_watchedRooms_0 (by decide) ?_
  refine lv_istore_n (lv' := [(1, .int 0), (0, .ref (o + 24))]) hx hb dX7_watchedRooms_1 rfl hl (by decide) rfl (fun ls hl => ?_)
  refine lv_iconst (v := 0) hx hb dX7_watchedRooms_2 (by decide) ?_
  refine lv_istore_n (lv' := [(2, .int 0), (1, .int 0), (0, .ref (o + 24))]) hx hb dX7_watchedRooms_3 rfl hl (by decide) rfl (fun ls hl => ?_)
  refine w_X7_watchedRooms_L4 K gFu 0 0 σ hf _ _ _ hS (lv_sub hl [2, 1, 0] rfl)
abbrev rmX1_touching : Room := { frames := 1, cells := 0, slots := 0, locals := 21 }
def f_X1_touching_L4 (w1 : Int32) : Nat → Int32 → Int32 → gS → Option (Int32 × gS)
  | 0, _, _, _ => none
  | n + 1, v2, v3, σ => if (σ 4 0) ≤ v3 then (some (v2, σ)) else (Option.bind (f_X5_at 9 20 v3 σ) (fun q2 => if (q2.1 &&& w1) = 0 then (f_X1_touching_L4 w1 n v2 (v3 + 1) q2.2) else (gLet (v2 ||| (1 <<< (v3 &&& 31))) (fun x4 => f_X1_touching_L4 w1 n x4 (v3 + 1) q2.2))))
theorem f_X1_touching_L4_s (w1 : Int32) (n : Nat) (v2 : Int32) (v3 : Int32) (σ : gS) : f_X1_touching_L4 w1 (n + 1) v2 v3 σ = (if (σ 4 0) ≤ v3 then (some (v2, σ)) else (Option.bind (f_X5_at 9 20 v3 σ) (fun q2 => if (q2.1 &&& w1) = 0 then (f_X1_touching_L4 w1 n v2 (v3 + 1) q2.2) else (gLet (v2 ||| (1 <<< (v3 &&& 31))) (fun x4 => f_X1_touching_L4 w1 n x4 (v3 + 1) q2.2))))) := rfl
def f_X1_touching (p0 : Int32) (σ : gS) : Option (Int32 × gS) := f_X1_touching_L4 p0 gFu 0 0 σ
set_option maxHeartbeats 4000000 in
set_option maxRecDepth 100000 in
theorem w_X1_touching_L4 (w1 : Int32) {q : Int32 × gS} (K : gK p s m args meth c G cX1_touching 4 RX1 (some .int)) : ∀ (n : Nat) (v2 : Int32) (v3 : Int32) (σ : gS), f_X1_touching_L4 w1 n v2 v3 σ = some q → ∀ (H : Heap) (locs : List Loc) (ls : Array Slot), gSt G (entX G o) o 302 s σ H locs → lv_has ls 4 [(0, .ref (o + 4)), (1, .int w1), (2, .int v2), (3, .int v3)] → W p l e rmX1_touching s m args below meth c H locs 0 0 (MQ below (gQi G (entX G o) o 302 q) args s 0 0 (gA o 302)) (F0 m 4 ls []) := by
  obtain ⟨hx, hb, hml, hown, hts, -⟩ := id K
  intro n
  induction n with
  | zero =>
    intro v2 v3 σ hf
    exact absurd (show (none : Option _) = some q from hf) (by simp)
  | succ n ih =>
    intro v2 v3 σ hf H locs ls hS hl
    rw [f_X1_touching_L4_s] at hf
    refine lv_iload_n hx hb dX1_touching_4 rfl (lv_at hl 3 rfl) ?_
    refine lv_aload_n hx hb dX1_touching_5 rfl (lv_at hl 0 rfl) ?_
    refine g_get (cx := 4) K hS lF_X1_35 ((eX_4 G o) _) (by decide) rfl dX1_touching_6 ?_
    refine lv_icmp_ge (tgt := 37) hx hb dX1_touching_9 (by decide) (fun c1 => ?_) (fun c1 => ?_)
    · have hf := gIf_t c1 hf
      refine lv_iload_n hx hb dX1_touching_37 rfl (lv_at hl 2 rfl) ?_
      exact g_iret K hS hf dX1_touching_38
    · have hf := gIf_f c1 hf
      refine lv_aload_n hx hb dX1_touching_12 rfl (lv_at hl 0 rfl) ?_
      refine g_get (cx := 4) K hS lF_X1_23 ((eX_4 G o) _) (by decide) rfl dX1_touching_13 ?_
      refine lv_iload_n hx hb dX1_touching_16 rfl (lv_at hl 3 rfl) ?_
      obtain ⟨q2, hq2, hf⟩ := Option.bind_eq_some_iff.mp hf
      refine g_Vi (cx := 9) (As := [.int v3]) K hS lV_X1_67 (c_X5_at 9 20 (gRow_9 G o) v3 σ q2 hq2) ((eX_9 G o) _) (by decide) rfl rfl rfl (Nat.le_of_ble_eq_true rfl) ⟨⟨Nat.le_of_ble_eq_true rfl, Nat.le_of_ble_eq_true rfl⟩, rfl, rfl⟩ hl.1 ⟨Nat.zero_le _, Nat.zero_le _⟩ dX1_touching_17 (fun H locs hS => ?_)
      refine lv_iload_n hx hb dX1_touching_20 rfl (lv_at hl 1 rfl) ?_
      refine lv_iand hx hb dX1_touching_21 ?_
      refine lv_if_eq (tgt := 31) hx hb dX1_touching_22 (by decide) (fun c3 => ?_) (fun c3 => ?_)
      · have hf := gIf_t c3 hf
        refine lv_iinc (v := (v3 + 1)) (lv' := [(3, .int (v3 + 1)), (0, .ref (o + 4)), (1, .int w1), (2, .int v2)]) hx hb dX1_touching_31 hl (k := 3) rfl rfl (by decide) rfl (fun ls hl => ?_)
        refine lv_goto (tgt := 4) hx hb dX1_touching_34 (by decide) ?_
        exact ih v2 (v3 + 1) q2.2 hf _ _ _ hS (lv_sub hl [1, 2, 3, 0] rfl)
      · have hf := gIf_f c3 hf
        refine lv_iload_n hx hb dX1_touching_25 rfl (lv_at hl 2 rfl) ?_
        refine lv_iconst (v := 1) hx hb dX1_touching_26 (by decide) ?_
        refine lv_iload_n hx hb dX1_touching_27 rfl (lv_at hl 3 rfl) ?_
        refine lv_ishl hx hb dX1_touching_28 ?_
        refine lv_ior hx hb dX1_touching_29 ?_
        obtain ⟨x4, hx4, hf⟩ := gLet_some hf
        refine g_top hx4 ?_
        refine lv_istore_n (lv' := [(2, .int x4), (0, .ref (o + 4)), (1, .int w1), (3, .int v3)]) hx hb dX1_touching_30 rfl hl (by decide) rfl (fun ls hl => ?_)
        refine lv_iinc (v := (v3 + 1)) (lv' := [(3, .int (v3 + 1)), (2, .int x4), (0, .ref (o + 4)), (1, .int w1)]) hx hb dX1_touching_31 hl (k := 3) rfl rfl (by decide) rfl (fun ls hl => ?_)
        refine lv_goto (tgt := 4) hx hb dX1_touching_34 (by decide) ?_
        exact ih x4 (v3 + 1) q2.2 hf _ _ _ hS (lv_sub hl [2, 3, 1, 0] rfl)
set_option maxHeartbeats 4000000 in
set_option maxRecDepth 100000 in
theorem c_X1_touching (p0 : Int32) (σ : gS) (q : Int32 × gS) (hf : f_X1_touching p0 σ = some q) : Met l yX1_touching (gW yX1_touching cX1_touching 4 (some .int)) rmX1_touching (gPc G (entX G o) o 302 [.ref (o + 4), .int p0] σ) (gQi G (entX G o) o 302 q) 0 0 (gA o 302) := by
  refine g_met (by decide) ⟨rfl, rfl⟩ (fun p e s m args below meth c ls K hS hl => ?_) (Nat.le_of_ble_eq_true rfl)
  have K : gK p s m args meth c G cX1_touching 4 RX1 (some .int) := K
  have hl : lv_has ls 4 [(0, .ref (o + 4)), (1, .int p0)] := hl
  obtain ⟨hx, hb, hml, hown, hts, -⟩ := id K
  unfold f_X1_touching at hf
  refine lv_iconst (v := 0) hx hb dX1_touching_0 (by decide) ?_
  refine lv_istore_n (lv' := [(2, .int 0), (0, .ref (o + 4)), (1, .int p0)]) hx hb dX1_touching_1 rfl hl (by decide) rfl (fun ls hl => ?_)
  refine lv_iconst (v := 0) hx hb dX1_touching_2 (by decide) ?_
  refine lv_istore_n (lv' := [(3, .int 0), (2, .int 0), (0, .ref (o + 4)), (1, .int p0)]) hx hb dX1_touching_3 rfl hl (by decide) rfl (fun ls hl => ?_)
  refine w_X1_touching_L4 p0 K gFu 0 0 σ hf _ _ _ hS (lv_sub hl [2, 3, 1, 0] rfl)
abbrev rmX0_freeTo : Room := { frames := 2, cells := 0, slots := 0, locals := 44 }
def f_X0_freeTo (p0 : Int32) (σ : gS) : Option (Int32 × gS) := Option.bind (f_X0_leftTo p0 σ) (fun q1 => Option.bind (f_X7_watchedRooms q1.2) (fun q2 => Option.bind (f_X1_touching q2.1 q2.2) (fun q3 => some ((q1.1 &&& (q3.1 ^^^ (-1))), q3.2))))
set_option maxHeartbeats 4000000 in
set_option maxRecDepth 100000 in
theorem c_X0_freeTo (p0 : Int32) (σ : gS) (q : Int32 × gS) (hf : f_X0_freeTo p0 σ = some q) : Met l yX0_freeTo (gW yX0_freeTo cX0_freeTo 2 (some .int)) rmX0_freeTo (gPc G (entX G o) o 302 [.ref (o + 1), .int p0] σ) (gQi G (entX G o) o 302 q) 0 0 (gA o 302) := by
  refine g_met (by decide) ⟨rfl, rfl⟩ (fun p e s m args below meth c ls K hS hl => ?_) (Nat.le_of_ble_eq_true rfl)
  have K : gK p s m args meth c G cX0_freeTo 2 RX0 (some .int) := K
  have hl : lv_has ls 2 [(0, .ref (o + 1)), (1, .int p0)] := hl
  obtain ⟨hx, hb, hml, hown, hts, -⟩ := id K
  unfold f_X0_freeTo at hf
  refine lv_aload_n hx hb dX0_freeTo_0 rfl (lv_at hl 0 rfl) ?_
  refine lv_iload_n hx hb dX0_freeTo_1 rfl (lv_at hl 1 rfl) ?_
  obtain ⟨q1, hq1, hf⟩ := Option.bind_eq_some_iff.mp hf
  refine g_Vi (cx := 1) (As := [.int p0]) K hS lV_X0_85 (c_X0_leftTo p0 σ q1 hq1) ((eX_1 G o) _) (by decide) rfl rfl rfl (Nat.le_of_ble_eq_true rfl) ⟨⟨Nat.le_of_ble_eq_true rfl, Nat.le_of_ble_eq_true rfl⟩, rfl, rfl⟩ hl.1 ⟨Nat.zero_le _, Nat.zero_le _⟩ dX0_freeTo_2 (fun H locs hS => ?_)
  refine lv_aload_n hx hb dX0_freeTo_5 rfl (lv_at hl 0 rfl) ?_
  refine g_get (cx := 1) K hS lF_X0_23 ((eX_1 G o) _) (by decide) rfl dX0_freeTo_6 ?_
  refine lv_aload_n hx hb dX0_freeTo_9 rfl (lv_at hl 0 rfl) ?_
  refine g_get (cx := 1) K hS lF_X0_37 ((eX_1 G o) _) (by decide) rfl dX0_freeTo_10 ?_
  obtain ⟨q2, hq2, hf⟩ := Option.bind_eq_some_iff.mp hf
  refine g_Vi (cx := 24) (As := []) K hS lV_X0_88 (c_X7_watchedRooms q1.2 q2 hq2) ((eX_24 G o) _) (by decide) rfl rfl rfl (Nat.le_of_ble_eq_true rfl) ⟨⟨Nat.le_of_ble_eq_true rfl, Nat.le_of_ble_eq_true rfl⟩, rfl, rfl⟩ hl.1 ⟨Nat.zero_le _, Nat.zero_le _⟩ dX0_freeTo_13 (fun H locs hS => ?_)
  obtain ⟨q3, hq3, hf⟩ := Option.bind_eq_some_iff.mp hf
  refine g_Vi (cx := 4) (As := [.int q2.1]) K hS lV_X0_91 (c_X1_touching q2.1 q2.2 q3 hq3) ((eX_4 G o) _) (by decide) rfl rfl rfl (Nat.le_of_ble_eq_true rfl) ⟨⟨Nat.le_of_ble_eq_true rfl, Nat.le_of_ble_eq_true rfl⟩, rfl, rfl⟩ hl.1 ⟨Nat.zero_le _, Nat.zero_le _⟩ dX0_freeTo_16 (fun H locs hS => ?_)
  refine lv_iconst (v := (-1)) hx hb dX0_freeTo_19 (by decide) ?_
  refine lv_ixor hx hb dX0_freeTo_20 ?_
  refine lv_iand hx hb dX0_freeTo_21 ?_
  exact g_iret K hS hf dX0_freeTo_22
abbrev rmX0_freeAtRoomOf : Room := { frames := 3, cells := 0, slots := 0, locals := 65 }
def f_X0_freeAtRoomOf (p0 : Int32) (σ : gS) : Option (Int32 × gS) := Option.bind (f_X0_freeTo p0 σ) (fun q1 => Option.bind (f_X5_at 18 4 p0 q1.2) (fun q2 => Option.bind (f_X1_touching (1 <<< (q2.1 &&& 31)) q2.2) (fun q3 => some ((q1.1 &&& q3.1), q3.2))))
set_option maxHeartbeats 4000000 in
set_option maxRecDepth 100000 in
theorem c_X0_freeAtRoomOf (p0 : Int32) (σ : gS) (q : Int32 × gS) (hf : f_X0_freeAtRoomOf p0 σ = some q) : Met l yX0_freeAtRoomOf (gW yX0_freeAtRoomOf cX0_freeAtRoomOf 2 (some .int)) rmX0_freeAtRoomOf (gPc G (entX G o) o 302 [.ref (o + 1), .int p0] σ) (gQi G (entX G o) o 302 q) 0 0 (gA o 302) := by
  refine g_met (by decide) ⟨rfl, rfl⟩ (fun p e s m args below meth c ls K hS hl => ?_) (Nat.le_of_ble_eq_true rfl)
  have K : gK p s m args meth c G cX0_freeAtRoomOf 2 RX0 (some .int) := K
  have hl : lv_has ls 2 [(0, .ref (o + 1)), (1, .int p0)] := hl
  obtain ⟨hx, hb, hml, hown, hts, -⟩ := id K
  unfold f_X0_freeAtRoomOf at hf
  refine lv_aload_n hx hb dX0_freeAtRoomOf_0 rfl (lv_at hl 0 rfl) ?_
  refine lv_iload_n hx hb dX0_freeAtRoomOf_1 rfl (lv_at hl 1 rfl) ?_
  obtain ⟨q1, hq1, hf⟩ := Option.bind_eq_some_iff.mp hf
  refine g_Vi (cx := 1) (As := [.int p0]) K hS lV_X0_94 (c_X0_freeTo p0 σ q1 hq1) ((eX_1 G o) _) (by decide) rfl rfl rfl (Nat.le_of_ble_eq_true rfl) ⟨⟨Nat.le_of_ble_eq_true rfl, Nat.le_of_ble_eq_true rfl⟩, rfl, rfl⟩ hl.1 ⟨Nat.zero_le _, Nat.zero_le _⟩ dX0_freeAtRoomOf_2 (fun H locs hS => ?_)
  refine lv_aload_n hx hb dX0_freeAtRoomOf_5 rfl (lv_at hl 0 rfl) ?_
  refine g_get (cx := 1) K hS lF_X0_23 ((eX_1 G o) _) (by decide) rfl dX0_freeAtRoomOf_6 ?_
  refine lv_iconst (v := 1) hx hb dX0_freeAtRoomOf_9 (by decide) ?_
  refine lv_aload_n hx hb dX0_freeAtRoomOf_10 rfl (lv_at hl 0 rfl) ?_
  refine g_get (cx := 1) K hS lF_X0_30 ((eX_1 G o) _) (by decide) rfl dX0_freeAtRoomOf_11 ?_
  refine g_get (cx := 17) K hS lF_X0_97 ((eX_17 G o) _) (by decide) rfl dX0_freeAtRoomOf_14 ?_
  refine lv_iload_n hx hb dX0_freeAtRoomOf_17 rfl (lv_at hl 1 rfl) ?_
  obtain ⟨q2, hq2, hf⟩ := Option.bind_eq_some_iff.mp hf
  refine g_Vi (cx := 18) (As := [.int p0]) K hS lV_X0_65 (c_X5_at 18 4 (gRow_18 G o) p0 q1.2 q2 hq2) ((eX_18 G o) _) (by decide) rfl rfl rfl (Nat.le_of_ble_eq_true rfl) ⟨⟨Nat.le_of_ble_eq_true rfl, Nat.le_of_ble_eq_true rfl⟩, rfl, rfl⟩ hl.1 ⟨Nat.zero_le _, Nat.zero_le _⟩ dX0_freeAtRoomOf_18 (fun H locs hS => ?_)
  refine lv_ishl hx hb dX0_freeAtRoomOf_21 ?_
  obtain ⟨q3, hq3, hf⟩ := Option.bind_eq_some_iff.mp hf
  refine g_Vi (cx := 4) (As := [.int (1 <<< (q2.1 &&& 31))]) K hS lV_X0_91 (c_X1_touching (1 <<< (q2.1 &&& 31)) q2.2 q3 hq3) ((eX_4 G o) _) (by decide) rfl rfl rfl (Nat.le_of_ble_eq_true rfl) ⟨⟨Nat.le_of_ble_eq_true rfl, Nat.le_of_ble_eq_true rfl⟩, rfl, rfl⟩ hl.1 ⟨Nat.zero_le _, Nat.zero_le _⟩ dX0_freeAtRoomOf_22 (fun H locs hS => ?_)
  refine lv_iand hx hb dX0_freeAtRoomOf_25 ?_
  exact g_iret K hS hf dX0_freeAtRoomOf_26
abbrev rmX10_holds : Room := { frames := 0, cells := 0, slots := 0, locals := 0 }
def f_X10_holds (p0 : Int32) (p1 : Int32) (σ : gS) : Option (Int32 × gS) := if ((p0 >>> (p1 &&& 31)) &&& 1) = 0 then (some (0, σ)) else (some (1, σ))
set_option maxHeartbeats 4000000 in
set_option maxRecDepth 100000 in
theorem c_X10_holds (p0 : Int32) (p1 : Int32) (σ : gS) (q : Int32 × gS) (hf : f_X10_holds p0 p1 σ = some q) : Met l yX10_holds (gW yX10_holds cX10_holds 2 (some .boolean)) rmX10_holds (gPc G (entX G o) o 302 [.int p0, .int p1] σ) (gQi G (entX G o) o 302 q) 0 0 (gA o 302) := by
  refine g_met (by decide) ⟨rfl, rfl⟩ (fun p e s m args below meth c ls K hS hl => ?_) (Nat.le_of_ble_eq_true rfl)
  have K : gK p s m args meth c G cX10_holds 2 RX10 (some .boolean) := K
  have hl : lv_has ls 2 [(0, .int p0), (1, .int p1)] := hl
  obtain ⟨hx, hb, hml, hown, hts, -⟩ := id K
  unfold f_X10_holds at hf
  refine lv_iload_n hx hb dX10_holds_0 rfl (lv_at hl 0 rfl) ?_
  refine lv_iload_n hx hb dX10_holds_1 rfl (lv_at hl 1 rfl) ?_
  refine lv_ishr hx hb dX10_holds_2 ?_
  refine lv_iconst (v := 1) hx hb dX10_holds_3 (by decide) ?_
  refine lv_iand hx hb dX10_holds_4 ?_
  refine lv_if_eq (tgt := 12) hx hb dX10_holds_5 (by decide) (fun c1 => ?_) (fun c1 => ?_)
  · have hf := gIf_t c1 hf
    refine lv_iconst (v := 0) hx hb dX10_holds_12 (by decide) ?_
    exact g_zret K hS rfl hf dX10_holds_13
  · have hf := gIf_f c1 hf
    refine lv_iconst (v := 1) hx hb dX10_holds_8 (by decide) ?_
    refine lv_goto (tgt := 13) hx hb dX10_holds_9 (by decide) ?_
    exact g_zret K hS rfl hf dX10_holds_13
abbrev rmX0_ghostsFreeFor : Room := { frames := 3, cells := 0, slots := 0, locals := 65 }
def f_X0_ghostsFreeFor_L4 (w1 : Int32) : Nat → Int32 → Int32 → gS → Option (Int32 × gS)
  | 0, _, _, _ => none
  | n + 1, v2, v3, σ => if 4 ≤ v3 then (some (v2, σ)) else (Option.bind (f_X0_freeTo v3 σ) (fun q2 => Option.bind (f_X10_holds q2.1 w1 q2.2) (fun q3 => if q3.1 = 0 then (f_X0_ghostsFreeFor_L4 w1 n v2 (v3 + 1) q3.2) else (gLet (v2 ||| (1 <<< (v3 &&& 31))) (fun x5 => f_X0_ghostsFreeFor_L4 w1 n x5 (v3 + 1) q3.2)))))
theorem f_X0_ghostsFreeFor_L4_s (w1 : Int32) (n : Nat) (v2 : Int32) (v3 : Int32) (σ : gS) : f_X0_ghostsFreeFor_L4 w1 (n + 1) v2 v3 σ = (if 4 ≤ v3 then (some (v2, σ)) else (Option.bind (f_X0_freeTo v3 σ) (fun q2 => Option.bind (f_X10_holds q2.1 w1 q2.2) (fun q3 => if q3.1 = 0 then (f_X0_ghostsFreeFor_L4 w1 n v2 (v3 + 1) q3.2) else (gLet (v2 ||| (1 <<< (v3 &&& 31))) (fun x5 => f_X0_ghostsFreeFor_L4 w1 n x5 (v3 + 1) q3.2)))))) := rfl
def f_X0_ghostsFreeFor (p0 : Int32) (σ : gS) : Option (Int32 × gS) := f_X0_ghostsFreeFor_L4 p0 gFu 0 0 σ
set_option maxHeartbeats 4000000 in
set_option maxRecDepth 100000 in
theorem w_X0_ghostsFreeFor_L4 (w1 : Int32) {q : Int32 × gS} (K : gK p s m args meth c G cX0_ghostsFreeFor 4 RX0 (some .int)) : ∀ (n : Nat) (v2 : Int32) (v3 : Int32) (σ : gS), f_X0_ghostsFreeFor_L4 w1 n v2 v3 σ = some q → ∀ (H : Heap) (locs : List Loc) (ls : Array Slot), gSt G (entX G o) o 302 s σ H locs → lv_has ls 4 [(0, .ref (o + 1)), (1, .int w1), (2, .int v2), (3, .int v3)] → W p l e rmX0_ghostsFreeFor s m args below meth c H locs 0 0 (MQ below (gQi G (entX G o) o 302 q) args s 0 0 (gA o 302)) (F0 m 4 ls []) := by
  obtain ⟨hx, hb, hml, hown, hts, -⟩ := id K
  intro n
  induction n with
  | zero =>
    intro v2 v3 σ hf
    exact absurd (show (none : Option _) = some q from hf) (by simp)
  | succ n ih =>
    intro v2 v3 σ hf H locs ls hS hl
    rw [f_X0_ghostsFreeFor_L4_s] at hf
    refine lv_iload_n hx hb dX0_ghostsFreeFor_4 rfl (lv_at hl 3 rfl) ?_
    refine lv_iconst (v := 4) hx hb dX0_ghostsFreeFor_5 (by decide) ?_
    refine lv_icmp_ge (tgt := 33) hx hb dX0_ghostsFreeFor_6 (by decide) (fun c1 => ?_) (fun c1 => ?_)
    · have hf := gIf_t c1 hf
      refine lv_iload_n hx hb dX0_ghostsFreeFor_33 rfl (lv_at hl 2 rfl) ?_
      exact g_iret K hS hf dX0_ghostsFreeFor_34
    · have hf := gIf_f c1 hf
      refine lv_aload_n hx hb dX0_ghostsFreeFor_9 rfl (lv_at hl 0 rfl) ?_
      refine lv_iload_n hx hb dX0_ghostsFreeFor_10 rfl (lv_at hl 3 rfl) ?_
      obtain ⟨q2, hq2, hf⟩ := Option.bind_eq_some_iff.mp hf
      refine g_Vi (cx := 1) (As := [.int v3]) K hS lV_X0_94 (c_X0_freeTo v3 σ q2 hq2) ((eX_1 G o) _) (by decide) rfl rfl rfl (Nat.le_of_ble_eq_true rfl) ⟨⟨Nat.le_of_ble_eq_true rfl, Nat.le_of_ble_eq_true rfl⟩, rfl, rfl⟩ hl.1 ⟨Nat.zero_le _, Nat.zero_le _⟩ dX0_ghostsFreeFor_11 (fun H locs hS => ?_)
      refine lv_iload_n hx hb dX0_ghostsFreeFor_14 rfl (lv_at hl 1 rfl) ?_
      obtain ⟨q3, hq3, hf⟩ := Option.bind_eq_some_iff.mp hf
      refine g_Ni (As := [.int q2.1, .int w1]) K hS lN_X0_100 (c_X10_holds q2.1 w1 q2.2 q3 hq3) rfl rfl (Nat.le_of_ble_eq_true rfl) ⟨⟨Nat.le_of_ble_eq_true rfl, Nat.le_of_ble_eq_true rfl⟩, rfl, rfl⟩ hl.1 ⟨Nat.zero_le _, Nat.zero_le _⟩ dX0_ghostsFreeFor_15 (fun H locs hS => ?_)
      refine lv_if_eq (tgt := 27) hx hb dX0_ghostsFreeFor_18 (by decide) (fun c4 => ?_) (fun c4 => ?_)
      · have hf := gIf_t c4 hf
        refine lv_iinc (v := (v3 + 1)) (lv' := [(3, .int (v3 + 1)), (0, .ref (o + 1)), (1, .int w1), (2, .int v2)]) hx hb dX0_ghostsFreeFor_27 hl (k := 3) rfl rfl (by decide) rfl (fun ls hl => ?_)
        refine lv_goto (tgt := 4) hx hb dX0_ghostsFreeFor_30 (by decide) ?_
        exact ih v2 (v3 + 1) q3.2 hf _ _ _ hS (lv_sub hl [1, 2, 3, 0] rfl)
      · have hf := gIf_f c4 hf
        refine lv_iload_n hx hb dX0_ghostsFreeFor_21 rfl (lv_at hl 2 rfl) ?_
        refine lv_iconst (v := 1) hx hb dX0_ghostsFreeFor_22 (by decide) ?_
        refine lv_iload_n hx hb dX0_ghostsFreeFor_23 rfl (lv_at hl 3 rfl) ?_
        refine lv_ishl hx hb dX0_ghostsFreeFor_24 ?_
        refine lv_ior hx hb dX0_ghostsFreeFor_25 ?_
        obtain ⟨x5, hx5, hf⟩ := gLet_some hf
        refine g_top hx5 ?_
        refine lv_istore_n (lv' := [(2, .int x5), (0, .ref (o + 1)), (1, .int w1), (3, .int v3)]) hx hb dX0_ghostsFreeFor_26 rfl hl (by decide) rfl (fun ls hl => ?_)
        refine lv_iinc (v := (v3 + 1)) (lv' := [(3, .int (v3 + 1)), (2, .int x5), (0, .ref (o + 1)), (1, .int w1)]) hx hb dX0_ghostsFreeFor_27 hl (k := 3) rfl rfl (by decide) rfl (fun ls hl => ?_)
        refine lv_goto (tgt := 4) hx hb dX0_ghostsFreeFor_30 (by decide) ?_
        exact ih x5 (v3 + 1) q3.2 hf _ _ _ hS (lv_sub hl [2, 3, 1, 0] rfl)
set_option maxHeartbeats 4000000 in
set_option maxRecDepth 100000 in
theorem c_X0_ghostsFreeFor (p0 : Int32) (σ : gS) (q : Int32 × gS) (hf : f_X0_ghostsFreeFor p0 σ = some q) : Met l yX0_ghostsFreeFor (gW yX0_ghostsFreeFor cX0_ghostsFreeFor 4 (some .int)) rmX0_ghostsFreeFor (gPc G (entX G o) o 302 [.ref (o + 1), .int p0] σ) (gQi G (entX G o) o 302 q) 0 0 (gA o 302) := by
  refine g_met (by decide) ⟨rfl, rfl⟩ (fun p e s m args below meth c ls K hS hl => ?_) (Nat.le_of_ble_eq_true rfl)
  have K : gK p s m args meth c G cX0_ghostsFreeFor 4 RX0 (some .int) := K
  have hl : lv_has ls 4 [(0, .ref (o + 1)), (1, .int p0)] := hl
  obtain ⟨hx, hb, hml, hown, hts, -⟩ := id K
  unfold f_X0_ghostsFreeFor at hf
  refine lv_iconst (v := 0) hx hb dX0_ghostsFreeFor_0 (by decide) ?_
  refine lv_istore_n (lv' := [(2, .int 0), (0, .ref (o + 1)), (1, .int p0)]) hx hb dX0_ghostsFreeFor_1 rfl hl (by decide) rfl (fun ls hl => ?_)
  refine lv_iconst (v := 0) hx hb dX0_ghostsFreeFor_2 (by decide) ?_
  refine lv_istore_n (lv' := [(3, .int 0), (2, .int 0), (0, .ref (o + 1)), (1, .int p0)]) hx hb dX0_ghostsFreeFor_3 rfl hl (by decide) rfl (fun ls hl => ?_)
  refine w_X0_ghostsFreeFor_L4 p0 K gFu 0 0 σ hf _ _ _ hS (lv_sub hl [2, 3, 1, 0] rfl)
abbrev rmX1_widened : Room := { frames := 1, cells := 0, slots := 0, locals := 21 }
def f_X1_widened_L5 (w1 : Int32) (w2 : Int32) : Nat → Int32 → Int32 → gS → Option (Int32 × gS)
  | 0, _, _, _ => none
  | n + 1, v3, v4, σ => if (σ 4 0) ≤ v4 then (some (v3, σ)) else (Option.bind (f_X10_holds w2 v4 σ) (fun q2 => if q2.1 = 0 then (f_X1_widened_L5 w1 w2 n v3 (v4 + 1) q2.2) else (Option.bind (f_X5_at 9 20 v4 q2.2) (fun q4 => if (q4.1 &&& w1) = 0 then (f_X1_widened_L5 w1 w2 n v3 (v4 + 1) q4.2) else (Option.bind (f_X5_at 9 20 v4 q4.2) (fun q6 => gLet (v3 ||| q6.1) (fun x7 => f_X1_widened_L5 w1 w2 n x7 (v4 + 1) q6.2)))))))
theorem f_X1_widened_L5_s (w1 : Int32) (w2 : Int32) (n : Nat) (v3 : Int32) (v4 : Int32) (σ : gS) : f_X1_widened_L5 w1 w2 (n + 1) v3 v4 σ = (if (σ 4 0) ≤ v4 then (some (v3, σ)) else (Option.bind (f_X10_holds w2 v4 σ) (fun q2 => if q2.1 = 0 then (f_X1_widened_L5 w1 w2 n v3 (v4 + 1) q2.2) else (Option.bind (f_X5_at 9 20 v4 q2.2) (fun q4 => if (q4.1 &&& w1) = 0 then (f_X1_widened_L5 w1 w2 n v3 (v4 + 1) q4.2) else (Option.bind (f_X5_at 9 20 v4 q4.2) (fun q6 => gLet (v3 ||| q6.1) (fun x7 => f_X1_widened_L5 w1 w2 n x7 (v4 + 1) q6.2)))))))) := rfl
def f_X1_widened (p0 : Int32) (p1 : Int32) (σ : gS) : Option (Int32 × gS) := f_X1_widened_L5 p0 p1 gFu p0 0 σ
set_option maxHeartbeats 4000000 in
set_option maxRecDepth 100000 in
theorem w_X1_widened_L5 (w1 : Int32) (w2 : Int32) {q : Int32 × gS} (K : gK p s m args meth c G cX1_widened 5 RX1 (some .int)) : ∀ (n : Nat) (v3 : Int32) (v4 : Int32) (σ : gS), f_X1_widened_L5 w1 w2 n v3 v4 σ = some q → ∀ (H : Heap) (locs : List Loc) (ls : Array Slot), gSt G (entX G o) o 302 s σ H locs → lv_has ls 5 [(0, .ref (o + 4)), (1, .int w1), (2, .int w2), (3, .int v3), (4, .int v4)] → W p l e rmX1_widened s m args below meth c H locs 0 0 (MQ below (gQi G (entX G o) o 302 q) args s 0 0 (gA o 302)) (F0 m 5 ls []) := by
  obtain ⟨hx, hb, hml, hown, hts, -⟩ := id K
  intro n
  induction n with
  | zero =>
    intro v3 v4 σ hf
    exact absurd (show (none : Option _) = some q from hf) (by simp)
  | succ n ih =>
    intro v3 v4 σ hf H locs ls hS hl
    rw [f_X1_widened_L5_s] at hf
    refine lv_iload hx hb dX1_widened_5 (lv_at hl 4 rfl) ?_
    refine lv_aload_n hx hb dX1_widened_7 rfl (lv_at hl 0 rfl) ?_
    refine g_get (cx := 4) K hS lF_X1_35 ((eX_4 G o) _) (by decide) rfl dX1_widened_8 ?_
    refine lv_icmp_ge (tgt := 55) hx hb dX1_widened_11 (by decide) (fun c1 => ?_) (fun c1 => ?_)
    · have hf := gIf_t c1 hf
      refine lv_iload_n hx hb dX1_widened_55 rfl (lv_at hl 3 rfl) ?_
      exact g_iret K hS hf dX1_widened_56
    · have hf := gIf_f c1 hf
      refine lv_iload_n hx hb dX1_widened_14 rfl (lv_at hl 2 rfl) ?_
      refine lv_iload hx hb dX1_widened_15 (lv_at hl 4 rfl) ?_
      obtain ⟨q2, hq2, hf⟩ := Option.bind_eq_some_iff.mp hf
      refine g_Ni (As := [.int w2, .int v4]) K hS lN_X1_71 (c_X10_holds w2 v4 σ q2 hq2) rfl rfl (Nat.le_of_ble_eq_true rfl) ⟨⟨Nat.le_of_ble_eq_true rfl, Nat.le_of_ble_eq_true rfl⟩, rfl, rfl⟩ hl.1 ⟨Nat.zero_le _, Nat.zero_le _⟩ dX1_widened_17 (fun H locs hS => ?_)
      refine lv_if_eq (tgt := 49) hx hb dX1_widened_20 (by decide) (fun c3 => ?_) (fun c3 => ?_)
      · have hf := gIf_t c3 hf
        refine lv_iinc (v := (v4 + 1)) (lv' := [(4, .int (v4 + 1)), (0, .ref (o + 4)), (1, .int w1), (2, .int w2), (3, .int v3)]) hx hb dX1_widened_49 hl (k := 4) rfl rfl (by decide) rfl (fun ls hl => ?_)
        refine lv_goto (tgt := 5) hx hb dX1_widened_52 (by decide) ?_
        exact ih v3 (v4 + 1) q2.2 hf _ _ _ hS (lv_sub hl [1, 2, 3, 4, 0] rfl)
      · have hf := gIf_f c3 hf
        refine lv_aload_n hx hb dX1_widened_23 rfl (lv_at hl 0 rfl) ?_
        refine g_get (cx := 4) K hS lF_X1_23 ((eX_4 G o) _) (by decide) rfl dX1_widened_24 ?_
        refine lv_iload hx hb dX1_widened_27 (lv_at hl 4 rfl) ?_
        obtain ⟨q4, hq4, hf⟩ := Option.bind_eq_some_iff.mp hf
        refine g_Vi (cx := 9) (As := [.int v4]) K hS lV_X1_67 (c_X5_at 9 20 (gRow_9 G o) v4 q2.2 q4 hq4) ((eX_9 G o) _) (by decide) rfl rfl rfl (Nat.le_of_ble_eq_true rfl) ⟨⟨Nat.le_of_ble_eq_true rfl, Nat.le_of_ble_eq_true rfl⟩, rfl, rfl⟩ hl.1 ⟨Nat.zero_le _, Nat.zero_le _⟩ dX1_widened_29 (fun H locs hS => ?_)
        refine lv_iload_n hx hb dX1_widened_32 rfl (lv_at hl 1 rfl) ?_
        refine lv_iand hx hb dX1_widened_33 ?_
        refine lv_if_eq (tgt := 49) hx hb dX1_widened_34 (by decide) (fun c5 => ?_) (fun c5 => ?_)
        · have hf := gIf_t c5 hf
          refine lv_iinc (v := (v4 + 1)) (lv' := [(4, .int (v4 + 1)), (0, .ref (o + 4)), (1, .int w1), (2, .int w2), (3, .int v3)]) hx hb dX1_widened_49 hl (k := 4) rfl rfl (by decide) rfl (fun ls hl => ?_)
          refine lv_goto (tgt := 5) hx hb dX1_widened_52 (by decide) ?_
          exact ih v3 (v4 + 1) q4.2 hf _ _ _ hS (lv_sub hl [1, 2, 3, 4, 0] rfl)
        · have hf := gIf_f c5 hf
          refine lv_iload_n hx hb dX1_widened_37 rfl (lv_at hl 3 rfl) ?_
          refine lv_aload_n hx hb dX1_widened_38 rfl (lv_at hl 0 rfl) ?_
          refine g_get (cx := 4) K hS lF_X1_23 ((eX_4 G o) _) (by decide) rfl dX1_widened_39 ?_
          refine lv_iload hx hb dX1_widened_42 (lv_at hl 4 rfl) ?_
          obtain ⟨q6, hq6, hf⟩ := Option.bind_eq_some_iff.mp hf
          refine g_Vi (cx := 9) (As := [.int v4]) K hS lV_X1_67 (c_X5_at 9 20 (gRow_9 G o) v4 q4.2 q6 hq6) ((eX_9 G o) _) (by decide) rfl rfl rfl (Nat.le_of_ble_eq_true rfl) ⟨⟨Nat.le_of_ble_eq_true rfl, Nat.le_of_ble_eq_true rfl⟩, rfl, rfl⟩ hl.1 ⟨Nat.zero_le _, Nat.zero_le _⟩ dX1_widened_44 (fun H locs hS => ?_)
          refine lv_ior hx hb dX1_widened_47 ?_
          obtain ⟨x7, hx7, hf⟩ := gLet_some hf
          refine g_top hx7 ?_
          refine lv_istore_n (lv' := [(3, .int x7), (0, .ref (o + 4)), (1, .int w1), (2, .int w2), (4, .int v4)]) hx hb dX1_widened_48 rfl hl (by decide) rfl (fun ls hl => ?_)
          refine lv_iinc (v := (v4 + 1)) (lv' := [(4, .int (v4 + 1)), (3, .int x7), (0, .ref (o + 4)), (1, .int w1), (2, .int w2)]) hx hb dX1_widened_49 hl (k := 4) rfl rfl (by decide) rfl (fun ls hl => ?_)
          refine lv_goto (tgt := 5) hx hb dX1_widened_52 (by decide) ?_
          exact ih x7 (v4 + 1) q6.2 hf _ _ _ hS (lv_sub hl [2, 3, 4, 1, 0] rfl)
set_option maxHeartbeats 4000000 in
set_option maxRecDepth 100000 in
theorem c_X1_widened (p0 : Int32) (p1 : Int32) (σ : gS) (q : Int32 × gS) (hf : f_X1_widened p0 p1 σ = some q) : Met l yX1_widened (gW yX1_widened cX1_widened 5 (some .int)) rmX1_widened (gPc G (entX G o) o 302 [.ref (o + 4), .int p0, .int p1] σ) (gQi G (entX G o) o 302 q) 0 0 (gA o 302) := by
  refine g_met (by decide) ⟨rfl, rfl⟩ (fun p e s m args below meth c ls K hS hl => ?_) (Nat.le_of_ble_eq_true rfl)
  have K : gK p s m args meth c G cX1_widened 5 RX1 (some .int) := K
  have hl : lv_has ls 5 [(0, .ref (o + 4)), (1, .int p0), (2, .int p1)] := hl
  obtain ⟨hx, hb, hml, hown, hts, -⟩ := id K
  unfold f_X1_widened at hf
  refine lv_iload_n hx hb dX1_widened_0 rfl (lv_at hl 1 rfl) ?_
  refine lv_istore_n (lv' := [(3, .int p0), (0, .ref (o + 4)), (1, .int p0), (2, .int p1)]) hx hb dX1_widened_1 rfl hl (by decide) rfl (fun ls hl => ?_)
  refine lv_iconst (v := 0) hx hb dX1_widened_2 (by decide) ?_
  refine lv_istore (lv' := [(4, .int 0), (3, .int p0), (0, .ref (o + 4)), (1, .int p0), (2, .int p1)]) hx hb dX1_widened_3 hl (by decide) rfl (fun ls hl => ?_)
  refine w_X1_widened_L5 p0 p1 K gFu p0 0 σ hf _ _ _ hS (lv_sub hl [2, 3, 4, 1, 0] rfl)
abbrev rmX1_fewestTo : Room := { frames := 2, cells := 0, slots := 0, locals := 45 }
def f_X1_fewestTo_L7 (w2 : Int32) : Nat → Int32 → Int32 → gS → Option (Int32 × gS)
  | 0, _, _, _ => none
  | n + 1, v3, v4, σ => if 10 ≤ v4 then (some ((-6), σ)) else (if (v3 &&& w2) = 0 then (Option.bind (f_X1_all σ) (fun q4 => Option.bind (f_X1_widened v3 q4.1 q4.2) (fun q5 => if q5.1 = v3 then (some ((-6), q5.2)) else (f_X1_fewestTo_L7 w2 n q5.1 (v4 + 1) q5.2)))) else (some (v4, σ)))
theorem f_X1_fewestTo_L7_s (w2 : Int32) (n : Nat) (v3 : Int32) (v4 : Int32) (σ : gS) : f_X1_fewestTo_L7 w2 (n + 1) v3 v4 σ = (if 10 ≤ v4 then (some ((-6), σ)) else (if (v3 &&& w2) = 0 then (Option.bind (f_X1_all σ) (fun q4 => Option.bind (f_X1_widened v3 q4.1 q4.2) (fun q5 => if q5.1 = v3 then (some ((-6), q5.2)) else (f_X1_fewestTo_L7 w2 n q5.1 (v4 + 1) q5.2)))) else (some (v4, σ)))) := rfl
def f_X1_fewestTo (p0 : Int32) (p1 : Int32) (σ : gS) : Option (Int32 × gS) := gLet (1 <<< (p0 &&& 31)) (fun x1 => f_X1_fewestTo_L7 p1 gFu x1 0 σ)
set_option maxHeartbeats 4000000 in
set_option maxRecDepth 100000 in
theorem w_X1_fewestTo_L7 (w2 : Int32) {q : Int32 × gS} (K : gK p s m args meth c G cX1_fewestTo 6 RX1 (some .int)) : ∀ (n : Nat) (v3 : Int32) (v4 : Int32) (σ : gS), f_X1_fewestTo_L7 w2 n v3 v4 σ = some q → ∀ (H : Heap) (locs : List Loc) (ls : Array Slot), gSt G (entX G o) o 302 s σ H locs → lv_has ls 6 [(0, .ref (o + 4)), (2, .int w2), (3, .int v3), (4, .int v4)] → W p l e rmX1_fewestTo s m args below meth c H locs 0 0 (MQ below (gQi G (entX G o) o 302 q) args s 0 0 (gA o 302)) (F0 m 7 ls []) := by
  obtain ⟨hx, hb, hml, hown, hts, -⟩ := id K
  intro n
  induction n with
  | zero =>
    intro v3 v4 σ hf
    exact absurd (show (none : Option _) = some q from hf) (by simp)
  | succ n ih =>
    intro v3 v4 σ hf H locs ls hS hl
    rw [f_X1_fewestTo_L7_s] at hf
    refine lv_iload hx hb dX1_fewestTo_7 (lv_at hl 3 rfl) ?_
    refine lv_bipush (v := 10) hx hb dX1_fewestTo_9 (by decide) ?_
    refine lv_icmp_ge (tgt := 52) hx hb dX1_fewestTo_11 (by decide) (fun c2 => ?_) (fun c2 => ?_)
    · have hf := gIf_t c2 hf
      refine lv_bipush (v := (-6)) hx hb dX1_fewestTo_52 (by decide) ?_
      exact g_iret K hS hf dX1_fewestTo_54
    · have hf := gIf_f c2 hf
      refine lv_iload_n hx hb dX1_fewestTo_14 rfl (lv_at hl 2 rfl) ?_
      refine lv_iload_n hx hb dX1_fewestTo_15 rfl (lv_at hl 1 rfl) ?_
      refine lv_iand hx hb dX1_fewestTo_16 ?_
      refine lv_if_eq (tgt := 23) hx hb dX1_fewestTo_17 (by decide) (fun c3 => ?_) (fun c3 => ?_)
      · have hf := gIf_t c3 hf
        refine lv_aload_n hx hb dX1_fewestTo_23 rfl (lv_at hl 0 rfl) ?_
        refine lv_iload_n hx hb dX1_fewestTo_24 rfl (lv_at hl 2 rfl) ?_
        refine lv_aload_n hx hb dX1_fewestTo_25 rfl (lv_at hl 0 rfl) ?_
        obtain ⟨q4, hq4, hf⟩ := Option.bind_eq_some_iff.mp hf
        refine g_Vi (cx := 4) (As := []) K hS lV_X1_78 (c_X1_all σ q4 hq4) ((eX_4 G o) _) (by decide) rfl rfl rfl (Nat.le_of_ble_eq_true rfl) ⟨⟨Nat.le_of_ble_eq_true rfl, Nat.le_of_ble_eq_true rfl⟩, rfl, rfl⟩ hl.1 ⟨Nat.zero_le _, Nat.zero_le _⟩ dX1_fewestTo_26 (fun H locs hS => ?_)
        obtain ⟨q5, hq5, hf⟩ := Option.bind_eq_some_iff.mp hf
        refine g_Vi (cx := 4) (As := [.int v3, .int q4.1]) K hS lV_X1_75 (c_X1_widened v3 q4.1 q4.2 q5 hq5) ((eX_4 G o) _) (by decide) rfl rfl rfl (Nat.le_of_ble_eq_true rfl) ⟨⟨Nat.le_of_ble_eq_true rfl, Nat.le_of_ble_eq_true rfl⟩, rfl, rfl⟩ hl.1 ⟨Nat.zero_le _, Nat.zero_le _⟩ dX1_fewestTo_29 (fun H locs hS => ?_)
        refine lv_istore (lv' := [(5, .int q5.1), (0, .ref (o + 4)), (2, .int w2), (3, .int v3), (4, .int v4)]) hx hb dX1_fewestTo_32 hl (by decide) rfl (fun ls hl => ?_)
        refine lv_iload hx hb dX1_fewestTo_34 (lv_at hl 0 rfl) ?_
        refine lv_iload_n hx hb dX1_fewestTo_36 rfl (lv_at hl 3 rfl) ?_
        refine lv_icmp_ne (tgt := 43) hx hb dX1_fewestTo_37 (by decide) (fun c6 => ?_) (fun c6 => ?_)
        · have hf := gIf_f c6 hf
          refine lv_iload hx hb dX1_fewestTo_43 (lv_at hl 0 rfl) ?_
          refine lv_istore_n (lv' := [(3, .int q5.1), (5, .int q5.1), (0, .ref (o + 4)), (2, .int w2), (4, .int v4)]) hx hb dX1_fewestTo_45 rfl hl (by decide) rfl (fun ls hl => ?_)
          refine lv_iinc (v := (v4 + 1)) (lv' := [(4, .int (v4 + 1)), (3, .int q5.1), (5, .int q5.1), (0, .ref (o + 4)), (2, .int w2)]) hx hb dX1_fewestTo_46 hl (k := 4) rfl rfl (by decide) rfl (fun ls hl => ?_)
          refine lv_goto (tgt := 7) hx hb dX1_fewestTo_49 (by decide) ?_
          exact ih q5.1 (v4 + 1) q5.2 hf _ _ _ hS (lv_sub hl [3, 4, 1, 0] rfl)
        · have hf := gIf_t c6 hf
          refine lv_goto (tgt := 52) hx hb dX1_fewestTo_40 (by decide) ?_
          refine lv_bipush (v := (-6)) hx hb dX1_fewestTo_52 (by decide) ?_
          exact g_iret K hS hf dX1_fewestTo_54
      · have hf := gIf_f c3 hf
        refine lv_iload hx hb dX1_fewestTo_20 (lv_at hl 3 rfl) ?_
        exact g_iret K hS hf dX1_fewestTo_22
set_option maxHeartbeats 4000000 in
set_option maxRecDepth 100000 in
theorem c_X1_fewestTo (p0 : Int32) (p1 : Int32) (σ : gS) (q : Int32 × gS) (hf : f_X1_fewestTo p0 p1 σ = some q) : Met l yX1_fewestTo (gW yX1_fewestTo cX1_fewestTo 6 (some .int)) rmX1_fewestTo (gPc G (entX G o) o 302 [.ref (o + 4), .int p0, .int p1] σ) (gQi G (entX G o) o 302 q) 0 0 (gA o 302) := by
  refine g_met (by decide) ⟨rfl, rfl⟩ (fun p e s m args below meth c ls K hS hl => ?_) (Nat.le_of_ble_eq_true rfl)
  have K : gK p s m args meth c G cX1_fewestTo 6 RX1 (some .int) := K
  have hl : lv_has ls 6 [(0, .ref (o + 4)), (1, .int p0), (2, .int p1)] := hl
  obtain ⟨hx, hb, hml, hown, hts, -⟩ := id K
  unfold f_X1_fewestTo at hf
  refine lv_iconst (v := 1) hx hb dX1_fewestTo_0 (by decide) ?_
  refine lv_iload_n hx hb dX1_fewestTo_1 rfl (lv_at hl 1 rfl) ?_
  refine lv_ishl hx hb dX1_fewestTo_2 ?_
  obtain ⟨x1, hx1, hf⟩ := gLet_some hf
  refine g_top hx1 ?_
  refine lv_istore_n (lv' := [(3, .int x1), (0, .ref (o + 4)), (1, .int p0), (2, .int p1)]) hx hb dX1_fewestTo_3 rfl hl (by decide) rfl (fun ls hl => ?_)
  refine lv_iconst (v := 0) hx hb dX1_fewestTo_4 (by decide) ?_
  refine lv_istore (lv' := [(4, .int 0), (3, .int x1), (0, .ref (o + 4)), (1, .int p0), (2, .int p1)]) hx hb dX1_fewestTo_5 hl (by decide) rfl (fun ls hl => ?_)
  refine w_X1_fewestTo_L7 p1 K gFu x1 0 σ hf _ _ _ hS (lv_sub hl [2, 4, 1, 0] rfl)
abbrev rmX1_loudnessIn : Room := { frames := 3, cells := 0, slots := 0, locals := 70 }
def f_X1_loudnessIn (p0 : Int32) (p1 : Int32) (σ : gS) : Option (Int32 × gS) := Option.bind (f_X5_at 9 20 p1 σ) (fun q1 => Option.bind (f_X1_fewestTo p0 q1.1 q1.2) (fun q2 => if q2.1 = (-6) then (some (0, q2.2)) else (Option.bind (f_X5_at 11 20 p1 q2.2) (fun q4 => some ((if (q4.1 - q2.1) < 0 then 0 else (q4.1 - q2.1)), q4.2)))))
set_option maxHeartbeats 4000000 in
set_option maxRecDepth 100000 in
theorem c_X1_loudnessIn (p0 : Int32) (p1 : Int32) (σ : gS) (q : Int32 × gS) (hf : f_X1_loudnessIn p0 p1 σ = some q) : Met l yX1_loudnessIn (gW yX1_loudnessIn cX1_loudnessIn 4 (some .int)) rmX1_loudnessIn (gPc G (entX G o) o 302 [.ref (o + 4), .int p0, .int p1] σ) (gQi G (entX G o) o 302 q) 0 0 (gA o 302) := by
  refine g_met (by decide) ⟨rfl, rfl⟩ (fun p e s m args below meth c ls K hS hl => ?_) (Nat.le_of_ble_eq_true rfl)
  have K : gK p s m args meth c G cX1_loudnessIn 4 RX1 (some .int) := K
  have hl : lv_has ls 4 [(0, .ref (o + 4)), (1, .int p0), (2, .int p1)] := hl
  obtain ⟨hx, hb, hml, hown, hts, -⟩ := id K
  unfold f_X1_loudnessIn at hf
  refine lv_aload_n hx hb dX1_loudnessIn_0 rfl (lv_at hl 0 rfl) ?_
  refine lv_iload_n hx hb dX1_loudnessIn_1 rfl (lv_at hl 1 rfl) ?_
  refine lv_aload_n hx hb dX1_loudnessIn_2 rfl (lv_at hl 0 rfl) ?_
  refine g_get (cx := 4) K hS lF_X1_23 ((eX_4 G o) _) (by decide) rfl dX1_loudnessIn_3 ?_
  refine lv_iload_n hx hb dX1_loudnessIn_6 rfl (lv_at hl 2 rfl) ?_
  obtain ⟨q1, hq1, hf⟩ := Option.bind_eq_some_iff.mp hf
  refine g_Vi (cx := 9) (As := [.int p1]) K hS lV_X1_67 (c_X5_at 9 20 (gRow_9 G o) p1 σ q1 hq1) ((eX_9 G o) _) (by decide) rfl rfl rfl (Nat.le_of_ble_eq_true rfl) ⟨⟨Nat.le_of_ble_eq_true rfl, Nat.le_of_ble_eq_true rfl⟩, rfl, rfl⟩ hl.1 ⟨Nat.zero_le _, Nat.zero_le _⟩ dX1_loudnessIn_7 (fun H locs hS => ?_)
  obtain ⟨q2, hq2, hf⟩ := Option.bind_eq_some_iff.mp hf
  refine g_Vi (cx := 4) (As := [.int p0, .int q1.1]) K hS lV_X1_82 (c_X1_fewestTo p0 q1.1 q1.2 q2 hq2) ((eX_4 G o) _) (by decide) rfl rfl rfl (Nat.le_of_ble_eq_true rfl) ⟨⟨Nat.le_of_ble_eq_true rfl, Nat.le_of_ble_eq_true rfl⟩, rfl, rfl⟩ hl.1 ⟨Nat.zero_le _, Nat.zero_le _⟩ dX1_loudnessIn_10 (fun H locs hS => ?_)
  refine lv_istore_n (lv' := [(3, .int q2.1), (0, .ref (o + 4)), (1, .int p0), (2, .int p1)]) hx hb dX1_loudnessIn_13 rfl hl (by decide) rfl (fun ls hl => ?_)
  refine lv_iload_n hx hb dX1_loudnessIn_14 rfl (lv_at hl 0 rfl) ?_
  refine lv_bipush (v := (-6)) hx hb dX1_loudnessIn_15 (by decide) ?_
  refine lv_icmp_ne (tgt := 24) hx hb dX1_loudnessIn_17 (by decide) (fun c3 => ?_) (fun c3 => ?_)
  · have hf := gIf_f c3 hf
    refine lv_aload_n hx hb dX1_loudnessIn_24 rfl (lv_at hl 1 rfl) ?_
    refine g_get (cx := 4) K hS lF_X1_26 ((eX_4 G o) _) (by decide) rfl dX1_loudnessIn_25 ?_
    refine lv_iload_n hx hb dX1_loudnessIn_28 rfl (lv_at hl 3 rfl) ?_
    obtain ⟨q4, hq4, hf⟩ := Option.bind_eq_some_iff.mp hf
    refine g_Vi (cx := 11) (As := [.int p1]) K hS lV_X1_67 (c_X5_at 11 20 (gRow_11 G o) p1 q2.2 q4 hq4) ((eX_11 G o) _) (by decide) rfl rfl rfl (Nat.le_of_ble_eq_true rfl) ⟨⟨Nat.le_of_ble_eq_true rfl, Nat.le_of_ble_eq_true rfl⟩, rfl, rfl⟩ hl.1 ⟨Nat.zero_le _, Nat.zero_le _⟩ dX1_loudnessIn_29 (fun H locs hS => ?_)
    refine lv_iload_n hx hb dX1_loudnessIn_32 rfl (lv_at hl 0 rfl) ?_
    refine lv_isub hx hb dX1_loudnessIn_33 ?_
    refine lv_iconst (v := 0) hx hb dX1_loudnessIn_34 (by decide) ?_
    refine g_mmax K hl.1 (gmem 343 (by decide +kernel) rfl) q_static_max q_init_Math q_code_max (Nat.le_of_ble_eq_true rfl) (Nat.le_of_ble_eq_true rfl) (Nat.zero_le _) (Nat.zero_le _) dX1_loudnessIn_35 ?_
    exact g_iret K hS hf dX1_loudnessIn_38
  · have hf := gIf_t c3 hf
    refine lv_iconst (v := 0) hx hb dX1_loudnessIn_20 (by decide) ?_
    refine lv_goto (tgt := 38) hx hb dX1_loudnessIn_21 (by decide) ?_
    exact g_iret K hS hf dX1_loudnessIn_38
abbrev rmX0_boardsThatWake : Room := { frames := 4, cells := 0, slots := 0, locals := 93 }
def f_X0_boardsThatWake_L17 (w1 : Int32) (w3 : Int32) : Nat → Int32 → Int32 → gS → Option (Int32 × gS)
  | 0, _, _, _ => none
  | n + 1, v2, v4, σ => if (σ 4 0) ≤ v4 then (some (v2, σ)) else (Option.bind (f_X1_loudnessIn w3 v4 σ) (fun q3 => Option.bind (f_X5_at 27 5 w1 q3.2) (fun q4 => if q3.1 < q4.1 then (f_X0_boardsThatWake_L17 w1 w3 n v2 (v4 + 1) q4.2) else (gLet (v2 ||| (1 <<< (v4 &&& 31))) (fun x6 => f_X0_boardsThatWake_L17 w1 w3 n x6 (v4 + 1) q4.2)))))
theorem f_X0_boardsThatWake_L17_s (w1 : Int32) (w3 : Int32) (n : Nat) (v2 : Int32) (v4 : Int32) (σ : gS) : f_X0_boardsThatWake_L17 w1 w3 (n + 1) v2 v4 σ = (if (σ 4 0) ≤ v4 then (some (v2, σ)) else (Option.bind (f_X1_loudnessIn w3 v4 σ) (fun q3 => Option.bind (f_X5_at 27 5 w1 q3.2) (fun q4 => if q3.1 < q4.1 then (f_X0_boardsThatWake_L17 w1 w3 n v2 (v4 + 1) q4.2) else (gLet (v2 ||| (1 <<< (v4 &&& 31))) (fun x6 => f_X0_boardsThatWake_L17 w1 w3 n x6 (v4 + 1) q4.2)))))) := rfl
def f_X0_boardsThatWake (p0 : Int32) (σ : gS) : Option (Int32 × gS) := Option.bind (f_X5_at 25 5 p0 σ) (fun q1 => f_X0_boardsThatWake_L17 p0 q1.1 gFu 0 0 q1.2)
set_option maxHeartbeats 4000000 in
set_option maxRecDepth 100000 in
theorem w_X0_boardsThatWake_L17 (w1 : Int32) (w3 : Int32) {q : Int32 × gS} (K : gK p s m args meth c G cX0_boardsThatWake 5 RX0 (some .int)) : ∀ (n : Nat) (v2 : Int32) (v4 : Int32) (σ : gS), f_X0_boardsThatWake_L17 w1 w3 n v2 v4 σ = some q → ∀ (H : Heap) (locs : List Loc) (ls : Array Slot), gSt G (entX G o) o 302 s σ H locs → lv_has ls 5 [(0, .ref (o + 1)), (1, .int w1), (2, .int v2), (3, .int w3), (4, .int v4)] → W p l e rmX0_boardsThatWake s m args below meth c H locs 0 0 (MQ below (gQi G (entX G o) o 302 q) args s 0 0 (gA o 302)) (F0 m 17 ls []) := by
  obtain ⟨hx, hb, hml, hown, hts, -⟩ := id K
  intro n
  induction n with
  | zero =>
    intro v2 v4 σ hf
    exact absurd (show (none : Option _) = some q from hf) (by simp)
  | succ n ih =>
    intro v2 v4 σ hf H locs ls hS hl
    rw [f_X0_boardsThatWake_L17_s] at hf
    refine lv_iload hx hb dX0_boardsThatWake_17 (lv_at hl 4 rfl) ?_
    refine lv_aload_n hx hb dX0_boardsThatWake_19 rfl (lv_at hl 0 rfl) ?_
    refine g_get (cx := 1) K hS lF_X0_23 ((eX_1 G o) _) (by decide) rfl dX0_boardsThatWake_20 ?_
    refine g_get (cx := 4) K hS lF_X0_105 ((eX_4 G o) _) (by decide) rfl dX0_boardsThatWake_23 ?_
    refine lv_icmp_ge (tgt := 66) hx hb dX0_boardsThatWake_26 (by decide) (fun c2 => ?_) (fun c2 => ?_)
    · have hf := gIf_t c2 hf
      refine lv_iload_n hx hb dX0_boardsThatWake_66 rfl (lv_at hl 2 rfl) ?_
      exact g_iret K hS hf dX0_boardsThatWake_67
    · have hf := gIf_f c2 hf
      refine lv_aload_n hx hb dX0_boardsThatWake_29 rfl (lv_at hl 0 rfl) ?_
      refine g_get (cx := 1) K hS lF_X0_23 ((eX_1 G o) _) (by decide) rfl dX0_boardsThatWake_30 ?_
      refine lv_iload_n hx hb dX0_boardsThatWake_33 rfl (lv_at hl 3 rfl) ?_
      refine lv_iload hx hb dX0_boardsThatWake_34 (lv_at hl 4 rfl) ?_
      obtain ⟨q3, hq3, hf⟩ := Option.bind_eq_some_iff.mp hf
      refine g_Vi (cx := 4) (As := [.int w3, .int v4]) K hS lV_X0_108 (c_X1_loudnessIn w3 v4 σ q3 hq3) ((eX_4 G o) _) (by decide) rfl rfl rfl (Nat.le_of_ble_eq_true rfl) ⟨⟨Nat.le_of_ble_eq_true rfl, Nat.le_of_ble_eq_true rfl⟩, rfl, rfl⟩ hl.1 ⟨Nat.zero_le _, Nat.zero_le _⟩ dX0_boardsThatWake_36 (fun H locs hS => ?_)
      refine lv_aload_n hx hb dX0_boardsThatWake_39 rfl (lv_at hl 0 rfl) ?_
      refine g_get (cx := 1) K hS lF_X0_37 ((eX_1 G o) _) (by decide) rfl dX0_boardsThatWake_40 ?_
      refine g_get (cx := 24) K hS lF_X0_111 ((eX_24 G o) _) (by decide) rfl dX0_boardsThatWake_43 ?_
      refine lv_iload_n hx hb dX0_boardsThatWake_46 rfl (lv_at hl 1 rfl) ?_
      obtain ⟨q4, hq4, hf⟩ := Option.bind_eq_some_iff.mp hf
      refine g_Vi (cx := 27) (As := [.int w1]) K hS lV_X0_65 (c_X5_at 27 5 (gRow_27 G o) w1 q3.2 q4 hq4) ((eX_27 G o) _) (by decide) rfl rfl rfl (Nat.le_of_ble_eq_true rfl) ⟨⟨Nat.le_of_ble_eq_true rfl, Nat.le_of_ble_eq_true rfl⟩, rfl, rfl⟩ hl.1 ⟨Nat.zero_le _, Nat.zero_le _⟩ dX0_boardsThatWake_47 (fun H locs hS => ?_)
      refine lv_icmp_lt (tgt := 60) hx hb dX0_boardsThatWake_50 (by decide) (fun c5 => ?_) (fun c5 => ?_)
      · have hf := gIf_t c5 hf
        refine lv_iinc (v := (v4 + 1)) (lv' := [(4, .int (v4 + 1)), (0, .ref (o + 1)), (1, .int w1), (2, .int v2), (3, .int w3)]) hx hb dX0_boardsThatWake_60 hl (k := 4) rfl rfl (by decide) rfl (fun ls hl => ?_)
        refine lv_goto (tgt := 17) hx hb dX0_boardsThatWake_63 (by decide) ?_
        exact ih v2 (v4 + 1) q4.2 hf _ _ _ hS (lv_sub hl [1, 2, 3, 4, 0] rfl)
      · have hf := gIf_f c5 hf
        refine lv_iload_n hx hb dX0_boardsThatWake_53 rfl (lv_at hl 2 rfl) ?_
        refine lv_iconst (v := 1) hx hb dX0_boardsThatWake_54 (by decide) ?_
        refine lv_iload hx hb dX0_boardsThatWake_55 (lv_at hl 4 rfl) ?_
        refine lv_ishl hx hb dX0_boardsThatWake_57 ?_
        refine lv_ior hx hb dX0_boardsThatWake_58 ?_
        obtain ⟨x6, hx6, hf⟩ := gLet_some hf
        refine g_top hx6 ?_
        refine lv_istore_n (lv' := [(2, .int x6), (0, .ref (o + 1)), (1, .int w1), (3, .int w3), (4, .int v4)]) hx hb dX0_boardsThatWake_59 rfl hl (by decide) rfl (fun ls hl => ?_)
        refine lv_iinc (v := (v4 + 1)) (lv' := [(4, .int (v4 + 1)), (2, .int x6), (0, .ref (o + 1)), (1, .int w1), (3, .int w3)]) hx hb dX0_boardsThatWake_60 hl (k := 4) rfl rfl (by decide) rfl (fun ls hl => ?_)
        refine lv_goto (tgt := 17) hx hb dX0_boardsThatWake_63 (by decide) ?_
        exact ih x6 (v4 + 1) q4.2 hf _ _ _ hS (lv_sub hl [2, 3, 1, 4, 0] rfl)
set_option maxHeartbeats 4000000 in
set_option maxRecDepth 100000 in
theorem c_X0_boardsThatWake (p0 : Int32) (σ : gS) (q : Int32 × gS) (hf : f_X0_boardsThatWake p0 σ = some q) : Met l yX0_boardsThatWake (gW yX0_boardsThatWake cX0_boardsThatWake 5 (some .int)) rmX0_boardsThatWake (gPc G (entX G o) o 302 [.ref (o + 1), .int p0] σ) (gQi G (entX G o) o 302 q) 0 0 (gA o 302) := by
  refine g_met (by decide) ⟨rfl, rfl⟩ (fun p e s m args below meth c ls K hS hl => ?_) (Nat.le_of_ble_eq_true rfl)
  have K : gK p s m args meth c G cX0_boardsThatWake 5 RX0 (some .int) := K
  have hl : lv_has ls 5 [(0, .ref (o + 1)), (1, .int p0)] := hl
  obtain ⟨hx, hb, hml, hown, hts, -⟩ := id K
  unfold f_X0_boardsThatWake at hf
  refine lv_iconst (v := 0) hx hb dX0_boardsThatWake_0 (by decide) ?_
  refine lv_istore_n (lv' := [(2, .int 0), (0, .ref (o + 1)), (1, .int p0)]) hx hb dX0_boardsThatWake_1 rfl hl (by decide) rfl (fun ls hl => ?_)
  refine lv_aload_n hx hb dX0_boardsThatWake_2 rfl (lv_at hl 1 rfl) ?_
  refine g_get (cx := 1) K hS lF_X0_37 ((eX_1 G o) _) (by decide) rfl dX0_boardsThatWake_3 ?_
  refine g_get (cx := 24) K hS lF_X0_104 ((eX_24 G o) _) (by decide) rfl dX0_boardsThatWake_6 ?_
  refine lv_iload_n hx hb dX0_boardsThatWake_9 rfl (lv_at hl 2 rfl) ?_
  obtain ⟨q1, hq1, hf⟩ := Option.bind_eq_some_iff.mp hf
  refine g_Vi (cx := 25) (As := [.int p0]) K hS lV_X0_65 (c_X5_at 25 5 (gRow_25 G o) p0 σ q1 hq1) ((eX_25 G o) _) (by decide) rfl rfl rfl (Nat.le_of_ble_eq_true rfl) ⟨⟨Nat.le_of_ble_eq_true rfl, Nat.le_of_ble_eq_true rfl⟩, rfl, rfl⟩ hl.1 ⟨Nat.zero_le _, Nat.zero_le _⟩ dX0_boardsThatWake_10 (fun H locs hS => ?_)
  refine lv_istore_n (lv' := [(3, .int q1.1), (2, .int 0), (0, .ref (o + 1)), (1, .int p0)]) hx hb dX0_boardsThatWake_13 rfl hl (by decide) rfl (fun ls hl => ?_)
  refine lv_iconst (v := 0) hx hb dX0_boardsThatWake_14 (by decide) ?_
  refine lv_istore (lv' := [(4, .int 0), (3, .int q1.1), (2, .int 0), (0, .ref (o + 1)), (1, .int p0)]) hx hb dX0_boardsThatWake_15 hl (by decide) rfl (fun ls hl => ?_)
  refine w_X0_boardsThatWake_L17 p0 q1.1 K gFu 0 0 q1.2 hf _ _ _ hS (lv_sub hl [3, 4, 2, 1, 0] rfl)
abbrev rmX5_store : Room := { frames := 0, cells := 0, slots := 0, locals := 0 }
def f_X5_store (r L : Nat) (p0 : Int32) (p1 : Int32) (σ : gS) : Option (gS) := if p0 < 0 then (some σ) else (if (Int32.ofNat L) ≤ p0 then (some σ) else (gGd (gin p0 L) (gLet (up2 σ (r + 1) (gil p0) p1) (fun s3 => some s3))))
set_option maxHeartbeats 4000000 in
set_option maxRecDepth 100000 in
theorem c_X5_store (r L : Nat) (hr : gRow G o r L) (p0 : Int32) (p1 : Int32) (σ : gS) (q : gS) (hf : f_X5_store r L p0 p1 σ = some q) : Met l yX5_store (gW yX5_store cX5_store 3 none) rmX5_store (gPc G (entX G o) o 302 [.ref (o + r), .int p0, .int p1] σ) (gQv G (entX G o) o 302 q) 0 0 (gA o 302) := by
  refine g_met (by decide) ⟨rfl, rfl⟩ (fun p e s m args below meth c ls K hS hl => ?_) (Nat.le_of_ble_eq_true rfl)
  have K : gK p s m args meth c G cX5_store 3 RX5 none := K
  have hl : lv_has ls 3 [(0, .ref (o + r)), (1, .int p0), (2, .int p1)] := hl
  obtain ⟨hx, hb, hml, hown, hts, -⟩ := id K
  unfold f_X5_store at hf
  refine lv_iload_n hx hb dX5_store_0 rfl (lv_at hl 1 rfl) ?_
  refine lv_if_lt (tgt := 20) hx hb dX5_store_1 (by decide) (fun c1 => ?_) (fun c1 => ?_)
  · have hf := gIf_t c1 hf
    exact g_vret K hS hf dX5_store_20
  · have hf := gIf_f c1 hf
    refine lv_iload_n hx hb dX5_store_4 rfl (lv_at hl 1 rfl) ?_
    refine lv_aload_n hx hb dX5_store_5 rfl (lv_at hl 0 rfl) ?_
    refine g_get (cx := r) K hS lF_X5_13 (hr.1 _) hr.2.2.1 rfl dX5_store_6 ?_
    refine g_alen (cx := (r + 1)) (t0 := 0) (v := (Int32.ofNat L)) K hS (hr.2.1 _) hr.2.2.2 rfl rfl dX5_store_9 ?_
    refine lv_icmp_ge (tgt := 20) hx hb dX5_store_10 (by decide) (fun c2 => ?_) (fun c2 => ?_)
    · have hf := gIf_t c2 hf
      exact g_vret K hS hf dX5_store_20
    · have hf := gIf_f c2 hf
      refine lv_aload_n hx hb dX5_store_13 rfl (lv_at hl 0 rfl) ?_
      refine g_get (cx := r) K hS lF_X5_13 (hr.1 _) hr.2.2.1 rfl dX5_store_14 ?_
      refine lv_iload_n hx hb dX5_store_17 rfl (lv_at hl 1 rfl) ?_
      refine lv_iload_n hx hb dX5_store_18 rfl (lv_at hl 2 rfl) ?_
      obtain ⟨h4, hf⟩ := gGd_some hf
      obtain ⟨s3, hs3, hf⟩ := gLet_some hf
      refine g_iast (cx := (r + 1)) K hS hr.2.1 hr.2.2.2 h4 rfl dX5_store_19 (fun H locs hS => ?_)
      rw [← hs3] at hS
      exact g_vret K hS hf dX5_store_20
abbrev rmX5_increase : Room := { frames := 1, cells := 0, slots := 0, locals := 22 }
def f_X5_increase (r L : Nat) (p0 : Int32) (σ : gS) : Option (gS) := Option.bind (f_X5_at r L p0 σ) (fun q1 => Option.bind (f_X5_store r L p0 (q1.1 + 1) q1.2) (fun q2 => some q2))
set_option maxHeartbeats 4000000 in
set_option maxRecDepth 100000 in
theorem c_X5_increase (r L : Nat) (hr : gRow G o r L) (p0 : Int32) (σ : gS) (q : gS) (hf : f_X5_increase r L p0 σ = some q) : Met l yX5_increase (gW yX5_increase cX5_increase 2 none) rmX5_increase (gPc G (entX G o) o 302 [.ref (o + r), .int p0] σ) (gQv G (entX G o) o 302 q) 0 0 (gA o 302) := by
  refine g_met (by decide) ⟨rfl, rfl⟩ (fun p e s m args below meth c ls K hS hl => ?_) (Nat.le_of_ble_eq_true rfl)
  have K : gK p s m args meth c G cX5_increase 2 RX5 none := K
  have hl : lv_has ls 2 [(0, .ref (o + r)), (1, .int p0)] := hl
  obtain ⟨hx, hb, hml, hown, hts, -⟩ := id K
  unfold f_X5_increase at hf
  refine lv_aload_n hx hb dX5_increase_0 rfl (lv_at hl 0 rfl) ?_
  refine lv_iload_n hx hb dX5_increase_1 rfl (lv_at hl 1 rfl) ?_
  refine lv_aload_n hx hb dX5_increase_2 rfl (lv_at hl 0 rfl) ?_
  refine lv_iload_n hx hb dX5_increase_3 rfl (lv_at hl 1 rfl) ?_
  obtain ⟨q1, hq1, hf⟩ := Option.bind_eq_some_iff.mp hf
  refine g_Vi (cx := r) (As := [.int p0]) K hS lV_X5_19 (c_X5_at r L hr p0 σ q1 hq1) (hr.1 _) hr.2.2.1 rfl rfl rfl (Nat.le_of_ble_eq_true rfl) ⟨⟨Nat.le_of_ble_eq_true rfl, Nat.le_of_ble_eq_true rfl⟩, rfl, rfl⟩ hl.1 ⟨Nat.zero_le _, Nat.zero_le _⟩ dX5_increase_4 (fun H locs hS => ?_)
  refine lv_iconst (v := 1) hx hb dX5_increase_7 (by decide) ?_
  refine lv_iadd hx hb dX5_increase_8 ?_
  obtain ⟨q2, hq2, hf⟩ := Option.bind_eq_some_iff.mp hf
  refine g_Vv (cx := r) (As := [.int p0, .int (q1.1 + 1)]) K hS lV_X5_23 (c_X5_store r L hr p0 (q1.1 + 1) q1.2 q2 hq2) (hr.1 _) hr.2.2.1 rfl rfl rfl (Nat.le_of_ble_eq_true rfl) ⟨⟨Nat.le_of_ble_eq_true rfl, Nat.le_of_ble_eq_true rfl⟩, rfl, rfl⟩ hl.1 ⟨Nat.zero_le _, Nat.zero_le _⟩ dX5_increase_9 (fun H locs hS => ?_)
  exact g_vret K hS hf dX5_increase_12
abbrev rmX7_wake : Room := { frames := 2, cells := 0, slots := 0, locals := 43 }
def f_X7_wake (p0 : Int32) (p1 : Int32) (σ : gS) : Option (gS) := Option.bind (f_X5_at 29 5 p0 σ) (fun q1 => gLet (fun (s2 : gS) => Option.bind (f_X5_store 29 5 p0 p1 s2) (fun q4 => some q4)) (fun J3 => if q1.1 = 0 then (Option.bind (f_X5_increase 31 5 p0 q1.2) (fun q6 => J3 q6)) else (J3 q1.2)))
set_option maxHeartbeats 4000000 in
set_option maxRecDepth 100000 in
theorem c_X7_wake (p0 : Int32) (p1 : Int32) (σ : gS) (q : gS) (hf : f_X7_wake p0 p1 σ = some q) : Met l yX7_wake (gW yX7_wake cX7_wake 3 none) rmX7_wake (gPc G (entX G o) o 302 [.ref (o + 24), .int p0, .int p1] σ) (gQv G (entX G o) o 302 q) 0 0 (gA o 302) := by
  refine g_met (by decide) ⟨rfl, rfl⟩ (fun p e s m args below meth c ls K hS hl => ?_) (Nat.le_of_ble_eq_true rfl)
  have K : gK p s m args meth c G cX7_wake 3 RX7 none := K
  have hl : lv_has ls 3 [(0, .ref (o + 24)), (1, .int p0), (2, .int p1)] := hl
  obtain ⟨hx, hb, hml, hown, hts, -⟩ := id K
  unfold f_X7_wake at hf
  refine lv_aload_n hx hb dX7_wake_0 rfl (lv_at hl 0 rfl) ?_
  refine g_get (cx := 24) K hS lF_X7_23 ((eX_24 G o) _) (by decide) rfl dX7_wake_1 ?_
  refine lv_iload_n hx hb dX7_wake_4 rfl (lv_at hl 1 rfl) ?_
  obtain ⟨q1, hq1, hf⟩ := Option.bind_eq_some_iff.mp hf
  refine g_Vi (cx := 29) (As := [.int p0]) K hS lV_X7_45 (c_X5_at 29 5 (gRow_29 G o) p0 σ q1 hq1) ((eX_29 G o) _) (by decide) rfl rfl rfl (Nat.le_of_ble_eq_true rfl) ⟨⟨Nat.le_of_ble_eq_true rfl, Nat.le_of_ble_eq_true rfl⟩, rfl, rfl⟩ hl.1 ⟨Nat.zero_le _, Nat.zero_le _⟩ dX7_wake_5 (fun H locs hS => ?_)
  obtain ⟨J3, hJ3, hf⟩ := gLet_some hf
  have wJ3 : ∀  (s2 : gS), J3  s2 = some q → ∀ (H : Heap) (locs : List Loc) (ls : Array Slot), gSt G (entX G o) o 302 s s2 H locs → lv_has ls 3 [(0, .ref (o + 24)), (1, .int p0), (2, .int p1)] → W p l e rmX7_wake s m args below meth c H locs 0 0 (MQ below (gQv G (entX G o) o 302 q) args s 0 0 (gA o 302)) (F0 m 19 ls []) := by
    intro  s2 hf H locs ls hS hl
    rw [hJ3] at hf
    refine lv_aload_n hx hb dX7_wake_19 rfl (lv_at hl 0 rfl) ?_
    refine g_get (cx := 24) K hS lF_X7_23 ((eX_24 G o) _) (by decide) rfl dX7_wake_20 ?_
    refine lv_iload_n hx hb dX7_wake_23 rfl (lv_at hl 1 rfl) ?_
    refine lv_iload_n hx hb dX7_wake_24 rfl (lv_at hl 2 rfl) ?_
    obtain ⟨q4, hq4, hf⟩ := Option.bind_eq_some_iff.mp hf
    refine g_Vv (cx := 29) (As := [.int p0, .int p1]) K hS lV_X7_41 (c_X5_store 29 5 (gRow_29 G o) p0 p1 s2 q4 hq4) ((eX_29 G o) _) (by decide) rfl rfl rfl (Nat.le_of_ble_eq_true rfl) ⟨⟨Nat.le_of_ble_eq_true rfl, Nat.le_of_ble_eq_true rfl⟩, rfl, rfl⟩ hl.1 ⟨Nat.zero_le _, Nat.zero_le _⟩ dX7_wake_25 (fun H locs hS => ?_)
    exact g_vret K hS hf dX7_wake_28
  clear hJ3
  refine lv_if_ne (tgt := 19) hx hb dX7_wake_8 (by decide) (fun c5 => ?_) (fun c5 => ?_)
  · have hf := gIf_f c5 hf
    exact wJ3  q1.2 hf _ _ _ hS (lv_sub hl [0, 1, 2] rfl)
  · have hf := gIf_t c5 hf
    refine lv_aload_n hx hb dX7_wake_11 rfl (lv_at hl 0 rfl) ?_
    refine g_get (cx := 24) K hS lF_X7_26 ((eX_24 G o) _) (by decide) rfl dX7_wake_12 ?_
    refine lv_iload_n hx hb dX7_wake_15 rfl (lv_at hl 1 rfl) ?_
    obtain ⟨q6, hq6, hf⟩ := Option.bind_eq_some_iff.mp hf
    refine g_Vv (cx := 31) (As := [.int p0]) K hS lV_X7_49 (c_X5_increase 31 5 (gRow_31 G o) p0 q1.2 q6 hq6) ((eX_31 G o) _) (by decide) rfl rfl rfl (Nat.le_of_ble_eq_true rfl) ⟨⟨Nat.le_of_ble_eq_true rfl, Nat.le_of_ble_eq_true rfl⟩, rfl, rfl⟩ hl.1 ⟨Nat.zero_le _, Nat.zero_le _⟩ dX7_wake_16 (fun H locs hS => ?_)
    exact wJ3  q6 hf _ _ _ hS (lv_sub hl [0, 1, 2] rfl)
abbrev rmX0_letCreak : Room := { frames := 4, cells := 0, slots := 0, locals := 93 }
def f_X0_letCreak_L15 (w1 : Int32) : Nat → Int32 → Int32 → gS → Option (Int32 × gS)
  | 0, _, _, _ => none
  | n + 1, v2, v3, σ => if (σ 24 0) ≤ v3 then (some (v2, σ)) else (Option.bind (f_X5_at 25 5 v3 σ) (fun q3 => Option.bind (f_X1_loudnessIn q3.1 w1 q3.2) (fun q4 => Option.bind (f_X5_at 27 5 v3 q4.2) (fun q5 => if q4.1 < q5.1 then (f_X0_letCreak_L15 w1 n v2 (v3 + 1) q5.2) else (Option.bind (f_X5_at 2 2 1 q5.2) (fun q7 => Option.bind (f_X7_wake v3 q7.1 q7.2) (fun q8 => gLet (v2 ||| (1 <<< (v3 &&& 31))) (fun x9 => f_X0_letCreak_L15 w1 n x9 (v3 + 1) q8))))))))
theorem f_X0_letCreak_L15_s (w1 : Int32) (n : Nat) (v2 : Int32) (v3 : Int32) (σ : gS) : f_X0_letCreak_L15 w1 (n + 1) v2 v3 σ = (if (σ 24 0) ≤ v3 then (some (v2, σ)) else (Option.bind (f_X5_at 25 5 v3 σ) (fun q3 => Option.bind (f_X1_loudnessIn q3.1 w1 q3.2) (fun q4 => Option.bind (f_X5_at 27 5 v3 q4.2) (fun q5 => if q4.1 < q5.1 then (f_X0_letCreak_L15 w1 n v2 (v3 + 1) q5.2) else (Option.bind (f_X5_at 2 2 1 q5.2) (fun q7 => Option.bind (f_X7_wake v3 q7.1 q7.2) (fun q8 => gLet (v2 ||| (1 <<< (v3 &&& 31))) (fun x9 => f_X0_letCreak_L15 w1 n x9 (v3 + 1) q8))))))))) := rfl
def f_X0_letCreak (p0 : Int32) (σ : gS) : Option (Int32 × gS) := Option.bind (f_X5_increase 15 20 p0 σ) (fun q1 => f_X0_letCreak_L15 p0 gFu 0 0 q1)
set_option maxHeartbeats 4000000 in
set_option maxRecDepth 100000 in
theorem w_X0_letCreak_L15 (w1 : Int32) {q : Int32 × gS} (K : gK p s m args meth c G cX0_letCreak 5 RX0 (some .int)) : ∀ (n : Nat) (v2 : Int32) (v3 : Int32) (σ : gS), f_X0_letCreak_L15 w1 n v2 v3 σ = some q → ∀ (H : Heap) (locs : List Loc) (ls : Array Slot), gSt G (entX G o) o 302 s σ H locs → lv_has ls 5 [(0, .ref (o + 1)), (1, .int w1), (2, .int v2), (3, .int v3)] → W p l e rmX0_letCreak s m args below meth c H locs 0 0 (MQ below (gQi G (entX G o) o 302 q) args s 0 0 (gA o 302)) (F0 m 15 ls []) := by
  obtain ⟨hx, hb, hml, hown, hts, -⟩ := id K
  intro n
  induction n with
  | zero =>
    intro v2 v3 σ hf
    exact absurd (show (none : Option _) = some q from hf) (by simp)
  | succ n ih =>
    intro v2 v3 σ hf H locs ls hS hl
    rw [f_X0_letCreak_L15_s] at hf
    refine lv_iload_n hx hb dX0_letCreak_15 rfl (lv_at hl 3 rfl) ?_
    refine lv_aload_n hx hb dX0_letCreak_16 rfl (lv_at hl 0 rfl) ?_
    refine g_get (cx := 1) K hS lF_X0_37 ((eX_1 G o) _) (by decide) rfl dX0_letCreak_17 ?_
    refine g_get (cx := 24) K hS lF_X0_120 ((eX_24 G o) _) (by decide) rfl dX0_letCreak_20 ?_
    refine lv_icmp_ge (tgt := 91) hx hb dX0_letCreak_23 (by decide) (fun c2 => ?_) (fun c2 => ?_)
    · have hf := gIf_t c2 hf
      refine lv_iload_n hx hb dX0_letCreak_91 rfl (lv_at hl 2 rfl) ?_
      exact g_iret K hS hf dX0_letCreak_92
    · have hf := gIf_f c2 hf
      refine lv_aload_n hx hb dX0_letCreak_26 rfl (lv_at hl 0 rfl) ?_
      refine g_get (cx := 1) K hS lF_X0_23 ((eX_1 G o) _) (by decide) rfl dX0_letCreak_27 ?_
      refine lv_aload_n hx hb dX0_letCreak_30 rfl (lv_at hl 0 rfl) ?_
      refine g_get (cx := 1) K hS lF_X0_37 ((eX_1 G o) _) (by decide) rfl dX0_letCreak_31 ?_
      refine g_get (cx := 24) K hS lF_X0_104 ((eX_24 G o) _) (by decide) rfl dX0_letCreak_34 ?_
      refine lv_iload_n hx hb dX0_letCreak_37 rfl (lv_at hl 3 rfl) ?_
      obtain ⟨q3, hq3, hf⟩ := Option.bind_eq_some_iff.mp hf
      refine g_Vi (cx := 25) (As := [.int v3]) K hS lV_X0_65 (c_X5_at 25 5 (gRow_25 G o) v3 σ q3 hq3) ((eX_25 G o) _) (by decide) rfl rfl rfl (Nat.le_of_ble_eq_true rfl) ⟨⟨Nat.le_of_ble_eq_true rfl, Nat.le_of_ble_eq_true rfl⟩, rfl, rfl⟩ hl.1 ⟨Nat.zero_le _, Nat.zero_le _⟩ dX0_letCreak_38 (fun H locs hS => ?_)
      refine lv_iload_n hx hb dX0_letCreak_41 rfl (lv_at hl 1 rfl) ?_
      obtain ⟨q4, hq4, hf⟩ := Option.bind_eq_some_iff.mp hf
      refine g_Vi (cx := 4) (As := [.int q3.1, .int w1]) K hS lV_X0_108 (c_X1_loudnessIn q3.1 w1 q3.2 q4 hq4) ((eX_4 G o) _) (by decide) rfl rfl rfl (Nat.le_of_ble_eq_true rfl) ⟨⟨Nat.le_of_ble_eq_true rfl, Nat.le_of_ble_eq_true rfl⟩, rfl, rfl⟩ hl.1 ⟨Nat.zero_le _, Nat.zero_le _⟩ dX0_letCreak_42 (fun H locs hS => ?_)
      refine lv_istore (lv' := [(4, .int q4.1), (0, .ref (o + 1)), (1, .int w1), (2, .int v2), (3, .int v3)]) hx hb dX0_letCreak_45 hl (by decide) rfl (fun ls hl => ?_)
      refine lv_iload hx hb dX0_letCreak_47 (lv_at hl 0 rfl) ?_
      refine lv_aload_n hx hb dX0_letCreak_49 rfl (lv_at hl 1 rfl) ?_
      refine g_get (cx := 1) K hS lF_X0_37 ((eX_1 G o) _) (by decide) rfl dX0_letCreak_50 ?_
      refine g_get (cx := 24) K hS lF_X0_111 ((eX_24 G o) _) (by decide) rfl dX0_letCreak_53 ?_
      refine lv_iload_n hx hb dX0_letCreak_56 rfl (lv_at hl 4 rfl) ?_
      obtain ⟨q5, hq5, hf⟩ := Option.bind_eq_some_iff.mp hf
      refine g_Vi (cx := 27) (As := [.int v3]) K hS lV_X0_65 (c_X5_at 27 5 (gRow_27 G o) v3 q4.2 q5 hq5) ((eX_27 G o) _) (by decide) rfl rfl rfl (Nat.le_of_ble_eq_true rfl) ⟨⟨Nat.le_of_ble_eq_true rfl, Nat.le_of_ble_eq_true rfl⟩, rfl, rfl⟩ hl.1 ⟨Nat.zero_le _, Nat.zero_le _⟩ dX0_letCreak_57 (fun H locs hS => ?_)
      refine lv_icmp_lt (tgt := 85) hx hb dX0_letCreak_60 (by decide) (fun c6 => ?_) (fun c6 => ?_)
      · have hf := gIf_t c6 hf
        refine lv_iinc (v := (v3 + 1)) (lv' := [(3, .int (v3 + 1)), (4, .int q4.1), (0, .ref (o + 1)), (1, .int w1), (2, .int v2)]) hx hb dX0_letCreak_85 hl (k := 4) rfl rfl (by decide) rfl (fun ls hl => ?_)
        refine lv_goto (tgt := 15) hx hb dX0_letCreak_88 (by decide) ?_
        exact ih v2 (v3 + 1) q5.2 hf _ _ _ hS (lv_sub hl [2, 3, 4, 0] rfl)
      · have hf := gIf_f c6 hf
        refine lv_aload_n hx hb dX0_letCreak_63 rfl (lv_at hl 1 rfl) ?_
        refine g_get (cx := 1) K hS lF_X0_37 ((eX_1 G o) _) (by decide) rfl dX0_letCreak_64 ?_
        refine lv_iload_n hx hb dX0_letCreak_67 rfl (lv_at hl 4 rfl) ?_
        refine lv_aload_n hx hb dX0_letCreak_68 rfl (lv_at hl 1 rfl) ?_
        refine g_get (cx := 1) K hS lF_X0_14 ((eX_1 G o) _) (by decide) rfl dX0_letCreak_69 ?_
        refine lv_iconst (v := 1) hx hb dX0_letCreak_72 (by decide) ?_
        obtain ⟨q7, hq7, hf⟩ := Option.bind_eq_some_iff.mp hf
        refine g_Vi (cx := 2) (As := [.int 1]) K hS lV_X0_65 (c_X5_at 2 2 (gRow_2 G o) 1 q5.2 q7 hq7) ((eX_2 G o) _) (by decide) rfl rfl rfl (Nat.le_of_ble_eq_true rfl) ⟨⟨Nat.le_of_ble_eq_true rfl, Nat.le_of_ble_eq_true rfl⟩, rfl, rfl⟩ hl.1 ⟨Nat.zero_le _, Nat.zero_le _⟩ dX0_letCreak_73 (fun H locs hS => ?_)
        obtain ⟨q8, hq8, hf⟩ := Option.bind_eq_some_iff.mp hf
        refine g_Vv (cx := 24) (As := [.int v3, .int q7.1]) K hS lV_X0_123 (c_X7_wake v3 q7.1 q7.2 q8 hq8) ((eX_24 G o) _) (by decide) rfl rfl rfl (Nat.le_of_ble_eq_true rfl) ⟨⟨Nat.le_of_ble_eq_true rfl, Nat.le_of_ble_eq_true rfl⟩, rfl, rfl⟩ hl.1 ⟨Nat.zero_le _, Nat.zero_le _⟩ dX0_letCreak_76 (fun H locs hS => ?_)
        refine lv_iload_n hx hb dX0_letCreak_79 rfl (lv_at hl 3 rfl) ?_
        refine lv_iconst (v := 1) hx hb dX0_letCreak_80 (by decide) ?_
        refine lv_iload_n hx hb dX0_letCreak_81 rfl (lv_at hl 4 rfl) ?_
        refine lv_ishl hx hb dX0_letCreak_82 ?_
        refine lv_ior hx hb dX0_letCreak_83 ?_
        obtain ⟨x9, hx9, hf⟩ := gLet_some hf
        refine g_top hx9 ?_
        refine lv_istore_n (lv' := [(2, .int x9), (4, .int q4.1), (0, .ref (o + 1)), (1, .int w1), (3, .int v3)]) hx hb dX0_letCreak_84 rfl hl (by decide) rfl (fun ls hl => ?_)
        refine lv_iinc (v := (v3 + 1)) (lv' := [(3, .int (v3 + 1)), (2, .int x9), (4, .int q4.1), (0, .ref (o + 1)), (1, .int w1)]) hx hb dX0_letCreak_85 hl (k := 4) rfl rfl (by decide) rfl (fun ls hl => ?_)
        refine lv_goto (tgt := 15) hx hb dX0_letCreak_88 (by decide) ?_
        exact ih x9 (v3 + 1) q8 hf _ _ _ hS (lv_sub hl [3, 4, 1, 0] rfl)
set_option maxHeartbeats 4000000 in
set_option maxRecDepth 100000 in
theorem c_X0_letCreak (p0 : Int32) (σ : gS) (q : Int32 × gS) (hf : f_X0_letCreak p0 σ = some q) : Met l yX0_letCreak (gW yX0_letCreak cX0_letCreak 5 (some .int)) rmX0_letCreak (gPc G (entX G o) o 302 [.ref (o + 1), .int p0] σ) (gQi G (entX G o) o 302 q) 0 0 (gA o 302) := by
  refine g_met (by decide) ⟨rfl, rfl⟩ (fun p e s m args below meth c ls K hS hl => ?_) (Nat.le_of_ble_eq_true rfl)
  have K : gK p s m args meth c G cX0_letCreak 5 RX0 (some .int) := K
  have hl : lv_has ls 5 [(0, .ref (o + 1)), (1, .int p0)] := hl
  obtain ⟨hx, hb, hml, hown, hts, -⟩ := id K
  unfold f_X0_letCreak at hf
  refine lv_aload_n hx hb dX0_letCreak_0 rfl (lv_at hl 0 rfl) ?_
  refine g_get (cx := 1) K hS lF_X0_23 ((eX_1 G o) _) (by decide) rfl dX0_letCreak_1 ?_
  refine g_get (cx := 4) K hS lF_X0_114 ((eX_4 G o) _) (by decide) rfl dX0_letCreak_4 ?_
  refine lv_iload_n hx hb dX0_letCreak_7 rfl (lv_at hl 1 rfl) ?_
  obtain ⟨q1, hq1, hf⟩ := Option.bind_eq_some_iff.mp hf
  refine g_Vv (cx := 15) (As := [.int p0]) K hS lV_X0_117 (c_X5_increase 15 20 (gRow_15 G o) p0 σ q1 hq1) ((eX_15 G o) _) (by decide) rfl rfl rfl (Nat.le_of_ble_eq_true rfl) ⟨⟨Nat.le_of_ble_eq_true rfl, Nat.le_of_ble_eq_true rfl⟩, rfl, rfl⟩ hl.1 ⟨Nat.zero_le _, Nat.zero_le _⟩ dX0_letCreak_8 (fun H locs hS => ?_)
  refine lv_iconst (v := 0) hx hb dX0_letCreak_11 (by decide) ?_
  refine lv_istore_n (lv' := [(2, .int 0), (0, .ref (o + 1)), (1, .int p0)]) hx hb dX0_letCreak_12 rfl hl (by decide) rfl (fun ls hl => ?_)
  refine lv_iconst (v := 0) hx hb dX0_letCreak_13 (by decide) ?_
  refine lv_istore_n (lv' := [(3, .int 0), (2, .int 0), (0, .ref (o + 1)), (1, .int p0)]) hx hb dX0_letCreak_14 rfl hl (by decide) rfl (fun ls hl => ?_)
  refine w_X0_letCreak_L15 p0 K gFu 0 0 q1 hf _ _ _ hS (lv_sub hl [2, 3, 1, 0] rfl)
abbrev rmX7_tire : Room := { frames := 1, cells := 0, slots := 0, locals := 22 }
def f_X7_tire_L2 (w1 : Int32) : Nat → Int32 → gS → Option (gS)
  | 0, _, _ => none
  | n + 1, v2, σ => if (σ 24 0) ≤ v2 then (some σ) else (Option.bind (f_X5_at 29 5 v2 σ) (fun q2 => Option.bind (f_X5_store 29 5 v2 (if (q2.1 - w1) < 0 then 0 else (q2.1 - w1)) q2.2) (fun q3 => f_X7_tire_L2 w1 n (v2 + 1) q3)))
theorem f_X7_tire_L2_s (w1 : Int32) (n : Nat) (v2 : Int32) (σ : gS) : f_X7_tire_L2 w1 (n + 1) v2 σ = (if (σ 24 0) ≤ v2 then (some σ) else (Option.bind (f_X5_at 29 5 v2 σ) (fun q2 => Option.bind (f_X5_store 29 5 v2 (if (q2.1 - w1) < 0 then 0 else (q2.1 - w1)) q2.2) (fun q3 => f_X7_tire_L2 w1 n (v2 + 1) q3)))) := rfl
def f_X7_tire (p0 : Int32) (σ : gS) : Option (gS) := f_X7_tire_L2 p0 gFu 0 σ
set_option maxHeartbeats 4000000 in
set_option maxRecDepth 100000 in
theorem w_X7_tire_L2 (w1 : Int32) {q : gS} (K : gK p s m args meth c G cX7_tire 3 RX7 none) : ∀ (n : Nat) (v2 : Int32) (σ : gS), f_X7_tire_L2 w1 n v2 σ = some q → ∀ (H : Heap) (locs : List Loc) (ls : Array Slot), gSt G (entX G o) o 302 s σ H locs → lv_has ls 3 [(0, .ref (o + 24)), (1, .int w1), (2, .int v2)] → W p l e rmX7_tire s m args below meth c H locs 0 0 (MQ below (gQv G (entX G o) o 302 q) args s 0 0 (gA o 302)) (F0 m 2 ls []) := by
  obtain ⟨hx, hb, hml, hown, hts, -⟩ := id K
  intro n
  induction n with
  | zero =>
    intro v2 σ hf
    exact absurd (show (none : Option _) = some q from hf) (by simp)
  | succ n ih =>
    intro v2 σ hf H locs ls hS hl
    rw [f_X7_tire_L2_s] at hf
    refine lv_iload_n hx hb dX7_tire_2 rfl (lv_at hl 2 rfl) ?_
    refine lv_aload_n hx hb dX7_tire_3 rfl (lv_at hl 0 rfl) ?_
    refine g_get (cx := 24) K hS lF_X7_29 ((eX_24 G o) _) (by decide) rfl dX7_tire_4 ?_
    refine lv_icmp_ge (tgt := 38) hx hb dX7_tire_7 (by decide) (fun c1 => ?_) (fun c1 => ?_)
    · have hf := gIf_t c1 hf
      exact g_vret K hS hf dX7_tire_38
    · have hf := gIf_f c1 hf
      refine lv_aload_n hx hb dX7_tire_10 rfl (lv_at hl 0 rfl) ?_
      refine g_get (cx := 24) K hS lF_X7_23 ((eX_24 G o) _) (by decide) rfl dX7_tire_11 ?_
      refine lv_iload_n hx hb dX7_tire_14 rfl (lv_at hl 2 rfl) ?_
      refine lv_aload_n hx hb dX7_tire_15 rfl (lv_at hl 0 rfl) ?_
      refine g_get (cx := 24) K hS lF_X7_23 ((eX_24 G o) _) (by decide) rfl dX7_tire_16 ?_
      refine lv_iload_n hx hb dX7_tire_19 rfl (lv_at hl 2 rfl) ?_
      obtain ⟨q2, hq2, hf⟩ := Option.bind_eq_some_iff.mp hf
      refine g_Vi (cx := 29) (As := [.int v2]) K hS lV_X7_45 (c_X5_at 29 5 (gRow_29 G o) v2 σ q2 hq2) ((eX_29 G o) _) (by decide) rfl rfl rfl (Nat.le_of_ble_eq_true rfl) ⟨⟨Nat.le_of_ble_eq_true rfl, Nat.le_of_ble_eq_true rfl⟩, rfl, rfl⟩ hl.1 ⟨Nat.zero_le _, Nat.zero_le _⟩ dX7_tire_20 (fun H locs hS => ?_)
      refine lv_iload_n hx hb dX7_tire_23 rfl (lv_at hl 1 rfl) ?_
      refine lv_isub hx hb dX7_tire_24 ?_
      refine lv_iconst (v := 0) hx hb dX7_tire_25 (by decide) ?_
      refine g_mmax K hl.1 (gmem 464 (by decide +kernel) rfl) q_static_max q_init_Math q_code_max (Nat.le_of_ble_eq_true rfl) (Nat.le_of_ble_eq_true rfl) (Nat.zero_le _) (Nat.zero_le _) dX7_tire_26 ?_
      obtain ⟨q3, hq3, hf⟩ := Option.bind_eq_some_iff.mp hf
      refine g_Vv (cx := 29) (As := [.int v2, .int (if (q2.1 - w1) < 0 then 0 else (q2.1 - w1))]) K hS lV_X7_41 (c_X5_store 29 5 (gRow_29 G o) v2 (if (q2.1 - w1) < 0 then 0 else (q2.1 - w1)) q2.2 q3 hq3) ((eX_29 G o) _) (by decide) rfl rfl rfl (Nat.le_of_ble_eq_true rfl) ⟨⟨Nat.le_of_ble_eq_true rfl, Nat.le_of_ble_eq_true rfl⟩, rfl, rfl⟩ hl.1 ⟨Nat.zero_le _, Nat.zero_le _⟩ dX7_tire_29 (fun H locs hS => ?_)
      refine lv_iinc (v := (v2 + 1)) (lv' := [(2, .int (v2 + 1)), (0, .ref (o + 24)), (1, .int w1)]) hx hb dX7_tire_32 hl (k := 2) rfl rfl (by decide) rfl (fun ls hl => ?_)
      refine lv_goto (tgt := 2) hx hb dX7_tire_35 (by decide) ?_
      exact ih (v2 + 1) q3 hf _ _ _ hS (lv_sub hl [1, 2, 0] rfl)
set_option maxHeartbeats 4000000 in
set_option maxRecDepth 100000 in
theorem c_X7_tire (p0 : Int32) (σ : gS) (q : gS) (hf : f_X7_tire p0 σ = some q) : Met l yX7_tire (gW yX7_tire cX7_tire 3 none) rmX7_tire (gPc G (entX G o) o 302 [.ref (o + 24), .int p0] σ) (gQv G (entX G o) o 302 q) 0 0 (gA o 302) := by
  refine g_met (by decide) ⟨rfl, rfl⟩ (fun p e s m args below meth c ls K hS hl => ?_) (Nat.le_of_ble_eq_true rfl)
  have K : gK p s m args meth c G cX7_tire 3 RX7 none := K
  have hl : lv_has ls 3 [(0, .ref (o + 24)), (1, .int p0)] := hl
  obtain ⟨hx, hb, hml, hown, hts, -⟩ := id K
  unfold f_X7_tire at hf
  refine lv_iconst (v := 0) hx hb dX7_tire_0 (by decide) ?_
  refine lv_istore_n (lv' := [(2, .int 0), (0, .ref (o + 24)), (1, .int p0)]) hx hb dX7_tire_1 rfl hl (by decide) rfl (fun ls hl => ?_)
  refine w_X7_tire_L2 p0 K gFu 0 σ hf _ _ _ hS (lv_sub hl [1, 2, 0] rfl)
abbrev rmX5_fill : Room := { frames := 0, cells := 0, slots := 0, locals := 0 }
def f_X5_fill_L2 (r L : Nat) (w1 : Int32) : Nat → Int32 → gS → Option (gS)
  | 0, _, _ => none
  | n + 1, v2, σ => if (Int32.ofNat L) ≤ v2 then (some σ) else (gGd (gin v2 L) (gLet (up2 σ (r + 1) (gil v2) w1) (fun s2 => f_X5_fill_L2 r L w1 n (v2 + 1) s2)))
theorem f_X5_fill_L2_s (r L : Nat) (w1 : Int32) (n : Nat) (v2 : Int32) (σ : gS) : f_X5_fill_L2 r L w1 (n + 1) v2 σ = (if (Int32.ofNat L) ≤ v2 then (some σ) else (gGd (gin v2 L) (gLet (up2 σ (r + 1) (gil v2) w1) (fun s2 => f_X5_fill_L2 r L w1 n (v2 + 1) s2)))) := rfl
def f_X5_fill (r L : Nat) (p0 : Int32) (σ : gS) : Option (gS) := f_X5_fill_L2 r L p0 gFu 0 σ
set_option maxHeartbeats 4000000 in
set_option maxRecDepth 100000 in
theorem w_X5_fill_L2 (r L : Nat) (hr : gRow G o r L) (w1 : Int32) {q : gS} (K : gK p s m args meth c G cX5_fill 3 RX5 none) : ∀ (n : Nat) (v2 : Int32) (σ : gS), f_X5_fill_L2 r L w1 n v2 σ = some q → ∀ (H : Heap) (locs : List Loc) (ls : Array Slot), gSt G (entX G o) o 302 s σ H locs → lv_has ls 3 [(0, .ref (o + r)), (1, .int w1), (2, .int v2)] → W p l e rmX5_fill s m args below meth c H locs 0 0 (MQ below (gQv G (entX G o) o 302 q) args s 0 0 (gA o 302)) (F0 m 2 ls []) := by
  obtain ⟨hx, hb, hml, hown, hts, -⟩ := id K
  intro n
  induction n with
  | zero =>
    intro v2 σ hf
    exact absurd (show (none : Option _) = some q from hf) (by simp)
  | succ n ih =>
    intro v2 σ hf H locs ls hS hl
    rw [f_X5_fill_L2_s] at hf
    refine lv_iload_n hx hb dX5_fill_2 rfl (lv_at hl 2 rfl) ?_
    refine lv_aload_n hx hb dX5_fill_3 rfl (lv_at hl 0 rfl) ?_
    refine g_get (cx := r) K hS lF_X5_13 (hr.1 _) hr.2.2.1 rfl dX5_fill_4 ?_
    refine g_alen (cx := (r + 1)) (t0 := 0) (v := (Int32.ofNat L)) K hS (hr.2.1 _) hr.2.2.2 rfl rfl dX5_fill_7 ?_
    refine lv_icmp_ge (tgt := 24) hx hb dX5_fill_8 (by decide) (fun c1 => ?_) (fun c1 => ?_)
    · have hf := gIf_t c1 hf
      exact g_vret K hS hf dX5_fill_24
    · have hf := gIf_f c1 hf
      refine lv_aload_n hx hb dX5_fill_11 rfl (lv_at hl 0 rfl) ?_
      refine g_get (cx := r) K hS lF_X5_13 (hr.1 _) hr.2.2.1 rfl dX5_fill_12 ?_
      refine lv_iload_n hx hb dX5_fill_15 rfl (lv_at hl 2 rfl) ?_
      refine lv_iload_n hx hb dX5_fill_16 rfl (lv_at hl 1 rfl) ?_
      obtain ⟨h3, hf⟩ := gGd_some hf
      obtain ⟨s2, hs2, hf⟩ := gLet_some hf
      refine g_iast (cx := (r + 1)) K hS hr.2.1 hr.2.2.2 h3 rfl dX5_fill_17 (fun H locs hS => ?_)
      rw [← hs2] at hS
      refine lv_iinc (v := (v2 + 1)) (lv' := [(2, .int (v2 + 1)), (0, .ref (o + r)), (1, .int w1)]) hx hb dX5_fill_18 hl (k := 2) rfl rfl (by decide) rfl (fun ls hl => ?_)
      refine lv_goto (tgt := 2) hx hb dX5_fill_21 (by decide) ?_
      exact ih (v2 + 1) s2 hf _ _ _ hS (lv_sub hl [1, 2, 0] rfl)
set_option maxHeartbeats 4000000 in
set_option maxRecDepth 100000 in
theorem c_X5_fill (r L : Nat) (hr : gRow G o r L) (p0 : Int32) (σ : gS) (q : gS) (hf : f_X5_fill r L p0 σ = some q) : Met l yX5_fill (gW yX5_fill cX5_fill 3 none) rmX5_fill (gPc G (entX G o) o 302 [.ref (o + r), .int p0] σ) (gQv G (entX G o) o 302 q) 0 0 (gA o 302) := by
  refine g_met (by decide) ⟨rfl, rfl⟩ (fun p e s m args below meth c ls K hS hl => ?_) (Nat.le_of_ble_eq_true rfl)
  have K : gK p s m args meth c G cX5_fill 3 RX5 none := K
  have hl : lv_has ls 3 [(0, .ref (o + r)), (1, .int p0)] := hl
  obtain ⟨hx, hb, hml, hown, hts, -⟩ := id K
  unfold f_X5_fill at hf
  refine lv_iconst (v := 0) hx hb dX5_fill_0 (by decide) ?_
  refine lv_istore_n (lv' := [(2, .int 0), (0, .ref (o + r)), (1, .int p0)]) hx hb dX5_fill_1 rfl hl (by decide) rfl (fun ls hl => ?_)
  refine w_X5_fill_L2 r L hr p0 K gFu 0 σ hf _ _ _ hS (lv_sub hl [1, 2, 0] rfl)
abbrev rmX0_letPass : Room := { frames := 2, cells := 0, slots := 0, locals := 44 }
def f_X0_letPass (p0 : Int32) (σ : gS) : Option (Int32 × gS) := Option.bind (f_X0_minutesBetweenBells σ) (fun q1 => gGd (gne q1.1) (Option.bind (f_X0_minutesBetweenBells q1.2) (fun q3 => gGd (gne q3.1) (gLet ((((σ 1 0) + p0) / q1.1) - ((q1.2 1 0) / q3.1)) (fun x5 => gLet (up2 q3.2 1 0 ((q3.2 1 0) + p0)) (fun s6 => gLet (up2 s6 1 1 ((s6 1 1) + x5)) (fun s8 => Option.bind (f_X7_tire p0 s8) (fun q10 => if x5 ≤ 0 then (some (x5, q10)) else (Option.bind (f_X5_fill 20 4 0 q10) (fun q12 => some (x5, q12)))))))))))
set_option maxHeartbeats 4000000 in
set_option maxRecDepth 100000 in
theorem c_X0_letPass (p0 : Int32) (σ : gS) (q : Int32 × gS) (hf : f_X0_letPass p0 σ = some q) : Met l yX0_letPass (gW yX0_letPass cX0_letPass 3 (some .int)) rmX0_letPass (gPc G (entX G o) o 302 [.ref (o + 1), .int p0] σ) (gQi G (entX G o) o 302 q) 0 0 (gA o 302) := by
  refine g_met (by decide) ⟨rfl, rfl⟩ (fun p e s m args below meth c ls K hS hl => ?_) (Nat.le_of_ble_eq_true rfl)
  have K : gK p s m args meth c G cX0_letPass 3 RX0 (some .int) := K
  have hl : lv_has ls 3 [(0, .ref (o + 1)), (1, .int p0)] := hl
  obtain ⟨hx, hb, hml, hown, hts, -⟩ := id K
  unfold f_X0_letPass at hf
  refine lv_aload_n hx hb dX0_letPass_0 rfl (lv_at hl 0 rfl) ?_
  refine g_get (cx := 1) K hS lF_X0_45 ((eX_1 G o) _) (by decide) rfl dX0_letPass_1 ?_
  refine lv_iload_n hx hb dX0_letPass_4 rfl (lv_at hl 1 rfl) ?_
  refine lv_iadd hx hb dX0_letPass_5 ?_
  refine lv_aload_n hx hb dX0_letPass_6 rfl (lv_at hl 0 rfl) ?_
  obtain ⟨q1, hq1, hf⟩ := Option.bind_eq_some_iff.mp hf
  refine g_Vi (cx := 1) (As := []) K hS lV_X0_75 (c_X0_minutesBetweenBells σ q1 hq1) ((eX_1 G o) _) (by decide) rfl rfl rfl (Nat.le_of_ble_eq_true rfl) ⟨⟨Nat.le_of_ble_eq_true rfl, Nat.le_of_ble_eq_true rfl⟩, rfl, rfl⟩ hl.1 ⟨Nat.zero_le _, Nat.zero_le _⟩ dX0_letPass_7 (fun H locs hS => ?_)
  obtain ⟨h2, hf⟩ := gGd_some hf
  refine lv_idiv hx hb dX0_letPass_10 (gne_ne h2) ?_
  refine lv_aload_n hx hb dX0_letPass_11 rfl (lv_at hl 0 rfl) ?_
  refine g_get (cx := 1) K hS lF_X0_45 ((eX_1 G o) _) (by decide) rfl dX0_letPass_12 ?_
  refine lv_aload_n hx hb dX0_letPass_15 rfl (lv_at hl 0 rfl) ?_
  obtain ⟨q3, hq3, hf⟩ := Option.bind_eq_some_iff.mp hf
  refine g_Vi (cx := 1) (As := []) K hS lV_X0_75 (c_X0_minutesBetweenBells q1.2 q3 hq3) ((eX_1 G o) _) (by decide) rfl rfl rfl (Nat.le_of_ble_eq_true rfl) ⟨⟨Nat.le_of_ble_eq_true rfl, Nat.le_of_ble_eq_true rfl⟩, rfl, rfl⟩ hl.1 ⟨Nat.zero_le _, Nat.zero_le _⟩ dX0_letPass_16 (fun H locs hS => ?_)
  obtain ⟨h4, hf⟩ := gGd_some hf
  refine lv_idiv hx hb dX0_letPass_19 (gne_ne h4) ?_
  refine lv_isub hx hb dX0_letPass_20 ?_
  obtain ⟨x5, hx5, hf⟩ := gLet_some hf
  refine g_top hx5 ?_
  refine lv_istore_n (lv' := [(2, .int x5), (0, .ref (o + 1)), (1, .int p0)]) hx hb dX0_letPass_21 rfl hl (by decide) rfl (fun ls hl => ?_)
  refine lv_aload_n hx hb dX0_letPass_22 rfl (lv_at hl 1 rfl) ?_
  refine lv_dup hx hb dX0_letPass_23 rfl ?_
  refine g_get (cx := 1) K hS lF_X0_45 ((eX_1 G o) _) (by decide) rfl dX0_letPass_24 ?_
  refine lv_iload_n hx hb dX0_letPass_27 rfl (lv_at hl 2 rfl) ?_
  refine lv_iadd hx hb dX0_letPass_28 ?_
  obtain ⟨s6, hs6, hf⟩ := gLet_some hf
  refine g_put (cx := 1) K hS lP_X0_45 (eX_1 G o) (by decide) rfl (Nat.le_of_ble_eq_true rfl) rfl rfl dX0_letPass_29 (fun H locs hS => ?_)
  rw [← hs6] at hS
  refine lv_aload_n hx hb dX0_letPass_32 rfl (lv_at hl 1 rfl) ?_
  refine lv_dup hx hb dX0_letPass_33 rfl ?_
  refine g_get (cx := 1) K hS lF_X0_49 ((eX_1 G o) _) (by decide) rfl dX0_letPass_34 ?_
  refine lv_iload_n hx hb dX0_letPass_37 rfl (lv_at hl 0 rfl) ?_
  refine lv_iadd hx hb dX0_letPass_38 ?_
  obtain ⟨s8, hs8, hf⟩ := gLet_some hf
  refine g_put (cx := 1) K hS lP_X0_49 (eX_1 G o) (by decide) rfl (Nat.le_of_ble_eq_true rfl) rfl rfl dX0_letPass_39 (fun H locs hS => ?_)
  rw [← hs8] at hS
  refine lv_aload_n hx hb dX0_letPass_42 rfl (lv_at hl 1 rfl) ?_
  refine g_get (cx := 1) K hS lF_X0_37 ((eX_1 G o) _) (by decide) rfl dX0_letPass_43 ?_
  refine lv_iload_n hx hb dX0_letPass_46 rfl (lv_at hl 2 rfl) ?_
  obtain ⟨q10, hq10, hf⟩ := Option.bind_eq_some_iff.mp hf
  refine g_Vv (cx := 24) (As := [.int p0]) K hS lV_X0_126 (c_X7_tire p0 s8 q10 hq10) ((eX_24 G o) _) (by decide) rfl rfl rfl (Nat.le_of_ble_eq_true rfl) ⟨⟨Nat.le_of_ble_eq_true rfl, Nat.le_of_ble_eq_true rfl⟩, rfl, rfl⟩ hl.1 ⟨Nat.zero_le _, Nat.zero_le _⟩ dX0_letPass_47 (fun H locs hS => ?_)
  refine lv_iload_n hx hb dX0_letPass_50 rfl (lv_at hl 0 rfl) ?_
  refine lv_if_le (tgt := 65) hx hb dX0_letPass_51 (by decide) (fun c11 => ?_) (fun c11 => ?_)
  · have hf := gIf_t c11 hf
    refine lv_iload_n hx hb dX0_letPass_65 rfl (lv_at hl 0 rfl) ?_
    exact g_iret K hS hf dX0_letPass_66
  · have hf := gIf_f c11 hf
    refine lv_aload_n hx hb dX0_letPass_54 rfl (lv_at hl 1 rfl) ?_
    refine g_get (cx := 1) K hS lF_X0_30 ((eX_1 G o) _) (by decide) rfl dX0_letPass_55 ?_
    refine g_get (cx := 17) K hS lF_X0_82 ((eX_17 G o) _) (by decide) rfl dX0_letPass_58 ?_
    refine lv_iconst (v := 0) hx hb dX0_letPass_61 (by decide) ?_
    obtain ⟨q12, hq12, hf⟩ := Option.bind_eq_some_iff.mp hf
    refine g_Vv (cx := 20) (As := [.int 0]) K hS lV_X0_129 (c_X5_fill 20 4 (gRow_20 G o) 0 q10 q12 hq12) ((eX_20 G o) _) (by decide) rfl rfl rfl (Nat.le_of_ble_eq_true rfl) ⟨⟨Nat.le_of_ble_eq_true rfl, Nat.le_of_ble_eq_true rfl⟩, rfl, rfl⟩ hl.1 ⟨Nat.zero_le _, Nat.zero_le _⟩ dX0_letPass_62 (fun H locs hS => ?_)
    refine lv_iload_n hx hb dX0_letPass_65 rfl (lv_at hl 0 rfl) ?_
    exact g_iret K hS hf dX0_letPass_66
abbrev rmX1_beyond : Room := { frames := 1, cells := 0, slots := 0, locals := 21 }
def f_X1_beyond (p0 : Int32) (p1 : Int32) (σ : gS) : Option (Int32 × gS) := Option.bind (f_X5_at 5 20 p0 σ) (fun q1 => if q1.1 = p1 then (Option.bind (f_X5_at 7 20 p0 q1.2) (fun q4 => some (q4.1, q4.2))) else (Option.bind (f_X5_at 5 20 p0 q1.2) (fun q3 => some (q3.1, q3.2))))
set_option maxHeartbeats 4000000 in
set_option maxRecDepth 100000 in
theorem c_X1_beyond (p0 : Int32) (p1 : Int32) (σ : gS) (q : Int32 × gS) (hf : f_X1_beyond p0 p1 σ = some q) : Met l yX1_beyond (gW yX1_beyond cX1_beyond 3 (some .int)) rmX1_beyond (gPc G (entX G o) o 302 [.ref (o + 4), .int p0, .int p1] σ) (gQi G (entX G o) o 302 q) 0 0 (gA o 302) := by
  refine g_met (by decide) ⟨rfl, rfl⟩ (fun p e s m args below meth c ls K hS hl => ?_) (Nat.le_of_ble_eq_true rfl)
  have K : gK p s m args meth c G cX1_beyond 3 RX1 (some .int) := K
  have hl : lv_has ls 3 [(0, .ref (o + 4)), (1, .int p0), (2, .int p1)] := hl
  obtain ⟨hx, hb, hml, hown, hts, -⟩ := id K
  unfold f_X1_beyond at hf
  refine lv_aload_n hx hb dX1_beyond_0 rfl (lv_at hl 0 rfl) ?_
  refine g_get (cx := 4) K hS lF_X1_14 ((eX_4 G o) _) (by decide) rfl dX1_beyond_1 ?_
  refine lv_iload_n hx hb dX1_beyond_4 rfl (lv_at hl 1 rfl) ?_
  obtain ⟨q1, hq1, hf⟩ := Option.bind_eq_some_iff.mp hf
  refine g_Vi (cx := 5) (As := [.int p0]) K hS lV_X1_67 (c_X5_at 5 20 (gRow_5 G o) p0 σ q1 hq1) ((eX_5 G o) _) (by decide) rfl rfl rfl (Nat.le_of_ble_eq_true rfl) ⟨⟨Nat.le_of_ble_eq_true rfl, Nat.le_of_ble_eq_true rfl⟩, rfl, rfl⟩ hl.1 ⟨Nat.zero_le _, Nat.zero_le _⟩ dX1_beyond_5 (fun H locs hS => ?_)
  refine lv_iload_n hx hb dX1_beyond_8 rfl (lv_at hl 2 rfl) ?_
  refine lv_icmp_ne (tgt := 23) hx hb dX1_beyond_9 (by decide) (fun c2 => ?_) (fun c2 => ?_)
  · have hf := gIf_f c2 hf
    refine lv_aload_n hx hb dX1_beyond_23 rfl (lv_at hl 0 rfl) ?_
    refine g_get (cx := 4) K hS lF_X1_14 ((eX_4 G o) _) (by decide) rfl dX1_beyond_24 ?_
    refine lv_iload_n hx hb dX1_beyond_27 rfl (lv_at hl 1 rfl) ?_
    obtain ⟨q3, hq3, hf⟩ := Option.bind_eq_some_iff.mp hf
    refine g_Vi (cx := 5) (As := [.int p0]) K hS lV_X1_67 (c_X5_at 5 20 (gRow_5 G o) p0 q1.2 q3 hq3) ((eX_5 G o) _) (by decide) rfl rfl rfl (Nat.le_of_ble_eq_true rfl) ⟨⟨Nat.le_of_ble_eq_true rfl, Nat.le_of_ble_eq_true rfl⟩, rfl, rfl⟩ hl.1 ⟨Nat.zero_le _, Nat.zero_le _⟩ dX1_beyond_28 (fun H locs hS => ?_)
    exact g_iret K hS hf dX1_beyond_31
  · have hf := gIf_t c2 hf
    refine lv_aload_n hx hb dX1_beyond_12 rfl (lv_at hl 0 rfl) ?_
    refine g_get (cx := 4) K hS lF_X1_20 ((eX_4 G o) _) (by decide) rfl dX1_beyond_13 ?_
    refine lv_iload_n hx hb dX1_beyond_16 rfl (lv_at hl 1 rfl) ?_
    obtain ⟨q4, hq4, hf⟩ := Option.bind_eq_some_iff.mp hf
    refine g_Vi (cx := 7) (As := [.int p0]) K hS lV_X1_67 (c_X5_at 7 20 (gRow_7 G o) p0 q1.2 q4 hq4) ((eX_7 G o) _) (by decide) rfl rfl rfl (Nat.le_of_ble_eq_true rfl) ⟨⟨Nat.le_of_ble_eq_true rfl, Nat.le_of_ble_eq_true rfl⟩, rfl, rfl⟩ hl.1 ⟨Nat.zero_le _, Nat.zero_le _⟩ dX1_beyond_17 (fun H locs hS => ?_)
    refine lv_goto (tgt := 31) hx hb dX1_beyond_20 (by decide) ?_
    exact g_iret K hS hf dX1_beyond_31
abbrev rmX2_cross : Room := { frames := 2, cells := 0, slots := 0, locals := 43 }
def f_X2_cross (p0 : Int32) (p1 : Int32) (p2 : Int32) (σ : gS) : Option (gS) := Option.bind (f_X5_store 18 4 p0 p2 σ) (fun q1 => Option.bind (f_X5_at 20 4 p0 q1) (fun q2 => Option.bind (f_X5_store 20 4 p0 (q2.1 ||| (1 <<< (p1 &&& 31))) q2.2) (fun q3 => Option.bind (f_X5_increase 22 4 p0 q3) (fun q4 => some q4))))
set_option maxHeartbeats 4000000 in
set_option maxRecDepth 100000 in
theorem c_X2_cross (p0 : Int32) (p1 : Int32) (p2 : Int32) (σ : gS) (q : gS) (hf : f_X2_cross p0 p1 p2 σ = some q) : Met l yX2_cross (gW yX2_cross cX2_cross 4 none) rmX2_cross (gPc G (entX G o) o 302 [.ref (o + 17), .int p0, .int p1, .int p2] σ) (gQv G (entX G o) o 302 q) 0 0 (gA o 302) := by
  refine g_met (by decide) ⟨rfl, rfl⟩ (fun p e s m args below meth c ls K hS hl => ?_) (Nat.le_of_ble_eq_true rfl)
  have K : gK p s m args meth c G cX2_cross 4 RX2 none := K
  have hl : lv_has ls 4 [(0, .ref (o + 17)), (1, .int p0), (2, .int p1), (3, .int p2)] := hl
  obtain ⟨hx, hb, hml, hown, hts, -⟩ := id K
  unfold f_X2_cross at hf
  refine lv_aload_n hx hb dX2_cross_0 rfl (lv_at hl 0 rfl) ?_
  refine g_get (cx := 17) K hS lF_X2_14 ((eX_17 G o) _) (by decide) rfl dX2_cross_1 ?_
  refine lv_iload_n hx hb dX2_cross_4 rfl (lv_at hl 1 rfl) ?_
  refine lv_iload_n hx hb dX2_cross_5 rfl (lv_at hl 3 rfl) ?_
  obtain ⟨q1, hq1, hf⟩ := Option.bind_eq_some_iff.mp hf
  refine g_Vv (cx := 18) (As := [.int p0, .int p2]) K hS lV_X2_38 (c_X5_store 18 4 (gRow_18 G o) p0 p2 σ q1 hq1) ((eX_18 G o) _) (by decide) rfl rfl rfl (Nat.le_of_ble_eq_true rfl) ⟨⟨Nat.le_of_ble_eq_true rfl, Nat.le_of_ble_eq_true rfl⟩, rfl, rfl⟩ hl.1 ⟨Nat.zero_le _, Nat.zero_le _⟩ dX2_cross_6 (fun H locs hS => ?_)
  refine lv_aload_n hx hb dX2_cross_9 rfl (lv_at hl 0 rfl) ?_
  refine g_get (cx := 17) K hS lF_X2_20 ((eX_17 G o) _) (by decide) rfl dX2_cross_10 ?_
  refine lv_iload_n hx hb dX2_cross_13 rfl (lv_at hl 1 rfl) ?_
  refine lv_aload_n hx hb dX2_cross_14 rfl (lv_at hl 0 rfl) ?_
  refine g_get (cx := 17) K hS lF_X2_20 ((eX_17 G o) _) (by decide) rfl dX2_cross_15 ?_
  refine lv_iload_n hx hb dX2_cross_18 rfl (lv_at hl 1 rfl) ?_
  obtain ⟨q2, hq2, hf⟩ := Option.bind_eq_some_iff.mp hf
  refine g_Vi (cx := 20) (As := [.int p0]) K hS lV_X2_30 (c_X5_at 20 4 (gRow_20 G o) p0 q1 q2 hq2) ((eX_20 G o) _) (by decide) rfl rfl rfl (Nat.le_of_ble_eq_true rfl) ⟨⟨Nat.le_of_ble_eq_true rfl, Nat.le_of_ble_eq_true rfl⟩, rfl, rfl⟩ hl.1 ⟨Nat.zero_le _, Nat.zero_le _⟩ dX2_cross_19 (fun H locs hS => ?_)
  refine lv_iconst (v := 1) hx hb dX2_cross_22 (by decide) ?_
  refine lv_iload_n hx hb dX2_cross_23 rfl (lv_at hl 2 rfl) ?_
  refine lv_ishl hx hb dX2_cross_24 ?_
  refine lv_ior hx hb dX2_cross_25 ?_
  obtain ⟨q3, hq3, hf⟩ := Option.bind_eq_some_iff.mp hf
  refine g_Vv (cx := 20) (As := [.int p0, .int (q2.1 ||| (1 <<< (p1 &&& 31)))]) K hS lV_X2_38 (c_X5_store 20 4 (gRow_20 G o) p0 (q2.1 ||| (1 <<< (p1 &&& 31))) q2.2 q3 hq3) ((eX_20 G o) _) (by decide) rfl rfl rfl (Nat.le_of_ble_eq_true rfl) ⟨⟨Nat.le_of_ble_eq_true rfl, Nat.le_of_ble_eq_true rfl⟩, rfl, rfl⟩ hl.1 ⟨Nat.zero_le _, Nat.zero_le _⟩ dX2_cross_26 (fun H locs hS => ?_)
  refine lv_aload_n hx hb dX2_cross_29 rfl (lv_at hl 0 rfl) ?_
  refine g_get (cx := 17) K hS lF_X2_23 ((eX_17 G o) _) (by decide) rfl dX2_cross_30 ?_
  refine lv_iload_n hx hb dX2_cross_33 rfl (lv_at hl 1 rfl) ?_
  obtain ⟨q4, hq4, hf⟩ := Option.bind_eq_some_iff.mp hf
  refine g_Vv (cx := 22) (As := [.int p0]) K hS lV_X2_42 (c_X5_increase 22 4 (gRow_22 G o) p0 q3 q4 hq4) ((eX_22 G o) _) (by decide) rfl rfl rfl (Nat.le_of_ble_eq_true rfl) ⟨⟨Nat.le_of_ble_eq_true rfl, Nat.le_of_ble_eq_true rfl⟩, rfl, rfl⟩ hl.1 ⟨Nat.zero_le _, Nat.zero_le _⟩ dX2_cross_34 (fun H locs hS => ?_)
  exact g_vret K hS hf dX2_cross_37
abbrev rmX0_letGlide : Room := { frames := 5, cells := 0, slots := 0, locals := 117 }
def f_X0_letGlide (p0 : Int32) (p1 : Int32) (σ : gS) : Option (Int32 × gS) := Option.bind (f_X0_letCreak p1 σ) (fun q1 => Option.bind (f_X5_at 13 20 p1 q1.2) (fun q2 => Option.bind (f_X0_letPass q2.1 q2.2) (fun q3 => Option.bind (f_X5_at 18 4 p0 q3.2) (fun q4 => Option.bind (f_X1_beyond p1 q4.1 q4.2) (fun q5 => Option.bind (f_X2_cross p0 p1 q5.1 q5.2) (fun q6 => some (q1.1, q6)))))))
set_option maxHeartbeats 4000000 in
set_option maxRecDepth 100000 in
theorem c_X0_letGlide (p0 : Int32) (p1 : Int32) (σ : gS) (q : Int32 × gS) (hf : f_X0_letGlide p0 p1 σ = some q) : Met l yX0_letGlide (gW yX0_letGlide cX0_letGlide 4 (some .int)) rmX0_letGlide (gPc G (entX G o) o 302 [.ref (o + 1), .int p0, .int p1] σ) (gQi G (entX G o) o 302 q) 0 0 (gA o 302) := by
  refine g_met (by decide) ⟨rfl, rfl⟩ (fun p e s m args below meth c ls K hS hl => ?_) (Nat.le_of_ble_eq_true rfl)
  have K : gK p s m args meth c G cX0_letGlide 4 RX0 (some .int) := K
  have hl : lv_has ls 4 [(0, .ref (o + 1)), (1, .int p0), (2, .int p1)] := hl
  obtain ⟨hx, hb, hml, hown, hts, -⟩ := id K
  unfold f_X0_letGlide at hf
  refine lv_aload_n hx hb dX0_letGlide_0 rfl (lv_at hl 0 rfl) ?_
  refine lv_iload_n hx hb dX0_letGlide_1 rfl (lv_at hl 2 rfl) ?_
  obtain ⟨q1, hq1, hf⟩ := Option.bind_eq_some_iff.mp hf
  refine g_Vi (cx := 1) (As := [.int p1]) K hS lV_X0_132 (c_X0_letCreak p1 σ q1 hq1) ((eX_1 G o) _) (by decide) rfl rfl rfl (Nat.le_of_ble_eq_true rfl) ⟨⟨Nat.le_of_ble_eq_true rfl, Nat.le_of_ble_eq_true rfl⟩, rfl, rfl⟩ hl.1 ⟨Nat.zero_le _, Nat.zero_le _⟩ dX0_letGlide_2 (fun H locs hS => ?_)
  refine lv_istore_n (lv' := [(3, .int q1.1), (0, .ref (o + 1)), (1, .int p0), (2, .int p1)]) hx hb dX0_letGlide_5 rfl hl (by decide) rfl (fun ls hl => ?_)
  refine lv_aload_n hx hb dX0_letGlide_6 rfl (lv_at hl 1 rfl) ?_
  refine lv_aload_n hx hb dX0_letGlide_7 rfl (lv_at hl 1 rfl) ?_
  refine g_get (cx := 1) K hS lF_X0_23 ((eX_1 G o) _) (by decide) rfl dX0_letGlide_8 ?_
  refine g_get (cx := 4) K hS lF_X0_135 ((eX_4 G o) _) (by decide) rfl dX0_letGlide_11 ?_
  refine lv_iload_n hx hb dX0_letGlide_14 rfl (lv_at hl 3 rfl) ?_
  obtain ⟨q2, hq2, hf⟩ := Option.bind_eq_some_iff.mp hf
  refine g_Vi (cx := 13) (As := [.int p1]) K hS lV_X0_65 (c_X5_at 13 20 (gRow_13 G o) p1 q1.2 q2 hq2) ((eX_13 G o) _) (by decide) rfl rfl rfl (Nat.le_of_ble_eq_true rfl) ⟨⟨Nat.le_of_ble_eq_true rfl, Nat.le_of_ble_eq_true rfl⟩, rfl, rfl⟩ hl.1 ⟨Nat.zero_le _, Nat.zero_le _⟩ dX0_letGlide_15 (fun H locs hS => ?_)
  obtain ⟨q3, hq3, hf⟩ := Option.bind_eq_some_iff.mp hf
  refine g_Vi (cx := 1) (As := [.int q2.1]) K hS lV_X0_137 (c_X0_letPass q2.1 q2.2 q3 hq3) ((eX_1 G o) _) (by decide) rfl rfl rfl (Nat.le_of_ble_eq_true rfl) ⟨⟨Nat.le_of_ble_eq_true rfl, Nat.le_of_ble_eq_true rfl⟩, rfl, rfl⟩ hl.1 ⟨Nat.zero_le _, Nat.zero_le _⟩ dX0_letGlide_18 (fun H locs hS => ?_)
  refine lv_pop hx hb dX0_letGlide_21 rfl ?_
  refine lv_aload_n hx hb dX0_letGlide_22 rfl (lv_at hl 1 rfl) ?_
  refine g_get (cx := 1) K hS lF_X0_30 ((eX_1 G o) _) (by decide) rfl dX0_letGlide_23 ?_
  refine lv_iload_n hx hb dX0_letGlide_26 rfl (lv_at hl 2 rfl) ?_
  refine lv_iload_n hx hb dX0_letGlide_27 rfl (lv_at hl 3 rfl) ?_
  refine lv_aload_n hx hb dX0_letGlide_28 rfl (lv_at hl 1 rfl) ?_
  refine g_get (cx := 1) K hS lF_X0_23 ((eX_1 G o) _) (by decide) rfl dX0_letGlide_29 ?_
  refine lv_iload_n hx hb dX0_letGlide_32 rfl (lv_at hl 3 rfl) ?_
  refine lv_aload_n hx hb dX0_letGlide_33 rfl (lv_at hl 1 rfl) ?_
  refine g_get (cx := 1) K hS lF_X0_30 ((eX_1 G o) _) (by decide) rfl dX0_letGlide_34 ?_
  refine g_get (cx := 17) K hS lF_X0_97 ((eX_17 G o) _) (by decide) rfl dX0_letGlide_37 ?_
  refine lv_iload_n hx hb dX0_letGlide_40 rfl (lv_at hl 2 rfl) ?_
  obtain ⟨q4, hq4, hf⟩ := Option.bind_eq_some_iff.mp hf
  refine g_Vi (cx := 18) (As := [.int p0]) K hS lV_X0_65 (c_X5_at 18 4 (gRow_18 G o) p0 q3.2 q4 hq4) ((eX_18 G o) _) (by decide) rfl rfl rfl (Nat.le_of_ble_eq_true rfl) ⟨⟨Nat.le_of_ble_eq_true rfl, Nat.le_of_ble_eq_true rfl⟩, rfl, rfl⟩ hl.1 ⟨Nat.zero_le _, Nat.zero_le _⟩ dX0_letGlide_41 (fun H locs hS => ?_)
  obtain ⟨q5, hq5, hf⟩ := Option.bind_eq_some_iff.mp hf
  refine g_Vi (cx := 4) (As := [.int p1, .int q4.1]) K hS lV_X0_140 (c_X1_beyond p1 q4.1 q4.2 q5 hq5) ((eX_4 G o) _) (by decide) rfl rfl rfl (Nat.le_of_ble_eq_true rfl) ⟨⟨Nat.le_of_ble_eq_true rfl, Nat.le_of_ble_eq_true rfl⟩, rfl, rfl⟩ hl.1 ⟨Nat.zero_le _, Nat.zero_le _⟩ dX0_letGlide_44 (fun H locs hS => ?_)
  obtain ⟨q6, hq6, hf⟩ := Option.bind_eq_some_iff.mp hf
  refine g_Vv (cx := 17) (As := [.int p0, .int p1, .int q5.1]) K hS lV_X0_143 (c_X2_cross p0 p1 q5.1 q5.2 q6 hq6) ((eX_17 G o) _) (by decide) rfl rfl rfl (Nat.le_of_ble_eq_true rfl) ⟨⟨Nat.le_of_ble_eq_true rfl, Nat.le_of_ble_eq_true rfl⟩, rfl, rfl⟩ hl.1 ⟨Nat.zero_le _, Nat.zero_le _⟩ dX0_letGlide_47 (fun H locs hS => ?_)
  refine lv_iload_n hx hb dX0_letGlide_50 rfl (lv_at hl 0 rfl) ?_
  exact g_iret K hS hf dX0_letGlide_51
abbrev rmX10_isWithin : Room := { frames := 0, cells := 0, slots := 0, locals := 0 }
def f_X10_isWithin (p0 : Int32) (p1 : Int32) (p2 : Int32) (σ : gS) : Option (Int32 × gS) := if p0 < p1 then (some (0, σ)) else (if p2 < p0 then (some (0, σ)) else (some (1, σ)))
set_option maxHeartbeats 4000000 in
set_option maxRecDepth 100000 in
theorem c_X10_isWithin (p0 : Int32) (p1 : Int32) (p2 : Int32) (σ : gS) (q : Int32 × gS) (hf : f_X10_isWithin p0 p1 p2 σ = some q) : Met l yX10_isWithin (gW yX10_isWithin cX10_isWithin 3 (some .boolean)) rmX10_isWithin (gPc G (entX G o) o 302 [.int p0, .int p1, .int p2] σ) (gQi G (entX G o) o 302 q) 0 0 (gA o 302) := by
  refine g_met (by decide) ⟨rfl, rfl⟩ (fun p e s m args below meth c ls K hS hl => ?_) (Nat.le_of_ble_eq_true rfl)
  have K : gK p s m args meth c G cX10_isWithin 3 RX10 (some .boolean) := K
  have hl : lv_has ls 3 [(0, .int p0), (1, .int p1), (2, .int p2)] := hl
  obtain ⟨hx, hb, hml, hown, hts, -⟩ := id K
  unfold f_X10_isWithin at hf
  refine lv_iload_n hx hb dX10_isWithin_0 rfl (lv_at hl 0 rfl) ?_
  refine lv_iload_n hx hb dX10_isWithin_1 rfl (lv_at hl 1 rfl) ?_
  refine lv_icmp_lt (tgt := 14) hx hb dX10_isWithin_2 (by decide) (fun c1 => ?_) (fun c1 => ?_)
  · have hf := gIf_t c1 hf
    refine lv_iconst (v := 0) hx hb dX10_isWithin_14 (by decide) ?_
    exact g_zret K hS rfl hf dX10_isWithin_15
  · have hf := gIf_f c1 hf
    refine lv_iload_n hx hb dX10_isWithin_5 rfl (lv_at hl 0 rfl) ?_
    refine lv_iload_n hx hb dX10_isWithin_6 rfl (lv_at hl 2 rfl) ?_
    refine lv_icmp_gt (tgt := 14) hx hb dX10_isWithin_7 (by decide) (fun c2 => ?_) (fun c2 => ?_)
    · have hf := gIf_t c2 hf
      refine lv_iconst (v := 0) hx hb dX10_isWithin_14 (by decide) ?_
      exact g_zret K hS rfl hf dX10_isWithin_15
    · have hf := gIf_f c2 hf
      refine lv_iconst (v := 1) hx hb dX10_isWithin_10 (by decide) ?_
      refine lv_goto (tgt := 15) hx hb dX10_isWithin_11 (by decide) ?_
      exact g_zret K hS rfl hf dX10_isWithin_15
abbrev rmX1_has : Room := { frames := 1, cells := 0, slots := 0, locals := 22 }
def f_X1_has (p0 : Int32) (σ : gS) : Option (Int32 × gS) := Option.bind (f_X10_isWithin p0 0 ((σ 4 0) - 1) σ) (fun q1 => gGd (gbo q1.1) (some (q1.1, q1.2)))
set_option maxHeartbeats 4000000 in
set_option maxRecDepth 100000 in
theorem c_X1_has (p0 : Int32) (σ : gS) (q : Int32 × gS) (hf : f_X1_has p0 σ = some q) : Met l yX1_has (gW yX1_has cX1_has 2 (some .boolean)) rmX1_has (gPc G (entX G o) o 302 [.ref (o + 4), .int p0] σ) (gQi G (entX G o) o 302 q) 0 0 (gA o 302) := by
  refine g_met (by decide) ⟨rfl, rfl⟩ (fun p e s m args below meth c ls K hS hl => ?_) (Nat.le_of_ble_eq_true rfl)
  have K : gK p s m args meth c G cX1_has 2 RX1 (some .boolean) := K
  have hl : lv_has ls 2 [(0, .ref (o + 4)), (1, .int p0)] := hl
  obtain ⟨hx, hb, hml, hown, hts, -⟩ := id K
  unfold f_X1_has at hf
  refine lv_iload_n hx hb dX1_has_0 rfl (lv_at hl 1 rfl) ?_
  refine lv_iconst (v := 0) hx hb dX1_has_1 (by decide) ?_
  refine lv_aload_n hx hb dX1_has_2 rfl (lv_at hl 0 rfl) ?_
  refine g_get (cx := 4) K hS lF_X1_35 ((eX_4 G o) _) (by decide) rfl dX1_has_3 ?_
  refine lv_iconst (v := 1) hx hb dX1_has_6 (by decide) ?_
  refine lv_isub hx hb dX1_has_7 ?_
  obtain ⟨q1, hq1, hf⟩ := Option.bind_eq_some_iff.mp hf
  refine g_Ni (As := [.int p0, .int 0, .int ((σ 4 0) - 1)]) K hS lN_X1_43 (c_X10_isWithin p0 0 ((σ 4 0) - 1) σ q1 hq1) rfl rfl (Nat.le_of_ble_eq_true rfl) ⟨⟨Nat.le_of_ble_eq_true rfl, Nat.le_of_ble_eq_true rfl⟩, rfl, rfl⟩ hl.1 ⟨Nat.zero_le _, Nat.zero_le _⟩ dX1_has_8 (fun H locs hS => ?_)
  obtain ⟨h2, hf⟩ := gGd_some hf
  exact g_zret K hS (gbo_nar h2) hf dX1_has_11
abbrev rmX1_append : Room := { frames := 1, cells := 0, slots := 0, locals := 22 }
def f_X1_append (p0 : Int32) (p1 : Int32) (p2 : Int32) (p3 : Int32) (σ : gS) : Option (gS) := if (σ 4 0) < 20 then (Option.bind (f_X5_store 5 20 (σ 4 0) (if p1 < p0 then p1 else p0) σ) (fun q2 => Option.bind (f_X5_store 7 20 (q2 4 0) (if p0 < p1 then p1 else p0) q2) (fun q3 => Option.bind (f_X5_store 9 20 (q3 4 0) ((1 <<< (p0 &&& 31)) ||| (1 <<< (p1 &&& 31))) q3) (fun q4 => Option.bind (f_X5_store 11 20 (q4 4 0) p2 q4) (fun q5 => Option.bind (f_X5_store 13 20 (q5 4 0) p3 q5) (fun q6 => Option.bind (f_X5_store 15 20 (q6 4 0) 0 q6) (fun q7 => gLet (up2 q7 4 0 ((q7 4 0) + 1)) (fun s8 => some s8)))))))) else (some σ)
set_option maxHeartbeats 4000000 in
set_option maxRecDepth 100000 in
theorem c_X1_append (p0 : Int32) (p1 : Int32) (p2 : Int32) (p3 : Int32) (σ : gS) (q : gS) (hf : f_X1_append p0 p1 p2 p3 σ = some q) : Met l yX1_append (gW yX1_append cX1_append 5 none) rmX1_append (gPc G (entX G o) o 302 [.ref (o + 4), .int p0, .int p1, .int p2, .int p3] σ) (gQv G (entX G o) o 302 q) 0 0 (gA o 302) := by
  refine g_met (by decide) ⟨rfl, rfl⟩ (fun p e s m args below meth c ls K hS hl => ?_) (Nat.le_of_ble_eq_true rfl)
  have K : gK p s m args meth c G cX1_append 5 RX1 none := K
  have hl : lv_has ls 5 [(0, .ref (o + 4)), (1, .int p0), (2, .int p1), (3, .int p2), (4, .int p3)] := hl
  obtain ⟨hx, hb, hml, hown, hts, -⟩ := id K
  unfold f_X1_append at hf
  refine lv_aload_n hx hb dX1_append_0 rfl (lv_at hl 0 rfl) ?_
  refine g_get (cx := 4) K hS lF_X1_35 ((eX_4 G o) _) (by decide) rfl dX1_append_1 ?_
  refine lv_bipush (v := 20) hx hb dX1_append_4 (by decide) ?_
  refine lv_icmp_lt (tgt := 10) hx hb dX1_append_6 (by decide) (fun c1 => ?_) (fun c1 => ?_)
  · have hf := gIf_t c1 hf
    refine lv_aload_n hx hb dX1_append_10 rfl (lv_at hl 0 rfl) ?_
    refine g_get (cx := 4) K hS lF_X1_14 ((eX_4 G o) _) (by decide) rfl dX1_append_11 ?_
    refine lv_aload_n hx hb dX1_append_14 rfl (lv_at hl 0 rfl) ?_
    refine g_get (cx := 4) K hS lF_X1_35 ((eX_4 G o) _) (by decide) rfl dX1_append_15 ?_
    refine lv_iload_n hx hb dX1_append_18 rfl (lv_at hl 1 rfl) ?_
    refine lv_iload_n hx hb dX1_append_19 rfl (lv_at hl 2 rfl) ?_
    refine g_mmin K hl.1 (gmem 341 (by decide +kernel) rfl) q_static_min q_init_Math q_code_min (Nat.le_of_ble_eq_true rfl) (Nat.le_of_ble_eq_true rfl) (Nat.zero_le _) (Nat.zero_le _) dX1_append_20 ?_
    obtain ⟨q2, hq2, hf⟩ := Option.bind_eq_some_iff.mp hf
    refine g_Vv (cx := 5) (As := [.int (σ 4 0), .int (if p1 < p0 then p1 else p0)]) K hS lV_X1_53 (c_X5_store 5 20 (gRow_5 G o) (σ 4 0) (if p1 < p0 then p1 else p0) σ q2 hq2) ((eX_5 G o) _) (by decide) rfl rfl rfl (Nat.le_of_ble_eq_true rfl) ⟨⟨Nat.le_of_ble_eq_true rfl, Nat.le_of_ble_eq_true rfl⟩, rfl, rfl⟩ hl.1 ⟨Nat.zero_le _, Nat.zero_le _⟩ dX1_append_23 (fun H locs hS => ?_)
    refine lv_aload_n hx hb dX1_append_26 rfl (lv_at hl 0 rfl) ?_
    refine g_get (cx := 4) K hS lF_X1_20 ((eX_4 G o) _) (by decide) rfl dX1_append_27 ?_
    refine lv_aload_n hx hb dX1_append_30 rfl (lv_at hl 0 rfl) ?_
    refine g_get (cx := 4) K hS lF_X1_35 ((eX_4 G o) _) (by decide) rfl dX1_append_31 ?_
    refine lv_iload_n hx hb dX1_append_34 rfl (lv_at hl 1 rfl) ?_
    refine lv_iload_n hx hb dX1_append_35 rfl (lv_at hl 2 rfl) ?_
    refine g_mmax K hl.1 (gmem 343 (by decide +kernel) rfl) q_static_max q_init_Math q_code_max (Nat.le_of_ble_eq_true rfl) (Nat.le_of_ble_eq_true rfl) (Nat.zero_le _) (Nat.zero_le _) dX1_append_36 ?_
    obtain ⟨q3, hq3, hf⟩ := Option.bind_eq_some_iff.mp hf
    refine g_Vv (cx := 7) (As := [.int (q2 4 0), .int (if p0 < p1 then p1 else p0)]) K hS lV_X1_53 (c_X5_store 7 20 (gRow_7 G o) (q2 4 0) (if p0 < p1 then p1 else p0) q2 q3 hq3) ((eX_7 G o) _) (by decide) rfl rfl rfl (Nat.le_of_ble_eq_true rfl) ⟨⟨Nat.le_of_ble_eq_true rfl, Nat.le_of_ble_eq_true rfl⟩, rfl, rfl⟩ hl.1 ⟨Nat.zero_le _, Nat.zero_le _⟩ dX1_append_39 (fun H locs hS => ?_)
    refine lv_aload_n hx hb dX1_append_42 rfl (lv_at hl 0 rfl) ?_
    refine g_get (cx := 4) K hS lF_X1_23 ((eX_4 G o) _) (by decide) rfl dX1_append_43 ?_
    refine lv_aload_n hx hb dX1_append_46 rfl (lv_at hl 0 rfl) ?_
    refine g_get (cx := 4) K hS lF_X1_35 ((eX_4 G o) _) (by decide) rfl dX1_append_47 ?_
    refine lv_iconst (v := 1) hx hb dX1_append_50 (by decide) ?_
    refine lv_iload_n hx hb dX1_append_51 rfl (lv_at hl 1 rfl) ?_
    refine lv_ishl hx hb dX1_append_52 ?_
    refine lv_iconst (v := 1) hx hb dX1_append_53 (by decide) ?_
    refine lv_iload_n hx hb dX1_append_54 rfl (lv_at hl 2 rfl) ?_
    refine lv_ishl hx hb dX1_append_55 ?_
    refine lv_ior hx hb dX1_append_56 ?_
    obtain ⟨q4, hq4, hf⟩ := Option.bind_eq_some_iff.mp hf
    refine g_Vv (cx := 9) (As := [.int (q3 4 0), .int ((1 <<< (p0 &&& 31)) ||| (1 <<< (p1 &&& 31)))]) K hS lV_X1_53 (c_X5_store 9 20 (gRow_9 G o) (q3 4 0) ((1 <<< (p0 &&& 31)) ||| (1 <<< (p1 &&& 31))) q3 q4 hq4) ((eX_9 G o) _) (by decide) rfl rfl rfl (Nat.le_of_ble_eq_true rfl) ⟨⟨Nat.le_of_ble_eq_true rfl, Nat.le_of_ble_eq_true rfl⟩, rfl, rfl⟩ hl.1 ⟨Nat.zero_le _, Nat.zero_le _⟩ dX1_append_57 (fun H locs hS => ?_)
    refine lv_aload_n hx hb dX1_append_60 rfl (lv_at hl 0 rfl) ?_
    refine g_get (cx := 4) K hS lF_X1_26 ((eX_4 G o) _) (by decide) rfl dX1_append_61 ?_
    refine lv_aload_n hx hb dX1_append_64 rfl (lv_at hl 0 rfl) ?_
    refine g_get (cx := 4) K hS lF_X1_35 ((eX_4 G o) _) (by decide) rfl dX1_append_65 ?_
    refine lv_iload_n hx hb dX1_append_68 rfl (lv_at hl 3 rfl) ?_
    obtain ⟨q5, hq5, hf⟩ := Option.bind_eq_some_iff.mp hf
    refine g_Vv (cx := 11) (As := [.int (q4 4 0), .int p2]) K hS lV_X1_53 (c_X5_store 11 20 (gRow_11 G o) (q4 4 0) p2 q4 q5 hq5) ((eX_11 G o) _) (by decide) rfl rfl rfl (Nat.le_of_ble_eq_true rfl) ⟨⟨Nat.le_of_ble_eq_true rfl, Nat.le_of_ble_eq_true rfl⟩, rfl, rfl⟩ hl.1 ⟨Nat.zero_le _, Nat.zero_le _⟩ dX1_append_69 (fun H locs hS => ?_)
    refine lv_aload_n hx hb dX1_append_72 rfl (lv_at hl 0 rfl) ?_
    refine g_get (cx := 4) K hS lF_X1_29 ((eX_4 G o) _) (by decide) rfl dX1_append_73 ?_
    refine lv_aload_n hx hb dX1_append_76 rfl (lv_at hl 0 rfl) ?_
    refine g_get (cx := 4) K hS lF_X1_35 ((eX_4 G o) _) (by decide) rfl dX1_append_77 ?_
    refine lv_iload hx hb dX1_append_80 (lv_at hl 4 rfl) ?_
    obtain ⟨q6, hq6, hf⟩ := Option.bind_eq_some_iff.mp hf
    refine g_Vv (cx := 13) (As := [.int (q5 4 0), .int p3]) K hS lV_X1_53 (c_X5_store 13 20 (gRow_13 G o) (q5 4 0) p3 q5 q6 hq6) ((eX_13 G o) _) (by decide) rfl rfl rfl (Nat.le_of_ble_eq_true rfl) ⟨⟨Nat.le_of_ble_eq_true rfl, Nat.le_of_ble_eq_true rfl⟩, rfl, rfl⟩ hl.1 ⟨Nat.zero_le _, Nat.zero_le _⟩ dX1_append_82 (fun H locs hS => ?_)
    refine lv_aload_n hx hb dX1_append_85 rfl (lv_at hl 0 rfl) ?_
    refine g_get (cx := 4) K hS lF_X1_32 ((eX_4 G o) _) (by decide) rfl dX1_append_86 ?_
    refine lv_aload_n hx hb dX1_append_89 rfl (lv_at hl 0 rfl) ?_
    refine g_get (cx := 4) K hS lF_X1_35 ((eX_4 G o) _) (by decide) rfl dX1_append_90 ?_
    refine lv_iconst (v := 0) hx hb dX1_append_93 (by decide) ?_
    obtain ⟨q7, hq7, hf⟩ := Option.bind_eq_some_iff.mp hf
    refine g_Vv (cx := 15) (As := [.int (q6 4 0), .int 0]) K hS lV_X1_53 (c_X5_store 15 20 (gRow_15 G o) (q6 4 0) 0 q6 q7 hq7) ((eX_15 G o) _) (by decide) rfl rfl rfl (Nat.le_of_ble_eq_true rfl) ⟨⟨Nat.le_of_ble_eq_true rfl, Nat.le_of_ble_eq_true rfl⟩, rfl, rfl⟩ hl.1 ⟨Nat.zero_le _, Nat.zero_le _⟩ dX1_append_94 (fun H locs hS => ?_)
    refine lv_aload_n hx hb dX1_append_97 rfl (lv_at hl 0 rfl) ?_
    refine lv_dup hx hb dX1_append_98 rfl ?_
    refine g_get (cx := 4) K hS lF_X1_35 ((eX_4 G o) _) (by decide) rfl dX1_append_99 ?_
    refine lv_iconst (v := 1) hx hb dX1_append_102 (by decide) ?_
    refine lv_iadd hx hb dX1_append_103 ?_
    obtain ⟨s8, hs8, hf⟩ := gLet_some hf
    refine g_put (cx := 4) K hS lP_X1_35 (eX_4 G o) (by decide) rfl (Nat.le_of_ble_eq_true rfl) rfl rfl dX1_append_104 (fun H locs hS => ?_)
    rw [← hs8] at hS
    exact g_vret K hS hf dX1_append_107
  · have hf := gIf_f c1 hf
    exact g_vret K hS hf dX1_append_9
abbrev rmX5_moveUpBehind : Room := { frames := 1, cells := 0, slots := 0, locals := 21 }
def f_X5_moveUpBehind_L6 (r L : Nat) : Nat → Int32 → gS → Option (gS)
  | 0, _, _ => none
  | n + 1, v2, σ => if ((Int32.ofNat L) - 1) ≤ v2 then (some σ) else (gGd (gin (v2 + 1) L) (gGd (gin v2 L) (gLet (up2 σ (r + 1) (gil v2) (σ (r + 1) (gil (v2 + 1)))) (fun s4 => f_X5_moveUpBehind_L6 r L n (v2 + 1) s4))))
theorem f_X5_moveUpBehind_L6_s (r L : Nat) (n : Nat) (v2 : Int32) (σ : gS) : f_X5_moveUpBehind_L6 r L (n + 1) v2 σ = (if ((Int32.ofNat L) - 1) ≤ v2 then (some σ) else (gGd (gin (v2 + 1) L) (gGd (gin v2 L) (gLet (up2 σ (r + 1) (gil v2) (σ (r + 1) (gil (v2 + 1)))) (fun s4 => f_X5_moveUpBehind_L6 r L n (v2 + 1) s4))))) := rfl
def f_X5_moveUpBehind (r L : Nat) (p0 : Int32) (σ : gS) : Option (gS) := gLet (if p0 < 0 then 0 else p0) (fun x1 => f_X5_moveUpBehind_L6 r L gFu x1 σ)
set_option maxHeartbeats 4000000 in
set_option maxRecDepth 100000 in
theorem w_X5_moveUpBehind_L6 (r L : Nat) (hr : gRow G o r L) {q : gS} (K : gK p s m args meth c G cX5_moveUpBehind 3 RX5 none) : ∀ (n : Nat) (v2 : Int32) (σ : gS), f_X5_moveUpBehind_L6 r L n v2 σ = some q → ∀ (H : Heap) (locs : List Loc) (ls : Array Slot), gSt G (entX G o) o 302 s σ H locs → lv_has ls 3 [(0, .ref (o + r)), (2, .int v2)] → W p l e rmX5_moveUpBehind s m args below meth c H locs 0 0 (MQ below (gQv G (entX G o) o 302 q) args s 0 0 (gA o 302)) (F0 m 6 ls []) := by
  obtain ⟨hx, hb, hml, hown, hts, -⟩ := id K
  intro n
  induction n with
  | zero =>
    intro v2 σ hf
    exact absurd (show (none : Option _) = some q from hf) (by simp)
  | succ n ih =>
    intro v2 σ hf H locs ls hS hl
    rw [f_X5_moveUpBehind_L6_s] at hf
    refine lv_iload_n hx hb dX5_moveUpBehind_6 rfl (lv_at hl 1 rfl) ?_
    refine lv_aload_n hx hb dX5_moveUpBehind_7 rfl (lv_at hl 0 rfl) ?_
    refine g_get (cx := r) K hS lF_X5_13 (hr.1 _) hr.2.2.1 rfl dX5_moveUpBehind_8 ?_
    refine g_alen (cx := (r + 1)) (t0 := 0) (v := (Int32.ofNat L)) K hS (hr.2.1 _) hr.2.2.2 rfl rfl dX5_moveUpBehind_11 ?_
    refine lv_iconst (v := 1) hx hb dX5_moveUpBehind_12 (by decide) ?_
    refine lv_isub hx hb dX5_moveUpBehind_13 ?_
    refine lv_icmp_ge (tgt := 37) hx hb dX5_moveUpBehind_14 (by decide) (fun c2 => ?_) (fun c2 => ?_)
    · have hf := gIf_t c2 hf
      exact g_vret K hS hf dX5_moveUpBehind_37
    · have hf := gIf_f c2 hf
      refine lv_aload_n hx hb dX5_moveUpBehind_17 rfl (lv_at hl 0 rfl) ?_
      refine g_get (cx := r) K hS lF_X5_13 (hr.1 _) hr.2.2.1 rfl dX5_moveUpBehind_18 ?_
      refine lv_iload_n hx hb dX5_moveUpBehind_21 rfl (lv_at hl 1 rfl) ?_
      refine lv_aload_n hx hb dX5_moveUpBehind_22 rfl (lv_at hl 0 rfl) ?_
      refine g_get (cx := r) K hS lF_X5_13 (hr.1 _) hr.2.2.1 rfl dX5_moveUpBehind_23 ?_
      refine lv_iload_n hx hb dX5_moveUpBehind_26 rfl (lv_at hl 1 rfl) ?_
      refine lv_iconst (v := 1) hx hb dX5_moveUpBehind_27 (by decide) ?_
      refine lv_iadd hx hb dX5_moveUpBehind_28 ?_
      obtain ⟨h3, hf⟩ := gGd_some hf
      refine g_iald (cx := (r + 1)) K hS hr.2.1 hr.2.2.2 h3 rfl dX5_moveUpBehind_29 ?_
      obtain ⟨h5, hf⟩ := gGd_some hf
      obtain ⟨s4, hs4, hf⟩ := gLet_some hf
      refine g_iast (cx := (r + 1)) K hS hr.2.1 hr.2.2.2 h5 rfl dX5_moveUpBehind_30 (fun H locs hS => ?_)
      rw [← hs4] at hS
      refine lv_iinc (v := (v2 + 1)) (lv' := [(2, .int (v2 + 1)), (0, .ref (o + r))]) hx hb dX5_moveUpBehind_31 hl (k := 1) rfl rfl (by decide) rfl (fun ls hl => ?_)
      refine lv_goto (tgt := 6) hx hb dX5_moveUpBehind_34 (by decide) ?_
      exact ih (v2 + 1) s4 hf _ _ _ hS (lv_sub hl [1, 0] rfl)
set_option maxHeartbeats 4000000 in
set_option maxRecDepth 100000 in
theorem c_X5_moveUpBehind (r L : Nat) (hr : gRow G o r L) (p0 : Int32) (σ : gS) (q : gS) (hf : f_X5_moveUpBehind r L p0 σ = some q) : Met l yX5_moveUpBehind (gW yX5_moveUpBehind cX5_moveUpBehind 3 none) rmX5_moveUpBehind (gPc G (entX G o) o 302 [.ref (o + r), .int p0] σ) (gQv G (entX G o) o 302 q) 0 0 (gA o 302) := by
  refine g_met (by decide) ⟨rfl, rfl⟩ (fun p e s m args below meth c ls K hS hl => ?_) (Nat.le_of_ble_eq_true rfl)
  have K : gK p s m args meth c G cX5_moveUpBehind 3 RX5 none := K
  have hl : lv_has ls 3 [(0, .ref (o + r)), (1, .int p0)] := hl
  obtain ⟨hx, hb, hml, hown, hts, -⟩ := id K
  unfold f_X5_moveUpBehind at hf
  refine lv_iload_n hx hb dX5_moveUpBehind_0 rfl (lv_at hl 1 rfl) ?_
  refine lv_iconst (v := 0) hx hb dX5_moveUpBehind_1 (by decide) ?_
  refine g_mmax K hl.1 (gmem 42 (by decide +kernel) rfl) q_static_max q_init_Math q_code_max (Nat.le_of_ble_eq_true rfl) (Nat.le_of_ble_eq_true rfl) (Nat.zero_le _) (Nat.zero_le _) dX5_moveUpBehind_2 ?_
  obtain ⟨x1, hx1, hf⟩ := gLet_some hf
  refine g_top hx1 ?_
  refine lv_istore_n (lv' := [(2, .int x1), (0, .ref (o + r)), (1, .int p0)]) hx hb dX5_moveUpBehind_5 rfl hl (by decide) rfl (fun ls hl => ?_)
  refine w_X5_moveUpBehind_L6 r L hr K gFu x1 σ hf _ _ _ hS (lv_sub hl [1, 0] rfl)
abbrev rmX1_remove : Room := { frames := 2, cells := 0, slots := 0, locals := 43 }
def f_X1_remove (p0 : Int32) (σ : gS) : Option (gS) := Option.bind (f_X1_has p0 σ) (fun q1 => if q1.1 = 0 then (some q1.2) else (Option.bind (f_X5_moveUpBehind 5 20 p0 q1.2) (fun q3 => Option.bind (f_X5_moveUpBehind 7 20 p0 q3) (fun q4 => Option.bind (f_X5_moveUpBehind 9 20 p0 q4) (fun q5 => Option.bind (f_X5_moveUpBehind 11 20 p0 q5) (fun q6 => Option.bind (f_X5_moveUpBehind 13 20 p0 q6) (fun q7 => Option.bind (f_X5_moveUpBehind 15 20 p0 q7) (fun q8 => gLet (up2 q8 4 0 ((q8 4 0) - 1)) (fun s9 => some s9)))))))))
set_option maxHeartbeats 4000000 in
set_option maxRecDepth 100000 in
theorem c_X1_remove (p0 : Int32) (σ : gS) (q : gS) (hf : f_X1_remove p0 σ = some q) : Met l yX1_remove (gW yX1_remove cX1_remove 2 none) rmX1_remove (gPc G (entX G o) o 302 [.ref (o + 4), .int p0] σ) (gQv G (entX G o) o 302 q) 0 0 (gA o 302) := by
  refine g_met (by decide) ⟨rfl, rfl⟩ (fun p e s m args below meth c ls K hS hl => ?_) (Nat.le_of_ble_eq_true rfl)
  have K : gK p s m args meth c G cX1_remove 2 RX1 none := K
  have hl : lv_has ls 2 [(0, .ref (o + 4)), (1, .int p0)] := hl
  obtain ⟨hx, hb, hml, hown, hts, -⟩ := id K
  unfold f_X1_remove at hf
  refine lv_aload_n hx hb dX1_remove_0 rfl (lv_at hl 0 rfl) ?_
  refine lv_iload_n hx hb dX1_remove_1 rfl (lv_at hl 1 rfl) ?_
  obtain ⟨q1, hq1, hf⟩ := Option.bind_eq_some_iff.mp hf
  refine g_Vi (cx := 4) (As := [.int p0]) K hS lV_X1_60 (c_X1_has p0 σ q1 hq1) ((eX_4 G o) _) (by decide) rfl rfl rfl (Nat.le_of_ble_eq_true rfl) ⟨⟨Nat.le_of_ble_eq_true rfl, Nat.le_of_ble_eq_true rfl⟩, rfl, rfl⟩ hl.1 ⟨Nat.zero_le _, Nat.zero_le _⟩ dX1_remove_2 (fun H locs hS => ?_)
  refine lv_if_ne (tgt := 9) hx hb dX1_remove_5 (by decide) (fun c2 => ?_) (fun c2 => ?_)
  · have hf := gIf_f c2 hf
    refine lv_aload_n hx hb dX1_remove_9 rfl (lv_at hl 0 rfl) ?_
    refine g_get (cx := 4) K hS lF_X1_14 ((eX_4 G o) _) (by decide) rfl dX1_remove_10 ?_
    refine lv_iload_n hx hb dX1_remove_13 rfl (lv_at hl 1 rfl) ?_
    obtain ⟨q3, hq3, hf⟩ := Option.bind_eq_some_iff.mp hf
    refine g_Vv (cx := 5) (As := [.int p0]) K hS lV_X1_64 (c_X5_moveUpBehind 5 20 (gRow_5 G o) p0 q1.2 q3 hq3) ((eX_5 G o) _) (by decide) rfl rfl rfl (Nat.le_of_ble_eq_true rfl) ⟨⟨Nat.le_of_ble_eq_true rfl, Nat.le_of_ble_eq_true rfl⟩, rfl, rfl⟩ hl.1 ⟨Nat.zero_le _, Nat.zero_le _⟩ dX1_remove_14 (fun H locs hS => ?_)
    refine lv_aload_n hx hb dX1_remove_17 rfl (lv_at hl 0 rfl) ?_
    refine g_get (cx := 4) K hS lF_X1_20 ((eX_4 G o) _) (by decide) rfl dX1_remove_18 ?_
    refine lv_iload_n hx hb dX1_remove_21 rfl (lv_at hl 1 rfl) ?_
    obtain ⟨q4, hq4, hf⟩ := Option.bind_eq_some_iff.mp hf
    refine g_Vv (cx := 7) (As := [.int p0]) K hS lV_X1_64 (c_X5_moveUpBehind 7 20 (gRow_7 G o) p0 q3 q4 hq4) ((eX_7 G o) _) (by decide) rfl rfl rfl (Nat.le_of_ble_eq_true rfl) ⟨⟨Nat.le_of_ble_eq_true rfl, Nat.le_of_ble_eq_true rfl⟩, rfl, rfl⟩ hl.1 ⟨Nat.zero_le _, Nat.zero_le _⟩ dX1_remove_22 (fun H locs hS => ?_)
    refine lv_aload_n hx hb dX1_remove_25 rfl (lv_at hl 0 rfl) ?_
    refine g_get (cx := 4) K hS lF_X1_23 ((eX_4 G o) _) (by decide) rfl dX1_remove_26 ?_
    refine lv_iload_n hx hb dX1_remove_29 rfl (lv_at hl 1 rfl) ?_
    obtain ⟨q5, hq5, hf⟩ := Option.bind_eq_some_iff.mp hf
    refine g_Vv (cx := 9) (As := [.int p0]) K hS lV_X1_64 (c_X5_moveUpBehind 9 20 (gRow_9 G o) p0 q4 q5 hq5) ((eX_9 G o) _) (by decide) rfl rfl rfl (Nat.le_of_ble_eq_true rfl) ⟨⟨Nat.le_of_ble_eq_true rfl, Nat.le_of_ble_eq_true rfl⟩, rfl, rfl⟩ hl.1 ⟨Nat.zero_le _, Nat.zero_le _⟩ dX1_remove_30 (fun H locs hS => ?_)
    refine lv_aload_n hx hb dX1_remove_33 rfl (lv_at hl 0 rfl) ?_
    refine g_get (cx := 4) K hS lF_X1_26 ((eX_4 G o) _) (by decide) rfl dX1_remove_34 ?_
    refine lv_iload_n hx hb dX1_remove_37 rfl (lv_at hl 1 rfl) ?_
    obtain ⟨q6, hq6, hf⟩ := Option.bind_eq_some_iff.mp hf
    refine g_Vv (cx := 11) (As := [.int p0]) K hS lV_X1_64 (c_X5_moveUpBehind 11 20 (gRow_11 G o) p0 q5 q6 hq6) ((eX_11 G o) _) (by decide) rfl rfl rfl (Nat.le_of_ble_eq_true rfl) ⟨⟨Nat.le_of_ble_eq_true rfl, Nat.le_of_ble_eq_true rfl⟩, rfl, rfl⟩ hl.1 ⟨Nat.zero_le _, Nat.zero_le _⟩ dX1_remove_38 (fun H locs hS => ?_)
    refine lv_aload_n hx hb dX1_remove_41 rfl (lv_at hl 0 rfl) ?_
    refine g_get (cx := 4) K hS lF_X1_29 ((eX_4 G o) _) (by decide) rfl dX1_remove_42 ?_
    refine lv_iload_n hx hb dX1_remove_45 rfl (lv_at hl 1 rfl) ?_
    obtain ⟨q7, hq7, hf⟩ := Option.bind_eq_some_iff.mp hf
    refine g_Vv (cx := 13) (As := [.int p0]) K hS lV_X1_64 (c_X5_moveUpBehind 13 20 (gRow_13 G o) p0 q6 q7 hq7) ((eX_13 G o) _) (by decide) rfl rfl rfl (Nat.le_of_ble_eq_true rfl) ⟨⟨Nat.le_of_ble_eq_true rfl, Nat.le_of_ble_eq_true rfl⟩, rfl, rfl⟩ hl.1 ⟨Nat.zero_le _, Nat.zero_le _⟩ dX1_remove_46 (fun H locs hS => ?_)
    refine lv_aload_n hx hb dX1_remove_49 rfl (lv_at hl 0 rfl) ?_
    refine g_get (cx := 4) K hS lF_X1_32 ((eX_4 G o) _) (by decide) rfl dX1_remove_50 ?_
    refine lv_iload_n hx hb dX1_remove_53 rfl (lv_at hl 1 rfl) ?_
    obtain ⟨q8, hq8, hf⟩ := Option.bind_eq_some_iff.mp hf
    refine g_Vv (cx := 15) (As := [.int p0]) K hS lV_X1_64 (c_X5_moveUpBehind 15 20 (gRow_15 G o) p0 q7 q8 hq8) ((eX_15 G o) _) (by decide) rfl rfl rfl (Nat.le_of_ble_eq_true rfl) ⟨⟨Nat.le_of_ble_eq_true rfl, Nat.le_of_ble_eq_true rfl⟩, rfl, rfl⟩ hl.1 ⟨Nat.zero_le _, Nat.zero_le _⟩ dX1_remove_54 (fun H locs hS => ?_)
    refine lv_aload_n hx hb dX1_remove_57 rfl (lv_at hl 0 rfl) ?_
    refine lv_dup hx hb dX1_remove_58 rfl ?_
    refine g_get (cx := 4) K hS lF_X1_35 ((eX_4 G o) _) (by decide) rfl dX1_remove_59 ?_
    refine lv_iconst (v := 1) hx hb dX1_remove_62 (by decide) ?_
    refine lv_isub hx hb dX1_remove_63 ?_
    obtain ⟨s9, hs9, hf⟩ := gLet_some hf
    refine g_put (cx := 4) K hS lP_X1_35 (eX_4 G o) (by decide) rfl (Nat.le_of_ble_eq_true rfl) rfl rfl dX1_remove_64 (fun H locs hS => ?_)
    rw [← hs9] at hS
    exact g_vret K hS hf dX1_remove_67
  · have hf := gIf_t c2 hf
    exact g_vret K hS hf dX1_remove_8
abbrev rmX1_atMostAsLoud : Room := { frames := 1, cells := 0, slots := 0, locals := 21 }
def f_X1_atMostAsLoud_L4 (w1 : Int32) : Nat → Int32 → Int32 → gS → Option (Int32 × gS)
  | 0, _, _, _ => none
  | n + 1, v2, v3, σ => if (σ 4 0) ≤ v3 then (some (v2, σ)) else (Option.bind (f_X5_at 11 20 v3 σ) (fun q2 => if w1 < q2.1 then (f_X1_atMostAsLoud_L4 w1 n v2 (v3 + 1) q2.2) else (gLet (v2 ||| (1 <<< (v3 &&& 31))) (fun x4 => f_X1_atMostAsLoud_L4 w1 n x4 (v3 + 1) q2.2))))
theorem f_X1_atMostAsLoud_L4_s (w1 : Int32) (n : Nat) (v2 : Int32) (v3 : Int32) (σ : gS) : f_X1_atMostAsLoud_L4 w1 (n + 1) v2 v3 σ = (if (σ 4 0) ≤ v3 then (some (v2, σ)) else (Option.bind (f_X5_at 11 20 v3 σ) (fun q2 => if w1 < q2.1 then (f_X1_atMostAsLoud_L4 w1 n v2 (v3 + 1) q2.2) else (gLet (v2 ||| (1 <<< (v3 &&& 31))) (fun x4 => f_X1_atMostAsLoud_L4 w1 n x4 (v3 + 1) q2.2))))) := rfl
def f_X1_atMostAsLoud (p0 : Int32) (σ : gS) : Option (Int32 × gS) := f_X1_atMostAsLoud_L4 p0 gFu 0 0 σ
set_option maxHeartbeats 4000000 in
set_option maxRecDepth 100000 in
theorem w_X1_atMostAsLoud_L4 (w1 : Int32) {q : Int32 × gS} (K : gK p s m args meth c G cX1_atMostAsLoud 4 RX1 (some .int)) : ∀ (n : Nat) (v2 : Int32) (v3 : Int32) (σ : gS), f_X1_atMostAsLoud_L4 w1 n v2 v3 σ = some q → ∀ (H : Heap) (locs : List Loc) (ls : Array Slot), gSt G (entX G o) o 302 s σ H locs → lv_has ls 4 [(0, .ref (o + 4)), (1, .int w1), (2, .int v2), (3, .int v3)] → W p l e rmX1_atMostAsLoud s m args below meth c H locs 0 0 (MQ below (gQi G (entX G o) o 302 q) args s 0 0 (gA o 302)) (F0 m 4 ls []) := by
  obtain ⟨hx, hb, hml, hown, hts, -⟩ := id K
  intro n
  induction n with
  | zero =>
    intro v2 v3 σ hf
    exact absurd (show (none : Option _) = some q from hf) (by simp)
  | succ n ih =>
    intro v2 v3 σ hf H locs ls hS hl
    rw [f_X1_atMostAsLoud_L4_s] at hf
    refine lv_iload_n hx hb dX1_atMostAsLoud_4 rfl (lv_at hl 3 rfl) ?_
    refine lv_aload_n hx hb dX1_atMostAsLoud_5 rfl (lv_at hl 0 rfl) ?_
    refine g_get (cx := 4) K hS lF_X1_35 ((eX_4 G o) _) (by decide) rfl dX1_atMostAsLoud_6 ?_
    refine lv_icmp_ge (tgt := 36) hx hb dX1_atMostAsLoud_9 (by decide) (fun c1 => ?_) (fun c1 => ?_)
    · have hf := gIf_t c1 hf
      refine lv_iload_n hx hb dX1_atMostAsLoud_36 rfl (lv_at hl 2 rfl) ?_
      exact g_iret K hS hf dX1_atMostAsLoud_37
    · have hf := gIf_f c1 hf
      refine lv_aload_n hx hb dX1_atMostAsLoud_12 rfl (lv_at hl 0 rfl) ?_
      refine g_get (cx := 4) K hS lF_X1_26 ((eX_4 G o) _) (by decide) rfl dX1_atMostAsLoud_13 ?_
      refine lv_iload_n hx hb dX1_atMostAsLoud_16 rfl (lv_at hl 3 rfl) ?_
      obtain ⟨q2, hq2, hf⟩ := Option.bind_eq_some_iff.mp hf
      refine g_Vi (cx := 11) (As := [.int v3]) K hS lV_X1_67 (c_X5_at 11 20 (gRow_11 G o) v3 σ q2 hq2) ((eX_11 G o) _) (by decide) rfl rfl rfl (Nat.le_of_ble_eq_true rfl) ⟨⟨Nat.le_of_ble_eq_true rfl, Nat.le_of_ble_eq_true rfl⟩, rfl, rfl⟩ hl.1 ⟨Nat.zero_le _, Nat.zero_le _⟩ dX1_atMostAsLoud_17 (fun H locs hS => ?_)
      refine lv_iload_n hx hb dX1_atMostAsLoud_20 rfl (lv_at hl 1 rfl) ?_
      refine lv_icmp_gt (tgt := 30) hx hb dX1_atMostAsLoud_21 (by decide) (fun c3 => ?_) (fun c3 => ?_)
      · have hf := gIf_t c3 hf
        refine lv_iinc (v := (v3 + 1)) (lv' := [(3, .int (v3 + 1)), (0, .ref (o + 4)), (1, .int w1), (2, .int v2)]) hx hb dX1_atMostAsLoud_30 hl (k := 3) rfl rfl (by decide) rfl (fun ls hl => ?_)
        refine lv_goto (tgt := 4) hx hb dX1_atMostAsLoud_33 (by decide) ?_
        exact ih v2 (v3 + 1) q2.2 hf _ _ _ hS (lv_sub hl [1, 2, 3, 0] rfl)
      · have hf := gIf_f c3 hf
        refine lv_iload_n hx hb dX1_atMostAsLoud_24 rfl (lv_at hl 2 rfl) ?_
        refine lv_iconst (v := 1) hx hb dX1_atMostAsLoud_25 (by decide) ?_
        refine lv_iload_n hx hb dX1_atMostAsLoud_26 rfl (lv_at hl 3 rfl) ?_
        refine lv_ishl hx hb dX1_atMostAsLoud_27 ?_
        refine lv_ior hx hb dX1_atMostAsLoud_28 ?_
        obtain ⟨x4, hx4, hf⟩ := gLet_some hf
        refine g_top hx4 ?_
        refine lv_istore_n (lv' := [(2, .int x4), (0, .ref (o + 4)), (1, .int w1), (3, .int v3)]) hx hb dX1_atMostAsLoud_29 rfl hl (by decide) rfl (fun ls hl => ?_)
        refine lv_iinc (v := (v3 + 1)) (lv' := [(3, .int (v3 + 1)), (2, .int x4), (0, .ref (o + 4)), (1, .int w1)]) hx hb dX1_atMostAsLoud_30 hl (k := 3) rfl rfl (by decide) rfl (fun ls hl => ?_)
        refine lv_goto (tgt := 4) hx hb dX1_atMostAsLoud_33 (by decide) ?_
        exact ih x4 (v3 + 1) q2.2 hf _ _ _ hS (lv_sub hl [2, 3, 1, 0] rfl)
set_option maxHeartbeats 4000000 in
set_option maxRecDepth 100000 in
theorem c_X1_atMostAsLoud (p0 : Int32) (σ : gS) (q : Int32 × gS) (hf : f_X1_atMostAsLoud p0 σ = some q) : Met l yX1_atMostAsLoud (gW yX1_atMostAsLoud cX1_atMostAsLoud 4 (some .int)) rmX1_atMostAsLoud (gPc G (entX G o) o 302 [.ref (o + 4), .int p0] σ) (gQi G (entX G o) o 302 q) 0 0 (gA o 302) := by
  refine g_met (by decide) ⟨rfl, rfl⟩ (fun p e s m args below meth c ls K hS hl => ?_) (Nat.le_of_ble_eq_true rfl)
  have K : gK p s m args meth c G cX1_atMostAsLoud 4 RX1 (some .int) := K
  have hl : lv_has ls 4 [(0, .ref (o + 4)), (1, .int p0)] := hl
  obtain ⟨hx, hb, hml, hown, hts, -⟩ := id K
  unfold f_X1_atMostAsLoud at hf
  refine lv_iconst (v := 0) hx hb dX1_atMostAsLoud_0 (by decide) ?_
  refine lv_istore_n (lv' := [(2, .int 0), (0, .ref (o + 4)), (1, .int p0)]) hx hb dX1_atMostAsLoud_1 rfl hl (by decide) rfl (fun ls hl => ?_)
  refine lv_iconst (v := 0) hx hb dX1_atMostAsLoud_2 (by decide) ?_
  refine lv_istore_n (lv' := [(3, .int 0), (2, .int 0), (0, .ref (o + 4)), (1, .int p0)]) hx hb dX1_atMostAsLoud_3 rfl hl (by decide) rfl (fun ls hl => ?_)
  refine w_X1_atMostAsLoud_L4 p0 K gFu 0 0 σ hf _ _ _ hS (lv_sub hl [2, 3, 1, 0] rfl)
abbrev rmX1_roomsFrom : Room := { frames := 2, cells := 0, slots := 0, locals := 45 }
def f_X1_roomsFrom_L7 (w2 : Int32) : Nat → Int32 → Int32 → gS → Option (Int32 × gS)
  | 0, _, _, _ => none
  | n + 1, v3, v4, σ => if 10 ≤ v4 then (some (v3, σ)) else (Option.bind (f_X1_widened v3 w2 σ) (fun q3 => if q3.1 = v3 then (some (v3, q3.2)) else (f_X1_roomsFrom_L7 w2 n q3.1 (v4 + 1) q3.2)))
theorem f_X1_roomsFrom_L7_s (w2 : Int32) (n : Nat) (v3 : Int32) (v4 : Int32) (σ : gS) : f_X1_roomsFrom_L7 w2 (n + 1) v3 v4 σ = (if 10 ≤ v4 then (some (v3, σ)) else (Option.bind (f_X1_widened v3 w2 σ) (fun q3 => if q3.1 = v3 then (some (v3, q3.2)) else (f_X1_roomsFrom_L7 w2 n q3.1 (v4 + 1) q3.2)))) := rfl
def f_X1_roomsFrom (p0 : Int32) (p1 : Int32) (σ : gS) : Option (Int32 × gS) := gLet (1 <<< (p0 &&& 31)) (fun x1 => f_X1_roomsFrom_L7 p1 gFu x1 1 σ)
set_option maxHeartbeats 4000000 in
set_option maxRecDepth 100000 in
theorem w_X1_roomsFrom_L7 (w2 : Int32) {q : Int32 × gS} (K : gK p s m args meth c G cX1_roomsFrom 6 RX1 (some .int)) : ∀ (n : Nat) (v3 : Int32) (v4 : Int32) (σ : gS), f_X1_roomsFrom_L7 w2 n v3 v4 σ = some q → ∀ (H : Heap) (locs : List Loc) (ls : Array Slot), gSt G (entX G o) o 302 s σ H locs → lv_has ls 6 [(0, .ref (o + 4)), (2, .int w2), (3, .int v3), (4, .int v4)] → W p l e rmX1_roomsFrom s m args below meth c H locs 0 0 (MQ below (gQi G (entX G o) o 302 q) args s 0 0 (gA o 302)) (F0 m 7 ls []) := by
  obtain ⟨hx, hb, hml, hown, hts, -⟩ := id K
  intro n
  induction n with
  | zero =>
    intro v3 v4 σ hf
    exact absurd (show (none : Option _) = some q from hf) (by simp)
  | succ n ih =>
    intro v3 v4 σ hf H locs ls hS hl
    rw [f_X1_roomsFrom_L7_s] at hf
    refine lv_iload hx hb dX1_roomsFrom_7 (lv_at hl 3 rfl) ?_
    refine lv_bipush (v := 10) hx hb dX1_roomsFrom_9 (by decide) ?_
    refine lv_icmp_ge (tgt := 40) hx hb dX1_roomsFrom_11 (by decide) (fun c2 => ?_) (fun c2 => ?_)
    · have hf := gIf_t c2 hf
      refine lv_iload_n hx hb dX1_roomsFrom_40 rfl (lv_at hl 2 rfl) ?_
      exact g_iret K hS hf dX1_roomsFrom_41
    · have hf := gIf_f c2 hf
      refine lv_aload_n hx hb dX1_roomsFrom_14 rfl (lv_at hl 0 rfl) ?_
      refine lv_iload_n hx hb dX1_roomsFrom_15 rfl (lv_at hl 2 rfl) ?_
      refine lv_iload_n hx hb dX1_roomsFrom_16 rfl (lv_at hl 1 rfl) ?_
      obtain ⟨q3, hq3, hf⟩ := Option.bind_eq_some_iff.mp hf
      refine g_Vi (cx := 4) (As := [.int v3, .int w2]) K hS lV_X1_75 (c_X1_widened v3 w2 σ q3 hq3) ((eX_4 G o) _) (by decide) rfl rfl rfl (Nat.le_of_ble_eq_true rfl) ⟨⟨Nat.le_of_ble_eq_true rfl, Nat.le_of_ble_eq_true rfl⟩, rfl, rfl⟩ hl.1 ⟨Nat.zero_le _, Nat.zero_le _⟩ dX1_roomsFrom_17 (fun H locs hS => ?_)
      refine lv_istore (lv' := [(5, .int q3.1), (0, .ref (o + 4)), (2, .int w2), (3, .int v3), (4, .int v4)]) hx hb dX1_roomsFrom_20 hl (by decide) rfl (fun ls hl => ?_)
      refine lv_iload hx hb dX1_roomsFrom_22 (lv_at hl 0 rfl) ?_
      refine lv_iload_n hx hb dX1_roomsFrom_24 rfl (lv_at hl 3 rfl) ?_
      refine lv_icmp_ne (tgt := 31) hx hb dX1_roomsFrom_25 (by decide) (fun c4 => ?_) (fun c4 => ?_)
      · have hf := gIf_f c4 hf
        refine lv_iload hx hb dX1_roomsFrom_31 (lv_at hl 0 rfl) ?_
        refine lv_istore_n (lv' := [(3, .int q3.1), (5, .int q3.1), (0, .ref (o + 4)), (2, .int w2), (4, .int v4)]) hx hb dX1_roomsFrom_33 rfl hl (by decide) rfl (fun ls hl => ?_)
        refine lv_iinc (v := (v4 + 1)) (lv' := [(4, .int (v4 + 1)), (3, .int q3.1), (5, .int q3.1), (0, .ref (o + 4)), (2, .int w2)]) hx hb dX1_roomsFrom_34 hl (k := 4) rfl rfl (by decide) rfl (fun ls hl => ?_)
        refine lv_goto (tgt := 7) hx hb dX1_roomsFrom_37 (by decide) ?_
        exact ih q3.1 (v4 + 1) q3.2 hf _ _ _ hS (lv_sub hl [3, 4, 1, 0] rfl)
      · have hf := gIf_t c4 hf
        refine lv_goto (tgt := 40) hx hb dX1_roomsFrom_28 (by decide) ?_
        refine lv_iload_n hx hb dX1_roomsFrom_40 rfl (lv_at hl 3 rfl) ?_
        exact g_iret K hS hf dX1_roomsFrom_41
set_option maxHeartbeats 4000000 in
set_option maxRecDepth 100000 in
theorem c_X1_roomsFrom (p0 : Int32) (p1 : Int32) (σ : gS) (q : Int32 × gS) (hf : f_X1_roomsFrom p0 p1 σ = some q) : Met l yX1_roomsFrom (gW yX1_roomsFrom cX1_roomsFrom 6 (some .int)) rmX1_roomsFrom (gPc G (entX G o) o 302 [.ref (o + 4), .int p0, .int p1] σ) (gQi G (entX G o) o 302 q) 0 0 (gA o 302) := by
  refine g_met (by decide) ⟨rfl, rfl⟩ (fun p e s m args below meth c ls K hS hl => ?_) (Nat.le_of_ble_eq_true rfl)
  have K : gK p s m args meth c G cX1_roomsFrom 6 RX1 (some .int) := K
  have hl : lv_has ls 6 [(0, .ref (o + 4)), (1, .int p0), (2, .int p1)] := hl
  obtain ⟨hx, hb, hml, hown, hts, -⟩ := id K
  unfold f_X1_roomsFrom at hf
  refine lv_iconst (v := 1) hx hb dX1_roomsFrom_0 (by decide) ?_
  refine lv_iload_n hx hb dX1_roomsFrom_1 rfl (lv_at hl 1 rfl) ?_
  refine lv_ishl hx hb dX1_roomsFrom_2 ?_
  obtain ⟨x1, hx1, hf⟩ := gLet_some hf
  refine g_top hx1 ?_
  refine lv_istore_n (lv' := [(3, .int x1), (0, .ref (o + 4)), (1, .int p0), (2, .int p1)]) hx hb dX1_roomsFrom_3 rfl hl (by decide) rfl (fun ls hl => ?_)
  refine lv_iconst (v := 1) hx hb dX1_roomsFrom_4 (by decide) ?_
  refine lv_istore (lv' := [(4, .int 1), (3, .int x1), (0, .ref (o + 4)), (1, .int p0), (2, .int p1)]) hx hb dX1_roomsFrom_5 hl (by decide) rfl (fun ls hl => ?_)
  refine w_X1_roomsFrom_L7 p1 K gFu x1 1 σ hf _ _ _ hS (lv_sub hl [2, 4, 1, 0] rfl)
abbrev rmJ6_bitCount_0f7a4 : Room := { frames := 0, cells := 0, slots := 0, locals := 0 }
def f_J6_bitCount_0f7a4 (p0 : Int32) (σ : gS) : Option (Int32 × gS) := gLet (p0 - ((gush p0 1) &&& 1431655765)) (fun x1 => gLet ((x1 &&& 858993459) + ((gush x1 2) &&& 858993459)) (fun x2 => gLet ((x2 + (gush x2 4)) &&& 252645135) (fun x3 => gLet (x3 + (gush x3 8)) (fun x4 => gLet (x4 + (gush x4 16)) (fun x5 => some ((x5 &&& 63), σ))))))
set_option maxHeartbeats 4000000 in
set_option maxRecDepth 100000 in
theorem c_J6_bitCount_0f7a4 (p0 : Int32) (σ : gS) (q : Int32 × gS) (hf : f_J6_bitCount_0f7a4 p0 σ = some q) : Met l yJ6_bitCount_0f7a4 (gW yJ6_bitCount_0f7a4 cJ6_bitCount_0f7a4 1 (some .int)) rmJ6_bitCount_0f7a4 (gPc G (entX G o) o 302 [.int p0] σ) (gQi G (entX G o) o 302 q) 0 0 (gA o 302) := by
  refine g_met (by decide) ⟨rfl, rfl⟩ (fun p e s m args below meth c ls K hS hl => ?_) (Nat.le_of_ble_eq_true rfl)
  have K : gK p s m args meth c G cJ6_bitCount_0f7a4 1 RJ6 (some .int) := K
  have hl : lv_has ls 1 [(0, .int p0)] := hl
  obtain ⟨hx, hb, hml, hown, hts, -⟩ := id K
  unfold f_J6_bitCount_0f7a4 at hf
  refine lv_iload_n hx hb dJ6_bitCount_0f7a4_0 rfl (lv_at hl 0 rfl) ?_
  refine lv_iload_n hx hb dJ6_bitCount_0f7a4_1 rfl (lv_at hl 0 rfl) ?_
  refine lv_iconst (v := 1) hx hb dJ6_bitCount_0f7a4_2 (by decide) ?_
  refine lv_iushr (v := gush p0 1) hx hb dJ6_bitCount_0f7a4_3 rfl ?_
  refine lv_ldcw (v := 1431655765) hx hb hown (hts _ (gmem 621 (by decide +kernel) rfl)) dJ6_bitCount_0f7a4_4 ?_
  refine lv_iand hx hb dJ6_bitCount_0f7a4_7 ?_
  refine lv_isub hx hb dJ6_bitCount_0f7a4_8 ?_
  obtain ⟨x1, hx1, hf⟩ := gLet_some hf
  refine g_top hx1 ?_
  refine lv_istore_n (lv' := [(0, .int x1)]) hx hb dJ6_bitCount_0f7a4_9 rfl hl (by decide) rfl (fun ls hl => ?_)
  refine lv_iload_n hx hb dJ6_bitCount_0f7a4_10 rfl (lv_at hl 0 rfl) ?_
  refine lv_ldcw (v := 858993459) hx hb hown (hts _ (gmem 622 (by decide +kernel) rfl)) dJ6_bitCount_0f7a4_11 ?_
  refine lv_iand hx hb dJ6_bitCount_0f7a4_14 ?_
  refine lv_iload_n hx hb dJ6_bitCount_0f7a4_15 rfl (lv_at hl 0 rfl) ?_
  refine lv_iconst (v := 2) hx hb dJ6_bitCount_0f7a4_16 (by decide) ?_
  refine lv_iushr (v := gush x1 2) hx hb dJ6_bitCount_0f7a4_17 rfl ?_
  refine lv_ldcw (v := 858993459) hx hb hown (hts _ (gmem 622 (by decide +kernel) rfl)) dJ6_bitCount_0f7a4_18 ?_
  refine lv_iand hx hb dJ6_bitCount_0f7a4_21 ?_
  refine lv_iadd hx hb dJ6_bitCount_0f7a4_22 ?_
  obtain ⟨x2, hx2, hf⟩ := gLet_some hf
  refine g_top hx2 ?_
  refine lv_istore_n (lv' := [(0, .int x2)]) hx hb dJ6_bitCount_0f7a4_23 rfl hl (by decide) rfl (fun ls hl => ?_)
  refine lv_iload_n hx hb dJ6_bitCount_0f7a4_24 rfl (lv_at hl 0 rfl) ?_
  refine lv_iload_n hx hb dJ6_bitCount_0f7a4_25 rfl (lv_at hl 0 rfl) ?_
  refine lv_iconst (v := 4) hx hb dJ6_bitCount_0f7a4_26 (by decide) ?_
  refine lv_iushr (v := gush x2 4) hx hb dJ6_bitCount_0f7a4_27 rfl ?_
  refine lv_iadd hx hb dJ6_bitCount_0f7a4_28 ?_
  refine lv_ldcw (v := 252645135) hx hb hown (hts _ (gmem 623 (by decide +kernel) rfl)) dJ6_bitCount_0f7a4_29 ?_
  refine lv_iand hx hb dJ6_bitCount_0f7a4_32 ?_
  obtain ⟨x3, hx3, hf⟩ := gLet_some hf
  refine g_top hx3 ?_
  refine lv_istore_n (lv' := [(0, .int x3)]) hx hb dJ6_bitCount_0f7a4_33 rfl hl (by decide) rfl (fun ls hl => ?_)
  refine lv_iload_n hx hb dJ6_bitCount_0f7a4_34 rfl (lv_at hl 0 rfl) ?_
  refine lv_iload_n hx hb dJ6_bitCount_0f7a4_35 rfl (lv_at hl 0 rfl) ?_
  refine lv_bipush (v := 8) hx hb dJ6_bitCount_0f7a4_36 (by decide) ?_
  refine lv_iushr (v := gush x3 8) hx hb dJ6_bitCount_0f7a4_38 rfl ?_
  refine lv_iadd hx hb dJ6_bitCount_0f7a4_39 ?_
  obtain ⟨x4, hx4, hf⟩ := gLet_some hf
  refine g_top hx4 ?_
  refine lv_istore_n (lv' := [(0, .int x4)]) hx hb dJ6_bitCount_0f7a4_40 rfl hl (by decide) rfl (fun ls hl => ?_)
  refine lv_iload_n hx hb dJ6_bitCount_0f7a4_41 rfl (lv_at hl 0 rfl) ?_
  refine lv_iload_n hx hb dJ6_bitCount_0f7a4_42 rfl (lv_at hl 0 rfl) ?_
  refine lv_bipush (v := 16) hx hb dJ6_bitCount_0f7a4_43 (by decide) ?_
  refine lv_iushr (v := gush x4 16) hx hb dJ6_bitCount_0f7a4_45 rfl ?_
  refine lv_iadd hx hb dJ6_bitCount_0f7a4_46 ?_
  obtain ⟨x5, hx5, hf⟩ := gLet_some hf
  refine g_top hx5 ?_
  refine lv_istore_n (lv' := [(0, .int x5)]) hx hb dJ6_bitCount_0f7a4_47 rfl hl (by decide) rfl (fun ls hl => ?_)
  refine lv_iload_n hx hb dJ6_bitCount_0f7a4_48 rfl (lv_at hl 0 rfl) ?_
  refine lv_bipush (v := 63) hx hb dJ6_bitCount_0f7a4_49 (by decide) ?_
  refine lv_iand hx hb dJ6_bitCount_0f7a4_51 ?_
  exact g_iret K hS hf dJ6_bitCount_0f7a4_52
abbrev rmX1_pairsApartWithout : Room := { frames := 3, cells := 0, slots := 0, locals := 70 }
def f_X1_pairsApartWithout (p0 : Int32) (σ : gS) : Option (Int32 × gS) := Option.bind (f_X1_all σ) (fun q1 => gLet (q1.1 &&& ((1 <<< (p0 &&& 31)) ^^^ (-1))) (fun x2 => Option.bind (f_X5_at 5 20 p0 q1.2) (fun q3 => Option.bind (f_X1_roomsFrom q3.1 x2 q3.2) (fun q4 => Option.bind (f_X5_at 7 20 p0 q4.2) (fun q5 => Option.bind (f_X10_holds q4.1 q5.1 q5.2) (fun q6 => if q6.1 = 0 then (Option.bind (f_X5_at 7 20 p0 q6.2) (fun q8 => Option.bind (f_X1_roomsFrom q8.1 x2 q8.2) (fun q9 => Option.bind (f_J6_bitCount_0f7a4 q4.1 q9.2) (fun q10 => Option.bind (f_J6_bitCount_0f7a4 q9.1 q10.2) (fun q11 => some ((q10.1 * q11.1), q11.2)))))) else (some (0, q6.2))))))))
set_option maxHeartbeats 4000000 in
set_option maxRecDepth 100000 in
theorem c_X1_pairsApartWithout (p0 : Int32) (σ : gS) (q : Int32 × gS) (hf : f_X1_pairsApartWithout p0 σ = some q) : Met l yX1_pairsApartWithout (gW yX1_pairsApartWithout cX1_pairsApartWithout 5 (some .int)) rmX1_pairsApartWithout (gPc G (entX G o) o 302 [.ref (o + 4), .int p0] σ) (gQi G (entX G o) o 302 q) 0 0 (gA o 302) := by
  refine g_met (by decide) ⟨rfl, rfl⟩ (fun p e s m args below meth c ls K hS hl => ?_) (Nat.le_of_ble_eq_true rfl)
  have K : gK p s m args meth c G cX1_pairsApartWithout 5 RX1 (some .int) := K
  have hl : lv_has ls 5 [(0, .ref (o + 4)), (1, .int p0)] := hl
  obtain ⟨hx, hb, hml, hown, hts, -⟩ := id K
  unfold f_X1_pairsApartWithout at hf
  refine lv_aload_n hx hb dX1_pairsApartWithout_0 rfl (lv_at hl 0 rfl) ?_
  obtain ⟨q1, hq1, hf⟩ := Option.bind_eq_some_iff.mp hf
  refine g_Vi (cx := 4) (As := []) K hS lV_X1_78 (c_X1_all σ q1 hq1) ((eX_4 G o) _) (by decide) rfl rfl rfl (Nat.le_of_ble_eq_true rfl) ⟨⟨Nat.le_of_ble_eq_true rfl, Nat.le_of_ble_eq_true rfl⟩, rfl, rfl⟩ hl.1 ⟨Nat.zero_le _, Nat.zero_le _⟩ dX1_pairsApartWithout_1 (fun H locs hS => ?_)
  refine lv_iconst (v := 1) hx hb dX1_pairsApartWithout_4 (by decide) ?_
  refine lv_iload_n hx hb dX1_pairsApartWithout_5 rfl (lv_at hl 1 rfl) ?_
  refine lv_ishl hx hb dX1_pairsApartWithout_6 ?_
  refine lv_iconst (v := (-1)) hx hb dX1_pairsApartWithout_7 (by decide) ?_
  refine lv_ixor hx hb dX1_pairsApartWithout_8 ?_
  refine lv_iand hx hb dX1_pairsApartWithout_9 ?_
  obtain ⟨x2, hx2, hf⟩ := gLet_some hf
  refine g_top hx2 ?_
  refine lv_istore_n (lv' := [(2, .int x2), (0, .ref (o + 4)), (1, .int p0)]) hx hb dX1_pairsApartWithout_10 rfl hl (by decide) rfl (fun ls hl => ?_)
  refine lv_aload_n hx hb dX1_pairsApartWithout_11 rfl (lv_at hl 1 rfl) ?_
  refine lv_aload_n hx hb dX1_pairsApartWithout_12 rfl (lv_at hl 1 rfl) ?_
  refine g_get (cx := 4) K hS lF_X1_14 ((eX_4 G o) _) (by decide) rfl dX1_pairsApartWithout_13 ?_
  refine lv_iload_n hx hb dX1_pairsApartWithout_16 rfl (lv_at hl 2 rfl) ?_
  obtain ⟨q3, hq3, hf⟩ := Option.bind_eq_some_iff.mp hf
  refine g_Vi (cx := 5) (As := [.int p0]) K hS lV_X1_67 (c_X5_at 5 20 (gRow_5 G o) p0 q1.2 q3 hq3) ((eX_5 G o) _) (by decide) rfl rfl rfl (Nat.le_of_ble_eq_true rfl) ⟨⟨Nat.le_of_ble_eq_true rfl, Nat.le_of_ble_eq_true rfl⟩, rfl, rfl⟩ hl.1 ⟨Nat.zero_le _, Nat.zero_le _⟩ dX1_pairsApartWithout_17 (fun H locs hS => ?_)
  refine lv_iload_n hx hb dX1_pairsApartWithout_20 rfl (lv_at hl 0 rfl) ?_
  obtain ⟨q4, hq4, hf⟩ := Option.bind_eq_some_iff.mp hf
  refine g_Vi (cx := 4) (As := [.int q3.1, .int x2]) K hS lV_X1_85 (c_X1_roomsFrom q3.1 x2 q3.2 q4 hq4) ((eX_4 G o) _) (by decide) rfl rfl rfl (Nat.le_of_ble_eq_true rfl) ⟨⟨Nat.le_of_ble_eq_true rfl, Nat.le_of_ble_eq_true rfl⟩, rfl, rfl⟩ hl.1 ⟨Nat.zero_le _, Nat.zero_le _⟩ dX1_pairsApartWithout_21 (fun H locs hS => ?_)
  refine lv_istore_n (lv' := [(3, .int q4.1), (2, .int x2), (0, .ref (o + 4)), (1, .int p0)]) hx hb dX1_pairsApartWithout_24 rfl hl (by decide) rfl (fun ls hl => ?_)
  refine lv_iload_n hx hb dX1_pairsApartWithout_25 rfl (lv_at hl 0 rfl) ?_
  refine lv_aload_n hx hb dX1_pairsApartWithout_26 rfl (lv_at hl 2 rfl) ?_
  refine g_get (cx := 4) K hS lF_X1_20 ((eX_4 G o) _) (by decide) rfl dX1_pairsApartWithout_27 ?_
  refine lv_iload_n hx hb dX1_pairsApartWithout_30 rfl (lv_at hl 3 rfl) ?_
  obtain ⟨q5, hq5, hf⟩ := Option.bind_eq_some_iff.mp hf
  refine g_Vi (cx := 7) (As := [.int p0]) K hS lV_X1_67 (c_X5_at 7 20 (gRow_7 G o) p0 q4.2 q5 hq5) ((eX_7 G o) _) (by decide) rfl rfl rfl (Nat.le_of_ble_eq_true rfl) ⟨⟨Nat.le_of_ble_eq_true rfl, Nat.le_of_ble_eq_true rfl⟩, rfl, rfl⟩ hl.1 ⟨Nat.zero_le _, Nat.zero_le _⟩ dX1_pairsApartWithout_31 (fun H locs hS => ?_)
  obtain ⟨q6, hq6, hf⟩ := Option.bind_eq_some_iff.mp hf
  refine g_Ni (As := [.int q4.1, .int q5.1]) K hS lN_X1_71 (c_X10_holds q4.1 q5.1 q5.2 q6 hq6) rfl rfl (Nat.le_of_ble_eq_true rfl) ⟨⟨Nat.le_of_ble_eq_true rfl, Nat.le_of_ble_eq_true rfl⟩, rfl, rfl⟩ hl.1 ⟨Nat.zero_le _, Nat.zero_le _⟩ dX1_pairsApartWithout_34 (fun H locs hS => ?_)
  refine lv_if_eq (tgt := 42) hx hb dX1_pairsApartWithout_37 (by decide) (fun c7 => ?_) (fun c7 => ?_)
  · have hf := gIf_t c7 hf
    refine lv_aload_n hx hb dX1_pairsApartWithout_42 rfl (lv_at hl 2 rfl) ?_
    refine lv_aload_n hx hb dX1_pairsApartWithout_43 rfl (lv_at hl 2 rfl) ?_
    refine g_get (cx := 4) K hS lF_X1_20 ((eX_4 G o) _) (by decide) rfl dX1_pairsApartWithout_44 ?_
    refine lv_iload_n hx hb dX1_pairsApartWithout_47 rfl (lv_at hl 3 rfl) ?_
    obtain ⟨q8, hq8, hf⟩ := Option.bind_eq_some_iff.mp hf
    refine g_Vi (cx := 7) (As := [.int p0]) K hS lV_X1_67 (c_X5_at 7 20 (gRow_7 G o) p0 q6.2 q8 hq8) ((eX_7 G o) _) (by decide) rfl rfl rfl (Nat.le_of_ble_eq_true rfl) ⟨⟨Nat.le_of_ble_eq_true rfl, Nat.le_of_ble_eq_true rfl⟩, rfl, rfl⟩ hl.1 ⟨Nat.zero_le _, Nat.zero_le _⟩ dX1_pairsApartWithout_48 (fun H locs hS => ?_)
    refine lv_iload_n hx hb dX1_pairsApartWithout_51 rfl (lv_at hl 1 rfl) ?_
    obtain ⟨q9, hq9, hf⟩ := Option.bind_eq_some_iff.mp hf
    refine g_Vi (cx := 4) (As := [.int q8.1, .int x2]) K hS lV_X1_85 (c_X1_roomsFrom q8.1 x2 q8.2 q9 hq9) ((eX_4 G o) _) (by decide) rfl rfl rfl (Nat.le_of_ble_eq_true rfl) ⟨⟨Nat.le_of_ble_eq_true rfl, Nat.le_of_ble_eq_true rfl⟩, rfl, rfl⟩ hl.1 ⟨Nat.zero_le _, Nat.zero_le _⟩ dX1_pairsApartWithout_52 (fun H locs hS => ?_)
    refine lv_istore (lv' := [(4, .int q9.1), (3, .int q4.1), (2, .int x2), (0, .ref (o + 4)), (1, .int p0)]) hx hb dX1_pairsApartWithout_55 hl (by decide) rfl (fun ls hl => ?_)
    refine lv_iload_n hx hb dX1_pairsApartWithout_57 rfl (lv_at hl 1 rfl) ?_
    obtain ⟨q10, hq10, hf⟩ := Option.bind_eq_some_iff.mp hf
    refine g_Si (As := [.int q4.1]) K hS lS_X1_88 (c_J6_bitCount_0f7a4 q4.1 q9.2 q10 hq10) rfl rfl (Nat.le_of_ble_eq_true rfl) ⟨⟨Nat.le_of_ble_eq_true rfl, Nat.le_of_ble_eq_true rfl⟩, rfl, rfl⟩ hl.1 ⟨Nat.zero_le _, Nat.zero_le _⟩ dX1_pairsApartWithout_58 (fun H locs hS => ?_)
    refine lv_iload hx hb dX1_pairsApartWithout_61 (lv_at hl 0 rfl) ?_
    obtain ⟨q11, hq11, hf⟩ := Option.bind_eq_some_iff.mp hf
    refine g_Si (As := [.int q9.1]) K hS lS_X1_88 (c_J6_bitCount_0f7a4 q9.1 q10.2 q11 hq11) rfl rfl (Nat.le_of_ble_eq_true rfl) ⟨⟨Nat.le_of_ble_eq_true rfl, Nat.le_of_ble_eq_true rfl⟩, rfl, rfl⟩ hl.1 ⟨Nat.zero_le _, Nat.zero_le _⟩ dX1_pairsApartWithout_63 (fun H locs hS => ?_)
    refine lv_imul hx hb dX1_pairsApartWithout_66 ?_
    exact g_iret K hS hf dX1_pairsApartWithout_67
  · have hf := gIf_f c7 hf
    refine lv_iconst (v := 0) hx hb dX1_pairsApartWithout_40 (by decide) ?_
    exact g_iret K hS hf dX1_pairsApartWithout_41
abbrev rmX2_whoCrossed : Room := { frames := 1, cells := 0, slots := 0, locals := 21 }
def f_X2_whoCrossed_L4 (w1 : Int32) : Nat → Int32 → Int32 → gS → Option (Int32 × gS)
  | 0, _, _, _ => none
  | n + 1, v2, v3, σ => if 4 ≤ v3 then (some (v2, σ)) else (Option.bind (f_X5_at 20 4 v3 σ) (fun q2 => Option.bind (f_X10_holds q2.1 w1 q2.2) (fun q3 => if q3.1 = 0 then (f_X2_whoCrossed_L4 w1 n v2 (v3 + 1) q3.2) else (gLet (v2 ||| (1 <<< (v3 &&& 31))) (fun x5 => f_X2_whoCrossed_L4 w1 n x5 (v3 + 1) q3.2)))))
theorem f_X2_whoCrossed_L4_s (w1 : Int32) (n : Nat) (v2 : Int32) (v3 : Int32) (σ : gS) : f_X2_whoCrossed_L4 w1 (n + 1) v2 v3 σ = (if 4 ≤ v3 then (some (v2, σ)) else (Option.bind (f_X5_at 20 4 v3 σ) (fun q2 => Option.bind (f_X10_holds q2.1 w1 q2.2) (fun q3 => if q3.1 = 0 then (f_X2_whoCrossed_L4 w1 n v2 (v3 + 1) q3.2) else (gLet (v2 ||| (1 <<< (v3 &&& 31))) (fun x5 => f_X2_whoCrossed_L4 w1 n x5 (v3 + 1) q3.2)))))) := rfl
def f_X2_whoCrossed (p0 : Int32) (σ : gS) : Option (Int32 × gS) := f_X2_whoCrossed_L4 p0 gFu 0 0 σ
set_option maxHeartbeats 4000000 in
set_option maxRecDepth 100000 in
theorem w_X2_whoCrossed_L4 (w1 : Int32) {q : Int32 × gS} (K : gK p s m args meth c G cX2_whoCrossed 4 RX2 (some .int)) : ∀ (n : Nat) (v2 : Int32) (v3 : Int32) (σ : gS), f_X2_whoCrossed_L4 w1 n v2 v3 σ = some q → ∀ (H : Heap) (locs : List Loc) (ls : Array Slot), gSt G (entX G o) o 302 s σ H locs → lv_has ls 4 [(0, .ref (o + 17)), (1, .int w1), (2, .int v2), (3, .int v3)] → W p l e rmX2_whoCrossed s m args below meth c H locs 0 0 (MQ below (gQi G (entX G o) o 302 q) args s 0 0 (gA o 302)) (F0 m 4 ls []) := by
  obtain ⟨hx, hb, hml, hown, hts, -⟩ := id K
  intro n
  induction n with
  | zero =>
    intro v2 v3 σ hf
    exact absurd (show (none : Option _) = some q from hf) (by simp)
  | succ n ih =>
    intro v2 v3 σ hf H locs ls hS hl
    rw [f_X2_whoCrossed_L4_s] at hf
    refine lv_iload_n hx hb dX2_whoCrossed_4 rfl (lv_at hl 3 rfl) ?_
    refine lv_iconst (v := 4) hx hb dX2_whoCrossed_5 (by decide) ?_
    refine lv_icmp_ge (tgt := 36) hx hb dX2_whoCrossed_6 (by decide) (fun c1 => ?_) (fun c1 => ?_)
    · have hf := gIf_t c1 hf
      refine lv_iload_n hx hb dX2_whoCrossed_36 rfl (lv_at hl 2 rfl) ?_
      exact g_iret K hS hf dX2_whoCrossed_37
    · have hf := gIf_f c1 hf
      refine lv_aload_n hx hb dX2_whoCrossed_9 rfl (lv_at hl 0 rfl) ?_
      refine g_get (cx := 17) K hS lF_X2_20 ((eX_17 G o) _) (by decide) rfl dX2_whoCrossed_10 ?_
      refine lv_iload_n hx hb dX2_whoCrossed_13 rfl (lv_at hl 3 rfl) ?_
      obtain ⟨q2, hq2, hf⟩ := Option.bind_eq_some_iff.mp hf
      refine g_Vi (cx := 20) (As := [.int v3]) K hS lV_X2_30 (c_X5_at 20 4 (gRow_20 G o) v3 σ q2 hq2) ((eX_20 G o) _) (by decide) rfl rfl rfl (Nat.le_of_ble_eq_true rfl) ⟨⟨Nat.le_of_ble_eq_true rfl, Nat.le_of_ble_eq_true rfl⟩, rfl, rfl⟩ hl.1 ⟨Nat.zero_le _, Nat.zero_le _⟩ dX2_whoCrossed_14 (fun H locs hS => ?_)
      refine lv_iload_n hx hb dX2_whoCrossed_17 rfl (lv_at hl 1 rfl) ?_
      obtain ⟨q3, hq3, hf⟩ := Option.bind_eq_some_iff.mp hf
      refine g_Ni (As := [.int q2.1, .int w1]) K hS lN_X2_34 (c_X10_holds q2.1 w1 q2.2 q3 hq3) rfl rfl (Nat.le_of_ble_eq_true rfl) ⟨⟨Nat.le_of_ble_eq_true rfl, Nat.le_of_ble_eq_true rfl⟩, rfl, rfl⟩ hl.1 ⟨Nat.zero_le _, Nat.zero_le _⟩ dX2_whoCrossed_18 (fun H locs hS => ?_)
      refine lv_if_eq (tgt := 30) hx hb dX2_whoCrossed_21 (by decide) (fun c4 => ?_) (fun c4 => ?_)
      · have hf := gIf_t c4 hf
        refine lv_iinc (v := (v3 + 1)) (lv' := [(3, .int (v3 + 1)), (0, .ref (o + 17)), (1, .int w1), (2, .int v2)]) hx hb dX2_whoCrossed_30 hl (k := 3) rfl rfl (by decide) rfl (fun ls hl => ?_)
        refine lv_goto (tgt := 4) hx hb dX2_whoCrossed_33 (by decide) ?_
        exact ih v2 (v3 + 1) q3.2 hf _ _ _ hS (lv_sub hl [1, 2, 3, 0] rfl)
      · have hf := gIf_f c4 hf
        refine lv_iload_n hx hb dX2_whoCrossed_24 rfl (lv_at hl 2 rfl) ?_
        refine lv_iconst (v := 1) hx hb dX2_whoCrossed_25 (by decide) ?_
        refine lv_iload_n hx hb dX2_whoCrossed_26 rfl (lv_at hl 3 rfl) ?_
        refine lv_ishl hx hb dX2_whoCrossed_27 ?_
        refine lv_ior hx hb dX2_whoCrossed_28 ?_
        obtain ⟨x5, hx5, hf⟩ := gLet_some hf
        refine g_top hx5 ?_
        refine lv_istore_n (lv' := [(2, .int x5), (0, .ref (o + 17)), (1, .int w1), (3, .int v3)]) hx hb dX2_whoCrossed_29 rfl hl (by decide) rfl (fun ls hl => ?_)
        refine lv_iinc (v := (v3 + 1)) (lv' := [(3, .int (v3 + 1)), (2, .int x5), (0, .ref (o + 17)), (1, .int w1)]) hx hb dX2_whoCrossed_30 hl (k := 3) rfl rfl (by decide) rfl (fun ls hl => ?_)
        refine lv_goto (tgt := 4) hx hb dX2_whoCrossed_33 (by decide) ?_
        exact ih x5 (v3 + 1) q3.2 hf _ _ _ hS (lv_sub hl [2, 3, 1, 0] rfl)
set_option maxHeartbeats 4000000 in
set_option maxRecDepth 100000 in
theorem c_X2_whoCrossed (p0 : Int32) (σ : gS) (q : Int32 × gS) (hf : f_X2_whoCrossed p0 σ = some q) : Met l yX2_whoCrossed (gW yX2_whoCrossed cX2_whoCrossed 4 (some .int)) rmX2_whoCrossed (gPc G (entX G o) o 302 [.ref (o + 17), .int p0] σ) (gQi G (entX G o) o 302 q) 0 0 (gA o 302) := by
  refine g_met (by decide) ⟨rfl, rfl⟩ (fun p e s m args below meth c ls K hS hl => ?_) (Nat.le_of_ble_eq_true rfl)
  have K : gK p s m args meth c G cX2_whoCrossed 4 RX2 (some .int) := K
  have hl : lv_has ls 4 [(0, .ref (o + 17)), (1, .int p0)] := hl
  obtain ⟨hx, hb, hml, hown, hts, -⟩ := id K
  unfold f_X2_whoCrossed at hf
  refine lv_iconst (v := 0) hx hb dX2_whoCrossed_0 (by decide) ?_
  refine lv_istore_n (lv' := [(2, .int 0), (0, .ref (o + 17)), (1, .int p0)]) hx hb dX2_whoCrossed_1 rfl hl (by decide) rfl (fun ls hl => ?_)
  refine lv_iconst (v := 0) hx hb dX2_whoCrossed_2 (by decide) ?_
  refine lv_istore_n (lv' := [(3, .int 0), (2, .int 0), (0, .ref (o + 17)), (1, .int p0)]) hx hb dX2_whoCrossed_3 rfl hl (by decide) rfl (fun ls hl => ?_)
  refine w_X2_whoCrossed_L4 p0 K gFu 0 0 σ hf _ _ _ hS (lv_sub hl [2, 3, 1, 0] rfl)
abbrev rmX2_forgetBoard : Room := { frames := 1, cells := 0, slots := 0, locals := 22 }
def f_X2_forgetBoard_L8 (w2 : Int32) : Nat → Int32 → gS → Option (gS)
  | 0, _, _ => none
  | n + 1, v3, σ => if 4 ≤ v3 then (some σ) else (Option.bind (f_X5_at 20 4 v3 σ) (fun q3 => Option.bind (f_X5_store 20 4 v3 ((q3.1 &&& w2) ||| ((q3.1 >>> (1 &&& 31)) &&& (w2 ^^^ (-1)))) q3.2) (fun q4 => f_X2_forgetBoard_L8 w2 n (v3 + 1) q4)))
theorem f_X2_forgetBoard_L8_s (w2 : Int32) (n : Nat) (v3 : Int32) (σ : gS) : f_X2_forgetBoard_L8 w2 (n + 1) v3 σ = (if 4 ≤ v3 then (some σ) else (Option.bind (f_X5_at 20 4 v3 σ) (fun q3 => Option.bind (f_X5_store 20 4 v3 ((q3.1 &&& w2) ||| ((q3.1 >>> (1 &&& 31)) &&& (w2 ^^^ (-1)))) q3.2) (fun q4 => f_X2_forgetBoard_L8 w2 n (v3 + 1) q4)))) := rfl
def f_X2_forgetBoard (p0 : Int32) (σ : gS) : Option (gS) := gLet ((1 <<< (p0 &&& 31)) - 1) (fun x1 => f_X2_forgetBoard_L8 x1 gFu 0 σ)
set_option maxHeartbeats 4000000 in
set_option maxRecDepth 100000 in
theorem w_X2_forgetBoard_L8 (w2 : Int32) {q : gS} (K : gK p s m args meth c G cX2_forgetBoard 5 RX2 none) : ∀ (n : Nat) (v3 : Int32) (σ : gS), f_X2_forgetBoard_L8 w2 n v3 σ = some q → ∀ (H : Heap) (locs : List Loc) (ls : Array Slot), gSt G (entX G o) o 302 s σ H locs → lv_has ls 5 [(0, .ref (o + 17)), (2, .int w2), (3, .int v3)] → W p l e rmX2_forgetBoard s m args below meth c H locs 0 0 (MQ below (gQv G (entX G o) o 302 q) args s 0 0 (gA o 302)) (F0 m 8 ls []) := by
  obtain ⟨hx, hb, hml, hown, hts, -⟩ := id K
  intro n
  induction n with
  | zero =>
    intro v3 σ hf
    exact absurd (show (none : Option _) = some q from hf) (by simp)
  | succ n ih =>
    intro v3 σ hf H locs ls hS hl
    rw [f_X2_forgetBoard_L8_s] at hf
    refine lv_iload_n hx hb dX2_forgetBoard_8 rfl (lv_at hl 2 rfl) ?_
    refine lv_iconst (v := 4) hx hb dX2_forgetBoard_9 (by decide) ?_
    refine lv_icmp_ge (tgt := 50) hx hb dX2_forgetBoard_10 (by decide) (fun c2 => ?_) (fun c2 => ?_)
    · have hf := gIf_t c2 hf
      exact g_vret K hS hf dX2_forgetBoard_50
    · have hf := gIf_f c2 hf
      refine lv_aload_n hx hb dX2_forgetBoard_13 rfl (lv_at hl 0 rfl) ?_
      refine g_get (cx := 17) K hS lF_X2_20 ((eX_17 G o) _) (by decide) rfl dX2_forgetBoard_14 ?_
      refine lv_iload_n hx hb dX2_forgetBoard_17 rfl (lv_at hl 2 rfl) ?_
      obtain ⟨q3, hq3, hf⟩ := Option.bind_eq_some_iff.mp hf
      refine g_Vi (cx := 20) (As := [.int v3]) K hS lV_X2_30 (c_X5_at 20 4 (gRow_20 G o) v3 σ q3 hq3) ((eX_20 G o) _) (by decide) rfl rfl rfl (Nat.le_of_ble_eq_true rfl) ⟨⟨Nat.le_of_ble_eq_true rfl, Nat.le_of_ble_eq_true rfl⟩, rfl, rfl⟩ hl.1 ⟨Nat.zero_le _, Nat.zero_le _⟩ dX2_forgetBoard_18 (fun H locs hS => ?_)
      refine lv_istore (lv' := [(4, .int q3.1), (0, .ref (o + 17)), (2, .int w2), (3, .int v3)]) hx hb dX2_forgetBoard_21 hl (by decide) rfl (fun ls hl => ?_)
      refine lv_aload_n hx hb dX2_forgetBoard_23 rfl (lv_at hl 1 rfl) ?_
      refine g_get (cx := 17) K hS lF_X2_20 ((eX_17 G o) _) (by decide) rfl dX2_forgetBoard_24 ?_
      refine lv_iload_n hx hb dX2_forgetBoard_27 rfl (lv_at hl 3 rfl) ?_
      refine lv_iload hx hb dX2_forgetBoard_28 (lv_at hl 0 rfl) ?_
      refine lv_iload_n hx hb dX2_forgetBoard_30 rfl (lv_at hl 2 rfl) ?_
      refine lv_iand hx hb dX2_forgetBoard_31 ?_
      refine lv_iload hx hb dX2_forgetBoard_32 (lv_at hl 0 rfl) ?_
      refine lv_iconst (v := 1) hx hb dX2_forgetBoard_34 (by decide) ?_
      refine lv_ishr hx hb dX2_forgetBoard_35 ?_
      refine lv_iload_n hx hb dX2_forgetBoard_36 rfl (lv_at hl 2 rfl) ?_
      refine lv_iconst (v := (-1)) hx hb dX2_forgetBoard_37 (by decide) ?_
      refine lv_ixor hx hb dX2_forgetBoard_38 ?_
      refine lv_iand hx hb dX2_forgetBoard_39 ?_
      refine lv_ior hx hb dX2_forgetBoard_40 ?_
      obtain ⟨q4, hq4, hf⟩ := Option.bind_eq_some_iff.mp hf
      refine g_Vv (cx := 20) (As := [.int v3, .int ((q3.1 &&& w2) ||| ((q3.1 >>> (1 &&& 31)) &&& (w2 ^^^ (-1))))]) K hS lV_X2_38 (c_X5_store 20 4 (gRow_20 G o) v3 ((q3.1 &&& w2) ||| ((q3.1 >>> (1 &&& 31)) &&& (w2 ^^^ (-1)))) q3.2 q4 hq4) ((eX_20 G o) _) (by decide) rfl rfl rfl (Nat.le_of_ble_eq_true rfl) ⟨⟨Nat.le_of_ble_eq_true rfl, Nat.le_of_ble_eq_true rfl⟩, rfl, rfl⟩ hl.1 ⟨Nat.zero_le _, Nat.zero_le _⟩ dX2_forgetBoard_41 (fun H locs hS => ?_)
      refine lv_iinc (v := (v3 + 1)) (lv' := [(3, .int (v3 + 1)), (4, .int q3.1), (0, .ref (o + 17)), (2, .int w2)]) hx hb dX2_forgetBoard_44 hl (k := 3) rfl rfl (by decide) rfl (fun ls hl => ?_)
      refine lv_goto (tgt := 8) hx hb dX2_forgetBoard_47 (by decide) ?_
      exact ih (v3 + 1) q4 hf _ _ _ hS (lv_sub hl [2, 3, 0] rfl)
set_option maxHeartbeats 4000000 in
set_option maxRecDepth 100000 in
theorem c_X2_forgetBoard (p0 : Int32) (σ : gS) (q : gS) (hf : f_X2_forgetBoard p0 σ = some q) : Met l yX2_forgetBoard (gW yX2_forgetBoard cX2_forgetBoard 5 none) rmX2_forgetBoard (gPc G (entX G o) o 302 [.ref (o + 17), .int p0] σ) (gQv G (entX G o) o 302 q) 0 0 (gA o 302) := by
  refine g_met (by decide) ⟨rfl, rfl⟩ (fun p e s m args below meth c ls K hS hl => ?_) (Nat.le_of_ble_eq_true rfl)
  have K : gK p s m args meth c G cX2_forgetBoard 5 RX2 none := K
  have hl : lv_has ls 5 [(0, .ref (o + 17)), (1, .int p0)] := hl
  obtain ⟨hx, hb, hml, hown, hts, -⟩ := id K
  unfold f_X2_forgetBoard at hf
  refine lv_iconst (v := 1) hx hb dX2_forgetBoard_0 (by decide) ?_
  refine lv_iload_n hx hb dX2_forgetBoard_1 rfl (lv_at hl 1 rfl) ?_
  refine lv_ishl hx hb dX2_forgetBoard_2 ?_
  refine lv_iconst (v := 1) hx hb dX2_forgetBoard_3 (by decide) ?_
  refine lv_isub hx hb dX2_forgetBoard_4 ?_
  obtain ⟨x1, hx1, hf⟩ := gLet_some hf
  refine g_top hx1 ?_
  refine lv_istore_n (lv' := [(2, .int x1), (0, .ref (o + 17)), (1, .int p0)]) hx hb dX2_forgetBoard_5 rfl hl (by decide) rfl (fun ls hl => ?_)
  refine lv_iconst (v := 0) hx hb dX2_forgetBoard_6 (by decide) ?_
  refine lv_istore_n (lv' := [(3, .int 0), (2, .int x1), (0, .ref (o + 17)), (1, .int p0)]) hx hb dX2_forgetBoard_7 rfl hl (by decide) rfl (fun ls hl => ?_)
  refine w_X2_forgetBoard_L8 x1 K gFu 0 σ hf _ _ _ hS (lv_sub hl [2, 1, 0] rfl)
abbrev rmX6_has_37 : Room := { frames := 0, cells := 0, slots := 0, locals := 0 }
def f_X6_has_37 (p0 : Int32) (σ : gS) : Option (Int32 × gS) := if p0 < 0 then (some (0, σ)) else (if 6 ≤ p0 then (some (0, σ)) else (gGd (gin p0 6) (some (1, σ))))
set_option maxHeartbeats 4000000 in
set_option maxRecDepth 100000 in
theorem c_X6_has_37 (p0 : Int32) (σ : gS) (q : Int32 × gS) (hf : f_X6_has_37 p0 σ = some q) : Met l yX6_has (gW yX6_has cX6_has 2 (some .boolean)) rmX6_has_37 (gPc G (entX G o) o 302 [.ref (o + 37), .int p0] σ) (gQi G (entX G o) o 302 q) 0 0 (gA o 302) := by
  refine g_met (by decide) ⟨rfl, rfl⟩ (fun p e s m args below meth c ls K hS hl => ?_) (Nat.le_of_ble_eq_true rfl)
  have K : gK p s m args meth c G cX6_has 2 RX6 (some .boolean) := K
  have hl : lv_has ls 2 [(0, .ref (o + 37)), (1, .int p0)] := hl
  obtain ⟨hx, hb, hml, hown, hts, -⟩ := id K
  unfold f_X6_has_37 at hf
  refine lv_iload_n hx hb dX6_has_0 rfl (lv_at hl 1 rfl) ?_
  refine lv_if_lt (tgt := 26) hx hb dX6_has_1 (by decide) (fun c1 => ?_) (fun c1 => ?_)
  · have hf := gIf_t c1 hf
    refine lv_iconst (v := 0) hx hb dX6_has_26 (by decide) ?_
    exact g_zret K hS rfl hf dX6_has_27
  · have hf := gIf_f c1 hf
    refine lv_iload_n hx hb dX6_has_4 rfl (lv_at hl 1 rfl) ?_
    refine lv_aload_n hx hb dX6_has_5 rfl (lv_at hl 0 rfl) ?_
    refine g_get (cx := 37) K hS lF_X6_15 ((eX_37 G o) _) (by decide) rfl dX6_has_6 ?_
    refine g_alen (cx := 38) (t0 := 1) (v := 6) K hS ((eX_38 G o) _) (by decide) rfl rfl dX6_has_9 ?_
    refine lv_icmp_ge (tgt := 26) hx hb dX6_has_10 (by decide) (fun c2 => ?_) (fun c2 => ?_)
    · have hf := gIf_t c2 hf
      refine lv_iconst (v := 0) hx hb dX6_has_26 (by decide) ?_
      exact g_zret K hS rfl hf dX6_has_27
    · have hf := gIf_f c2 hf
      refine lv_aload_n hx hb dX6_has_13 rfl (lv_at hl 0 rfl) ?_
      refine g_get (cx := 37) K hS lF_X6_15 ((eX_37 G o) _) (by decide) rfl dX6_has_14 ?_
      refine lv_iload_n hx hb dX6_has_17 rfl (lv_at hl 1 rfl) ?_
      obtain ⟨h3, hf⟩ := gGd_some hf
      refine g_aald (cx := 38) K hS ((eX_38 G o) _) (by decide) h3 dX6_has_18 ?_
      show W _ _ _ _ _ _ _ _ _ _ _ _ _ _ _ (F0 m 19 ls [.ref (o + (39 + 32 * gil p0))])
      refine lv_ifnull hx hb dX6_has_19 ?_
      refine lv_iconst (v := 1) hx hb dX6_has_22 (by decide) ?_
      refine lv_goto (tgt := 27) hx hb dX6_has_23 (by decide) ?_
      exact g_zret K hS rfl hf dX6_has_27
abbrev rmX6_has_231 : Room := { frames := 0, cells := 0, slots := 0, locals := 0 }
def f_X6_has_231 (p0 : Int32) (σ : gS) : Option (Int32 × gS) := if p0 < 0 then (some (0, σ)) else (if 2 ≤ p0 then (some (0, σ)) else (gGd (gin p0 2) (some (1, σ))))
set_option maxHeartbeats 4000000 in
set_option maxRecDepth 100000 in
theorem c_X6_has_231 (p0 : Int32) (σ : gS) (q : Int32 × gS) (hf : f_X6_has_231 p0 σ = some q) : Met l yX6_has (gW yX6_has cX6_has 2 (some .boolean)) rmX6_has_231 (gPc G (entX G o) o 302 [.ref (o + 231), .int p0] σ) (gQi G (entX G o) o 302 q) 0 0 (gA o 302) := by
  refine g_met (by decide) ⟨rfl, rfl⟩ (fun p e s m args below meth c ls K hS hl => ?_) (Nat.le_of_ble_eq_true rfl)
  have K : gK p s m args meth c G cX6_has 2 RX6 (some .boolean) := K
  have hl : lv_has ls 2 [(0, .ref (o + 231)), (1, .int p0)] := hl
  obtain ⟨hx, hb, hml, hown, hts, -⟩ := id K
  unfold f_X6_has_231 at hf
  refine lv_iload_n hx hb dX6_has_0 rfl (lv_at hl 1 rfl) ?_
  refine lv_if_lt (tgt := 26) hx hb dX6_has_1 (by decide) (fun c1 => ?_) (fun c1 => ?_)
  · have hf := gIf_t c1 hf
    refine lv_iconst (v := 0) hx hb dX6_has_26 (by decide) ?_
    exact g_zret K hS rfl hf dX6_has_27
  · have hf := gIf_f c1 hf
    refine lv_iload_n hx hb dX6_has_4 rfl (lv_at hl 1 rfl) ?_
    refine lv_aload_n hx hb dX6_has_5 rfl (lv_at hl 0 rfl) ?_
    refine g_get (cx := 231) K hS lF_X6_15 ((eX_231 G o) _) (by decide) rfl dX6_has_6 ?_
    refine g_alen (cx := 232) (t0 := 1) (v := 2) K hS ((eX_232 G o) _) (by decide) rfl rfl dX6_has_9 ?_
    refine lv_icmp_ge (tgt := 26) hx hb dX6_has_10 (by decide) (fun c2 => ?_) (fun c2 => ?_)
    · have hf := gIf_t c2 hf
      refine lv_iconst (v := 0) hx hb dX6_has_26 (by decide) ?_
      exact g_zret K hS rfl hf dX6_has_27
    · have hf := gIf_f c2 hf
      refine lv_aload_n hx hb dX6_has_13 rfl (lv_at hl 0 rfl) ?_
      refine g_get (cx := 231) K hS lF_X6_15 ((eX_231 G o) _) (by decide) rfl dX6_has_14 ?_
      refine lv_iload_n hx hb dX6_has_17 rfl (lv_at hl 1 rfl) ?_
      obtain ⟨h3, hf⟩ := gGd_some hf
      refine g_aald (cx := 232) K hS ((eX_232 G o) _) (by decide) h3 dX6_has_18 ?_
      show W _ _ _ _ _ _ _ _ _ _ _ _ _ _ _ (F0 m 19 ls [.ref (o + (233 + 32 * gil p0))])
      refine lv_ifnull hx hb dX6_has_19 ?_
      refine lv_iconst (v := 1) hx hb dX6_has_22 (by decide) ?_
      refine lv_goto (tgt := 27) hx hb dX6_has_23 (by decide) ?_
      exact g_zret K hS rfl hf dX6_has_27
abbrev rmX6_keep_37 : Room := { frames := 4, cells := 0, slots := 0, locals := 103 }
def f_X6_keep_37 (p0 : Int32) (σ : gS) : Option (gS) := Option.bind (f_X6_has_37 p0 σ) (fun q1 => if q1.1 = 0 then (some q1.2) else (gGd (gin p0 6) (Option.bind (f_X0_copyFrom (39 + 32 * gil p0) 1 q1.2) (fun q4 => some q4))))
set_option maxHeartbeats 4000000 in
set_option maxRecDepth 100000 in
theorem c_X6_keep_37 (p0 : Int32) (σ : gS) (q : gS) (hf : f_X6_keep_37 p0 σ = some q) : Met l yX6_keep (gW yX6_keep cX6_keep 3 none) rmX6_keep_37 (gPc G (entX G o) o 302 [.ref (o + 37), .int p0, .ref (o + 1)] σ) (gQv G (entX G o) o 302 q) 0 0 (gA o 302) := by
  refine g_met (by decide) ⟨rfl, rfl⟩ (fun p e s m args below meth c ls K hS hl => ?_) (Nat.le_of_ble_eq_true rfl)
  have K : gK p s m args meth c G cX6_keep 3 RX6 none := K
  have hl : lv_has ls 3 [(0, .ref (o + 37)), (1, .int p0), (2, .ref (o + 1))] := hl
  obtain ⟨hx, hb, hml, hown, hts, -⟩ := id K
  unfold f_X6_keep_37 at hf
  refine lv_aload_n hx hb dX6_keep_0 rfl (lv_at hl 0 rfl) ?_
  refine lv_iload_n hx hb dX6_keep_1 rfl (lv_at hl 1 rfl) ?_
  obtain ⟨q1, hq1, hf⟩ := Option.bind_eq_some_iff.mp hf
  refine g_Vi (cx := 37) (As := [.int p0]) K hS lV_X6_22 (c_X6_has_37 p0 σ q1 hq1) ((eX_37 G o) _) (by decide) rfl rfl rfl (Nat.le_of_ble_eq_true rfl) ⟨⟨Nat.le_of_ble_eq_true rfl, Nat.le_of_ble_eq_true rfl⟩, rfl, rfl⟩ hl.1 ⟨Nat.zero_le _, Nat.zero_le _⟩ dX6_keep_2 (fun H locs hS => ?_)
  refine lv_if_eq (tgt := 18) hx hb dX6_keep_5 (by decide) (fun c2 => ?_) (fun c2 => ?_)
  · have hf := gIf_t c2 hf
    exact g_vret K hS hf dX6_keep_18
  · have hf := gIf_f c2 hf
    refine lv_aload_n hx hb dX6_keep_8 rfl (lv_at hl 0 rfl) ?_
    refine g_get (cx := 37) K hS lF_X6_15 ((eX_37 G o) _) (by decide) rfl dX6_keep_9 ?_
    refine lv_iload_n hx hb dX6_keep_12 rfl (lv_at hl 1 rfl) ?_
    obtain ⟨h3, hf⟩ := gGd_some hf
    refine g_aald (cx := 38) K hS ((eX_38 G o) _) (by decide) h3 dX6_keep_13 ?_
    show W _ _ _ _ _ _ _ _ _ _ _ _ _ _ _ (F0 m 14 ls [.ref (o + (39 + 32 * gil p0))])
    refine lv_aload_n hx hb dX6_keep_14 rfl (lv_at hl 2 rfl) ?_
    obtain ⟨q4, hq4, hf⟩ := Option.bind_eq_some_iff.mp hf
    refine g_Vv (cx := (39 + 32 * gil p0)) (As := [.ref (o + 1)]) K hS lV_X6_26 (c_X0_copyFrom (39 + 32 * gil p0) 1 (gIsAt_37 h3) gIsAt_1 q1.2 q4 hq4) ((eA_0 G o (gIsAt_37 h3)) _) (eA_lt (gIsAt_37 h3) 0 (by decide)) rfl rfl rfl (Nat.le_of_ble_eq_true rfl) ⟨⟨Nat.le_of_ble_eq_true rfl, Nat.le_of_ble_eq_true rfl⟩, rfl, rfl⟩ hl.1 ⟨Nat.zero_le _, Nat.zero_le _⟩ dX6_keep_15 (fun H locs hS => ?_)
    exact g_vret K hS hf dX6_keep_18
abbrev rmX6_keep_231 : Room := { frames := 4, cells := 0, slots := 0, locals := 103 }
def f_X6_keep_231 (p0 : Int32) (σ : gS) : Option (gS) := Option.bind (f_X6_has_231 p0 σ) (fun q1 => if q1.1 = 0 then (some q1.2) else (gGd (gin p0 2) (Option.bind (f_X0_copyFrom (233 + 32 * gil p0) 1 q1.2) (fun q4 => some q4))))
set_option maxHeartbeats 4000000 in
set_option maxRecDepth 100000 in
theorem c_X6_keep_231 (p0 : Int32) (σ : gS) (q : gS) (hf : f_X6_keep_231 p0 σ = some q) : Met l yX6_keep (gW yX6_keep cX6_keep 3 none) rmX6_keep_231 (gPc G (entX G o) o 302 [.ref (o + 231), .int p0, .ref (o + 1)] σ) (gQv G (entX G o) o 302 q) 0 0 (gA o 302) := by
  refine g_met (by decide) ⟨rfl, rfl⟩ (fun p e s m args below meth c ls K hS hl => ?_) (Nat.le_of_ble_eq_true rfl)
  have K : gK p s m args meth c G cX6_keep 3 RX6 none := K
  have hl : lv_has ls 3 [(0, .ref (o + 231)), (1, .int p0), (2, .ref (o + 1))] := hl
  obtain ⟨hx, hb, hml, hown, hts, -⟩ := id K
  unfold f_X6_keep_231 at hf
  refine lv_aload_n hx hb dX6_keep_0 rfl (lv_at hl 0 rfl) ?_
  refine lv_iload_n hx hb dX6_keep_1 rfl (lv_at hl 1 rfl) ?_
  obtain ⟨q1, hq1, hf⟩ := Option.bind_eq_some_iff.mp hf
  refine g_Vi (cx := 231) (As := [.int p0]) K hS lV_X6_22 (c_X6_has_231 p0 σ q1 hq1) ((eX_231 G o) _) (by decide) rfl rfl rfl (Nat.le_of_ble_eq_true rfl) ⟨⟨Nat.le_of_ble_eq_true rfl, Nat.le_of_ble_eq_true rfl⟩, rfl, rfl⟩ hl.1 ⟨Nat.zero_le _, Nat.zero_le _⟩ dX6_keep_2 (fun H locs hS => ?_)
  refine lv_if_eq (tgt := 18) hx hb dX6_keep_5 (by decide) (fun c2 => ?_) (fun c2 => ?_)
  · have hf := gIf_t c2 hf
    exact g_vret K hS hf dX6_keep_18
  · have hf := gIf_f c2 hf
    refine lv_aload_n hx hb dX6_keep_8 rfl (lv_at hl 0 rfl) ?_
    refine g_get (cx := 231) K hS lF_X6_15 ((eX_231 G o) _) (by decide) rfl dX6_keep_9 ?_
    refine lv_iload_n hx hb dX6_keep_12 rfl (lv_at hl 1 rfl) ?_
    obtain ⟨h3, hf⟩ := gGd_some hf
    refine g_aald (cx := 232) K hS ((eX_232 G o) _) (by decide) h3 dX6_keep_13 ?_
    show W _ _ _ _ _ _ _ _ _ _ _ _ _ _ _ (F0 m 14 ls [.ref (o + (233 + 32 * gil p0))])
    refine lv_aload_n hx hb dX6_keep_14 rfl (lv_at hl 2 rfl) ?_
    obtain ⟨q4, hq4, hf⟩ := Option.bind_eq_some_iff.mp hf
    refine g_Vv (cx := (233 + 32 * gil p0)) (As := [.ref (o + 1)]) K hS lV_X6_26 (c_X0_copyFrom (233 + 32 * gil p0) 1 (gIsAt_231 h3) gIsAt_1 q1.2 q4 hq4) ((eA_0 G o (gIsAt_231 h3)) _) (eA_lt (gIsAt_231 h3) 0 (by decide)) rfl rfl rfl (Nat.le_of_ble_eq_true rfl) ⟨⟨Nat.le_of_ble_eq_true rfl, Nat.le_of_ble_eq_true rfl⟩, rfl, rfl⟩ hl.1 ⟨Nat.zero_le _, Nat.zero_le _⟩ dX6_keep_15 (fun H locs hS => ?_)
    exact g_vret K hS hf dX6_keep_18
abbrev rmX3_remember : Room := { frames := 5, cells := 0, slots := 0, locals := 125 }
def f_X3_remember (σ : gS) : Option (gS) := Option.bind (f_X6_keep_37 (σ 36 1) σ) (fun q1 => gLet (fun (j2 : Int32) (s3 : gS) => gLet (up2 s3 36 1 j2) (fun s5 => gLet (up2 s5 36 2 (if 6 < ((s5 36 2) + 1) then 6 else ((s5 36 2) + 1))) (fun s7 => some s7))) (fun J4 => if 6 ≤ ((q1 36 1) + 1) then (J4 0 q1) else (J4 ((q1 36 1) + 1) q1)))
set_option maxHeartbeats 4000000 in
set_option maxRecDepth 100000 in
theorem c_X3_remember (σ : gS) (q : gS) (hf : f_X3_remember σ = some q) : Met l yX3_remember (gW yX3_remember cX3_remember 2 none) rmX3_remember (gPc G (entX G o) o 302 [.ref (o + 36), .ref (o + 1)] σ) (gQv G (entX G o) o 302 q) 0 0 (gA o 302) := by
  refine g_met (by decide) ⟨rfl, rfl⟩ (fun p e s m args below meth c ls K hS hl => ?_) (Nat.le_of_ble_eq_true rfl)
  have K : gK p s m args meth c G cX3_remember 2 RX3 none := K
  have hl : lv_has ls 2 [(0, .ref (o + 36)), (1, .ref (o + 1))] := hl
  obtain ⟨hx, hb, hml, hown, hts, -⟩ := id K
  unfold f_X3_remember at hf
  refine lv_aload_n hx hb dX3_remember_0 rfl (lv_at hl 0 rfl) ?_
  refine g_get (cx := 36) K hS lF_X3_14 ((eX_36 G o) _) (by decide) rfl dX3_remember_1 ?_
  refine lv_aload_n hx hb dX3_remember_4 rfl (lv_at hl 0 rfl) ?_
  refine g_get (cx := 36) K hS lF_X3_20 ((eX_36 G o) _) (by decide) rfl dX3_remember_5 ?_
  refine lv_aload_n hx hb dX3_remember_8 rfl (lv_at hl 1 rfl) ?_
  obtain ⟨q1, hq1, hf⟩ := Option.bind_eq_some_iff.mp hf
  refine g_Vv (cx := 37) (As := [.int (σ 36 1), .ref (o + 1)]) K hS lV_X3_24 (c_X6_keep_37 (σ 36 1) σ q1 hq1) ((eX_37 G o) _) (by decide) rfl rfl rfl (Nat.le_of_ble_eq_true rfl) ⟨⟨Nat.le_of_ble_eq_true rfl, Nat.le_of_ble_eq_true rfl⟩, rfl, rfl⟩ hl.1 ⟨Nat.zero_le _, Nat.zero_le _⟩ dX3_remember_9 (fun H locs hS => ?_)
  refine lv_aload_n hx hb dX3_remember_12 rfl (lv_at hl 0 rfl) ?_
  refine lv_aload_n hx hb dX3_remember_13 rfl (lv_at hl 0 rfl) ?_
  refine g_get (cx := 36) K hS lF_X3_20 ((eX_36 G o) _) (by decide) rfl dX3_remember_14 ?_
  refine lv_iconst (v := 1) hx hb dX3_remember_17 (by decide) ?_
  refine lv_iadd hx hb dX3_remember_18 ?_
  refine lv_bipush (v := 6) hx hb dX3_remember_19 (by decide) ?_
  obtain ⟨J4, hJ4, hf⟩ := gLet_some hf
  have wJ4 : ∀ (j2 : Int32) (s3 : gS), J4 j2 s3 = some q → ∀ (H : Heap) (locs : List Loc) (ls : Array Slot), gSt G (entX G o) o 302 s s3 H locs → lv_has ls 2 [(0, .ref (o + 36))] → W p l e rmX3_remember s m args below meth c H locs 0 0 (MQ below (gQv G (entX G o) o 302 q) args s 0 0 (gA o 302)) (F0 m 34 ls [.int j2, .ref (o + 36)]) := by
    intro j2 s3 hf H locs ls hS hl
    rw [hJ4] at hf
    obtain ⟨s5, hs5, hf⟩ := gLet_some hf
    refine g_put (cx := 36) K hS lP_X3_20 (eX_36 G o) (by decide) rfl (Nat.le_of_ble_eq_true rfl) rfl rfl dX3_remember_34 (fun H locs hS => ?_)
    rw [← hs5] at hS
    refine lv_aload_n hx hb dX3_remember_37 rfl (lv_at hl 0 rfl) ?_
    refine lv_aload_n hx hb dX3_remember_38 rfl (lv_at hl 0 rfl) ?_
    refine g_get (cx := 36) K hS lF_X3_28 ((eX_36 G o) _) (by decide) rfl dX3_remember_39 ?_
    refine lv_iconst (v := 1) hx hb dX3_remember_42 (by decide) ?_
    refine lv_iadd hx hb dX3_remember_43 ?_
    refine lv_bipush (v := 6) hx hb dX3_remember_44 (by decide) ?_
    refine g_mmin K hl.1 (gmem 324 (by decide +kernel) rfl) q_static_min q_init_Math q_code_min (Nat.le_of_ble_eq_true rfl) (Nat.le_of_ble_eq_true rfl) (Nat.zero_le _) (Nat.zero_le _) dX3_remember_46 ?_
    obtain ⟨s7, hs7, hf⟩ := gLet_some hf
    refine g_put (cx := 36) K hS lP_X3_28 (eX_36 G o) (by decide) rfl (Nat.le_of_ble_eq_true rfl) rfl rfl dX3_remember_49 (fun H locs hS => ?_)
    rw [← hs7] at hS
    exact g_vret K hS hf dX3_remember_52
  clear hJ4
  refine lv_icmp_ge (tgt := 33) hx hb dX3_remember_21 (by decide) (fun c9 => ?_) (fun c9 => ?_)
  · have hf := gIf_t c9 hf
    refine lv_iconst (v := 0) hx hb dX3_remember_33 (by decide) ?_
    exact wJ4 0 q1 hf _ _ _ hS (lv_sub hl [0] rfl)
  · have hf := gIf_f c9 hf
    refine lv_aload_n hx hb dX3_remember_24 rfl (lv_at hl 0 rfl) ?_
    refine g_get (cx := 36) K hS lF_X3_20 ((eX_36 G o) _) (by decide) rfl dX3_remember_25 ?_
    refine lv_iconst (v := 1) hx hb dX3_remember_28 (by decide) ?_
    refine lv_iadd hx hb dX3_remember_29 ?_
    refine lv_goto (tgt := 34) hx hb dX3_remember_30 (by decide) ?_
    exact wJ4 ((q1 36 1) + 1) q1 hf _ _ _ hS (lv_sub hl [0] rfl)
abbrev rmX7_has : Room := { frames := 1, cells := 0, slots := 0, locals := 22 }
def f_X7_has (p0 : Int32) (σ : gS) : Option (Int32 × gS) := Option.bind (f_X10_isWithin p0 0 ((σ 24 0) - 1) σ) (fun q1 => gGd (gbo q1.1) (some (q1.1, q1.2)))
set_option maxHeartbeats 4000000 in
set_option maxRecDepth 100000 in
theorem c_X7_has (p0 : Int32) (σ : gS) (q : Int32 × gS) (hf : f_X7_has p0 σ = some q) : Met l yX7_has (gW yX7_has cX7_has 2 (some .boolean)) rmX7_has (gPc G (entX G o) o 302 [.ref (o + 24), .int p0] σ) (gQi G (entX G o) o 302 q) 0 0 (gA o 302) := by
  refine g_met (by decide) ⟨rfl, rfl⟩ (fun p e s m args below meth c ls K hS hl => ?_) (Nat.le_of_ble_eq_true rfl)
  have K : gK p s m args meth c G cX7_has 2 RX7 (some .boolean) := K
  have hl : lv_has ls 2 [(0, .ref (o + 24)), (1, .int p0)] := hl
  obtain ⟨hx, hb, hml, hown, hts, -⟩ := id K
  unfold f_X7_has at hf
  refine lv_iload_n hx hb dX7_has_0 rfl (lv_at hl 1 rfl) ?_
  refine lv_iconst (v := 0) hx hb dX7_has_1 (by decide) ?_
  refine lv_aload_n hx hb dX7_has_2 rfl (lv_at hl 0 rfl) ?_
  refine g_get (cx := 24) K hS lF_X7_29 ((eX_24 G o) _) (by decide) rfl dX7_has_3 ?_
  refine lv_iconst (v := 1) hx hb dX7_has_6 (by decide) ?_
  refine lv_isub hx hb dX7_has_7 ?_
  obtain ⟨q1, hq1, hf⟩ := Option.bind_eq_some_iff.mp hf
  refine g_Ni (As := [.int p0, .int 0, .int ((σ 24 0) - 1)]) K hS lN_X7_37 (c_X10_isWithin p0 0 ((σ 24 0) - 1) σ q1 hq1) rfl rfl (Nat.le_of_ble_eq_true rfl) ⟨⟨Nat.le_of_ble_eq_true rfl, Nat.le_of_ble_eq_true rfl⟩, rfl, rfl⟩ hl.1 ⟨Nat.zero_le _, Nat.zero_le _⟩ dX7_has_8 (fun H locs hS => ?_)
  obtain ⟨h2, hf⟩ := gGd_some hf
  exact g_zret K hS (gbo_nar h2) hf dX7_has_11
abbrev rmX7_append : Room := { frames := 1, cells := 0, slots := 0, locals := 22 }
def f_X7_append (p0 : Int32) (p1 : Int32) (σ : gS) : Option (gS) := if (σ 24 0) < 5 then (Option.bind (f_X5_store 25 5 (σ 24 0) p0 σ) (fun q2 => Option.bind (f_X5_store 27 5 (q2 24 0) p1 q2) (fun q3 => Option.bind (f_X5_store 29 5 (q3 24 0) 0 q3) (fun q4 => Option.bind (f_X5_store 31 5 (q4 24 0) 0 q4) (fun q5 => gLet (up2 q5 24 0 ((q5 24 0) + 1)) (fun s6 => some s6)))))) else (some σ)
set_option maxHeartbeats 4000000 in
set_option maxRecDepth 100000 in
theorem c_X7_append (p0 : Int32) (p1 : Int32) (σ : gS) (q : gS) (hf : f_X7_append p0 p1 σ = some q) : Met l yX7_append (gW yX7_append cX7_append 3 none) rmX7_append (gPc G (entX G o) o 302 [.ref (o + 24), .int p0, .int p1] σ) (gQv G (entX G o) o 302 q) 0 0 (gA o 302) := by
  refine g_met (by decide) ⟨rfl, rfl⟩ (fun p e s m args below meth c ls K hS hl => ?_) (Nat.le_of_ble_eq_true rfl)
  have K : gK p s m args meth c G cX7_append 3 RX7 none := K
  have hl : lv_has ls 3 [(0, .ref (o + 24)), (1, .int p0), (2, .int p1)] := hl
  obtain ⟨hx, hb, hml, hown, hts, -⟩ := id K
  unfold f_X7_append at hf
  refine lv_aload_n hx hb dX7_append_0 rfl (lv_at hl 0 rfl) ?_
  refine g_get (cx := 24) K hS lF_X7_29 ((eX_24 G o) _) (by decide) rfl dX7_append_1 ?_
  refine lv_iconst (v := 5) hx hb dX7_append_4 (by decide) ?_
  refine lv_icmp_lt (tgt := 9) hx hb dX7_append_5 (by decide) (fun c1 => ?_) (fun c1 => ?_)
  · have hf := gIf_t c1 hf
    refine lv_aload_n hx hb dX7_append_9 rfl (lv_at hl 0 rfl) ?_
    refine g_get (cx := 24) K hS lF_X7_14 ((eX_24 G o) _) (by decide) rfl dX7_append_10 ?_
    refine lv_aload_n hx hb dX7_append_13 rfl (lv_at hl 0 rfl) ?_
    refine g_get (cx := 24) K hS lF_X7_29 ((eX_24 G o) _) (by decide) rfl dX7_append_14 ?_
    refine lv_iload_n hx hb dX7_append_17 rfl (lv_at hl 1 rfl) ?_
    obtain ⟨q2, hq2, hf⟩ := Option.bind_eq_some_iff.mp hf
    refine g_Vv (cx := 25) (As := [.int (σ 24 0), .int p0]) K hS lV_X7_41 (c_X5_store 25 5 (gRow_25 G o) (σ 24 0) p0 σ q2 hq2) ((eX_25 G o) _) (by decide) rfl rfl rfl (Nat.le_of_ble_eq_true rfl) ⟨⟨Nat.le_of_ble_eq_true rfl, Nat.le_of_ble_eq_true rfl⟩, rfl, rfl⟩ hl.1 ⟨Nat.zero_le _, Nat.zero_le _⟩ dX7_append_18 (fun H locs hS => ?_)
    refine lv_aload_n hx hb dX7_append_21 rfl (lv_at hl 0 rfl) ?_
    refine g_get (cx := 24) K hS lF_X7_20 ((eX_24 G o) _) (by decide) rfl dX7_append_22 ?_
    refine lv_aload_n hx hb dX7_append_25 rfl (lv_at hl 0 rfl) ?_
    refine g_get (cx := 24) K hS lF_X7_29 ((eX_24 G o) _) (by decide) rfl dX7_append_26 ?_
    refine lv_iload_n hx hb dX7_append_29 rfl (lv_at hl 2 rfl) ?_
    obtain ⟨q3, hq3, hf⟩ := Option.bind_eq_some_iff.mp hf
    refine g_Vv (cx := 27) (As := [.int (q2 24 0), .int p1]) K hS lV_X7_41 (c_X5_store 27 5 (gRow_27 G o) (q2 24 0) p1 q2 q3 hq3) ((eX_27 G o) _) (by decide) rfl rfl rfl (Nat.le_of_ble_eq_true rfl) ⟨⟨Nat.le_of_ble_eq_true rfl, Nat.le_of_ble_eq_true rfl⟩, rfl, rfl⟩ hl.1 ⟨Nat.zero_le _, Nat.zero_le _⟩ dX7_append_30 (fun H locs hS => ?_)
    refine lv_aload_n hx hb dX7_append_33 rfl (lv_at hl 0 rfl) ?_
    refine g_get (cx := 24) K hS lF_X7_23 ((eX_24 G o) _) (by decide) rfl dX7_append_34 ?_
    refine lv_aload_n hx hb dX7_append_37 rfl (lv_at hl 0 rfl) ?_
    refine g_get (cx := 24) K hS lF_X7_29 ((eX_24 G o) _) (by decide) rfl dX7_append_38 ?_
    refine lv_iconst (v := 0) hx hb dX7_append_41 (by decide) ?_
    obtain ⟨q4, hq4, hf⟩ := Option.bind_eq_some_iff.mp hf
    refine g_Vv (cx := 29) (As := [.int (q3 24 0), .int 0]) K hS lV_X7_41 (c_X5_store 29 5 (gRow_29 G o) (q3 24 0) 0 q3 q4 hq4) ((eX_29 G o) _) (by decide) rfl rfl rfl (Nat.le_of_ble_eq_true rfl) ⟨⟨Nat.le_of_ble_eq_true rfl, Nat.le_of_ble_eq_true rfl⟩, rfl, rfl⟩ hl.1 ⟨Nat.zero_le _, Nat.zero_le _⟩ dX7_append_42 (fun H locs hS => ?_)
    refine lv_aload_n hx hb dX7_append_45 rfl (lv_at hl 0 rfl) ?_
    refine g_get (cx := 24) K hS lF_X7_26 ((eX_24 G o) _) (by decide) rfl dX7_append_46 ?_
    refine lv_aload_n hx hb dX7_append_49 rfl (lv_at hl 0 rfl) ?_
    refine g_get (cx := 24) K hS lF_X7_29 ((eX_24 G o) _) (by decide) rfl dX7_append_50 ?_
    refine lv_iconst (v := 0) hx hb dX7_append_53 (by decide) ?_
    obtain ⟨q5, hq5, hf⟩ := Option.bind_eq_some_iff.mp hf
    refine g_Vv (cx := 31) (As := [.int (q4 24 0), .int 0]) K hS lV_X7_41 (c_X5_store 31 5 (gRow_31 G o) (q4 24 0) 0 q4 q5 hq5) ((eX_31 G o) _) (by decide) rfl rfl rfl (Nat.le_of_ble_eq_true rfl) ⟨⟨Nat.le_of_ble_eq_true rfl, Nat.le_of_ble_eq_true rfl⟩, rfl, rfl⟩ hl.1 ⟨Nat.zero_le _, Nat.zero_le _⟩ dX7_append_54 (fun H locs hS => ?_)
    refine lv_aload_n hx hb dX7_append_57 rfl (lv_at hl 0 rfl) ?_
    refine lv_dup hx hb dX7_append_58 rfl ?_
    refine g_get (cx := 24) K hS lF_X7_29 ((eX_24 G o) _) (by decide) rfl dX7_append_59 ?_
    refine lv_iconst (v := 1) hx hb dX7_append_62 (by decide) ?_
    refine lv_iadd hx hb dX7_append_63 ?_
    obtain ⟨s6, hs6, hf⟩ := gLet_some hf
    refine g_put (cx := 24) K hS lP_X7_29 (eX_24 G o) (by decide) rfl (Nat.le_of_ble_eq_true rfl) rfl rfl dX7_append_64 (fun H locs hS => ?_)
    rw [← hs6] at hS
    exact g_vret K hS hf dX7_append_67
  · have hf := gIf_f c1 hf
    exact g_vret K hS hf dX7_append_8
abbrev rmX7_whoAreAwake : Room := { frames := 1, cells := 0, slots := 0, locals := 21 }
def f_X7_whoAreAwake_L4 : Nat → Int32 → Int32 → gS → Option (Int32 × gS)
  | 0, _, _, _ => none
  | n + 1, v1, v2, σ => if (σ 24 0) ≤ v2 then (some (v1, σ)) else (Option.bind (f_X5_at 29 5 v2 σ) (fun q2 => if q2.1 ≤ 0 then (f_X7_whoAreAwake_L4 n v1 (v2 + 1) q2.2) else (gLet (v1 ||| (1 <<< (v2 &&& 31))) (fun x4 => f_X7_whoAreAwake_L4 n x4 (v2 + 1) q2.2))))
theorem f_X7_whoAreAwake_L4_s (n : Nat) (v1 : Int32) (v2 : Int32) (σ : gS) : f_X7_whoAreAwake_L4 (n + 1) v1 v2 σ = (if (σ 24 0) ≤ v2 then (some (v1, σ)) else (Option.bind (f_X5_at 29 5 v2 σ) (fun q2 => if q2.1 ≤ 0 then (f_X7_whoAreAwake_L4 n v1 (v2 + 1) q2.2) else (gLet (v1 ||| (1 <<< (v2 &&& 31))) (fun x4 => f_X7_whoAreAwake_L4 n x4 (v2 + 1) q2.2))))) := rfl
def f_X7_whoAreAwake (σ : gS) : Option (Int32 × gS) := f_X7_whoAreAwake_L4 gFu 0 0 σ
set_option maxHeartbeats 4000000 in
set_option maxRecDepth 100000 in
theorem w_X7_whoAreAwake_L4 {q : Int32 × gS} (K : gK p s m args meth c G cX7_whoAreAwake 3 RX7 (some .int)) : ∀ (n : Nat) (v1 : Int32) (v2 : Int32) (σ : gS), f_X7_whoAreAwake_L4 n v1 v2 σ = some q → ∀ (H : Heap) (locs : List Loc) (ls : Array Slot), gSt G (entX G o) o 302 s σ H locs → lv_has ls 3 [(0, .ref (o + 24)), (1, .int v1), (2, .int v2)] → W p l e rmX7_whoAreAwake s m args below meth c H locs 0 0 (MQ below (gQi G (entX G o) o 302 q) args s 0 0 (gA o 302)) (F0 m 4 ls []) := by
  obtain ⟨hx, hb, hml, hown, hts, -⟩ := id K
  intro n
  induction n with
  | zero =>
    intro v1 v2 σ hf
    exact absurd (show (none : Option _) = some q from hf) (by simp)
  | succ n ih =>
    intro v1 v2 σ hf H locs ls hS hl
    rw [f_X7_whoAreAwake_L4_s] at hf
    refine lv_iload_n hx hb dX7_whoAreAwake_4 rfl (lv_at hl 2 rfl) ?_
    refine lv_aload_n hx hb dX7_whoAreAwake_5 rfl (lv_at hl 0 rfl) ?_
    refine g_get (cx := 24) K hS lF_X7_29 ((eX_24 G o) _) (by decide) rfl dX7_whoAreAwake_6 ?_
    refine lv_icmp_ge (tgt := 35) hx hb dX7_whoAreAwake_9 (by decide) (fun c1 => ?_) (fun c1 => ?_)
    · have hf := gIf_t c1 hf
      refine lv_iload_n hx hb dX7_whoAreAwake_35 rfl (lv_at hl 1 rfl) ?_
      exact g_iret K hS hf dX7_whoAreAwake_36
    · have hf := gIf_f c1 hf
      refine lv_aload_n hx hb dX7_whoAreAwake_12 rfl (lv_at hl 0 rfl) ?_
      refine g_get (cx := 24) K hS lF_X7_23 ((eX_24 G o) _) (by decide) rfl dX7_whoAreAwake_13 ?_
      refine lv_iload_n hx hb dX7_whoAreAwake_16 rfl (lv_at hl 2 rfl) ?_
      obtain ⟨q2, hq2, hf⟩ := Option.bind_eq_some_iff.mp hf
      refine g_Vi (cx := 29) (As := [.int v2]) K hS lV_X7_45 (c_X5_at 29 5 (gRow_29 G o) v2 σ q2 hq2) ((eX_29 G o) _) (by decide) rfl rfl rfl (Nat.le_of_ble_eq_true rfl) ⟨⟨Nat.le_of_ble_eq_true rfl, Nat.le_of_ble_eq_true rfl⟩, rfl, rfl⟩ hl.1 ⟨Nat.zero_le _, Nat.zero_le _⟩ dX7_whoAreAwake_17 (fun H locs hS => ?_)
      refine lv_if_le (tgt := 29) hx hb dX7_whoAreAwake_20 (by decide) (fun c3 => ?_) (fun c3 => ?_)
      · have hf := gIf_t c3 hf
        refine lv_iinc (v := (v2 + 1)) (lv' := [(2, .int (v2 + 1)), (0, .ref (o + 24)), (1, .int v1)]) hx hb dX7_whoAreAwake_29 hl (k := 2) rfl rfl (by decide) rfl (fun ls hl => ?_)
        refine lv_goto (tgt := 4) hx hb dX7_whoAreAwake_32 (by decide) ?_
        exact ih v1 (v2 + 1) q2.2 hf _ _ _ hS (lv_sub hl [1, 2, 0] rfl)
      · have hf := gIf_f c3 hf
        refine lv_iload_n hx hb dX7_whoAreAwake_23 rfl (lv_at hl 1 rfl) ?_
        refine lv_iconst (v := 1) hx hb dX7_whoAreAwake_24 (by decide) ?_
        refine lv_iload_n hx hb dX7_whoAreAwake_25 rfl (lv_at hl 2 rfl) ?_
        refine lv_ishl hx hb dX7_whoAreAwake_26 ?_
        refine lv_ior hx hb dX7_whoAreAwake_27 ?_
        obtain ⟨x4, hx4, hf⟩ := gLet_some hf
        refine g_top hx4 ?_
        refine lv_istore_n (lv' := [(1, .int x4), (0, .ref (o + 24)), (2, .int v2)]) hx hb dX7_whoAreAwake_28 rfl hl (by decide) rfl (fun ls hl => ?_)
        refine lv_iinc (v := (v2 + 1)) (lv' := [(2, .int (v2 + 1)), (1, .int x4), (0, .ref (o + 24))]) hx hb dX7_whoAreAwake_29 hl (k := 2) rfl rfl (by decide) rfl (fun ls hl => ?_)
        refine lv_goto (tgt := 4) hx hb dX7_whoAreAwake_32 (by decide) ?_
        exact ih x4 (v2 + 1) q2.2 hf _ _ _ hS (lv_sub hl [2, 1, 0] rfl)
set_option maxHeartbeats 4000000 in
set_option maxRecDepth 100000 in
theorem c_X7_whoAreAwake (σ : gS) (q : Int32 × gS) (hf : f_X7_whoAreAwake σ = some q) : Met l yX7_whoAreAwake (gW yX7_whoAreAwake cX7_whoAreAwake 3 (some .int)) rmX7_whoAreAwake (gPc G (entX G o) o 302 [.ref (o + 24)] σ) (gQi G (entX G o) o 302 q) 0 0 (gA o 302) := by
  refine g_met (by decide) ⟨rfl, rfl⟩ (fun p e s m args below meth c ls K hS hl => ?_) (Nat.le_of_ble_eq_true rfl)
  have K : gK p s m args meth c G cX7_whoAreAwake 3 RX7 (some .int) := K
  have hl : lv_has ls 3 [(0, .ref (o + 24))] := hl
  obtain ⟨hx, hb, hml, hown, hts, -⟩ := id K
  unfold f_X7_whoAreAwake at hf
  refine lv_iconst (v := 0) hx hb dX7_whoAreAwake_0 (by decide) ?_
  refine lv_istore_n (lv' := [(1, .int 0), (0, .ref (o + 24))]) hx hb dX7_whoAreAwake_1 rfl hl (by decide) rfl (fun ls hl => ?_)
  refine lv_iconst (v := 0) hx hb dX7_whoAreAwake_2 (by decide) ?_
  refine lv_istore_n (lv' := [(2, .int 0), (1, .int 0), (0, .ref (o + 24))]) hx hb dX7_whoAreAwake_3 rfl hl (by decide) rfl (fun ls hl => ?_)
  refine w_X7_whoAreAwake_L4 K gFu 0 0 σ hf _ _ _ hS (lv_sub hl [2, 1, 0] rfl)
abbrev rmX8_whyNot : Room := { frames := 3, cells := 0, slots := 0, locals := 70 }
def f_X8_whyNot_L8 (w1 : Int32) (w2 : Int32) (K58 : Int32 → Int32 → gS → Option (Int32 × gS)) : Nat → Int32 → Int32 → Int32 → gS → Option (Int32 × gS)
  | 0, _, _, _, _ => none
  | n + 1, v3, v4, v5, σ => if (σ 4 0) ≤ v5 then (K58 v3 v4 σ) else (Option.bind (f_X10_holds w1 v5 σ) (fun q2 => if q2.1 = 0 then (f_X8_whyNot_L8 w1 w2 K58 n v3 v4 (v5 + 1) q2.2) else (Option.bind (f_X5_at 9 20 v5 q2.2) (fun q4 => gLet (v3 ^^^ q4.1) (fun x5 => Option.bind (f_X5_at 9 20 v5 q4.2) (fun q6 => gLet (v4 ||| q6.1) (fun x7 => f_X8_whyNot_L8 w1 w2 K58 n x5 x7 (v5 + 1) q6.2)))))))
theorem f_X8_whyNot_L8_s (w1 : Int32) (w2 : Int32) (K58 : Int32 → Int32 → gS → Option (Int32 × gS)) (n : Nat) (v3 : Int32) (v4 : Int32) (v5 : Int32) (σ : gS) : f_X8_whyNot_L8 w1 w2 K58 (n + 1) v3 v4 v5 σ = (if (σ 4 0) ≤ v5 then (K58 v3 v4 σ) else (Option.bind (f_X10_holds w1 v5 σ) (fun q2 => if q2.1 = 0 then (f_X8_whyNot_L8 w1 w2 K58 n v3 v4 (v5 + 1) q2.2) else (Option.bind (f_X5_at 9 20 v5 q2.2) (fun q4 => gLet (v3 ^^^ q4.1) (fun x5 => Option.bind (f_X5_at 9 20 v5 q4.2) (fun q6 => gLet (v4 ||| q6.1) (fun x7 => f_X8_whyNot_L8 w1 w2 K58 n x5 x7 (v5 + 1) q6.2)))))))) := rfl
def f_X8_whyNot (p0 : Int32) (p1 : Int32) (σ : gS) : Option (Int32 × gS) := f_X8_whyNot_L8 p0 p1 (fun (k8 : Int32) (k9 : Int32) (s10 : gS) => if p0 = 0 then (some (1, s10)) else (Option.bind (f_X10_holds k9 p1 s10) (fun q12 => if q12.1 = 0 then (some (2, q12.2)) else (Option.bind (f_X1_roomsFrom p1 p0 q12.2) (fun q14 => if (k9 &&& (q14.1 ^^^ (-1))) = 0 then (Option.bind (f_J6_bitCount_0f7a4 k8 q14.2) (fun q16 => if q16.1 ≤ 2 then (if k8 = 0 then (some (0, q16.2)) else (Option.bind (f_X10_holds k8 p1 q16.2) (fun q19 => if q19.1 = 0 then (some (5, q19.2)) else (some (0, q19.2))))) else (some (4, q16.2)))) else (some (3, q14.2))))))) gFu 0 0 0 σ
set_option maxHeartbeats 4000000 in
set_option maxRecDepth 100000 in
theorem w_X8_whyNot_L8 (w1 : Int32) (w2 : Int32) (K58 : Int32 → Int32 → gS → Option (Int32 × gS)) {q : Int32 × gS} (K : gK p s m args meth c G cX8_whyNot 6 RX8 (some .int)) (hK58 : ∀ (k3 : Int32) (k4 : Int32) (σ : gS), K58 k3 k4 σ = some q → ∀ (H : Heap) (locs : List Loc) (ls : Array Slot), gSt G (entX G o) o 302 s σ H locs → lv_has ls 6 [(0, .ref (o + 4)), (1, .int w1), (2, .int w2), (3, .int k3), (4, .int k4)] → W p l e rmX8_whyNot s m args below meth c H locs 0 0 (MQ below (gQi G (entX G o) o 302 q) args s 0 0 (gA o 302)) (F0 m 58 ls [])) : ∀ (n : Nat) (v3 : Int32) (v4 : Int32) (v5 : Int32) (σ : gS), f_X8_whyNot_L8 w1 w2 K58 n v3 v4 v5 σ = some q → ∀ (H : Heap) (locs : List Loc) (ls : Array Slot), gSt G (entX G o) o 302 s σ H locs → lv_has ls 6 [(0, .ref (o + 4)), (1, .int w1), (2, .int w2), (3, .int v3), (4, .int v4), (5, .int v5)] → W p l e rmX8_whyNot s m args below meth c H locs 0 0 (MQ below (gQi G (entX G o) o 302 q) args s 0 0 (gA o 302)) (F0 m 8 ls []) := by
  obtain ⟨hx, hb, hml, hown, hts, -⟩ := id K
  intro n
  induction n with
  | zero =>
    intro v3 v4 v5 σ hf
    exact absurd (show (none : Option _) = some q from hf) (by simp)
  | succ n ih =>
    intro v3 v4 v5 σ hf H locs ls hS hl
    rw [f_X8_whyNot_L8_s] at hf
    refine lv_iload hx hb dX8_whyNot_8 (lv_at hl 5 rfl) ?_
    refine lv_aload_n hx hb dX8_whyNot_10 rfl (lv_at hl 0 rfl) ?_
    refine g_get (cx := 4) K hS lF_X8_9 ((eX_4 G o) _) (by decide) rfl dX8_whyNot_11 ?_
    refine lv_icmp_ge (tgt := 58) hx hb dX8_whyNot_14 (by decide) (fun c1 => ?_) (fun c1 => ?_)
    · have hf := gIf_t c1 hf
      exact hK58 v3 v4 σ hf _ _ _ hS (lv_sub hl [0, 1, 2, 3, 4] rfl)
    · have hf := gIf_f c1 hf
      refine lv_iload_n hx hb dX8_whyNot_17 rfl (lv_at hl 1 rfl) ?_
      refine lv_iload hx hb dX8_whyNot_18 (lv_at hl 5 rfl) ?_
      obtain ⟨q2, hq2, hf⟩ := Option.bind_eq_some_iff.mp hf
      refine g_Ni (As := [.int w1, .int v5]) K hS lN_X8_15 (c_X10_holds w1 v5 σ q2 hq2) rfl rfl (Nat.le_of_ble_eq_true rfl) ⟨⟨Nat.le_of_ble_eq_true rfl, Nat.le_of_ble_eq_true rfl⟩, rfl, rfl⟩ hl.1 ⟨Nat.zero_le _, Nat.zero_le _⟩ dX8_whyNot_20 (fun H locs hS => ?_)
      refine lv_if_eq (tgt := 52) hx hb dX8_whyNot_23 (by decide) (fun c3 => ?_) (fun c3 => ?_)
      · have hf := gIf_t c3 hf
        refine lv_iinc (v := (v5 + 1)) (lv' := [(5, .int (v5 + 1)), (0, .ref (o + 4)), (1, .int w1), (2, .int w2), (3, .int v3), (4, .int v4)]) hx hb dX8_whyNot_52 hl (k := 5) rfl rfl (by decide) rfl (fun ls hl => ?_)
        refine lv_goto (tgt := 8) hx hb dX8_whyNot_55 (by decide) ?_
        exact ih v3 v4 (v5 + 1) q2.2 hf _ _ _ hS (lv_sub hl [1, 2, 3, 4, 5, 0] rfl)
      · have hf := gIf_f c3 hf
        refine lv_iload_n hx hb dX8_whyNot_26 rfl (lv_at hl 3 rfl) ?_
        refine lv_aload_n hx hb dX8_whyNot_27 rfl (lv_at hl 0 rfl) ?_
        refine g_get (cx := 4) K hS lF_X8_19 ((eX_4 G o) _) (by decide) rfl dX8_whyNot_28 ?_
        refine lv_iload hx hb dX8_whyNot_31 (lv_at hl 5 rfl) ?_
        obtain ⟨q4, hq4, hf⟩ := Option.bind_eq_some_iff.mp hf
        refine g_Vi (cx := 9) (As := [.int v5]) K hS lV_X8_23 (c_X5_at 9 20 (gRow_9 G o) v5 q2.2 q4 hq4) ((eX_9 G o) _) (by decide) rfl rfl rfl (Nat.le_of_ble_eq_true rfl) ⟨⟨Nat.le_of_ble_eq_true rfl, Nat.le_of_ble_eq_true rfl⟩, rfl, rfl⟩ hl.1 ⟨Nat.zero_le _, Nat.zero_le _⟩ dX8_whyNot_33 (fun H locs hS => ?_)
        refine lv_ixor hx hb dX8_whyNot_36 ?_
        obtain ⟨x5, hx5, hf⟩ := gLet_some hf
        refine g_top hx5 ?_
        refine lv_istore_n (lv' := [(3, .int x5), (0, .ref (o + 4)), (1, .int w1), (2, .int w2), (4, .int v4), (5, .int v5)]) hx hb dX8_whyNot_37 rfl hl (by decide) rfl (fun ls hl => ?_)
        refine lv_iload hx hb dX8_whyNot_38 (lv_at hl 4 rfl) ?_
        refine lv_aload_n hx hb dX8_whyNot_40 rfl (lv_at hl 1 rfl) ?_
        refine g_get (cx := 4) K hS lF_X8_19 ((eX_4 G o) _) (by decide) rfl dX8_whyNot_41 ?_
        refine lv_iload hx hb dX8_whyNot_44 (lv_at hl 5 rfl) ?_
        obtain ⟨q6, hq6, hf⟩ := Option.bind_eq_some_iff.mp hf
        refine g_Vi (cx := 9) (As := [.int v5]) K hS lV_X8_23 (c_X5_at 9 20 (gRow_9 G o) v5 q4.2 q6 hq6) ((eX_9 G o) _) (by decide) rfl rfl rfl (Nat.le_of_ble_eq_true rfl) ⟨⟨Nat.le_of_ble_eq_true rfl, Nat.le_of_ble_eq_true rfl⟩, rfl, rfl⟩ hl.1 ⟨Nat.zero_le _, Nat.zero_le _⟩ dX8_whyNot_46 (fun H locs hS => ?_)
        refine lv_ior hx hb dX8_whyNot_49 ?_
        obtain ⟨x7, hx7, hf⟩ := gLet_some hf
        refine g_top hx7 ?_
        refine lv_istore (lv' := [(4, .int x7), (3, .int x5), (0, .ref (o + 4)), (1, .int w1), (2, .int w2), (5, .int v5)]) hx hb dX8_whyNot_50 hl (by decide) rfl (fun ls hl => ?_)
        refine lv_iinc (v := (v5 + 1)) (lv' := [(5, .int (v5 + 1)), (4, .int x7), (3, .int x5), (0, .ref (o + 4)), (1, .int w1), (2, .int w2)]) hx hb dX8_whyNot_52 hl (k := 5) rfl rfl (by decide) rfl (fun ls hl => ?_)
        refine lv_goto (tgt := 8) hx hb dX8_whyNot_55 (by decide) ?_
        exact ih x5 x7 (v5 + 1) q6.2 hf _ _ _ hS (lv_sub hl [3, 4, 5, 2, 1, 0] rfl)
set_option maxHeartbeats 4000000 in
set_option maxRecDepth 100000 in
theorem c_X8_whyNot (p0 : Int32) (p1 : Int32) (σ : gS) (q : Int32 × gS) (hf : f_X8_whyNot p0 p1 σ = some q) : Met l yX8_whyNot (gW yX8_whyNot cX8_whyNot 6 (some .int)) rmX8_whyNot (gPc G (entX G o) o 302 [.ref (o + 4), .int p0, .int p1] σ) (gQi G (entX G o) o 302 q) 0 0 (gA o 302) := by
  refine g_met (by decide) ⟨rfl, rfl⟩ (fun p e s m args below meth c ls K hS hl => ?_) (Nat.le_of_ble_eq_true rfl)
  have K : gK p s m args meth c G cX8_whyNot 6 RX8 (some .int) := K
  have hl : lv_has ls 6 [(0, .ref (o + 4)), (1, .int p0), (2, .int p1)] := hl
  obtain ⟨hx, hb, hml, hown, hts, -⟩ := id K
  unfold f_X8_whyNot at hf
  refine lv_iconst (v := 0) hx hb dX8_whyNot_0 (by decide) ?_
  refine lv_istore_n (lv' := [(3, .int 0), (0, .ref (o + 4)), (1, .int p0), (2, .int p1)]) hx hb dX8_whyNot_1 rfl hl (by decide) rfl (fun ls hl => ?_)
  refine lv_iconst (v := 0) hx hb dX8_whyNot_2 (by decide) ?_
  refine lv_istore (lv' := [(4, .int 0), (3, .int 0), (0, .ref (o + 4)), (1, .int p0), (2, .int p1)]) hx hb dX8_whyNot_3 hl (by decide) rfl (fun ls hl => ?_)
  refine lv_iconst (v := 0) hx hb dX8_whyNot_5 (by decide) ?_
  refine lv_istore (lv' := [(5, .int 0), (4, .int 0), (3, .int 0), (0, .ref (o + 4)), (1, .int p0), (2, .int p1)]) hx hb dX8_whyNot_6 hl (by decide) rfl (fun ls hl => ?_)
  refine w_X8_whyNot_L8 p0 p1 _ K ?_ gFu 0 0 0 σ hf _ _ _ hS (lv_sub hl [3, 4, 5, 2, 1, 0] rfl)
  · intro k8 k9 s10 hf H locs ls hS hl
    refine lv_iload_n hx hb dX8_whyNot_58 rfl (lv_at hl 1 rfl) ?_
    refine lv_if_ne (tgt := 64) hx hb dX8_whyNot_59 (by decide) (fun c11 => ?_) (fun c11 => ?_)
    · have hf := gIf_f c11 hf
      refine lv_iload hx hb dX8_whyNot_64 (lv_at hl 4 rfl) ?_
      refine lv_iload_n hx hb dX8_whyNot_66 rfl (lv_at hl 2 rfl) ?_
      obtain ⟨q12, hq12, hf⟩ := Option.bind_eq_some_iff.mp hf
      refine g_Ni (As := [.int k9, .int p1]) K hS lN_X8_15 (c_X10_holds k9 p1 s10 q12 hq12) rfl rfl (Nat.le_of_ble_eq_true rfl) ⟨⟨Nat.le_of_ble_eq_true rfl, Nat.le_of_ble_eq_true rfl⟩, rfl, rfl⟩ hl.1 ⟨Nat.zero_le _, Nat.zero_le _⟩ dX8_whyNot_67 (fun H locs hS => ?_)
      refine lv_if_ne (tgt := 75) hx hb dX8_whyNot_70 (by decide) (fun c13 => ?_) (fun c13 => ?_)
      · have hf := gIf_f c13 hf
        refine lv_iload hx hb dX8_whyNot_75 (lv_at hl 4 rfl) ?_
        refine lv_aload_n hx hb dX8_whyNot_77 rfl (lv_at hl 0 rfl) ?_
        refine lv_iload_n hx hb dX8_whyNot_78 rfl (lv_at hl 2 rfl) ?_
        refine lv_iload_n hx hb dX8_whyNot_79 rfl (lv_at hl 1 rfl) ?_
        obtain ⟨q14, hq14, hf⟩ := Option.bind_eq_some_iff.mp hf
        refine g_Vi (cx := 4) (As := [.int p1, .int p0]) K hS lV_X8_31 (c_X1_roomsFrom p1 p0 q12.2 q14 hq14) ((eX_4 G o) _) (by decide) rfl rfl rfl (Nat.le_of_ble_eq_true rfl) ⟨⟨Nat.le_of_ble_eq_true rfl, Nat.le_of_ble_eq_true rfl⟩, rfl, rfl⟩ hl.1 ⟨Nat.zero_le _, Nat.zero_le _⟩ dX8_whyNot_80 (fun H locs hS => ?_)
        refine lv_iconst (v := (-1)) hx hb dX8_whyNot_83 (by decide) ?_
        refine lv_ixor hx hb dX8_whyNot_84 ?_
        refine lv_iand hx hb dX8_whyNot_85 ?_
        refine lv_if_eq (tgt := 91) hx hb dX8_whyNot_86 (by decide) (fun c15 => ?_) (fun c15 => ?_)
        · have hf := gIf_t c15 hf
          refine lv_iload_n hx hb dX8_whyNot_91 rfl (lv_at hl 3 rfl) ?_
          obtain ⟨q16, hq16, hf⟩ := Option.bind_eq_some_iff.mp hf
          refine g_Si (As := [.int k8]) K hS lS_X8_35 (c_J6_bitCount_0f7a4 k8 q14.2 q16 hq16) rfl rfl (Nat.le_of_ble_eq_true rfl) ⟨⟨Nat.le_of_ble_eq_true rfl, Nat.le_of_ble_eq_true rfl⟩, rfl, rfl⟩ hl.1 ⟨Nat.zero_le _, Nat.zero_le _⟩ dX8_whyNot_92 (fun H locs hS => ?_)
          refine lv_iconst (v := 2) hx hb dX8_whyNot_95 (by decide) ?_
          refine lv_icmp_le (tgt := 101) hx hb dX8_whyNot_96 (by decide) (fun c17 => ?_) (fun c17 => ?_)
          · have hf := gIf_t c17 hf
            refine lv_iload_n hx hb dX8_whyNot_101 rfl (lv_at hl 3 rfl) ?_
            refine lv_if_eq (tgt := 113) hx hb dX8_whyNot_102 (by decide) (fun c18 => ?_) (fun c18 => ?_)
            · have hf := gIf_t c18 hf
              refine lv_iconst (v := 0) hx hb dX8_whyNot_113 (by decide) ?_
              refine lv_goto (tgt := 118) hx hb dX8_whyNot_114 (by decide) ?_
              exact g_iret K hS hf dX8_whyNot_118
            · have hf := gIf_f c18 hf
              refine lv_iload_n hx hb dX8_whyNot_105 rfl (lv_at hl 3 rfl) ?_
              refine lv_iload_n hx hb dX8_whyNot_106 rfl (lv_at hl 2 rfl) ?_
              obtain ⟨q19, hq19, hf⟩ := Option.bind_eq_some_iff.mp hf
              refine g_Ni (As := [.int k8, .int p1]) K hS lN_X8_15 (c_X10_holds k8 p1 q16.2 q19 hq19) rfl rfl (Nat.le_of_ble_eq_true rfl) ⟨⟨Nat.le_of_ble_eq_true rfl, Nat.le_of_ble_eq_true rfl⟩, rfl, rfl⟩ hl.1 ⟨Nat.zero_le _, Nat.zero_le _⟩ dX8_whyNot_107 (fun H locs hS => ?_)
              refine lv_if_eq (tgt := 117) hx hb dX8_whyNot_110 (by decide) (fun c20 => ?_) (fun c20 => ?_)
              · have hf := gIf_t c20 hf
                refine lv_iconst (v := 5) hx hb dX8_whyNot_117 (by decide) ?_
                exact g_iret K hS hf dX8_whyNot_118
              · have hf := gIf_f c20 hf
                refine lv_iconst (v := 0) hx hb dX8_whyNot_113 (by decide) ?_
                refine lv_goto (tgt := 118) hx hb dX8_whyNot_114 (by decide) ?_
                exact g_iret K hS hf dX8_whyNot_118
          · have hf := gIf_f c17 hf
            refine lv_iconst (v := 4) hx hb dX8_whyNot_99 (by decide) ?_
            exact g_iret K hS hf dX8_whyNot_100
        · have hf := gIf_f c15 hf
          refine lv_iconst (v := 3) hx hb dX8_whyNot_89 (by decide) ?_
          exact g_iret K hS hf dX8_whyNot_90
      · have hf := gIf_t c13 hf
        refine lv_iconst (v := 2) hx hb dX8_whyNot_73 (by decide) ?_
        exact g_iret K hS hf dX8_whyNot_74
    · have hf := gIf_t c11 hf
      refine lv_iconst (v := 1) hx hb dX8_whyNot_62 (by decide) ?_
      exact g_iret K hS hf dX8_whyNot_63
abbrev rmX8_firstBoard : Room := { frames := 4, cells := 0, slots := 0, locals := 95 }
def f_X8_firstBoard_L13 (w1 : Int32) (w2 : Int32) (w3 : Int32) : Nat → Int32 → gS → Option (Int32 × gS)
  | 0, _, _ => none
  | n + 1, v4, σ => if (σ 4 0) ≤ v4 then (some ((-6), σ)) else (Option.bind (f_X10_holds w3 v4 σ) (fun q4 => if q4.1 = 0 then (f_X8_firstBoard_L13 w1 w2 w3 n (v4 + 1) q4.2) else (gLet (w1 &&& ((1 <<< (v4 &&& 31)) ^^^ (-1))) (fun x6 => if x6 = 0 then (some (v4, q4.2)) else (Option.bind (f_X1_beyond v4 w2 q4.2) (fun q8 => Option.bind (f_X8_whyNot x6 q8.1 q8.2) (fun q9 => if q9.1 = 0 then (some (v4, q9.2)) else (f_X8_firstBoard_L13 w1 w2 w3 n (v4 + 1) q9.2))))))))
theorem f_X8_firstBoard_L13_s (w1 : Int32) (w2 : Int32) (w3 : Int32) (n : Nat) (v4 : Int32) (σ : gS) : f_X8_firstBoard_L13 w1 w2 w3 (n + 1) v4 σ = (if (σ 4 0) ≤ v4 then (some ((-6), σ)) else (Option.bind (f_X10_holds w3 v4 σ) (fun q4 => if q4.1 = 0 then (f_X8_firstBoard_L13 w1 w2 w3 n (v4 + 1) q4.2) else (gLet (w1 &&& ((1 <<< (v4 &&& 31)) ^^^ (-1))) (fun x6 => if x6 = 0 then (some (v4, q4.2)) else (Option.bind (f_X1_beyond v4 w2 q4.2) (fun q8 => Option.bind (f_X8_whyNot x6 q8.1 q8.2) (fun q9 => if q9.1 = 0 then (some (v4, q9.2)) else (f_X8_firstBoard_L13 w1 w2 w3 n (v4 + 1) q9.2))))))))) := rfl
def f_X8_firstBoard (p0 : Int32) (p1 : Int32) (σ : gS) : Option (Int32 × gS) := Option.bind (f_X1_touching (1 <<< (p1 &&& 31)) σ) (fun q1 => gLet (p0 &&& q1.1) (fun x2 => f_X8_firstBoard_L13 p0 p1 x2 gFu 0 q1.2))
set_option maxHeartbeats 4000000 in
set_option maxRecDepth 100000 in
theorem w_X8_firstBoard_L13 (w1 : Int32) (w2 : Int32) (w3 : Int32) {q : Int32 × gS} (K : gK p s m args meth c G cX8_firstBoard 6 RX8 (some .int)) : ∀ (n : Nat) (v4 : Int32) (σ : gS), f_X8_firstBoard_L13 w1 w2 w3 n v4 σ = some q → ∀ (H : Heap) (locs : List Loc) (ls : Array Slot), gSt G (entX G o) o 302 s σ H locs → lv_has ls 6 [(0, .ref (o + 4)), (1, .int w1), (2, .int w2), (3, .int w3), (4, .int v4)] → W p l e rmX8_firstBoard s m args below meth c H locs 0 0 (MQ below (gQi G (entX G o) o 302 q) args s 0 0 (gA o 302)) (F0 m 13 ls []) := by
  obtain ⟨hx, hb, hml, hown, hts, -⟩ := id K
  intro n
  induction n with
  | zero =>
    intro v4 σ hf
    exact absurd (show (none : Option _) = some q from hf) (by simp)
  | succ n ih =>
    intro v4 σ hf H locs ls hS hl
    rw [f_X8_firstBoard_L13_s] at hf
    refine lv_iload hx hb dX8_firstBoard_13 (lv_at hl 4 rfl) ?_
    refine lv_aload_n hx hb dX8_firstBoard_15 rfl (lv_at hl 0 rfl) ?_
    refine g_get (cx := 4) K hS lF_X8_9 ((eX_4 G o) _) (by decide) rfl dX8_firstBoard_16 ?_
    refine lv_icmp_ge (tgt := 71) hx hb dX8_firstBoard_19 (by decide) (fun c3 => ?_) (fun c3 => ?_)
    · have hf := gIf_t c3 hf
      refine lv_bipush (v := (-6)) hx hb dX8_firstBoard_71 (by decide) ?_
      exact g_iret K hS hf dX8_firstBoard_73
    · have hf := gIf_f c3 hf
      refine lv_iload_n hx hb dX8_firstBoard_22 rfl (lv_at hl 3 rfl) ?_
      refine lv_iload hx hb dX8_firstBoard_23 (lv_at hl 4 rfl) ?_
      obtain ⟨q4, hq4, hf⟩ := Option.bind_eq_some_iff.mp hf
      refine g_Ni (As := [.int w3, .int v4]) K hS lN_X8_15 (c_X10_holds w3 v4 σ q4 hq4) rfl rfl (Nat.le_of_ble_eq_true rfl) ⟨⟨Nat.le_of_ble_eq_true rfl, Nat.le_of_ble_eq_true rfl⟩, rfl, rfl⟩ hl.1 ⟨Nat.zero_le _, Nat.zero_le _⟩ dX8_firstBoard_25 (fun H locs hS => ?_)
      refine lv_if_eq (tgt := 65) hx hb dX8_firstBoard_28 (by decide) (fun c5 => ?_) (fun c5 => ?_)
      · have hf := gIf_t c5 hf
        refine lv_iinc (v := (v4 + 1)) (lv' := [(4, .int (v4 + 1)), (0, .ref (o + 4)), (1, .int w1), (2, .int w2), (3, .int w3)]) hx hb dX8_firstBoard_65 hl (k := 4) rfl rfl (by decide) rfl (fun ls hl => ?_)
        refine lv_goto (tgt := 13) hx hb dX8_firstBoard_68 (by decide) ?_
        exact ih (v4 + 1) q4.2 hf _ _ _ hS (lv_sub hl [1, 2, 3, 4, 0] rfl)
      · have hf := gIf_f c5 hf
        refine lv_iload_n hx hb dX8_firstBoard_31 rfl (lv_at hl 1 rfl) ?_
        refine lv_iconst (v := 1) hx hb dX8_firstBoard_32 (by decide) ?_
        refine lv_iload hx hb dX8_firstBoard_33 (lv_at hl 4 rfl) ?_
        refine lv_ishl hx hb dX8_firstBoard_35 ?_
        refine lv_iconst (v := (-1)) hx hb dX8_firstBoard_36 (by decide) ?_
        refine lv_ixor hx hb dX8_firstBoard_37 ?_
        refine lv_iand hx hb dX8_firstBoard_38 ?_
        obtain ⟨x6, hx6, hf⟩ := gLet_some hf
        refine g_top hx6 ?_
        refine lv_istore (lv' := [(5, .int x6), (0, .ref (o + 4)), (1, .int w1), (2, .int w2), (3, .int w3), (4, .int v4)]) hx hb dX8_firstBoard_39 hl (by decide) rfl (fun ls hl => ?_)
        refine lv_iload hx hb dX8_firstBoard_41 (lv_at hl 0 rfl) ?_
        refine lv_if_eq (tgt := 62) hx hb dX8_firstBoard_43 (by decide) (fun c7 => ?_) (fun c7 => ?_)
        · have hf := gIf_t c7 hf
          refine lv_iload hx hb dX8_firstBoard_62 (lv_at hl 5 rfl) ?_
          exact g_iret K hS hf dX8_firstBoard_64
        · have hf := gIf_f c7 hf
          refine lv_aload_n hx hb dX8_firstBoard_46 rfl (lv_at hl 1 rfl) ?_
          refine lv_iload hx hb dX8_firstBoard_47 (lv_at hl 0 rfl) ?_
          refine lv_aload_n hx hb dX8_firstBoard_49 rfl (lv_at hl 1 rfl) ?_
          refine lv_iload hx hb dX8_firstBoard_50 (lv_at hl 5 rfl) ?_
          refine lv_iload_n hx hb dX8_firstBoard_52 rfl (lv_at hl 3 rfl) ?_
          obtain ⟨q8, hq8, hf⟩ := Option.bind_eq_some_iff.mp hf
          refine g_Vi (cx := 4) (As := [.int v4, .int w2]) K hS lV_X8_44 (c_X1_beyond v4 w2 q4.2 q8 hq8) ((eX_4 G o) _) (by decide) rfl rfl rfl (Nat.le_of_ble_eq_true rfl) ⟨⟨Nat.le_of_ble_eq_true rfl, Nat.le_of_ble_eq_true rfl⟩, rfl, rfl⟩ hl.1 ⟨Nat.zero_le _, Nat.zero_le _⟩ dX8_firstBoard_53 (fun H locs hS => ?_)
          obtain ⟨q9, hq9, hf⟩ := Option.bind_eq_some_iff.mp hf
          refine g_Si (As := [.ref (o + 4), .int x6, .int q8.1]) K hS lS_X8_50 (c_X8_whyNot x6 q8.1 q8.2 q9 hq9) rfl rfl (Nat.le_of_ble_eq_true rfl) ⟨⟨Nat.le_of_ble_eq_true rfl, Nat.le_of_ble_eq_true rfl⟩, rfl, rfl⟩ hl.1 ⟨Nat.zero_le _, Nat.zero_le _⟩ dX8_firstBoard_56 (fun H locs hS => ?_)
          refine lv_if_ne (tgt := 65) hx hb dX8_firstBoard_59 (by decide) (fun c10 => ?_) (fun c10 => ?_)
          · have hf := gIf_f c10 hf
            refine lv_iinc (v := (v4 + 1)) (lv' := [(4, .int (v4 + 1)), (5, .int x6), (0, .ref (o + 4)), (1, .int w1), (2, .int w2), (3, .int w3)]) hx hb dX8_firstBoard_65 hl (k := 5) rfl rfl (by decide) rfl (fun ls hl => ?_)
            refine lv_goto (tgt := 13) hx hb dX8_firstBoard_68 (by decide) ?_
            exact ih (v4 + 1) q9.2 hf _ _ _ hS (lv_sub hl [2, 3, 4, 5, 0] rfl)
          · have hf := gIf_t c10 hf
            refine lv_iload hx hb dX8_firstBoard_62 (lv_at hl 5 rfl) ?_
            exact g_iret K hS hf dX8_firstBoard_64
set_option maxHeartbeats 4000000 in
set_option maxRecDepth 100000 in
theorem c_X8_firstBoard (p0 : Int32) (p1 : Int32) (σ : gS) (q : Int32 × gS) (hf : f_X8_firstBoard p0 p1 σ = some q) : Met l yX8_firstBoard (gW yX8_firstBoard cX8_firstBoard 6 (some .int)) rmX8_firstBoard (gPc G (entX G o) o 302 [.ref (o + 4), .int p0, .int p1] σ) (gQi G (entX G o) o 302 q) 0 0 (gA o 302) := by
  refine g_met (by decide) ⟨rfl, rfl⟩ (fun p e s m args below meth c ls K hS hl => ?_) (Nat.le_of_ble_eq_true rfl)
  have K : gK p s m args meth c G cX8_firstBoard 6 RX8 (some .int) := K
  have hl : lv_has ls 6 [(0, .ref (o + 4)), (1, .int p0), (2, .int p1)] := hl
  obtain ⟨hx, hb, hml, hown, hts, -⟩ := id K
  unfold f_X8_firstBoard at hf
  refine lv_iload_n hx hb dX8_firstBoard_0 rfl (lv_at hl 1 rfl) ?_
  refine lv_aload_n hx hb dX8_firstBoard_1 rfl (lv_at hl 0 rfl) ?_
  refine lv_iconst (v := 1) hx hb dX8_firstBoard_2 (by decide) ?_
  refine lv_iload_n hx hb dX8_firstBoard_3 rfl (lv_at hl 2 rfl) ?_
  refine lv_ishl hx hb dX8_firstBoard_4 ?_
  obtain ⟨q1, hq1, hf⟩ := Option.bind_eq_some_iff.mp hf
  refine g_Vi (cx := 4) (As := [.int (1 <<< (p1 &&& 31))]) K hS lV_X8_47 (c_X1_touching (1 <<< (p1 &&& 31)) σ q1 hq1) ((eX_4 G o) _) (by decide) rfl rfl rfl (Nat.le_of_ble_eq_true rfl) ⟨⟨Nat.le_of_ble_eq_true rfl, Nat.le_of_ble_eq_true rfl⟩, rfl, rfl⟩ hl.1 ⟨Nat.zero_le _, Nat.zero_le _⟩ dX8_firstBoard_5 (fun H locs hS => ?_)
  refine lv_iand hx hb dX8_firstBoard_8 ?_
  obtain ⟨x2, hx2, hf⟩ := gLet_some hf
  refine g_top hx2 ?_
  refine lv_istore_n (lv' := [(3, .int x2), (0, .ref (o + 4)), (1, .int p0), (2, .int p1)]) hx hb dX8_firstBoard_9 rfl hl (by decide) rfl (fun ls hl => ?_)
  refine lv_iconst (v := 0) hx hb dX8_firstBoard_10 (by decide) ?_
  refine lv_istore (lv' := [(4, .int 0), (3, .int x2), (0, .ref (o + 4)), (1, .int p0), (2, .int p1)]) hx hb dX8_firstBoard_11 hl (by decide) rfl (fun ls hl => ?_)
  refine w_X8_firstBoard_L13 p0 p1 x2 K gFu 0 q1.2 hf _ _ _ hS (lv_sub hl [2, 3, 4, 1, 0] rfl)
abbrev rmX8_boardAt : Room := { frames := 5, cells := 0, slots := 0, locals := 120 }
def f_X8_boardAt_L9 (w3 : Int32) : Nat → Int32 → Int32 → Int32 → gS → Option (Int32 × gS)
  | 0, _, _, _, _ => none
  | n + 1, v4, v5, v6, σ => if 20 ≤ v6 then (some ((-6), σ)) else (if v4 = 0 then (some ((-6), σ)) else (Option.bind (f_X8_firstBoard v4 v5 σ) (fun q3 => if v6 = w3 then (some (q3.1, q3.2)) else (if q3.1 = (-6) then (some (q3.1, q3.2)) else (gLet (v4 &&& ((1 <<< (q3.1 &&& 31)) ^^^ (-1))) (fun x6 => Option.bind (f_X1_beyond q3.1 v5 q3.2) (fun q7 => f_X8_boardAt_L9 w3 n x6 q7.1 (v6 + 1) q7.2)))))))
theorem f_X8_boardAt_L9_s (w3 : Int32) (n : Nat) (v4 : Int32) (v5 : Int32) (v6 : Int32) (σ : gS) : f_X8_boardAt_L9 w3 (n + 1) v4 v5 v6 σ = (if 20 ≤ v6 then (some ((-6), σ)) else (if v4 = 0 then (some ((-6), σ)) else (Option.bind (f_X8_firstBoard v4 v5 σ) (fun q3 => if v6 = w3 then (some (q3.1, q3.2)) else (if q3.1 = (-6) then (some (q3.1, q3.2)) else (gLet (v4 &&& ((1 <<< (q3.1 &&& 31)) ^^^ (-1))) (fun x6 => Option.bind (f_X1_beyond q3.1 v5 q3.2) (fun q7 => f_X8_boardAt_L9 w3 n x6 q7.1 (v6 + 1) q7.2)))))))) := rfl
def f_X8_boardAt (p0 : Int32) (p1 : Int32) (p2 : Int32) (σ : gS) : Option (Int32 × gS) := f_X8_boardAt_L9 p2 gFu p0 p1 0 σ
set_option maxHeartbeats 4000000 in
set_option maxRecDepth 100000 in
theorem w_X8_boardAt_L9 (w3 : Int32) {q : Int32 × gS} (K : gK p s m args meth c G cX8_boardAt 8 RX8 (some .int)) : ∀ (n : Nat) (v4 : Int32) (v5 : Int32) (v6 : Int32) (σ : gS), f_X8_boardAt_L9 w3 n v4 v5 v6 σ = some q → ∀ (H : Heap) (locs : List Loc) (ls : Array Slot), gSt G (entX G o) o 302 s σ H locs → lv_has ls 8 [(0, .ref (o + 4)), (3, .int w3), (4, .int v4), (5, .int v5), (6, .int v6)] → W p l e rmX8_boardAt s m args below meth c H locs 0 0 (MQ below (gQi G (entX G o) o 302 q) args s 0 0 (gA o 302)) (F0 m 9 ls []) := by
  obtain ⟨hx, hb, hml, hown, hts, -⟩ := id K
  intro n
  induction n with
  | zero =>
    intro v4 v5 v6 σ hf
    exact absurd (show (none : Option _) = some q from hf) (by simp)
  | succ n ih =>
    intro v4 v5 v6 σ hf H locs ls hS hl
    rw [f_X8_boardAt_L9_s] at hf
    refine lv_iload hx hb dX8_boardAt_9 (lv_at hl 4 rfl) ?_
    refine lv_bipush (v := 20) hx hb dX8_boardAt_11 (by decide) ?_
    refine lv_icmp_ge (tgt := 74) hx hb dX8_boardAt_13 (by decide) (fun c1 => ?_) (fun c1 => ?_)
    · have hf := gIf_t c1 hf
      refine lv_bipush (v := (-6)) hx hb dX8_boardAt_74 (by decide) ?_
      exact g_iret K hS hf dX8_boardAt_76
    · have hf := gIf_f c1 hf
      refine lv_iload hx hb dX8_boardAt_16 (lv_at hl 2 rfl) ?_
      refine lv_if_eq (tgt := 74) hx hb dX8_boardAt_18 (by decide) (fun c2 => ?_) (fun c2 => ?_)
      · have hf := gIf_t c2 hf
        refine lv_bipush (v := (-6)) hx hb dX8_boardAt_74 (by decide) ?_
        exact g_iret K hS hf dX8_boardAt_76
      · have hf := gIf_f c2 hf
        refine lv_aload_n hx hb dX8_boardAt_21 rfl (lv_at hl 0 rfl) ?_
        refine lv_iload hx hb dX8_boardAt_22 (lv_at hl 2 rfl) ?_
        refine lv_iload hx hb dX8_boardAt_24 (lv_at hl 3 rfl) ?_
        obtain ⟨q3, hq3, hf⟩ := Option.bind_eq_some_iff.mp hf
        refine g_Si (As := [.ref (o + 4), .int v4, .int v5]) K hS lS_X8_40 (c_X8_firstBoard v4 v5 σ q3 hq3) rfl rfl (Nat.le_of_ble_eq_true rfl) ⟨⟨Nat.le_of_ble_eq_true rfl, Nat.le_of_ble_eq_true rfl⟩, rfl, rfl⟩ hl.1 ⟨Nat.zero_le _, Nat.zero_le _⟩ dX8_boardAt_26 (fun H locs hS => ?_)
        refine lv_istore (lv' := [(7, .int q3.1), (0, .ref (o + 4)), (3, .int w3), (4, .int v4), (5, .int v5), (6, .int v6)]) hx hb dX8_boardAt_29 hl (by decide) rfl (fun ls hl => ?_)
        refine lv_iload hx hb dX8_boardAt_31 (lv_at hl 5 rfl) ?_
        refine lv_iload_n hx hb dX8_boardAt_33 rfl (lv_at hl 2 rfl) ?_
        refine lv_icmp_eq (tgt := 44) hx hb dX8_boardAt_34 (by decide) (fun c4 => ?_) (fun c4 => ?_)
        · have hf := gIf_t c4 hf
          refine lv_iload hx hb dX8_boardAt_44 (lv_at hl 0 rfl) ?_
          exact g_iret K hS hf dX8_boardAt_46
        · have hf := gIf_f c4 hf
          refine lv_iload hx hb dX8_boardAt_37 (lv_at hl 0 rfl) ?_
          refine lv_bipush (v := (-6)) hx hb dX8_boardAt_39 (by decide) ?_
          refine lv_icmp_ne (tgt := 47) hx hb dX8_boardAt_41 (by decide) (fun c5 => ?_) (fun c5 => ?_)
          · have hf := gIf_f c5 hf
            refine lv_iload hx hb dX8_boardAt_47 (lv_at hl 3 rfl) ?_
            refine lv_iconst (v := 1) hx hb dX8_boardAt_49 (by decide) ?_
            refine lv_iload hx hb dX8_boardAt_50 (lv_at hl 0 rfl) ?_
            refine lv_ishl hx hb dX8_boardAt_52 ?_
            refine lv_iconst (v := (-1)) hx hb dX8_boardAt_53 (by decide) ?_
            refine lv_ixor hx hb dX8_boardAt_54 ?_
            refine lv_iand hx hb dX8_boardAt_55 ?_
            obtain ⟨x6, hx6, hf⟩ := gLet_some hf
            refine g_top hx6 ?_
            refine lv_istore (lv' := [(4, .int x6), (7, .int q3.1), (0, .ref (o + 4)), (3, .int w3), (5, .int v5), (6, .int v6)]) hx hb dX8_boardAt_56 hl (by decide) rfl (fun ls hl => ?_)
            refine lv_aload_n hx hb dX8_boardAt_58 rfl (lv_at hl 2 rfl) ?_
            refine lv_iload hx hb dX8_boardAt_59 (lv_at hl 1 rfl) ?_
            refine lv_iload hx hb dX8_boardAt_61 (lv_at hl 4 rfl) ?_
            obtain ⟨q7, hq7, hf⟩ := Option.bind_eq_some_iff.mp hf
            refine g_Vi (cx := 4) (As := [.int q3.1, .int v5]) K hS lV_X8_44 (c_X1_beyond q3.1 v5 q3.2 q7 hq7) ((eX_4 G o) _) (by decide) rfl rfl rfl (Nat.le_of_ble_eq_true rfl) ⟨⟨Nat.le_of_ble_eq_true rfl, Nat.le_of_ble_eq_true rfl⟩, rfl, rfl⟩ hl.1 ⟨Nat.zero_le _, Nat.zero_le _⟩ dX8_boardAt_63 (fun H locs hS => ?_)
            refine lv_istore (lv' := [(5, .int q7.1), (4, .int x6), (7, .int q3.1), (0, .ref (o + 4)), (3, .int w3), (6, .int v6)]) hx hb dX8_boardAt_66 hl (by decide) rfl (fun ls hl => ?_)
            refine lv_iinc (v := (v6 + 1)) (lv' := [(6, .int (v6 + 1)), (5, .int q7.1), (4, .int x6), (7, .int q3.1), (0, .ref (o + 4)), (3, .int w3)]) hx hb dX8_boardAt_68 hl (k := 5) rfl rfl (by decide) rfl (fun ls hl => ?_)
            refine lv_goto (tgt := 9) hx hb dX8_boardAt_71 (by decide) ?_
            exact ih x6 q7.1 (v6 + 1) q7.2 hf _ _ _ hS (lv_sub hl [4, 5, 2, 1, 0] rfl)
          · have hf := gIf_t c5 hf
            refine lv_iload hx hb dX8_boardAt_44 (lv_at hl 0 rfl) ?_
            exact g_iret K hS hf dX8_boardAt_46
set_option maxHeartbeats 4000000 in
set_option maxRecDepth 100000 in
theorem c_X8_boardAt (p0 : Int32) (p1 : Int32) (p2 : Int32) (σ : gS) (q : Int32 × gS) (hf : f_X8_boardAt p0 p1 p2 σ = some q) : Met l yX8_boardAt (gW yX8_boardAt cX8_boardAt 8 (some .int)) rmX8_boardAt (gPc G (entX G o) o 302 [.ref (o + 4), .int p0, .int p1, .int p2] σ) (gQi G (entX G o) o 302 q) 0 0 (gA o 302) := by
  refine g_met (by decide) ⟨rfl, rfl⟩ (fun p e s m args below meth c ls K hS hl => ?_) (Nat.le_of_ble_eq_true rfl)
  have K : gK p s m args meth c G cX8_boardAt 8 RX8 (some .int) := K
  have hl : lv_has ls 8 [(0, .ref (o + 4)), (1, .int p0), (2, .int p1), (3, .int p2)] := hl
  obtain ⟨hx, hb, hml, hown, hts, -⟩ := id K
  unfold f_X8_boardAt at hf
  refine lv_iload_n hx hb dX8_boardAt_0 rfl (lv_at hl 1 rfl) ?_
  refine lv_istore (lv' := [(4, .int p0), (0, .ref (o + 4)), (1, .int p0), (2, .int p1), (3, .int p2)]) hx hb dX8_boardAt_1 hl (by decide) rfl (fun ls hl => ?_)
  refine lv_iload_n hx hb dX8_boardAt_3 rfl (lv_at hl 3 rfl) ?_
  refine lv_istore (lv' := [(5, .int p1), (4, .int p0), (0, .ref (o + 4)), (1, .int p0), (2, .int p1), (3, .int p2)]) hx hb dX8_boardAt_4 hl (by decide) rfl (fun ls hl => ?_)
  refine lv_iconst (v := 0) hx hb dX8_boardAt_6 (by decide) ?_
  refine lv_istore (lv' := [(6, .int 0), (5, .int p1), (4, .int p0), (0, .ref (o + 4)), (1, .int p0), (2, .int p1), (3, .int p2)]) hx hb dX8_boardAt_7 hl (by decide) rfl (fun ls hl => ?_)
  refine w_X8_boardAt_L9 p2 K gFu p0 p1 0 σ hf _ _ _ hS (lv_sub hl [3, 6, 2, 1, 0] rfl)
abbrev rmX9_priceOf : Room := { frames := 1, cells := 0, slots := 0, locals := 21 }
def f_X9_priceOf (p0 : Int32) (σ : gS) : Option (Int32 × gS) := Option.bind (f_X5_at 13 20 p0 σ) (fun q1 => some (((q1.1 * 10) + 1), q1.2))
set_option maxHeartbeats 4000000 in
set_option maxRecDepth 100000 in
theorem c_X9_priceOf (p0 : Int32) (σ : gS) (q : Int32 × gS) (hf : f_X9_priceOf p0 σ = some q) : Met l yX9_priceOf (gW yX9_priceOf cX9_priceOf 2 (some .int)) rmX9_priceOf (gPc G (entX G o) o 302 [.ref (o + 4), .int p0] σ) (gQi G (entX G o) o 302 q) 0 0 (gA o 302) := by
  refine g_met (by decide) ⟨rfl, rfl⟩ (fun p e s m args below meth c ls K hS hl => ?_) (Nat.le_of_ble_eq_true rfl)
  have K : gK p s m args meth c G cX9_priceOf 2 RX9 (some .int) := K
  have hl : lv_has ls 2 [(0, .ref (o + 4)), (1, .int p0)] := hl
  obtain ⟨hx, hb, hml, hown, hts, -⟩ := id K
  unfold f_X9_priceOf at hf
  refine lv_aload_n hx hb dX9_priceOf_0 rfl (lv_at hl 0 rfl) ?_
  refine g_get (cx := 4) K hS lF_X9_51 ((eX_4 G o) _) (by decide) rfl dX9_priceOf_1 ?_
  refine lv_iload_n hx hb dX9_priceOf_4 rfl (lv_at hl 1 rfl) ?_
  obtain ⟨q1, hq1, hf⟩ := Option.bind_eq_some_iff.mp hf
  refine g_Vi (cx := 13) (As := [.int p0]) K hS lV_X9_27 (c_X5_at 13 20 (gRow_13 G o) p0 σ q1 hq1) ((eX_13 G o) _) (by decide) rfl rfl rfl (Nat.le_of_ble_eq_true rfl) ⟨⟨Nat.le_of_ble_eq_true rfl, Nat.le_of_ble_eq_true rfl⟩, rfl, rfl⟩ hl.1 ⟨Nat.zero_le _, Nat.zero_le _⟩ dX9_priceOf_5 (fun H locs hS => ?_)
  refine lv_bipush (v := 10) hx hb dX9_priceOf_8 (by decide) ?_
  refine lv_imul hx hb dX9_priceOf_10 ?_
  refine lv_iconst (v := 1) hx hb dX9_priceOf_11 (by decide) ?_
  refine lv_iadd hx hb dX9_priceOf_12 ?_
  exact g_iret K hS hf dX9_priceOf_13
abbrev rmX9_lowerCosts : Room := { frames := 2, cells := 0, slots := 0, locals := 42 }
def f_X9_lowerCosts (p0 : Int32) (σ : gS) : Option (Int32 × gS) := Option.bind (f_X5_at 5 20 p0 σ) (fun q1 => Option.bind (f_X5_at 7 20 p0 q1.2) (fun q2 => Option.bind (f_X9_priceOf p0 q2.2) (fun q3 => Option.bind (f_X5_at 298 10 q2.1 q3.2) (fun q4 => Option.bind (f_X5_at 298 10 q1.1 q4.2) (fun q5 => if q5.1 ≤ (q4.1 + q3.1) then (Option.bind (f_X5_at 298 10 q1.1 q5.2) (fun q7 => Option.bind (f_X5_at 298 10 q2.1 q7.2) (fun q8 => if q8.1 ≤ (q7.1 + q3.1) then (some (0, q8.2)) else (Option.bind (f_X5_at 298 10 q1.1 q8.2) (fun q10 => Option.bind (f_X5_store 298 10 q2.1 (q10.1 + q3.1) q10.2) (fun q11 => some (1, q11))))))) else (Option.bind (f_X5_at 298 10 q2.1 q5.2) (fun q12 => Option.bind (f_X5_store 298 10 q1.1 (q12.1 + q3.1) q12.2) (fun q13 => some (1, q13)))))))))
set_option maxHeartbeats 4000000 in
set_option maxRecDepth 100000 in
theorem c_X9_lowerCosts (p0 : Int32) (σ : gS) (q : Int32 × gS) (hf : f_X9_lowerCosts p0 σ = some q) : Met l yX9_lowerCosts (gW yX9_lowerCosts cX9_lowerCosts 6 (some .boolean)) rmX9_lowerCosts (gPc G (entX G o) o 302 [.ref (o + 297), .ref (o + 4), .int p0] σ) (gQi G (entX G o) o 302 q) 0 0 (gA o 302) := by
  refine g_met (by decide) ⟨rfl, rfl⟩ (fun p e s m args below meth c ls K hS hl => ?_) (Nat.le_of_ble_eq_true rfl)
  have K : gK p s m args meth c G cX9_lowerCosts 6 RX9 (some .boolean) := K
  have hl : lv_has ls 6 [(0, .ref (o + 297)), (1, .ref (o + 4)), (2, .int p0)] := hl
  obtain ⟨hx, hb, hml, hown, hts, -⟩ := id K
  unfold f_X9_lowerCosts at hf
  refine lv_aload_n hx hb dX9_lowerCosts_0 rfl (lv_at hl 1 rfl) ?_
  refine g_get (cx := 4) K hS lF_X9_73 ((eX_4 G o) _) (by decide) rfl dX9_lowerCosts_1 ?_
  refine lv_iload_n hx hb dX9_lowerCosts_4 rfl (lv_at hl 2 rfl) ?_
  obtain ⟨q1, hq1, hf⟩ := Option.bind_eq_some_iff.mp hf
  refine g_Vi (cx := 5) (As := [.int p0]) K hS lV_X9_27 (c_X5_at 5 20 (gRow_5 G o) p0 σ q1 hq1) ((eX_5 G o) _) (by decide) rfl rfl rfl (Nat.le_of_ble_eq_true rfl) ⟨⟨Nat.le_of_ble_eq_true rfl, Nat.le_of_ble_eq_true rfl⟩, rfl, rfl⟩ hl.1 ⟨Nat.zero_le _, Nat.zero_le _⟩ dX9_lowerCosts_5 (fun H locs hS => ?_)
  refine lv_istore_n (lv' := [(3, .int q1.1), (0, .ref (o + 297)), (1, .ref (o + 4)), (2, .int p0)]) hx hb dX9_lowerCosts_8 rfl hl (by decide) rfl (fun ls hl => ?_)
  refine lv_aload_n hx hb dX9_lowerCosts_9 rfl (lv_at hl 2 rfl) ?_
  refine g_get (cx := 4) K hS lF_X9_76 ((eX_4 G o) _) (by decide) rfl dX9_lowerCosts_10 ?_
  refine lv_iload_n hx hb dX9_lowerCosts_13 rfl (lv_at hl 3 rfl) ?_
  obtain ⟨q2, hq2, hf⟩ := Option.bind_eq_some_iff.mp hf
  refine g_Vi (cx := 7) (As := [.int p0]) K hS lV_X9_27 (c_X5_at 7 20 (gRow_7 G o) p0 q1.2 q2 hq2) ((eX_7 G o) _) (by decide) rfl rfl rfl (Nat.le_of_ble_eq_true rfl) ⟨⟨Nat.le_of_ble_eq_true rfl, Nat.le_of_ble_eq_true rfl⟩, rfl, rfl⟩ hl.1 ⟨Nat.zero_le _, Nat.zero_le _⟩ dX9_lowerCosts_14 (fun H locs hS => ?_)
  refine lv_istore (lv' := [(4, .int q2.1), (3, .int q1.1), (0, .ref (o + 297)), (1, .ref (o + 4)), (2, .int p0)]) hx hb dX9_lowerCosts_17 hl (by decide) rfl (fun ls hl => ?_)
  refine lv_aload_n hx hb dX9_lowerCosts_19 rfl (lv_at hl 3 rfl) ?_
  refine lv_iload_n hx hb dX9_lowerCosts_20 rfl (lv_at hl 4 rfl) ?_
  obtain ⟨q3, hq3, hf⟩ := Option.bind_eq_some_iff.mp hf
  refine g_Si (As := [.ref (o + 4), .int p0]) K hS lS_X9_79 (c_X9_priceOf p0 q2.2 q3 hq3) rfl rfl (Nat.le_of_ble_eq_true rfl) ⟨⟨Nat.le_of_ble_eq_true rfl, Nat.le_of_ble_eq_true rfl⟩, rfl, rfl⟩ hl.1 ⟨Nat.zero_le _, Nat.zero_le _⟩ dX9_lowerCosts_21 (fun H locs hS => ?_)
  refine lv_istore (lv' := [(5, .int q3.1), (4, .int q2.1), (3, .int q1.1), (0, .ref (o + 297)), (1, .ref (o + 4)), (2, .int p0)]) hx hb dX9_lowerCosts_24 hl (by decide) rfl (fun ls hl => ?_)
  refine lv_aload_n hx hb dX9_lowerCosts_26 rfl (lv_at hl 3 rfl) ?_
  refine g_get (cx := 297) K hS lF_X9_14 ((eX_297 G o) _) (by decide) rfl dX9_lowerCosts_27 ?_
  refine lv_iload hx hb dX9_lowerCosts_30 (lv_at hl 1 rfl) ?_
  obtain ⟨q4, hq4, hf⟩ := Option.bind_eq_some_iff.mp hf
  refine g_Vi (cx := 298) (As := [.int q2.1]) K hS lV_X9_27 (c_X5_at 298 10 (gRow_298 G o) q2.1 q3.2 q4 hq4) ((eX_298 G o) _) (by decide) rfl rfl rfl (Nat.le_of_ble_eq_true rfl) ⟨⟨Nat.le_of_ble_eq_true rfl, Nat.le_of_ble_eq_true rfl⟩, rfl, rfl⟩ hl.1 ⟨Nat.zero_le _, Nat.zero_le _⟩ dX9_lowerCosts_32 (fun H locs hS => ?_)
  refine lv_iload hx hb dX9_lowerCosts_35 (lv_at hl 0 rfl) ?_
  refine lv_iadd hx hb dX9_lowerCosts_37 ?_
  refine lv_aload_n hx hb dX9_lowerCosts_38 rfl (lv_at hl 3 rfl) ?_
  refine g_get (cx := 297) K hS lF_X9_14 ((eX_297 G o) _) (by decide) rfl dX9_lowerCosts_39 ?_
  refine lv_iload_n hx hb dX9_lowerCosts_42 rfl (lv_at hl 2 rfl) ?_
  obtain ⟨q5, hq5, hf⟩ := Option.bind_eq_some_iff.mp hf
  refine g_Vi (cx := 298) (As := [.int q1.1]) K hS lV_X9_27 (c_X5_at 298 10 (gRow_298 G o) q1.1 q4.2 q5 hq5) ((eX_298 G o) _) (by decide) rfl rfl rfl (Nat.le_of_ble_eq_true rfl) ⟨⟨Nat.le_of_ble_eq_true rfl, Nat.le_of_ble_eq_true rfl⟩, rfl, rfl⟩ hl.1 ⟨Nat.zero_le _, Nat.zero_le _⟩ dX9_lowerCosts_43 (fun H locs hS => ?_)
  refine lv_icmp_ge (tgt := 71) hx hb dX9_lowerCosts_46 (by decide) (fun c6 => ?_) (fun c6 => ?_)
  · have hf := gIf_t c6 hf
    refine lv_aload_n hx hb dX9_lowerCosts_71 rfl (lv_at hl 3 rfl) ?_
    refine g_get (cx := 297) K hS lF_X9_14 ((eX_297 G o) _) (by decide) rfl dX9_lowerCosts_72 ?_
    refine lv_iload_n hx hb dX9_lowerCosts_75 rfl (lv_at hl 2 rfl) ?_
    obtain ⟨q7, hq7, hf⟩ := Option.bind_eq_some_iff.mp hf
    refine g_Vi (cx := 298) (As := [.int q1.1]) K hS lV_X9_27 (c_X5_at 298 10 (gRow_298 G o) q1.1 q5.2 q7 hq7) ((eX_298 G o) _) (by decide) rfl rfl rfl (Nat.le_of_ble_eq_true rfl) ⟨⟨Nat.le_of_ble_eq_true rfl, Nat.le_of_ble_eq_true rfl⟩, rfl, rfl⟩ hl.1 ⟨Nat.zero_le _, Nat.zero_le _⟩ dX9_lowerCosts_76 (fun H locs hS => ?_)
    refine lv_iload hx hb dX9_lowerCosts_79 (lv_at hl 0 rfl) ?_
    refine lv_iadd hx hb dX9_lowerCosts_81 ?_
    refine lv_aload_n hx hb dX9_lowerCosts_82 rfl (lv_at hl 3 rfl) ?_
    refine g_get (cx := 297) K hS lF_X9_14 ((eX_297 G o) _) (by decide) rfl dX9_lowerCosts_83 ?_
    refine lv_iload hx hb dX9_lowerCosts_86 (lv_at hl 1 rfl) ?_
    obtain ⟨q8, hq8, hf⟩ := Option.bind_eq_some_iff.mp hf
    refine g_Vi (cx := 298) (As := [.int q2.1]) K hS lV_X9_27 (c_X5_at 298 10 (gRow_298 G o) q2.1 q7.2 q8 hq8) ((eX_298 G o) _) (by decide) rfl rfl rfl (Nat.le_of_ble_eq_true rfl) ⟨⟨Nat.le_of_ble_eq_true rfl, Nat.le_of_ble_eq_true rfl⟩, rfl, rfl⟩ hl.1 ⟨Nat.zero_le _, Nat.zero_le _⟩ dX9_lowerCosts_88 (fun H locs hS => ?_)
    refine lv_icmp_ge (tgt := 116) hx hb dX9_lowerCosts_91 (by decide) (fun c9 => ?_) (fun c9 => ?_)
    · have hf := gIf_t c9 hf
      refine lv_iconst (v := 0) hx hb dX9_lowerCosts_116 (by decide) ?_
      exact g_zret K hS rfl hf dX9_lowerCosts_117
    · have hf := gIf_f c9 hf
      refine lv_aload_n hx hb dX9_lowerCosts_94 rfl (lv_at hl 3 rfl) ?_
      refine g_get (cx := 297) K hS lF_X9_14 ((eX_297 G o) _) (by decide) rfl dX9_lowerCosts_95 ?_
      refine lv_iload hx hb dX9_lowerCosts_98 (lv_at hl 1 rfl) ?_
      refine lv_aload_n hx hb dX9_lowerCosts_100 rfl (lv_at hl 3 rfl) ?_
      refine g_get (cx := 297) K hS lF_X9_14 ((eX_297 G o) _) (by decide) rfl dX9_lowerCosts_101 ?_
      refine lv_iload_n hx hb dX9_lowerCosts_104 rfl (lv_at hl 2 rfl) ?_
      obtain ⟨q10, hq10, hf⟩ := Option.bind_eq_some_iff.mp hf
      refine g_Vi (cx := 298) (As := [.int q1.1]) K hS lV_X9_27 (c_X5_at 298 10 (gRow_298 G o) q1.1 q8.2 q10 hq10) ((eX_298 G o) _) (by decide) rfl rfl rfl (Nat.le_of_ble_eq_true rfl) ⟨⟨Nat.le_of_ble_eq_true rfl, Nat.le_of_ble_eq_true rfl⟩, rfl, rfl⟩ hl.1 ⟨Nat.zero_le _, Nat.zero_le _⟩ dX9_lowerCosts_105 (fun H locs hS => ?_)
      refine lv_iload hx hb dX9_lowerCosts_108 (lv_at hl 0 rfl) ?_
      refine lv_iadd hx hb dX9_lowerCosts_110 ?_
      obtain ⟨q11, hq11, hf⟩ := Option.bind_eq_some_iff.mp hf
      refine g_Vv (cx := 298) (As := [.int q2.1, .int (q10.1 + q3.1)]) K hS lV_X9_47 (c_X5_store 298 10 (gRow_298 G o) q2.1 (q10.1 + q3.1) q10.2 q11 hq11) ((eX_298 G o) _) (by decide) rfl rfl rfl (Nat.le_of_ble_eq_true rfl) ⟨⟨Nat.le_of_ble_eq_true rfl, Nat.le_of_ble_eq_true rfl⟩, rfl, rfl⟩ hl.1 ⟨Nat.zero_le _, Nat.zero_le _⟩ dX9_lowerCosts_111 (fun H locs hS => ?_)
      refine lv_iconst (v := 1) hx hb dX9_lowerCosts_114 (by decide) ?_
      exact g_zret K hS rfl hf dX9_lowerCosts_115
  · have hf := gIf_f c6 hf
    refine lv_aload_n hx hb dX9_lowerCosts_49 rfl (lv_at hl 3 rfl) ?_
    refine g_get (cx := 297) K hS lF_X9_14 ((eX_297 G o) _) (by decide) rfl dX9_lowerCosts_50 ?_
    refine lv_iload_n hx hb dX9_lowerCosts_53 rfl (lv_at hl 2 rfl) ?_
    refine lv_aload_n hx hb dX9_lowerCosts_54 rfl (lv_at hl 3 rfl) ?_
    refine g_get (cx := 297) K hS lF_X9_14 ((eX_297 G o) _) (by decide) rfl dX9_lowerCosts_55 ?_
    refine lv_iload hx hb dX9_lowerCosts_58 (lv_at hl 1 rfl) ?_
    obtain ⟨q12, hq12, hf⟩ := Option.bind_eq_some_iff.mp hf
    refine g_Vi (cx := 298) (As := [.int q2.1]) K hS lV_X9_27 (c_X5_at 298 10 (gRow_298 G o) q2.1 q5.2 q12 hq12) ((eX_298 G o) _) (by decide) rfl rfl rfl (Nat.le_of_ble_eq_true rfl) ⟨⟨Nat.le_of_ble_eq_true rfl, Nat.le_of_ble_eq_true rfl⟩, rfl, rfl⟩ hl.1 ⟨Nat.zero_le _, Nat.zero_le _⟩ dX9_lowerCosts_60 (fun H locs hS => ?_)
    refine lv_iload hx hb dX9_lowerCosts_63 (lv_at hl 0 rfl) ?_
    refine lv_iadd hx hb dX9_lowerCosts_65 ?_
    obtain ⟨q13, hq13, hf⟩ := Option.bind_eq_some_iff.mp hf
    refine g_Vv (cx := 298) (As := [.int q1.1, .int (q12.1 + q3.1)]) K hS lV_X9_47 (c_X5_store 298 10 (gRow_298 G o) q1.1 (q12.1 + q3.1) q12.2 q13 hq13) ((eX_298 G o) _) (by decide) rfl rfl rfl (Nat.le_of_ble_eq_true rfl) ⟨⟨Nat.le_of_ble_eq_true rfl, Nat.le_of_ble_eq_true rfl⟩, rfl, rfl⟩ hl.1 ⟨Nat.zero_le _, Nat.zero_le _⟩ dX9_lowerCosts_66 (fun H locs hS => ?_)
    refine lv_iconst (v := 1) hx hb dX9_lowerCosts_69 (by decide) ?_
    exact g_zret K hS rfl hf dX9_lowerCosts_70
abbrev rmX9_weigh : Room := { frames := 3, cells := 0, slots := 0, locals := 67 }
def f_X9_weigh_L42 (w2 : Int32) (w5 : Int32) (K79 : Int32 → gS → Option (gS)) : Nat → Int32 → Int32 → gS → Option (gS)
  | 0, _, _, _ => none
  | n + 1, v4, v6, σ => if (σ 4 0) ≤ v6 then (K79 v4 σ) else (Option.bind (f_X10_holds w2 v6 σ) (fun q6 => if q6.1 = 0 then (f_X9_weigh_L42 w2 w5 K79 n v4 (v6 + 1) q6.2) else (Option.bind (f_X9_lowerCosts v6 q6.2) (fun q8 => if q8.1 = 0 then (f_X9_weigh_L42 w2 w5 K79 n v4 (v6 + 1) q8.2) else (f_X9_weigh_L42 w2 w5 K79 n 1 (v6 + 1) q8.2)))))
theorem f_X9_weigh_L42_s (w2 : Int32) (w5 : Int32) (K79 : Int32 → gS → Option (gS)) (n : Nat) (v4 : Int32) (v6 : Int32) (σ : gS) : f_X9_weigh_L42 w2 w5 K79 (n + 1) v4 v6 σ = (if (σ 4 0) ≤ v6 then (K79 v4 σ) else (Option.bind (f_X10_holds w2 v6 σ) (fun q6 => if q6.1 = 0 then (f_X9_weigh_L42 w2 w5 K79 n v4 (v6 + 1) q6.2) else (Option.bind (f_X9_lowerCosts v6 q6.2) (fun q8 => if q8.1 = 0 then (f_X9_weigh_L42 w2 w5 K79 n v4 (v6 + 1) q8.2) else (f_X9_weigh_L42 w2 w5 K79 n 1 (v6 + 1) q8.2)))))) := rfl
def f_X9_weigh_L24 (w2 : Int32) : Nat → Int32 → Int32 → gS → Option (gS)
  | 0, _, _, _ => none
  | n + 1, v4, v5, σ => if 10 ≤ v5 then (some σ) else (if v4 = 0 then (some σ) else (f_X9_weigh_L42 w2 v5 (fun (k10 : Int32) (s11 : gS) => f_X9_weigh_L24 w2 n k10 (v5 + 1) s11) gFu 0 0 σ))
theorem f_X9_weigh_L24_s (w2 : Int32) (n : Nat) (v4 : Int32) (v5 : Int32) (σ : gS) : f_X9_weigh_L24 w2 (n + 1) v4 v5 σ = (if 10 ≤ v5 then (some σ) else (if v4 = 0 then (some σ) else (f_X9_weigh_L42 w2 v5 (fun (k10 : Int32) (s11 : gS) => f_X9_weigh_L24 w2 n k10 (v5 + 1) s11) gFu 0 0 σ))) := rfl
def f_X9_weigh (p0 : Int32) (p1 : Int32) (σ : gS) : Option (gS) := Option.bind (f_X5_fill 298 10 1000000 σ) (fun q1 => Option.bind (f_X5_store 298 10 p1 0 q1) (fun q2 => f_X9_weigh_L24 p0 gFu 1 0 q2))
set_option maxHeartbeats 4000000 in
set_option maxRecDepth 100000 in
theorem w_X9_weigh_L42 (w2 : Int32) (w5 : Int32) (K79 : Int32 → gS → Option (gS)) {q : gS} (K : gK p s m args meth c G cX9_weigh 7 RX9 none) (hK79 : ∀ (k4 : Int32) (σ : gS), K79 k4 σ = some q → ∀ (H : Heap) (locs : List Loc) (ls : Array Slot), gSt G (entX G o) o 302 s σ H locs → lv_has ls 7 [(0, .ref (o + 297)), (1, .ref (o + 4)), (2, .int w2), (4, .int k4), (5, .int w5)] → W p l e rmX9_weigh s m args below meth c H locs 0 0 (MQ below (gQv G (entX G o) o 302 q) args s 0 0 (gA o 302)) (F0 m 79 ls [])) : ∀ (n : Nat) (v4 : Int32) (v6 : Int32) (σ : gS), f_X9_weigh_L42 w2 w5 K79 n v4 v6 σ = some q → ∀ (H : Heap) (locs : List Loc) (ls : Array Slot), gSt G (entX G o) o 302 s σ H locs → lv_has ls 7 [(0, .ref (o + 297)), (1, .ref (o + 4)), (2, .int w2), (4, .int v4), (5, .int w5), (6, .int v6)] → W p l e rmX9_weigh s m args below meth c H locs 0 0 (MQ below (gQv G (entX G o) o 302 q) args s 0 0 (gA o 302)) (F0 m 42 ls []) := by
  obtain ⟨hx, hb, hml, hown, hts, -⟩ := id K
  intro n
  induction n with
  | zero =>
    intro v4 v6 σ hf
    exact absurd (show (none : Option _) = some q from hf) (by simp)
  | succ n ih =>
    intro v4 v6 σ hf H locs ls hS hl
    rw [f_X9_weigh_L42_s] at hf
    refine lv_iload hx hb dX9_weigh_42 (lv_at hl 5 rfl) ?_
    refine lv_aload_n hx hb dX9_weigh_44 rfl (lv_at hl 1 rfl) ?_
    refine g_get (cx := 4) K hS lF_X9_62 ((eX_4 G o) _) (by decide) rfl dX9_weigh_45 ?_
    refine lv_icmp_ge (tgt := 79) hx hb dX9_weigh_48 (by decide) (fun c5 => ?_) (fun c5 => ?_)
    · have hf := gIf_t c5 hf
      exact hK79 v4 σ hf _ _ _ hS (lv_sub hl [0, 1, 2, 3, 4] rfl)
    · have hf := gIf_f c5 hf
      refine lv_iload_n hx hb dX9_weigh_51 rfl (lv_at hl 2 rfl) ?_
      refine lv_iload hx hb dX9_weigh_52 (lv_at hl 5 rfl) ?_
      obtain ⟨q6, hq6, hf⟩ := Option.bind_eq_some_iff.mp hf
      refine g_Ni (As := [.int w2, .int v6]) K hS lN_X9_65 (c_X10_holds w2 v6 σ q6 hq6) rfl rfl (Nat.le_of_ble_eq_true rfl) ⟨⟨Nat.le_of_ble_eq_true rfl, Nat.le_of_ble_eq_true rfl⟩, rfl, rfl⟩ hl.1 ⟨Nat.zero_le _, Nat.zero_le _⟩ dX9_weigh_54 (fun H locs hS => ?_)
      refine lv_if_eq (tgt := 73) hx hb dX9_weigh_57 (by decide) (fun c7 => ?_) (fun c7 => ?_)
      · have hf := gIf_t c7 hf
        refine lv_iinc (v := (v6 + 1)) (lv' := [(6, .int (v6 + 1)), (0, .ref (o + 297)), (1, .ref (o + 4)), (2, .int w2), (4, .int v4), (5, .int w5)]) hx hb dX9_weigh_73 hl (k := 5) rfl rfl (by decide) rfl (fun ls hl => ?_)
        refine lv_goto (tgt := 42) hx hb dX9_weigh_76 (by decide) ?_
        exact ih v4 (v6 + 1) q6.2 hf _ _ _ hS (lv_sub hl [1, 2, 3, 4, 5, 0] rfl)
      · have hf := gIf_f c7 hf
        refine lv_aload_n hx hb dX9_weigh_60 rfl (lv_at hl 0 rfl) ?_
        refine lv_aload_n hx hb dX9_weigh_61 rfl (lv_at hl 1 rfl) ?_
        refine lv_iload hx hb dX9_weigh_62 (lv_at hl 5 rfl) ?_
        obtain ⟨q8, hq8, hf⟩ := Option.bind_eq_some_iff.mp hf
        refine g_Vi (cx := 297) (As := [.ref (o + 4), .int v6]) K hS lV_X9_69 (c_X9_lowerCosts v6 q6.2 q8 hq8) ((eX_297 G o) _) (by decide) rfl rfl rfl (Nat.le_of_ble_eq_true rfl) ⟨⟨Nat.le_of_ble_eq_true rfl, Nat.le_of_ble_eq_true rfl⟩, rfl, rfl⟩ hl.1 ⟨Nat.zero_le _, Nat.zero_le _⟩ dX9_weigh_64 (fun H locs hS => ?_)
        refine lv_if_eq (tgt := 73) hx hb dX9_weigh_67 (by decide) (fun c9 => ?_) (fun c9 => ?_)
        · have hf := gIf_t c9 hf
          refine lv_iinc (v := (v6 + 1)) (lv' := [(6, .int (v6 + 1)), (0, .ref (o + 297)), (1, .ref (o + 4)), (2, .int w2), (4, .int v4), (5, .int w5)]) hx hb dX9_weigh_73 hl (k := 5) rfl rfl (by decide) rfl (fun ls hl => ?_)
          refine lv_goto (tgt := 42) hx hb dX9_weigh_76 (by decide) ?_
          exact ih v4 (v6 + 1) q8.2 hf _ _ _ hS (lv_sub hl [1, 2, 3, 4, 5, 0] rfl)
        · have hf := gIf_f c9 hf
          refine lv_iconst (v := 1) hx hb dX9_weigh_70 (by decide) ?_
          refine lv_istore (lv' := [(4, .int 1), (0, .ref (o + 297)), (1, .ref (o + 4)), (2, .int w2), (5, .int w5), (6, .int v6)]) hx hb dX9_weigh_71 hl (by decide) rfl (fun ls hl => ?_)
          refine lv_iinc (v := (v6 + 1)) (lv' := [(6, .int (v6 + 1)), (4, .int 1), (0, .ref (o + 297)), (1, .ref (o + 4)), (2, .int w2), (5, .int w5)]) hx hb dX9_weigh_73 hl (k := 5) rfl rfl (by decide) rfl (fun ls hl => ?_)
          refine lv_goto (tgt := 42) hx hb dX9_weigh_76 (by decide) ?_
          exact ih 1 (v6 + 1) q8.2 hf _ _ _ hS (lv_sub hl [2, 3, 4, 1, 5, 0] rfl)
set_option maxHeartbeats 4000000 in
set_option maxRecDepth 100000 in
theorem w_X9_weigh_L24 (w2 : Int32) {q : gS} (K : gK p s m args meth c G cX9_weigh 7 RX9 none) : ∀ (n : Nat) (v4 : Int32) (v5 : Int32) (σ : gS), f_X9_weigh_L24 w2 n v4 v5 σ = some q → ∀ (H : Heap) (locs : List Loc) (ls : Array Slot), gSt G (entX G o) o 302 s σ H locs → lv_has ls 7 [(0, .ref (o + 297)), (1, .ref (o + 4)), (2, .int w2), (4, .int v4), (5, .int v5)] → W p l e rmX9_weigh s m args below meth c H locs 0 0 (MQ below (gQv G (entX G o) o 302 q) args s 0 0 (gA o 302)) (F0 m 24 ls []) := by
  obtain ⟨hx, hb, hml, hown, hts, -⟩ := id K
  intro n
  induction n with
  | zero =>
    intro v4 v5 σ hf
    exact absurd (show (none : Option _) = some q from hf) (by simp)
  | succ n ih =>
    intro v4 v5 σ hf H locs ls hS hl
    rw [f_X9_weigh_L24_s] at hf
    refine lv_iload hx hb dX9_weigh_24 (lv_at hl 4 rfl) ?_
    refine lv_bipush (v := 10) hx hb dX9_weigh_26 (by decide) ?_
    refine lv_icmp_ge (tgt := 85) hx hb dX9_weigh_28 (by decide) (fun c3 => ?_) (fun c3 => ?_)
    · have hf := gIf_t c3 hf
      exact g_vret K hS hf dX9_weigh_85
    · have hf := gIf_f c3 hf
      refine lv_iload hx hb dX9_weigh_31 (lv_at hl 3 rfl) ?_
      refine lv_if_eq (tgt := 85) hx hb dX9_weigh_33 (by decide) (fun c4 => ?_) (fun c4 => ?_)
      · have hf := gIf_t c4 hf
        exact g_vret K hS hf dX9_weigh_85
      · have hf := gIf_f c4 hf
        refine lv_iconst (v := 0) hx hb dX9_weigh_36 (by decide) ?_
        refine lv_istore (lv' := [(4, .int 0), (0, .ref (o + 297)), (1, .ref (o + 4)), (2, .int w2), (5, .int v5)]) hx hb dX9_weigh_37 hl (by decide) rfl (fun ls hl => ?_)
        refine lv_iconst (v := 0) hx hb dX9_weigh_39 (by decide) ?_
        refine lv_istore (lv' := [(6, .int 0), (4, .int 0), (0, .ref (o + 297)), (1, .ref (o + 4)), (2, .int w2), (5, .int v5)]) hx hb dX9_weigh_40 hl (by decide) rfl (fun ls hl => ?_)
        refine w_X9_weigh_L42 w2 v5 _ K ?_ gFu 0 0 σ hf _ _ _ hS (lv_sub hl [2, 3, 4, 1, 5, 0] rfl)
        · intro k10 s11 hf H locs ls hS hl
          refine lv_iinc (v := (v5 + 1)) (lv' := [(5, .int (v5 + 1)), (0, .ref (o + 297)), (1, .ref (o + 4)), (2, .int w2), (4, .int k10)]) hx hb dX9_weigh_79 hl (k := 4) rfl rfl (by decide) rfl (fun ls hl => ?_)
          refine lv_goto (tgt := 24) hx hb dX9_weigh_82 (by decide) ?_
          exact ih k10 (v5 + 1) s11 hf _ _ _ hS (lv_sub hl [1, 2, 3, 4, 0] rfl)
set_option maxHeartbeats 4000000 in
set_option maxRecDepth 100000 in
theorem c_X9_weigh (p0 : Int32) (p1 : Int32) (σ : gS) (q : gS) (hf : f_X9_weigh p0 p1 σ = some q) : Met l yX9_weigh (gW yX9_weigh cX9_weigh 7 none) rmX9_weigh (gPc G (entX G o) o 302 [.ref (o + 297), .ref (o + 4), .int p0, .int p1] σ) (gQv G (entX G o) o 302 q) 0 0 (gA o 302) := by
  refine g_met (by decide) ⟨rfl, rfl⟩ (fun p e s m args below meth c ls K hS hl => ?_) (Nat.le_of_ble_eq_true rfl)
  have K : gK p s m args meth c G cX9_weigh 7 RX9 none := K
  have hl : lv_has ls 7 [(0, .ref (o + 297)), (1, .ref (o + 4)), (2, .int p0), (3, .int p1)] := hl
  obtain ⟨hx, hb, hml, hown, hts, -⟩ := id K
  unfold f_X9_weigh at hf
  refine lv_aload_n hx hb dX9_weigh_0 rfl (lv_at hl 0 rfl) ?_
  refine g_get (cx := 297) K hS lF_X9_14 ((eX_297 G o) _) (by decide) rfl dX9_weigh_1 ?_
  refine lv_ldc (v := 1000000) hx hb hown (hts _ (gmem 495 (by decide +kernel) rfl)) dX9_weigh_4 ?_
  obtain ⟨q1, hq1, hf⟩ := Option.bind_eq_some_iff.mp hf
  refine g_Vv (cx := 298) (As := [.int 1000000]) K hS lV_X9_59 (c_X5_fill 298 10 (gRow_298 G o) 1000000 σ q1 hq1) ((eX_298 G o) _) (by decide) rfl rfl rfl (Nat.le_of_ble_eq_true rfl) ⟨⟨Nat.le_of_ble_eq_true rfl, Nat.le_of_ble_eq_true rfl⟩, rfl, rfl⟩ hl.1 ⟨Nat.zero_le _, Nat.zero_le _⟩ dX9_weigh_6 (fun H locs hS => ?_)
  refine lv_aload_n hx hb dX9_weigh_9 rfl (lv_at hl 0 rfl) ?_
  refine g_get (cx := 297) K hS lF_X9_14 ((eX_297 G o) _) (by decide) rfl dX9_weigh_10 ?_
  refine lv_iload_n hx hb dX9_weigh_13 rfl (lv_at hl 3 rfl) ?_
  refine lv_iconst (v := 0) hx hb dX9_weigh_14 (by decide) ?_
  obtain ⟨q2, hq2, hf⟩ := Option.bind_eq_some_iff.mp hf
  refine g_Vv (cx := 298) (As := [.int p1, .int 0]) K hS lV_X9_47 (c_X5_store 298 10 (gRow_298 G o) p1 0 q1 q2 hq2) ((eX_298 G o) _) (by decide) rfl rfl rfl (Nat.le_of_ble_eq_true rfl) ⟨⟨Nat.le_of_ble_eq_true rfl, Nat.le_of_ble_eq_true rfl⟩, rfl, rfl⟩ hl.1 ⟨Nat.zero_le _, Nat.zero_le _⟩ dX9_weigh_15 (fun H locs hS => ?_)
  refine lv_iconst (v := 1) hx hb dX9_weigh_18 (by decide) ?_
  refine lv_istore (lv' := [(4, .int 1), (0, .ref (o + 297)), (1, .ref (o + 4)), (2, .int p0), (3, .int p1)]) hx hb dX9_weigh_19 hl (by decide) rfl (fun ls hl => ?_)
  refine lv_iconst (v := 0) hx hb dX9_weigh_21 (by decide) ?_
  refine lv_istore (lv' := [(5, .int 0), (4, .int 1), (0, .ref (o + 297)), (1, .ref (o + 4)), (2, .int p0), (3, .int p1)]) hx hb dX9_weigh_22 hl (by decide) rfl (fun ls hl => ?_)
  refine w_X9_weigh_L24 p0 K gFu 1 0 q2 hf _ _ _ hS (lv_sub hl [2, 3, 4, 1, 0] rfl)
abbrev rmX9_firstStep : Room := { frames := 2, cells := 0, slots := 0, locals := 44 }
def f_X9_firstStep_L14 (w3 : Int32) (w4 : Int32) : Nat → Int32 → gS → Option (Int32 × gS)
  | 0, _, _ => none
  | n + 1, v5, σ => if (σ 4 0) ≤ v5 then (some ((-6), σ)) else (Option.bind (f_X1_beyond v5 w3 σ) (fun q4 => Option.bind (f_X5_at 298 10 q4.1 q4.2) (fun q5 => Option.bind (f_X10_holds w4 v5 q5.2) (fun q6 => if q6.1 = 0 then (f_X9_firstStep_L14 w3 w4 n (v5 + 1) q6.2) else (Option.bind (f_X9_priceOf v5 q6.2) (fun q8 => Option.bind (f_X5_at 298 10 w3 q8.2) (fun q9 => if (q5.1 + q8.1) = q9.1 then (some (v5, q9.2)) else (f_X9_firstStep_L14 w3 w4 n (v5 + 1) q9.2))))))))
theorem f_X9_firstStep_L14_s (w3 : Int32) (w4 : Int32) (n : Nat) (v5 : Int32) (σ : gS) : f_X9_firstStep_L14 w3 w4 (n + 1) v5 σ = (if (σ 4 0) ≤ v5 then (some ((-6), σ)) else (Option.bind (f_X1_beyond v5 w3 σ) (fun q4 => Option.bind (f_X5_at 298 10 q4.1 q4.2) (fun q5 => Option.bind (f_X10_holds w4 v5 q5.2) (fun q6 => if q6.1 = 0 then (f_X9_firstStep_L14 w3 w4 n (v5 + 1) q6.2) else (Option.bind (f_X9_priceOf v5 q6.2) (fun q8 => Option.bind (f_X5_at 298 10 w3 q8.2) (fun q9 => if (q5.1 + q8.1) = q9.1 then (some (v5, q9.2)) else (f_X9_firstStep_L14 w3 w4 n (v5 + 1) q9.2))))))))) := rfl
def f_X9_firstStep (p0 : Int32) (p1 : Int32) (σ : gS) : Option (Int32 × gS) := Option.bind (f_X1_touching (1 <<< (p1 &&& 31)) σ) (fun q1 => gLet (p0 &&& q1.1) (fun x2 => f_X9_firstStep_L14 p1 x2 gFu 0 q1.2))
set_option maxHeartbeats 4000000 in
set_option maxRecDepth 100000 in
theorem w_X9_firstStep_L14 (w3 : Int32) (w4 : Int32) {q : Int32 × gS} (K : gK p s m args meth c G cX9_firstStep 7 RX9 (some .int)) : ∀ (n : Nat) (v5 : Int32) (σ : gS), f_X9_firstStep_L14 w3 w4 n v5 σ = some q → ∀ (H : Heap) (locs : List Loc) (ls : Array Slot), gSt G (entX G o) o 302 s σ H locs → lv_has ls 7 [(0, .ref (o + 297)), (1, .ref (o + 4)), (3, .int w3), (4, .int w4), (5, .int v5)] → W p l e rmX9_firstStep s m args below meth c H locs 0 0 (MQ below (gQi G (entX G o) o 302 q) args s 0 0 (gA o 302)) (F0 m 14 ls []) := by
  obtain ⟨hx, hb, hml, hown, hts, -⟩ := id K
  intro n
  induction n with
  | zero =>
    intro v5 σ hf
    exact absurd (show (none : Option _) = some q from hf) (by simp)
  | succ n ih =>
    intro v5 σ hf H locs ls hS hl
    rw [f_X9_firstStep_L14_s] at hf
    refine lv_iload hx hb dX9_firstStep_14 (lv_at hl 4 rfl) ?_
    refine lv_aload_n hx hb dX9_firstStep_16 rfl (lv_at hl 1 rfl) ?_
    refine g_get (cx := 4) K hS lF_X9_62 ((eX_4 G o) _) (by decide) rfl dX9_firstStep_17 ?_
    refine lv_icmp_ge (tgt := 78) hx hb dX9_firstStep_20 (by decide) (fun c3 => ?_) (fun c3 => ?_)
    · have hf := gIf_t c3 hf
      refine lv_bipush (v := (-6)) hx hb dX9_firstStep_78 (by decide) ?_
      exact g_iret K hS hf dX9_firstStep_80
    · have hf := gIf_f c3 hf
      refine lv_aload_n hx hb dX9_firstStep_23 rfl (lv_at hl 0 rfl) ?_
      refine g_get (cx := 297) K hS lF_X9_14 ((eX_297 G o) _) (by decide) rfl dX9_firstStep_24 ?_
      refine lv_aload_n hx hb dX9_firstStep_27 rfl (lv_at hl 1 rfl) ?_
      refine lv_iload hx hb dX9_firstStep_28 (lv_at hl 4 rfl) ?_
      refine lv_iload_n hx hb dX9_firstStep_30 rfl (lv_at hl 2 rfl) ?_
      obtain ⟨q4, hq4, hf⟩ := Option.bind_eq_some_iff.mp hf
      refine g_Vi (cx := 4) (As := [.int v5, .int w3]) K hS lV_X9_55 (c_X1_beyond v5 w3 σ q4 hq4) ((eX_4 G o) _) (by decide) rfl rfl rfl (Nat.le_of_ble_eq_true rfl) ⟨⟨Nat.le_of_ble_eq_true rfl, Nat.le_of_ble_eq_true rfl⟩, rfl, rfl⟩ hl.1 ⟨Nat.zero_le _, Nat.zero_le _⟩ dX9_firstStep_31 (fun H locs hS => ?_)
      obtain ⟨q5, hq5, hf⟩ := Option.bind_eq_some_iff.mp hf
      refine g_Vi (cx := 298) (As := [.int q4.1]) K hS lV_X9_27 (c_X5_at 298 10 (gRow_298 G o) q4.1 q4.2 q5 hq5) ((eX_298 G o) _) (by decide) rfl rfl rfl (Nat.le_of_ble_eq_true rfl) ⟨⟨Nat.le_of_ble_eq_true rfl, Nat.le_of_ble_eq_true rfl⟩, rfl, rfl⟩ hl.1 ⟨Nat.zero_le _, Nat.zero_le _⟩ dX9_firstStep_34 (fun H locs hS => ?_)
      refine lv_istore (lv' := [(6, .int q5.1), (0, .ref (o + 297)), (1, .ref (o + 4)), (3, .int w3), (4, .int w4), (5, .int v5)]) hx hb dX9_firstStep_37 hl (by decide) rfl (fun ls hl => ?_)
      refine lv_iload hx hb dX9_firstStep_39 (lv_at hl 4 rfl) ?_
      refine lv_iload hx hb dX9_firstStep_41 (lv_at hl 5 rfl) ?_
      obtain ⟨q6, hq6, hf⟩ := Option.bind_eq_some_iff.mp hf
      refine g_Ni (As := [.int w4, .int v5]) K hS lN_X9_65 (c_X10_holds w4 v5 q5.2 q6 hq6) rfl rfl (Nat.le_of_ble_eq_true rfl) ⟨⟨Nat.le_of_ble_eq_true rfl, Nat.le_of_ble_eq_true rfl⟩, rfl, rfl⟩ hl.1 ⟨Nat.zero_le _, Nat.zero_le _⟩ dX9_firstStep_43 (fun H locs hS => ?_)
      refine lv_if_eq (tgt := 72) hx hb dX9_firstStep_46 (by decide) (fun c7 => ?_) (fun c7 => ?_)
      · have hf := gIf_t c7 hf
        refine lv_iinc (v := (v5 + 1)) (lv' := [(5, .int (v5 + 1)), (6, .int q5.1), (0, .ref (o + 297)), (1, .ref (o + 4)), (3, .int w3), (4, .int w4)]) hx hb dX9_firstStep_72 hl (k := 5) rfl rfl (by decide) rfl (fun ls hl => ?_)
        refine lv_goto (tgt := 14) hx hb dX9_firstStep_75 (by decide) ?_
        exact ih (v5 + 1) q6.2 hf _ _ _ hS (lv_sub hl [2, 3, 4, 5, 0] rfl)
      · have hf := gIf_f c7 hf
        refine lv_iload hx hb dX9_firstStep_49 (lv_at hl 0 rfl) ?_
        refine lv_aload_n hx hb dX9_firstStep_51 rfl (lv_at hl 2 rfl) ?_
        refine lv_iload hx hb dX9_firstStep_52 (lv_at hl 5 rfl) ?_
        obtain ⟨q8, hq8, hf⟩ := Option.bind_eq_some_iff.mp hf
        refine g_Si (As := [.ref (o + 4), .int v5]) K hS lS_X9_79 (c_X9_priceOf v5 q6.2 q8 hq8) rfl rfl (Nat.le_of_ble_eq_true rfl) ⟨⟨Nat.le_of_ble_eq_true rfl, Nat.le_of_ble_eq_true rfl⟩, rfl, rfl⟩ hl.1 ⟨Nat.zero_le _, Nat.zero_le _⟩ dX9_firstStep_54 (fun H locs hS => ?_)
        refine lv_iadd hx hb dX9_firstStep_57 ?_
        refine lv_aload_n hx hb dX9_firstStep_58 rfl (lv_at hl 1 rfl) ?_
        refine g_get (cx := 297) K hS lF_X9_14 ((eX_297 G o) _) (by decide) rfl dX9_firstStep_59 ?_
        refine lv_iload_n hx hb dX9_firstStep_62 rfl (lv_at hl 3 rfl) ?_
        obtain ⟨q9, hq9, hf⟩ := Option.bind_eq_some_iff.mp hf
        refine g_Vi (cx := 298) (As := [.int w3]) K hS lV_X9_27 (c_X5_at 298 10 (gRow_298 G o) w3 q8.2 q9 hq9) ((eX_298 G o) _) (by decide) rfl rfl rfl (Nat.le_of_ble_eq_true rfl) ⟨⟨Nat.le_of_ble_eq_true rfl, Nat.le_of_ble_eq_true rfl⟩, rfl, rfl⟩ hl.1 ⟨Nat.zero_le _, Nat.zero_le _⟩ dX9_firstStep_63 (fun H locs hS => ?_)
        refine lv_icmp_ne (tgt := 72) hx hb dX9_firstStep_66 (by decide) (fun c10 => ?_) (fun c10 => ?_)
        · have hf := gIf_f c10 hf
          refine lv_iinc (v := (v5 + 1)) (lv' := [(5, .int (v5 + 1)), (6, .int q5.1), (0, .ref (o + 297)), (1, .ref (o + 4)), (3, .int w3), (4, .int w4)]) hx hb dX9_firstStep_72 hl (k := 5) rfl rfl (by decide) rfl (fun ls hl => ?_)
          refine lv_goto (tgt := 14) hx hb dX9_firstStep_75 (by decide) ?_
          exact ih (v5 + 1) q9.2 hf _ _ _ hS (lv_sub hl [2, 3, 4, 5, 0] rfl)
        · have hf := gIf_t c10 hf
          refine lv_iload hx hb dX9_firstStep_69 (lv_at hl 5 rfl) ?_
          exact g_iret K hS hf dX9_firstStep_71
set_option maxHeartbeats 4000000 in
set_option maxRecDepth 100000 in
theorem c_X9_firstStep (p0 : Int32) (p1 : Int32) (σ : gS) (q : Int32 × gS) (hf : f_X9_firstStep p0 p1 σ = some q) : Met l yX9_firstStep (gW yX9_firstStep cX9_firstStep 7 (some .int)) rmX9_firstStep (gPc G (entX G o) o 302 [.ref (o + 297), .ref (o + 4), .int p0, .int p1] σ) (gQi G (entX G o) o 302 q) 0 0 (gA o 302) := by
  refine g_met (by decide) ⟨rfl, rfl⟩ (fun p e s m args below meth c ls K hS hl => ?_) (Nat.le_of_ble_eq_true rfl)
  have K : gK p s m args meth c G cX9_firstStep 7 RX9 (some .int) := K
  have hl : lv_has ls 7 [(0, .ref (o + 297)), (1, .ref (o + 4)), (2, .int p0), (3, .int p1)] := hl
  obtain ⟨hx, hb, hml, hown, hts, -⟩ := id K
  unfold f_X9_firstStep at hf
  refine lv_iload_n hx hb dX9_firstStep_0 rfl (lv_at hl 2 rfl) ?_
  refine lv_aload_n hx hb dX9_firstStep_1 rfl (lv_at hl 1 rfl) ?_
  refine lv_iconst (v := 1) hx hb dX9_firstStep_2 (by decide) ?_
  refine lv_iload_n hx hb dX9_firstStep_3 rfl (lv_at hl 3 rfl) ?_
  refine lv_ishl hx hb dX9_firstStep_4 ?_
  obtain ⟨q1, hq1, hf⟩ := Option.bind_eq_some_iff.mp hf
  refine g_Vi (cx := 4) (As := [.int (1 <<< (p1 &&& 31))]) K hS lV_X9_83 (c_X1_touching (1 <<< (p1 &&& 31)) σ q1 hq1) ((eX_4 G o) _) (by decide) rfl rfl rfl (Nat.le_of_ble_eq_true rfl) ⟨⟨Nat.le_of_ble_eq_true rfl, Nat.le_of_ble_eq_true rfl⟩, rfl, rfl⟩ hl.1 ⟨Nat.zero_le _, Nat.zero_le _⟩ dX9_firstStep_5 (fun H locs hS => ?_)
  refine lv_iand hx hb dX9_firstStep_8 ?_
  obtain ⟨x2, hx2, hf⟩ := gLet_some hf
  refine g_top hx2 ?_
  refine lv_istore (lv' := [(4, .int x2), (0, .ref (o + 297)), (1, .ref (o + 4)), (2, .int p0), (3, .int p1)]) hx hb dX9_firstStep_9 hl (by decide) rfl (fun ls hl => ?_)
  refine lv_iconst (v := 0) hx hb dX9_firstStep_11 (by decide) ?_
  refine lv_istore (lv' := [(5, .int 0), (4, .int x2), (0, .ref (o + 297)), (1, .ref (o + 4)), (2, .int p0), (3, .int p1)]) hx hb dX9_firstStep_12 hl (by decide) rfl (fun ls hl => ?_)
  refine w_X9_firstStep_L14 p1 x2 K gFu 0 q1.2 hf _ _ _ hS (lv_sub hl [2, 3, 5, 1, 0] rfl)
abbrev rmX9_find : Room := { frames := 4, cells := 0, slots := 0, locals := 93 }
def f_X9_find_L46 (w2 : Int32) (w4 : Int32) : Nat → Int32 → Int32 → gS → Option (gS)
  | 0, _, _, _ => none
  | n + 1, v5, v6, σ => if 10 ≤ v6 then (some σ) else (if (σ 297 2) = 0 then (some σ) else (if v5 = w4 then (some σ) else (Option.bind (f_X9_firstStep w2 v5 σ) (fun q15 => Option.bind (f_X5_store 300 10 v6 q15.1 q15.2) (fun q16 => Option.bind (f_X5_at 13 20 q15.1 q16) (fun q17 => gLet (up2 q17.2 297 3 ((q16 297 3) + q17.1)) (fun s18 => gLet (up2 s18 297 4 ((s18 297 4) + 1)) (fun s20 => Option.bind (f_X1_beyond q15.1 v5 s20) (fun q22 => f_X9_find_L46 w2 w4 n q22.1 (v6 + 1) q22.2)))))))))
theorem f_X9_find_L46_s (w2 : Int32) (w4 : Int32) (n : Nat) (v5 : Int32) (v6 : Int32) (σ : gS) : f_X9_find_L46 w2 w4 (n + 1) v5 v6 σ = (if 10 ≤ v6 then (some σ) else (if (σ 297 2) = 0 then (some σ) else (if v5 = w4 then (some σ) else (Option.bind (f_X9_firstStep w2 v5 σ) (fun q15 => Option.bind (f_X5_store 300 10 v6 q15.1 q15.2) (fun q16 => Option.bind (f_X5_at 13 20 q15.1 q16) (fun q17 => gLet (up2 q17.2 297 3 ((q16 297 3) + q17.1)) (fun s18 => gLet (up2 s18 297 4 ((s18 297 4) + 1)) (fun s20 => Option.bind (f_X1_beyond q15.1 v5 s20) (fun q22 => f_X9_find_L46 w2 w4 n q22.1 (v6 + 1) q22.2)))))))))) := rfl
def f_X9_find (p0 : Int32) (p1 : Int32) (p2 : Int32) (σ : gS) : Option (gS) := Option.bind (f_X9_weigh p0 p2 σ) (fun q1 => Option.bind (f_X5_at 298 10 p1 q1) (fun q2 => gLet (fun (j3 : Int32) (s4 : gS) => gGd (gbo j3) (gLet (up2 s4 297 2 j3) (fun s6 => gLet (up2 s6 297 3 0) (fun s8 => gLet (up2 s8 297 4 0) (fun s10 => f_X9_find_L46 p0 p2 gFu p1 0 s10))))) (fun J5 => if 1000000 ≤ q2.1 then (J5 0 q2.2) else (J5 1 q2.2))))
set_option maxHeartbeats 4000000 in
set_option maxRecDepth 100000 in
theorem w_X9_find_L46 (w2 : Int32) (w4 : Int32) {q : gS} (K : gK p s m args meth c G cX9_find 8 RX9 none) : ∀ (n : Nat) (v5 : Int32) (v6 : Int32) (σ : gS), f_X9_find_L46 w2 w4 n v5 v6 σ = some q → ∀ (H : Heap) (locs : List Loc) (ls : Array Slot), gSt G (entX G o) o 302 s σ H locs → lv_has ls 8 [(0, .ref (o + 297)), (1, .ref (o + 4)), (2, .int w2), (4, .int w4), (5, .int v5), (6, .int v6)] → W p l e rmX9_find s m args below meth c H locs 0 0 (MQ below (gQv G (entX G o) o 302 q) args s 0 0 (gA o 302)) (F0 m 46 ls []) := by
  obtain ⟨hx, hb, hml, hown, hts, -⟩ := id K
  intro n
  induction n with
  | zero =>
    intro v5 v6 σ hf
    exact absurd (show (none : Option _) = some q from hf) (by simp)
  | succ n ih =>
    intro v5 v6 σ hf H locs ls hS hl
    rw [f_X9_find_L46_s] at hf
    refine lv_iload hx hb dX9_find_46 (lv_at hl 5 rfl) ?_
    refine lv_bipush (v := 10) hx hb dX9_find_48 (by decide) ?_
    refine lv_icmp_ge (tgt := 132) hx hb dX9_find_50 (by decide) (fun c12 => ?_) (fun c12 => ?_)
    · have hf := gIf_t c12 hf
      exact g_vret K hS hf dX9_find_132
    · have hf := gIf_f c12 hf
      refine lv_aload_n hx hb dX9_find_53 rfl (lv_at hl 0 rfl) ?_
      refine g_get (cx := 297) K hS lF_X9_32 ((eX_297 G o) _) (by decide) rfl dX9_find_54 ?_
      refine lv_if_eq (tgt := 132) hx hb dX9_find_57 (by decide) (fun c13 => ?_) (fun c13 => ?_)
      · have hf := gIf_t c13 hf
        exact g_vret K hS hf dX9_find_132
      · have hf := gIf_f c13 hf
        refine lv_iload hx hb dX9_find_60 (lv_at hl 4 rfl) ?_
        refine lv_iload hx hb dX9_find_62 (lv_at hl 3 rfl) ?_
        refine lv_icmp_eq (tgt := 132) hx hb dX9_find_64 (by decide) (fun c14 => ?_) (fun c14 => ?_)
        · have hf := gIf_t c14 hf
          exact g_vret K hS hf dX9_find_132
        · have hf := gIf_f c14 hf
          refine lv_aload_n hx hb dX9_find_67 rfl (lv_at hl 0 rfl) ?_
          refine lv_aload_n hx hb dX9_find_68 rfl (lv_at hl 1 rfl) ?_
          refine lv_iload_n hx hb dX9_find_69 rfl (lv_at hl 2 rfl) ?_
          refine lv_iload hx hb dX9_find_70 (lv_at hl 4 rfl) ?_
          obtain ⟨q15, hq15, hf⟩ := Option.bind_eq_some_iff.mp hf
          refine g_Vi (cx := 297) (As := [.ref (o + 4), .int w2, .int v5]) K hS lV_X9_43 (c_X9_firstStep w2 v5 σ q15 hq15) ((eX_297 G o) _) (by decide) rfl rfl rfl (Nat.le_of_ble_eq_true rfl) ⟨⟨Nat.le_of_ble_eq_true rfl, Nat.le_of_ble_eq_true rfl⟩, rfl, rfl⟩ hl.1 ⟨Nat.zero_le _, Nat.zero_le _⟩ dX9_find_72 (fun H locs hS => ?_)
          refine lv_istore (lv' := [(7, .int q15.1), (0, .ref (o + 297)), (1, .ref (o + 4)), (2, .int w2), (4, .int w4), (5, .int v5), (6, .int v6)]) hx hb dX9_find_75 hl (by decide) rfl (fun ls hl => ?_)
          refine lv_aload_n hx hb dX9_find_77 rfl (lv_at hl 1 rfl) ?_
          refine g_get (cx := 297) K hS lF_X9_20 ((eX_297 G o) _) (by decide) rfl dX9_find_78 ?_
          refine lv_iload hx hb dX9_find_81 (lv_at hl 6 rfl) ?_
          refine lv_iload hx hb dX9_find_83 (lv_at hl 0 rfl) ?_
          obtain ⟨q16, hq16, hf⟩ := Option.bind_eq_some_iff.mp hf
          refine g_Vv (cx := 300) (As := [.int v6, .int q15.1]) K hS lV_X9_47 (c_X5_store 300 10 (gRow_300 G o) v6 q15.1 q15.2 q16 hq16) ((eX_300 G o) _) (by decide) rfl rfl rfl (Nat.le_of_ble_eq_true rfl) ⟨⟨Nat.le_of_ble_eq_true rfl, Nat.le_of_ble_eq_true rfl⟩, rfl, rfl⟩ hl.1 ⟨Nat.zero_le _, Nat.zero_le _⟩ dX9_find_85 (fun H locs hS => ?_)
          refine lv_aload_n hx hb dX9_find_88 rfl (lv_at hl 1 rfl) ?_
          refine lv_dup hx hb dX9_find_89 rfl ?_
          refine g_get (cx := 297) K hS lF_X9_36 ((eX_297 G o) _) (by decide) rfl dX9_find_90 ?_
          refine lv_aload_n hx hb dX9_find_93 rfl (lv_at hl 2 rfl) ?_
          refine g_get (cx := 4) K hS lF_X9_51 ((eX_4 G o) _) (by decide) rfl dX9_find_94 ?_
          refine lv_iload hx hb dX9_find_97 (lv_at hl 0 rfl) ?_
          obtain ⟨q17, hq17, hf⟩ := Option.bind_eq_some_iff.mp hf
          refine g_Vi (cx := 13) (As := [.int q15.1]) K hS lV_X9_27 (c_X5_at 13 20 (gRow_13 G o) q15.1 q16 q17 hq17) ((eX_13 G o) _) (by decide) rfl rfl rfl (Nat.le_of_ble_eq_true rfl) ⟨⟨Nat.le_of_ble_eq_true rfl, Nat.le_of_ble_eq_true rfl⟩, rfl, rfl⟩ hl.1 ⟨Nat.zero_le _, Nat.zero_le _⟩ dX9_find_99 (fun H locs hS => ?_)
          refine lv_iadd hx hb dX9_find_102 ?_
          obtain ⟨s18, hs18, hf⟩ := gLet_some hf
          refine g_put (cx := 297) K hS lP_X9_36 (eX_297 G o) (by decide) rfl (Nat.le_of_ble_eq_true rfl) rfl rfl dX9_find_103 (fun H locs hS => ?_)
          rw [← hs18] at hS
          refine lv_aload_n hx hb dX9_find_106 rfl (lv_at hl 1 rfl) ?_
          refine lv_dup hx hb dX9_find_107 rfl ?_
          refine g_get (cx := 297) K hS lF_X9_40 ((eX_297 G o) _) (by decide) rfl dX9_find_108 ?_
          refine lv_iconst (v := 1) hx hb dX9_find_111 (by decide) ?_
          refine lv_iadd hx hb dX9_find_112 ?_
          obtain ⟨s20, hs20, hf⟩ := gLet_some hf
          refine g_put (cx := 297) K hS lP_X9_40 (eX_297 G o) (by decide) rfl (Nat.le_of_ble_eq_true rfl) rfl rfl dX9_find_113 (fun H locs hS => ?_)
          rw [← hs20] at hS
          refine lv_aload_n hx hb dX9_find_116 rfl (lv_at hl 2 rfl) ?_
          refine lv_iload hx hb dX9_find_117 (lv_at hl 0 rfl) ?_
          refine lv_iload hx hb dX9_find_119 (lv_at hl 5 rfl) ?_
          obtain ⟨q22, hq22, hf⟩ := Option.bind_eq_some_iff.mp hf
          refine g_Vi (cx := 4) (As := [.int q15.1, .int v5]) K hS lV_X9_55 (c_X1_beyond q15.1 v5 s20 q22 hq22) ((eX_4 G o) _) (by decide) rfl rfl rfl (Nat.le_of_ble_eq_true rfl) ⟨⟨Nat.le_of_ble_eq_true rfl, Nat.le_of_ble_eq_true rfl⟩, rfl, rfl⟩ hl.1 ⟨Nat.zero_le _, Nat.zero_le _⟩ dX9_find_121 (fun H locs hS => ?_)
          refine lv_istore (lv' := [(5, .int q22.1), (7, .int q15.1), (0, .ref (o + 297)), (1, .ref (o + 4)), (2, .int w2), (4, .int w4), (6, .int v6)]) hx hb dX9_find_124 hl (by decide) rfl (fun ls hl => ?_)
          refine lv_iinc (v := (v6 + 1)) (lv' := [(6, .int (v6 + 1)), (5, .int q22.1), (7, .int q15.1), (0, .ref (o + 297)), (1, .ref (o + 4)), (2, .int w2), (4, .int w4)]) hx hb dX9_find_126 hl (k := 6) rfl rfl (by decide) rfl (fun ls hl => ?_)
          refine lv_goto (tgt := 46) hx hb dX9_find_129 (by decide) ?_
          exact ih q22.1 (v6 + 1) q22.2 hf _ _ _ hS (lv_sub hl [3, 4, 5, 6, 1, 0] rfl)
set_option maxHeartbeats 4000000 in
set_option maxRecDepth 100000 in
theorem c_X9_find (p0 : Int32) (p1 : Int32) (p2 : Int32) (σ : gS) (q : gS) (hf : f_X9_find p0 p1 p2 σ = some q) : Met l yX9_find (gW yX9_find cX9_find 8 none) rmX9_find (gPc G (entX G o) o 302 [.ref (o + 297), .ref (o + 4), .int p0, .int p1, .int p2] σ) (gQv G (entX G o) o 302 q) 0 0 (gA o 302) := by
  refine g_met (by decide) ⟨rfl, rfl⟩ (fun p e s m args below meth c ls K hS hl => ?_) (Nat.le_of_ble_eq_true rfl)
  have K : gK p s m args meth c G cX9_find 8 RX9 none := K
  have hl : lv_has ls 8 [(0, .ref (o + 297)), (1, .ref (o + 4)), (2, .int p0), (3, .int p1), (4, .int p2)] := hl
  obtain ⟨hx, hb, hml, hown, hts, -⟩ := id K
  unfold f_X9_find at hf
  refine lv_aload_n hx hb dX9_find_0 rfl (lv_at hl 0 rfl) ?_
  refine lv_aload_n hx hb dX9_find_1 rfl (lv_at hl 1 rfl) ?_
  refine lv_iload_n hx hb dX9_find_2 rfl (lv_at hl 2 rfl) ?_
  refine lv_iload hx hb dX9_find_3 (lv_at hl 4 rfl) ?_
  obtain ⟨q1, hq1, hf⟩ := Option.bind_eq_some_iff.mp hf
  refine g_Vv (cx := 297) (As := [.ref (o + 4), .int p0, .int p2]) K hS lV_X9_23 (c_X9_weigh p0 p2 σ q1 hq1) ((eX_297 G o) _) (by decide) rfl rfl rfl (Nat.le_of_ble_eq_true rfl) ⟨⟨Nat.le_of_ble_eq_true rfl, Nat.le_of_ble_eq_true rfl⟩, rfl, rfl⟩ hl.1 ⟨Nat.zero_le _, Nat.zero_le _⟩ dX9_find_5 (fun H locs hS => ?_)
  refine lv_aload_n hx hb dX9_find_8 rfl (lv_at hl 0 rfl) ?_
  refine lv_aload_n hx hb dX9_find_9 rfl (lv_at hl 0 rfl) ?_
  refine g_get (cx := 297) K hS lF_X9_14 ((eX_297 G o) _) (by decide) rfl dX9_find_10 ?_
  refine lv_iload_n hx hb dX9_find_13 rfl (lv_at hl 3 rfl) ?_
  obtain ⟨q2, hq2, hf⟩ := Option.bind_eq_some_iff.mp hf
  refine g_Vi (cx := 298) (As := [.int p1]) K hS lV_X9_27 (c_X5_at 298 10 (gRow_298 G o) p1 q1 q2 hq2) ((eX_298 G o) _) (by decide) rfl rfl rfl (Nat.le_of_ble_eq_true rfl) ⟨⟨Nat.le_of_ble_eq_true rfl, Nat.le_of_ble_eq_true rfl⟩, rfl, rfl⟩ hl.1 ⟨Nat.zero_le _, Nat.zero_le _⟩ dX9_find_14 (fun H locs hS => ?_)
  refine lv_ldc (v := 1000000) hx hb hown (hts _ (gmem 495 (by decide +kernel) rfl)) dX9_find_17 ?_
  obtain ⟨J5, hJ5, hf⟩ := gLet_some hf
  have wJ5 : ∀ (j3 : Int32) (s4 : gS), J5 j3 s4 = some q → ∀ (H : Heap) (locs : List Loc) (ls : Array Slot), gSt G (entX G o) o 302 s s4 H locs → lv_has ls 8 [(0, .ref (o + 297)), (1, .ref (o + 4)), (2, .int p0), (3, .int p1), (4, .int p2)] → W p l e rmX9_find s m args below meth c H locs 0 0 (MQ below (gQv G (entX G o) o 302 q) args s 0 0 (gA o 302)) (F0 m 27 ls [.int j3, .ref (o + 297)]) := by
    intro j3 s4 hf H locs ls hS hl
    rw [hJ5] at hf
    obtain ⟨h7, hf⟩ := gGd_some hf
    obtain ⟨s6, hs6, hf⟩ := gLet_some hf
    refine g_put (cx := 297) K hS lP_X9_32 (eX_297 G o) (by decide) rfl (Nat.le_of_ble_eq_true rfl) (gbo_nar h7) (gbo_fit h7) dX9_find_27 (fun H locs hS => ?_)
    rw [← hs6] at hS
    refine lv_aload_n hx hb dX9_find_30 rfl (lv_at hl 0 rfl) ?_
    refine lv_iconst (v := 0) hx hb dX9_find_31 (by decide) ?_
    obtain ⟨s8, hs8, hf⟩ := gLet_some hf
    refine g_put (cx := 297) K hS lP_X9_36 (eX_297 G o) (by decide) rfl (Nat.le_of_ble_eq_true rfl) rfl rfl dX9_find_32 (fun H locs hS => ?_)
    rw [← hs8] at hS
    refine lv_aload_n hx hb dX9_find_35 rfl (lv_at hl 0 rfl) ?_
    refine lv_iconst (v := 0) hx hb dX9_find_36 (by decide) ?_
    obtain ⟨s10, hs10, hf⟩ := gLet_some hf
    refine g_put (cx := 297) K hS lP_X9_40 (eX_297 G o) (by decide) rfl (Nat.le_of_ble_eq_true rfl) rfl rfl dX9_find_37 (fun H locs hS => ?_)
    rw [← hs10] at hS
    refine lv_iload_n hx hb dX9_find_40 rfl (lv_at hl 3 rfl) ?_
    refine lv_istore (lv' := [(5, .int p1), (0, .ref (o + 297)), (1, .ref (o + 4)), (2, .int p0), (3, .int p1), (4, .int p2)]) hx hb dX9_find_41 hl (by decide) rfl (fun ls hl => ?_)
    refine lv_iconst (v := 0) hx hb dX9_find_43 (by decide) ?_
    refine lv_istore (lv' := [(6, .int 0), (5, .int p1), (0, .ref (o + 297)), (1, .ref (o + 4)), (2, .int p0), (3, .int p1), (4, .int p2)]) hx hb dX9_find_44 hl (by decide) rfl (fun ls hl => ?_)
    refine w_X9_find_L46 p0 p2 K gFu p1 0 s10 hf _ _ _ hS (lv_sub hl [2, 3, 4, 6, 1, 0] rfl)
  clear hJ5
  refine lv_icmp_ge (tgt := 26) hx hb dX9_find_19 (by decide) (fun c23 => ?_) (fun c23 => ?_)
  · have hf := gIf_t c23 hf
    refine lv_iconst (v := 0) hx hb dX9_find_26 (by decide) ?_
    exact wJ5 0 q2.2 hf _ _ _ hS (lv_sub hl [0, 1, 2, 3, 4] rfl)
  · have hf := gIf_f c23 hf
    refine lv_iconst (v := 1) hx hb dX9_find_22 (by decide) ?_
    refine lv_goto (tgt := 27) hx hb dX9_find_23 (by decide) ?_
    exact wJ5 1 q2.2 hf _ _ _ hS (lv_sub hl [0, 1, 2, 3, 4] rfl)
end
end
section
section
variable {p : Program} {l : Launch} {e : Env} {s : State} {m : MethodId} {args : Array Value} {below : List Frame} {meth : Method} {c : Code} {G : gG} {o : Nat}
abbrev rmX10_isSetting : Room := { frames := 1, cells := 0, slots := 0, locals := 22 }
def f_X10_isSetting (p0 : Int32) (p1 : Int32) (σ : gS) : Option (Int32 × gS) := if p0 = 0 then (Option.bind (f_X10_isWithin p1 10 200 σ) (fun q5 => gGd (gbo q5.1) (some (q5.1, q5.2)))) else (if p0 = 1 then (Option.bind (f_X10_isWithin p1 0 60 σ) (fun q3 => if q3.1 = 0 then (some (0, q3.2)) else (some (1, q3.2)))) else (some (0, σ)))
set_option maxHeartbeats 4000000 in
set_option maxRecDepth 100000 in
theorem c_X10_isSetting (p0 : Int32) (p1 : Int32) (σ : gS) (q : Int32 × gS) (hf : f_X10_isSetting p0 p1 σ = some q) : Met l yX10_isSetting (gW yX10_isSetting cX10_isSetting 2 (some .boolean)) rmX10_isSetting (gPc G (entX G o) o 302 [.int p0, .int p1] σ) (gQi G (entX G o) o 302 q) 0 0 (gA o 302) := by
  refine g_met (by decide) ⟨rfl, rfl⟩ (fun p e s m args below meth c ls K hS hl => ?_) (Nat.le_of_ble_eq_true rfl)
  have K : gK p s m args meth c G cX10_isSetting 2 RX10 (some .boolean) := K
  have hl : lv_has ls 2 [(0, .int p0), (1, .int p1)] := hl
  obtain ⟨hx, hb, hml, hown, hts, -⟩ := id K
  unfold f_X10_isSetting at hf
  refine lv_iload_n hx hb dX10_isSetting_0 rfl (lv_at hl 0 rfl) ?_
  refine lv_if_ne (tgt := 14) hx hb dX10_isSetting_1 (by decide) (fun c1 => ?_) (fun c1 => ?_)
  · have hf := gIf_f c1 hf
    refine lv_iload_n hx hb dX10_isSetting_14 rfl (lv_at hl 0 rfl) ?_
    refine lv_iconst (v := 1) hx hb dX10_isSetting_15 (by decide) ?_
    refine lv_icmp_ne (tgt := 33) hx hb dX10_isSetting_16 (by decide) (fun c2 => ?_) (fun c2 => ?_)
    · have hf := gIf_f c2 hf
      refine lv_iconst (v := 0) hx hb dX10_isSetting_33 (by decide) ?_
      exact g_zret K hS rfl hf dX10_isSetting_34
    · have hf := gIf_t c2 hf
      refine lv_iload_n hx hb dX10_isSetting_19 rfl (lv_at hl 1 rfl) ?_
      refine lv_iconst (v := 0) hx hb dX10_isSetting_20 (by decide) ?_
      refine lv_bipush (v := 60) hx hb dX10_isSetting_21 (by decide) ?_
      obtain ⟨q3, hq3, hf⟩ := Option.bind_eq_some_iff.mp hf
      refine g_Si (As := [.int p1, .int 0, .int 60]) K hS lS_X10_72 (c_X10_isWithin p1 0 60 σ q3 hq3) rfl rfl (Nat.le_of_ble_eq_true rfl) ⟨⟨Nat.le_of_ble_eq_true rfl, Nat.le_of_ble_eq_true rfl⟩, rfl, rfl⟩ hl.1 ⟨Nat.zero_le _, Nat.zero_le _⟩ dX10_isSetting_23 (fun H locs hS => ?_)
      refine lv_if_eq (tgt := 33) hx hb dX10_isSetting_26 (by decide) (fun c4 => ?_) (fun c4 => ?_)
      · have hf := gIf_t c4 hf
        refine lv_iconst (v := 0) hx hb dX10_isSetting_33 (by decide) ?_
        exact g_zret K hS rfl hf dX10_isSetting_34
      · have hf := gIf_f c4 hf
        refine lv_iconst (v := 1) hx hb dX10_isSetting_29 (by decide) ?_
        refine lv_goto (tgt := 34) hx hb dX10_isSetting_30 (by decide) ?_
        exact g_zret K hS rfl hf dX10_isSetting_34
  · have hf := gIf_t c1 hf
    refine lv_iload_n hx hb dX10_isSetting_4 rfl (lv_at hl 1 rfl) ?_
    refine lv_bipush (v := 10) hx hb dX10_isSetting_5 (by decide) ?_
    refine lv_sipush (v := 200) hx hb dX10_isSetting_7 (by decide) ?_
    obtain ⟨q5, hq5, hf⟩ := Option.bind_eq_some_iff.mp hf
    refine g_Si (As := [.int p1, .int 10, .int 200]) K hS lS_X10_72 (c_X10_isWithin p1 10 200 σ q5 hq5) rfl rfl (Nat.le_of_ble_eq_true rfl) ⟨⟨Nat.le_of_ble_eq_true rfl, Nat.le_of_ble_eq_true rfl⟩, rfl, rfl⟩ hl.1 ⟨Nat.zero_le _, Nat.zero_le _⟩ dX10_isSetting_10 (fun H locs hS => ?_)
    obtain ⟨h6, hf⟩ := gGd_some hf
    exact g_zret K hS (gbo_nar h6) hf dX10_isSetting_13
abbrev rmX10_set : Room := { frames := 6, cells := 0, slots := 0, locals := 146 }
def f_X10_set (p0 : Int32) (p1 : Int32) (σ : gS) : Option (Int32 × gS) := Option.bind (f_X10_isSetting p0 p1 σ) (fun q1 => if q1.1 = 0 then (some ((-2), q1.2)) else (Option.bind (f_X3_remember q1.2) (fun q3 => Option.bind (f_X5_at 2 2 p0 q3) (fun q4 => Option.bind (f_X5_store 2 2 p0 p1 q4.2) (fun q5 => some (q4.1, q5))))))
set_option maxHeartbeats 4000000 in
set_option maxRecDepth 100000 in
theorem c_X10_set (p0 : Int32) (p1 : Int32) (σ : gS) (q : Int32 × gS) (hf : f_X10_set p0 p1 σ = some q) : Met l yX10_set (gW yX10_set cX10_set 4 (some .int)) rmX10_set (gPc G (entX G o) o 302 [.ref (o + 0), .int p0, .int p1] σ) (gQi G (entX G o) o 302 q) 0 0 (gA o 302) := by
  refine g_met (by decide) ⟨rfl, rfl⟩ (fun p e s m args below meth c ls K hS hl => ?_) (Nat.le_of_ble_eq_true rfl)
  have K : gK p s m args meth c G cX10_set 4 RX10 (some .int) := K
  have hl : lv_has ls 4 [(0, .ref (o + 0)), (1, .int p0), (2, .int p1)] := hl
  obtain ⟨hx, hb, hml, hown, hts, -⟩ := id K
  unfold f_X10_set at hf
  refine lv_iload_n hx hb dX10_set_0 rfl (lv_at hl 1 rfl) ?_
  refine lv_iload_n hx hb dX10_set_1 rfl (lv_at hl 2 rfl) ?_
  obtain ⟨q1, hq1, hf⟩ := Option.bind_eq_some_iff.mp hf
  refine g_Si (As := [.int p0, .int p1]) K hS lS_X10_46 (c_X10_isSetting p0 p1 σ q1 hq1) rfl rfl (Nat.le_of_ble_eq_true rfl) ⟨⟨Nat.le_of_ble_eq_true rfl, Nat.le_of_ble_eq_true rfl⟩, rfl, rfl⟩ hl.1 ⟨Nat.zero_le _, Nat.zero_le _⟩ dX10_set_2 (fun H locs hS => ?_)
  refine lv_if_ne (tgt := 11) hx hb dX10_set_5 (by decide) (fun c2 => ?_) (fun c2 => ?_)
  · have hf := gIf_f c2 hf
    refine lv_aload_n hx hb dX10_set_11 rfl (lv_at hl 0 rfl) ?_
    refine g_get (cx := 0) K hS lF_X10_26 ((eX_0 G o) _) (by decide) rfl dX10_set_12 ?_
    refine lv_aload_n hx hb dX10_set_15 rfl (lv_at hl 0 rfl) ?_
    refine g_get (cx := 0) K hS lF_X10_10 ((eX_0 G o) _) (by decide) rfl dX10_set_16 ?_
    obtain ⟨q3, hq3, hf⟩ := Option.bind_eq_some_iff.mp hf
    refine g_Vv (cx := 36) (As := [.ref (o + 1)]) K hS lV_X10_50 (c_X3_remember q1.2 q3 hq3) ((eX_36 G o) _) (by decide) rfl rfl rfl (Nat.le_of_ble_eq_true rfl) ⟨⟨Nat.le_of_ble_eq_true rfl, Nat.le_of_ble_eq_true rfl⟩, rfl, rfl⟩ hl.1 ⟨Nat.zero_le _, Nat.zero_le _⟩ dX10_set_19 (fun H locs hS => ?_)
    refine lv_aload_n hx hb dX10_set_22 rfl (lv_at hl 0 rfl) ?_
    refine g_get (cx := 0) K hS lF_X10_10 ((eX_0 G o) _) (by decide) rfl dX10_set_23 ?_
    refine g_get (cx := 1) K hS lF_X10_54 ((eX_1 G o) _) (by decide) rfl dX10_set_26 ?_
    refine lv_iload_n hx hb dX10_set_29 rfl (lv_at hl 1 rfl) ?_
    obtain ⟨q4, hq4, hf⟩ := Option.bind_eq_some_iff.mp hf
    refine g_Vi (cx := 2) (As := [.int p0]) K hS lV_X10_58 (c_X5_at 2 2 (gRow_2 G o) p0 q3 q4 hq4) ((eX_2 G o) _) (by decide) rfl rfl rfl (Nat.le_of_ble_eq_true rfl) ⟨⟨Nat.le_of_ble_eq_true rfl, Nat.le_of_ble_eq_true rfl⟩, rfl, rfl⟩ hl.1 ⟨Nat.zero_le _, Nat.zero_le _⟩ dX10_set_30 (fun H locs hS => ?_)
    refine lv_istore_n (lv' := [(3, .int q4.1), (0, .ref (o + 0)), (1, .int p0), (2, .int p1)]) hx hb dX10_set_33 rfl hl (by decide) rfl (fun ls hl => ?_)
    refine lv_aload_n hx hb dX10_set_34 rfl (lv_at hl 1 rfl) ?_
    refine g_get (cx := 0) K hS lF_X10_10 ((eX_0 G o) _) (by decide) rfl dX10_set_35 ?_
    refine g_get (cx := 1) K hS lF_X10_54 ((eX_1 G o) _) (by decide) rfl dX10_set_38 ?_
    refine lv_iload_n hx hb dX10_set_41 rfl (lv_at hl 2 rfl) ?_
    refine lv_iload_n hx hb dX10_set_42 rfl (lv_at hl 3 rfl) ?_
    obtain ⟨q5, hq5, hf⟩ := Option.bind_eq_some_iff.mp hf
    refine g_Vv (cx := 2) (As := [.int p0, .int p1]) K hS lV_X10_64 (c_X5_store 2 2 (gRow_2 G o) p0 p1 q4.2 q5 hq5) ((eX_2 G o) _) (by decide) rfl rfl rfl (Nat.le_of_ble_eq_true rfl) ⟨⟨Nat.le_of_ble_eq_true rfl, Nat.le_of_ble_eq_true rfl⟩, rfl, rfl⟩ hl.1 ⟨Nat.zero_le _, Nat.zero_le _⟩ dX10_set_43 (fun H locs hS => ?_)
    refine lv_iload_n hx hb dX10_set_46 rfl (lv_at hl 0 rfl) ?_
    exact g_iret K hS hf dX10_set_47
  · have hf := gIf_t c2 hf
    refine lv_bipush (v := (-2)) hx hb dX10_set_8 (by decide) ?_
    exact g_iret K hS hf dX10_set_10
abbrev rmX10_isRoom : Room := { frames := 1, cells := 0, slots := 0, locals := 22 }
def f_X10_isRoom (p0 : Int32) (σ : gS) : Option (Int32 × gS) := Option.bind (f_X10_isWithin p0 0 9 σ) (fun q1 => gGd (gbo q1.1) (some (q1.1, q1.2)))
set_option maxHeartbeats 4000000 in
set_option maxRecDepth 100000 in
theorem c_X10_isRoom (p0 : Int32) (σ : gS) (q : Int32 × gS) (hf : f_X10_isRoom p0 σ = some q) : Met l yX10_isRoom (gW yX10_isRoom cX10_isRoom 1 (some .boolean)) rmX10_isRoom (gPc G (entX G o) o 302 [.int p0] σ) (gQi G (entX G o) o 302 q) 0 0 (gA o 302) := by
  refine g_met (by decide) ⟨rfl, rfl⟩ (fun p e s m args below meth c ls K hS hl => ?_) (Nat.le_of_ble_eq_true rfl)
  have K : gK p s m args meth c G cX10_isRoom 1 RX10 (some .boolean) := K
  have hl : lv_has ls 1 [(0, .int p0)] := hl
  obtain ⟨hx, hb, hml, hown, hts, -⟩ := id K
  unfold f_X10_isRoom at hf
  refine lv_iload_n hx hb dX10_isRoom_0 rfl (lv_at hl 0 rfl) ?_
  refine lv_iconst (v := 0) hx hb dX10_isRoom_1 (by decide) ?_
  refine lv_bipush (v := 9) hx hb dX10_isRoom_2 (by decide) ?_
  obtain ⟨q1, hq1, hf⟩ := Option.bind_eq_some_iff.mp hf
  refine g_Si (As := [.int p0, .int 0, .int 9]) K hS lS_X10_72 (c_X10_isWithin p0 0 9 σ q1 hq1) rfl rfl (Nat.le_of_ble_eq_true rfl) ⟨⟨Nat.le_of_ble_eq_true rfl, Nat.le_of_ble_eq_true rfl⟩, rfl, rfl⟩ hl.1 ⟨Nat.zero_le _, Nat.zero_le _⟩ dX10_isRoom_4 (fun H locs hS => ?_)
  obtain ⟨h2, hf⟩ := gGd_some hf
  exact g_zret K hS (gbo_nar h2) hf dX10_isRoom_7
abbrev rmX10_lay : Room := { frames := 6, cells := 0, slots := 0, locals := 146 }
def f_X10_lay (p0 : Int32) (p1 : Int32) (p2 : Int32) (p3 : Int32) (σ : gS) : Option (Int32 × gS) := Option.bind (f_X10_isRoom p0 σ) (fun q1 => if q1.1 = 0 then (some ((-1), q1.2)) else (Option.bind (f_X10_isRoom p1 q1.2) (fun q3 => if q3.1 = 0 then (some ((-1), q3.2)) else (if p0 = p1 then (some ((-2), q3.2)) else (Option.bind (f_X10_isWithin p2 1 9 q3.2) (fun q6 => if q6.1 = 0 then (some ((-2), q6.2)) else (Option.bind (f_X10_isWithin p3 1 9 q6.2) (fun q8 => if q8.1 = 0 then (some ((-2), q8.2)) else (if (q8.2 4 0) < 20 then (Option.bind (f_X3_remember q8.2) (fun q11 => Option.bind (f_X1_append p0 p1 p2 p3 q11) (fun q12 => some (((q12 4 0) - 1), q12)))) else (some ((-4), q8.2)))))))))))
set_option maxHeartbeats 4000000 in
set_option maxRecDepth 100000 in
theorem c_X10_lay (p0 : Int32) (p1 : Int32) (p2 : Int32) (p3 : Int32) (σ : gS) (q : Int32 × gS) (hf : f_X10_lay p0 p1 p2 p3 σ = some q) : Met l yX10_lay (gW yX10_lay cX10_lay 5 (some .int)) rmX10_lay (gPc G (entX G o) o 302 [.ref (o + 0), .int p0, .int p1, .int p2, .int p3] σ) (gQi G (entX G o) o 302 q) 0 0 (gA o 302) := by
  refine g_met (by decide) ⟨rfl, rfl⟩ (fun p e s m args below meth c ls K hS hl => ?_) (Nat.le_of_ble_eq_true rfl)
  have K : gK p s m args meth c G cX10_lay 5 RX10 (some .int) := K
  have hl : lv_has ls 5 [(0, .ref (o + 0)), (1, .int p0), (2, .int p1), (3, .int p2), (4, .int p3)] := hl
  obtain ⟨hx, hb, hml, hown, hts, -⟩ := id K
  unfold f_X10_lay at hf
  refine lv_iload_n hx hb dX10_lay_0 rfl (lv_at hl 1 rfl) ?_
  obtain ⟨q1, hq1, hf⟩ := Option.bind_eq_some_iff.mp hf
  refine g_Si (As := [.int p0]) K hS lS_X10_68 (c_X10_isRoom p0 σ q1 hq1) rfl rfl (Nat.le_of_ble_eq_true rfl) ⟨⟨Nat.le_of_ble_eq_true rfl, Nat.le_of_ble_eq_true rfl⟩, rfl, rfl⟩ hl.1 ⟨Nat.zero_le _, Nat.zero_le _⟩ dX10_lay_1 (fun H locs hS => ?_)
  refine lv_if_eq (tgt := 14) hx hb dX10_lay_4 (by decide) (fun c2 => ?_) (fun c2 => ?_)
  · have hf := gIf_t c2 hf
    refine lv_iconst (v := (-1)) hx hb dX10_lay_14 (by decide) ?_
    exact g_iret K hS hf dX10_lay_15
  · have hf := gIf_f c2 hf
    refine lv_iload_n hx hb dX10_lay_7 rfl (lv_at hl 2 rfl) ?_
    obtain ⟨q3, hq3, hf⟩ := Option.bind_eq_some_iff.mp hf
    refine g_Si (As := [.int p1]) K hS lS_X10_68 (c_X10_isRoom p1 q1.2 q3 hq3) rfl rfl (Nat.le_of_ble_eq_true rfl) ⟨⟨Nat.le_of_ble_eq_true rfl, Nat.le_of_ble_eq_true rfl⟩, rfl, rfl⟩ hl.1 ⟨Nat.zero_le _, Nat.zero_le _⟩ dX10_lay_8 (fun H locs hS => ?_)
    refine lv_if_ne (tgt := 16) hx hb dX10_lay_11 (by decide) (fun c4 => ?_) (fun c4 => ?_)
    · have hf := gIf_f c4 hf
      refine lv_iload_n hx hb dX10_lay_16 rfl (lv_at hl 1 rfl) ?_
      refine lv_iload_n hx hb dX10_lay_17 rfl (lv_at hl 2 rfl) ?_
      refine lv_icmp_eq (tgt := 42) hx hb dX10_lay_18 (by decide) (fun c5 => ?_) (fun c5 => ?_)
      · have hf := gIf_t c5 hf
        refine lv_bipush (v := (-2)) hx hb dX10_lay_42 (by decide) ?_
        exact g_iret K hS hf dX10_lay_44
      · have hf := gIf_f c5 hf
        refine lv_iload_n hx hb dX10_lay_21 rfl (lv_at hl 3 rfl) ?_
        refine lv_iconst (v := 1) hx hb dX10_lay_22 (by decide) ?_
        refine lv_bipush (v := 9) hx hb dX10_lay_23 (by decide) ?_
        obtain ⟨q6, hq6, hf⟩ := Option.bind_eq_some_iff.mp hf
        refine g_Si (As := [.int p2, .int 1, .int 9]) K hS lS_X10_72 (c_X10_isWithin p2 1 9 q3.2 q6 hq6) rfl rfl (Nat.le_of_ble_eq_true rfl) ⟨⟨Nat.le_of_ble_eq_true rfl, Nat.le_of_ble_eq_true rfl⟩, rfl, rfl⟩ hl.1 ⟨Nat.zero_le _, Nat.zero_le _⟩ dX10_lay_25 (fun H locs hS => ?_)
        refine lv_if_eq (tgt := 42) hx hb dX10_lay_28 (by decide) (fun c7 => ?_) (fun c7 => ?_)
        · have hf := gIf_t c7 hf
          refine lv_bipush (v := (-2)) hx hb dX10_lay_42 (by decide) ?_
          exact g_iret K hS hf dX10_lay_44
        · have hf := gIf_f c7 hf
          refine lv_iload hx hb dX10_lay_31 (lv_at hl 4 rfl) ?_
          refine lv_iconst (v := 1) hx hb dX10_lay_33 (by decide) ?_
          refine lv_bipush (v := 9) hx hb dX10_lay_34 (by decide) ?_
          obtain ⟨q8, hq8, hf⟩ := Option.bind_eq_some_iff.mp hf
          refine g_Si (As := [.int p3, .int 1, .int 9]) K hS lS_X10_72 (c_X10_isWithin p3 1 9 q6.2 q8 hq8) rfl rfl (Nat.le_of_ble_eq_true rfl) ⟨⟨Nat.le_of_ble_eq_true rfl, Nat.le_of_ble_eq_true rfl⟩, rfl, rfl⟩ hl.1 ⟨Nat.zero_le _, Nat.zero_le _⟩ dX10_lay_36 (fun H locs hS => ?_)
          refine lv_if_ne (tgt := 45) hx hb dX10_lay_39 (by decide) (fun c9 => ?_) (fun c9 => ?_)
          · have hf := gIf_f c9 hf
            refine lv_aload_n hx hb dX10_lay_45 rfl (lv_at hl 0 rfl) ?_
            refine g_get (cx := 0) K hS lF_X10_10 ((eX_0 G o) _) (by decide) rfl dX10_lay_46 ?_
            refine g_get (cx := 1) K hS lF_X10_76 ((eX_1 G o) _) (by decide) rfl dX10_lay_49 ?_
            refine g_get (cx := 4) K hS lF_X10_80 ((eX_4 G o) _) (by decide) rfl dX10_lay_52 ?_
            refine lv_bipush (v := 20) hx hb dX10_lay_55 (by decide) ?_
            refine lv_icmp_lt (tgt := 63) hx hb dX10_lay_57 (by decide) (fun c10 => ?_) (fun c10 => ?_)
            · have hf := gIf_t c10 hf
              refine lv_aload_n hx hb dX10_lay_63 rfl (lv_at hl 0 rfl) ?_
              refine g_get (cx := 0) K hS lF_X10_26 ((eX_0 G o) _) (by decide) rfl dX10_lay_64 ?_
              refine lv_aload_n hx hb dX10_lay_67 rfl (lv_at hl 0 rfl) ?_
              refine g_get (cx := 0) K hS lF_X10_10 ((eX_0 G o) _) (by decide) rfl dX10_lay_68 ?_
              obtain ⟨q11, hq11, hf⟩ := Option.bind_eq_some_iff.mp hf
              refine g_Vv (cx := 36) (As := [.ref (o + 1)]) K hS lV_X10_50 (c_X3_remember q8.2 q11 hq11) ((eX_36 G o) _) (by decide) rfl rfl rfl (Nat.le_of_ble_eq_true rfl) ⟨⟨Nat.le_of_ble_eq_true rfl, Nat.le_of_ble_eq_true rfl⟩, rfl, rfl⟩ hl.1 ⟨Nat.zero_le _, Nat.zero_le _⟩ dX10_lay_71 (fun H locs hS => ?_)
              refine lv_aload_n hx hb dX10_lay_74 rfl (lv_at hl 0 rfl) ?_
              refine g_get (cx := 0) K hS lF_X10_10 ((eX_0 G o) _) (by decide) rfl dX10_lay_75 ?_
              refine g_get (cx := 1) K hS lF_X10_76 ((eX_1 G o) _) (by decide) rfl dX10_lay_78 ?_
              refine lv_iload_n hx hb dX10_lay_81 rfl (lv_at hl 1 rfl) ?_
              refine lv_iload_n hx hb dX10_lay_82 rfl (lv_at hl 2 rfl) ?_
              refine lv_iload_n hx hb dX10_lay_83 rfl (lv_at hl 3 rfl) ?_
              refine lv_iload hx hb dX10_lay_84 (lv_at hl 4 rfl) ?_
              obtain ⟨q12, hq12, hf⟩ := Option.bind_eq_some_iff.mp hf
              refine g_Vv (cx := 4) (As := [.int p0, .int p1, .int p2, .int p3]) K hS lV_X10_86 (c_X1_append p0 p1 p2 p3 q11 q12 hq12) ((eX_4 G o) _) (by decide) rfl rfl rfl (Nat.le_of_ble_eq_true rfl) ⟨⟨Nat.le_of_ble_eq_true rfl, Nat.le_of_ble_eq_true rfl⟩, rfl, rfl⟩ hl.1 ⟨Nat.zero_le _, Nat.zero_le _⟩ dX10_lay_86 (fun H locs hS => ?_)
              refine lv_aload_n hx hb dX10_lay_89 rfl (lv_at hl 0 rfl) ?_
              refine g_get (cx := 0) K hS lF_X10_10 ((eX_0 G o) _) (by decide) rfl dX10_lay_90 ?_
              refine g_get (cx := 1) K hS lF_X10_76 ((eX_1 G o) _) (by decide) rfl dX10_lay_93 ?_
              refine g_get (cx := 4) K hS lF_X10_80 ((eX_4 G o) _) (by decide) rfl dX10_lay_96 ?_
              refine lv_iconst (v := 1) hx hb dX10_lay_99 (by decide) ?_
              refine lv_isub hx hb dX10_lay_100 ?_
              exact g_iret K hS hf dX10_lay_101
            · have hf := gIf_f c10 hf
              refine lv_bipush (v := (-4)) hx hb dX10_lay_60 (by decide) ?_
              exact g_iret K hS hf dX10_lay_62
          · have hf := gIf_t c9 hf
            refine lv_bipush (v := (-2)) hx hb dX10_lay_42 (by decide) ?_
            exact g_iret K hS hf dX10_lay_44
    · have hf := gIf_t c4 hf
      refine lv_iconst (v := (-1)) hx hb dX10_lay_14 (by decide) ?_
      exact g_iret K hS hf dX10_lay_15
abbrev rmX10_takeUp : Room := { frames := 6, cells := 0, slots := 0, locals := 146 }
def f_X10_takeUp (p0 : Int32) (σ : gS) : Option (Int32 × gS) := Option.bind (f_X1_has p0 σ) (fun q1 => if q1.1 = 0 then (some ((-1), q1.2)) else (Option.bind (f_X3_remember q1.2) (fun q3 => Option.bind (f_X1_remove p0 q3) (fun q4 => Option.bind (f_X2_forgetBoard p0 q4) (fun q5 => some ((q5 4 0), q5))))))
set_option maxHeartbeats 4000000 in
set_option maxRecDepth 100000 in
theorem c_X10_takeUp (p0 : Int32) (σ : gS) (q : Int32 × gS) (hf : f_X10_takeUp p0 σ = some q) : Met l yX10_takeUp (gW yX10_takeUp cX10_takeUp 2 (some .int)) rmX10_takeUp (gPc G (entX G o) o 302 [.ref (o + 0), .int p0] σ) (gQi G (entX G o) o 302 q) 0 0 (gA o 302) := by
  refine g_met (by decide) ⟨rfl, rfl⟩ (fun p e s m args below meth c ls K hS hl => ?_) (Nat.le_of_ble_eq_true rfl)
  have K : gK p s m args meth c G cX10_takeUp 2 RX10 (some .int) := K
  have hl : lv_has ls 2 [(0, .ref (o + 0)), (1, .int p0)] := hl
  obtain ⟨hx, hb, hml, hown, hts, -⟩ := id K
  unfold f_X10_takeUp at hf
  refine lv_aload_n hx hb dX10_takeUp_0 rfl (lv_at hl 0 rfl) ?_
  refine g_get (cx := 0) K hS lF_X10_10 ((eX_0 G o) _) (by decide) rfl dX10_takeUp_1 ?_
  refine g_get (cx := 1) K hS lF_X10_76 ((eX_1 G o) _) (by decide) rfl dX10_takeUp_4 ?_
  refine lv_iload_n hx hb dX10_takeUp_7 rfl (lv_at hl 1 rfl) ?_
  obtain ⟨q1, hq1, hf⟩ := Option.bind_eq_some_iff.mp hf
  refine g_Vi (cx := 4) (As := [.int p0]) K hS lV_X10_104 (c_X1_has p0 σ q1 hq1) ((eX_4 G o) _) (by decide) rfl rfl rfl (Nat.le_of_ble_eq_true rfl) ⟨⟨Nat.le_of_ble_eq_true rfl, Nat.le_of_ble_eq_true rfl⟩, rfl, rfl⟩ hl.1 ⟨Nat.zero_le _, Nat.zero_le _⟩ dX10_takeUp_8 (fun H locs hS => ?_)
  refine lv_if_ne (tgt := 16) hx hb dX10_takeUp_11 (by decide) (fun c2 => ?_) (fun c2 => ?_)
  · have hf := gIf_f c2 hf
    refine lv_aload_n hx hb dX10_takeUp_16 rfl (lv_at hl 0 rfl) ?_
    refine g_get (cx := 0) K hS lF_X10_26 ((eX_0 G o) _) (by decide) rfl dX10_takeUp_17 ?_
    refine lv_aload_n hx hb dX10_takeUp_20 rfl (lv_at hl 0 rfl) ?_
    refine g_get (cx := 0) K hS lF_X10_10 ((eX_0 G o) _) (by decide) rfl dX10_takeUp_21 ?_
    obtain ⟨q3, hq3, hf⟩ := Option.bind_eq_some_iff.mp hf
    refine g_Vv (cx := 36) (As := [.ref (o + 1)]) K hS lV_X10_50 (c_X3_remember q1.2 q3 hq3) ((eX_36 G o) _) (by decide) rfl rfl rfl (Nat.le_of_ble_eq_true rfl) ⟨⟨Nat.le_of_ble_eq_true rfl, Nat.le_of_ble_eq_true rfl⟩, rfl, rfl⟩ hl.1 ⟨Nat.zero_le _, Nat.zero_le _⟩ dX10_takeUp_24 (fun H locs hS => ?_)
    refine lv_aload_n hx hb dX10_takeUp_27 rfl (lv_at hl 0 rfl) ?_
    refine g_get (cx := 0) K hS lF_X10_10 ((eX_0 G o) _) (by decide) rfl dX10_takeUp_28 ?_
    refine g_get (cx := 1) K hS lF_X10_76 ((eX_1 G o) _) (by decide) rfl dX10_takeUp_31 ?_
    refine lv_iload_n hx hb dX10_takeUp_34 rfl (lv_at hl 1 rfl) ?_
    obtain ⟨q4, hq4, hf⟩ := Option.bind_eq_some_iff.mp hf
    refine g_Vv (cx := 4) (As := [.int p0]) K hS lV_X10_107 (c_X1_remove p0 q3 q4 hq4) ((eX_4 G o) _) (by decide) rfl rfl rfl (Nat.le_of_ble_eq_true rfl) ⟨⟨Nat.le_of_ble_eq_true rfl, Nat.le_of_ble_eq_true rfl⟩, rfl, rfl⟩ hl.1 ⟨Nat.zero_le _, Nat.zero_le _⟩ dX10_takeUp_35 (fun H locs hS => ?_)
    refine lv_aload_n hx hb dX10_takeUp_38 rfl (lv_at hl 0 rfl) ?_
    refine g_get (cx := 0) K hS lF_X10_10 ((eX_0 G o) _) (by decide) rfl dX10_takeUp_39 ?_
    refine g_get (cx := 1) K hS lF_X10_110 ((eX_1 G o) _) (by decide) rfl dX10_takeUp_42 ?_
    refine lv_iload_n hx hb dX10_takeUp_45 rfl (lv_at hl 1 rfl) ?_
    obtain ⟨q5, hq5, hf⟩ := Option.bind_eq_some_iff.mp hf
    refine g_Vv (cx := 17) (As := [.int p0]) K hS lV_X10_114 (c_X2_forgetBoard p0 q4 q5 hq5) ((eX_17 G o) _) (by decide) rfl rfl rfl (Nat.le_of_ble_eq_true rfl) ⟨⟨Nat.le_of_ble_eq_true rfl, Nat.le_of_ble_eq_true rfl⟩, rfl, rfl⟩ hl.1 ⟨Nat.zero_le _, Nat.zero_le _⟩ dX10_takeUp_46 (fun H locs hS => ?_)
    refine lv_aload_n hx hb dX10_takeUp_49 rfl (lv_at hl 0 rfl) ?_
    refine g_get (cx := 0) K hS lF_X10_10 ((eX_0 G o) _) (by decide) rfl dX10_takeUp_50 ?_
    refine g_get (cx := 1) K hS lF_X10_76 ((eX_1 G o) _) (by decide) rfl dX10_takeUp_53 ?_
    refine g_get (cx := 4) K hS lF_X10_80 ((eX_4 G o) _) (by decide) rfl dX10_takeUp_56 ?_
    exact g_iret K hS hf dX10_takeUp_59
  · have hf := gIf_t c2 hf
    refine lv_iconst (v := (-1)) hx hb dX10_takeUp_14 (by decide) ?_
    exact g_iret K hS hf dX10_takeUp_15
abbrev rmX10_sleeper : Room := { frames := 6, cells := 0, slots := 0, locals := 146 }
def f_X10_sleeper (p0 : Int32) (p1 : Int32) (σ : gS) : Option (Int32 × gS) := Option.bind (f_X10_isRoom p0 σ) (fun q1 => if q1.1 = 0 then (some ((-1), q1.2)) else (Option.bind (f_X10_isWithin p1 1 9 q1.2) (fun q3 => if q3.1 = 0 then (some ((-2), q3.2)) else (if (q3.2 24 0) < 5 then (Option.bind (f_X3_remember q3.2) (fun q6 => Option.bind (f_X7_append p0 p1 q6) (fun q7 => some (((q7 24 0) - 1), q7)))) else (some ((-4), q3.2))))))
set_option maxHeartbeats 4000000 in
set_option maxRecDepth 100000 in
theorem c_X10_sleeper (p0 : Int32) (p1 : Int32) (σ : gS) (q : Int32 × gS) (hf : f_X10_sleeper p0 p1 σ = some q) : Met l yX10_sleeper (gW yX10_sleeper cX10_sleeper 3 (some .int)) rmX10_sleeper (gPc G (entX G o) o 302 [.ref (o + 0), .int p0, .int p1] σ) (gQi G (entX G o) o 302 q) 0 0 (gA o 302) := by
  refine g_met (by decide) ⟨rfl, rfl⟩ (fun p e s m args below meth c ls K hS hl => ?_) (Nat.le_of_ble_eq_true rfl)
  have K : gK p s m args meth c G cX10_sleeper 3 RX10 (some .int) := K
  have hl : lv_has ls 3 [(0, .ref (o + 0)), (1, .int p0), (2, .int p1)] := hl
  obtain ⟨hx, hb, hml, hown, hts, -⟩ := id K
  unfold f_X10_sleeper at hf
  refine lv_iload_n hx hb dX10_sleeper_0 rfl (lv_at hl 1 rfl) ?_
  obtain ⟨q1, hq1, hf⟩ := Option.bind_eq_some_iff.mp hf
  refine g_Si (As := [.int p0]) K hS lS_X10_68 (c_X10_isRoom p0 σ q1 hq1) rfl rfl (Nat.le_of_ble_eq_true rfl) ⟨⟨Nat.le_of_ble_eq_true rfl, Nat.le_of_ble_eq_true rfl⟩, rfl, rfl⟩ hl.1 ⟨Nat.zero_le _, Nat.zero_le _⟩ dX10_sleeper_1 (fun H locs hS => ?_)
  refine lv_if_ne (tgt := 9) hx hb dX10_sleeper_4 (by decide) (fun c2 => ?_) (fun c2 => ?_)
  · have hf := gIf_f c2 hf
    refine lv_iload_n hx hb dX10_sleeper_9 rfl (lv_at hl 2 rfl) ?_
    refine lv_iconst (v := 1) hx hb dX10_sleeper_10 (by decide) ?_
    refine lv_bipush (v := 9) hx hb dX10_sleeper_11 (by decide) ?_
    obtain ⟨q3, hq3, hf⟩ := Option.bind_eq_some_iff.mp hf
    refine g_Si (As := [.int p1, .int 1, .int 9]) K hS lS_X10_72 (c_X10_isWithin p1 1 9 q1.2 q3 hq3) rfl rfl (Nat.le_of_ble_eq_true rfl) ⟨⟨Nat.le_of_ble_eq_true rfl, Nat.le_of_ble_eq_true rfl⟩, rfl, rfl⟩ hl.1 ⟨Nat.zero_le _, Nat.zero_le _⟩ dX10_sleeper_13 (fun H locs hS => ?_)
    refine lv_if_ne (tgt := 22) hx hb dX10_sleeper_16 (by decide) (fun c4 => ?_) (fun c4 => ?_)
    · have hf := gIf_f c4 hf
      refine lv_aload_n hx hb dX10_sleeper_22 rfl (lv_at hl 0 rfl) ?_
      refine g_get (cx := 0) K hS lF_X10_10 ((eX_0 G o) _) (by decide) rfl dX10_sleeper_23 ?_
      refine g_get (cx := 1) K hS lF_X10_119 ((eX_1 G o) _) (by decide) rfl dX10_sleeper_26 ?_
      refine g_get (cx := 24) K hS lF_X10_123 ((eX_24 G o) _) (by decide) rfl dX10_sleeper_29 ?_
      refine lv_iconst (v := 5) hx hb dX10_sleeper_32 (by decide) ?_
      refine lv_icmp_lt (tgt := 39) hx hb dX10_sleeper_33 (by decide) (fun c5 => ?_) (fun c5 => ?_)
      · have hf := gIf_t c5 hf
        refine lv_aload_n hx hb dX10_sleeper_39 rfl (lv_at hl 0 rfl) ?_
        refine g_get (cx := 0) K hS lF_X10_26 ((eX_0 G o) _) (by decide) rfl dX10_sleeper_40 ?_
        refine lv_aload_n hx hb dX10_sleeper_43 rfl (lv_at hl 0 rfl) ?_
        refine g_get (cx := 0) K hS lF_X10_10 ((eX_0 G o) _) (by decide) rfl dX10_sleeper_44 ?_
        obtain ⟨q6, hq6, hf⟩ := Option.bind_eq_some_iff.mp hf
        refine g_Vv (cx := 36) (As := [.ref (o + 1)]) K hS lV_X10_50 (c_X3_remember q3.2 q6 hq6) ((eX_36 G o) _) (by decide) rfl rfl rfl (Nat.le_of_ble_eq_true rfl) ⟨⟨Nat.le_of_ble_eq_true rfl, Nat.le_of_ble_eq_true rfl⟩, rfl, rfl⟩ hl.1 ⟨Nat.zero_le _, Nat.zero_le _⟩ dX10_sleeper_47 (fun H locs hS => ?_)
        refine lv_aload_n hx hb dX10_sleeper_50 rfl (lv_at hl 0 rfl) ?_
        refine g_get (cx := 0) K hS lF_X10_10 ((eX_0 G o) _) (by decide) rfl dX10_sleeper_51 ?_
        refine g_get (cx := 1) K hS lF_X10_119 ((eX_1 G o) _) (by decide) rfl dX10_sleeper_54 ?_
        refine lv_iload_n hx hb dX10_sleeper_57 rfl (lv_at hl 1 rfl) ?_
        refine lv_iload_n hx hb dX10_sleeper_58 rfl (lv_at hl 2 rfl) ?_
        obtain ⟨q7, hq7, hf⟩ := Option.bind_eq_some_iff.mp hf
        refine g_Vv (cx := 24) (As := [.int p0, .int p1]) K hS lV_X10_128 (c_X7_append p0 p1 q6 q7 hq7) ((eX_24 G o) _) (by decide) rfl rfl rfl (Nat.le_of_ble_eq_true rfl) ⟨⟨Nat.le_of_ble_eq_true rfl, Nat.le_of_ble_eq_true rfl⟩, rfl, rfl⟩ hl.1 ⟨Nat.zero_le _, Nat.zero_le _⟩ dX10_sleeper_59 (fun H locs hS => ?_)
        refine lv_aload_n hx hb dX10_sleeper_62 rfl (lv_at hl 0 rfl) ?_
        refine g_get (cx := 0) K hS lF_X10_10 ((eX_0 G o) _) (by decide) rfl dX10_sleeper_63 ?_
        refine g_get (cx := 1) K hS lF_X10_119 ((eX_1 G o) _) (by decide) rfl dX10_sleeper_66 ?_
        refine g_get (cx := 24) K hS lF_X10_123 ((eX_24 G o) _) (by decide) rfl dX10_sleeper_69 ?_
        refine lv_iconst (v := 1) hx hb dX10_sleeper_72 (by decide) ?_
        refine lv_isub hx hb dX10_sleeper_73 ?_
        exact g_iret K hS hf dX10_sleeper_74
      · have hf := gIf_f c5 hf
        refine lv_bipush (v := (-4)) hx hb dX10_sleeper_36 (by decide) ?_
        exact g_iret K hS hf dX10_sleeper_38
    · have hf := gIf_t c4 hf
      refine lv_bipush (v := (-2)) hx hb dX10_sleeper_19 (by decide) ?_
      exact g_iret K hS hf dX10_sleeper_21
  · have hf := gIf_t c2 hf
    refine lv_iconst (v := (-1)) hx hb dX10_sleeper_7 (by decide) ?_
    exact g_iret K hS hf dX10_sleeper_8
abbrev rmX10_isGhost : Room := { frames := 1, cells := 0, slots := 0, locals := 22 }
def f_X10_isGhost (p0 : Int32) (σ : gS) : Option (Int32 × gS) := Option.bind (f_X10_isWithin p0 0 3 σ) (fun q1 => gGd (gbo q1.1) (some (q1.1, q1.2)))
set_option maxHeartbeats 4000000 in
set_option maxRecDepth 100000 in
theorem c_X10_isGhost (p0 : Int32) (σ : gS) (q : Int32 × gS) (hf : f_X10_isGhost p0 σ = some q) : Met l yX10_isGhost (gW yX10_isGhost cX10_isGhost 1 (some .boolean)) rmX10_isGhost (gPc G (entX G o) o 302 [.int p0] σ) (gQi G (entX G o) o 302 q) 0 0 (gA o 302) := by
  refine g_met (by decide) ⟨rfl, rfl⟩ (fun p e s m args below meth c ls K hS hl => ?_) (Nat.le_of_ble_eq_true rfl)
  have K : gK p s m args meth c G cX10_isGhost 1 RX10 (some .boolean) := K
  have hl : lv_has ls 1 [(0, .int p0)] := hl
  obtain ⟨hx, hb, hml, hown, hts, -⟩ := id K
  unfold f_X10_isGhost at hf
  refine lv_iload_n hx hb dX10_isGhost_0 rfl (lv_at hl 0 rfl) ?_
  refine lv_iconst (v := 0) hx hb dX10_isGhost_1 (by decide) ?_
  refine lv_iconst (v := 3) hx hb dX10_isGhost_2 (by decide) ?_
  obtain ⟨q1, hq1, hf⟩ := Option.bind_eq_some_iff.mp hf
  refine g_Si (As := [.int p0, .int 0, .int 3]) K hS lS_X10_72 (c_X10_isWithin p0 0 3 σ q1 hq1) rfl rfl (Nat.le_of_ble_eq_true rfl) ⟨⟨Nat.le_of_ble_eq_true rfl, Nat.le_of_ble_eq_true rfl⟩, rfl, rfl⟩ hl.1 ⟨Nat.zero_le _, Nat.zero_le _⟩ dX10_isGhost_3 (fun H locs hS => ?_)
  obtain ⟨h2, hf⟩ := gGd_some hf
  exact g_zret K hS (gbo_nar h2) hf dX10_isGhost_6
abbrev rmX10_put : Room := { frames := 6, cells := 0, slots := 0, locals := 146 }
def f_X10_put (p0 : Int32) (p1 : Int32) (σ : gS) : Option (Int32 × gS) := Option.bind (f_X10_isGhost p0 σ) (fun q1 => if q1.1 = 0 then (some ((-1), q1.2)) else (Option.bind (f_X10_isRoom p1 q1.2) (fun q3 => if q3.1 = 0 then (some ((-1), q3.2)) else (Option.bind (f_X3_remember q3.2) (fun q5 => Option.bind (f_X5_at 18 4 p0 q5) (fun q6 => Option.bind (f_X5_store 18 4 p0 p1 q6.2) (fun q7 => some (q6.1, q7))))))))
set_option maxHeartbeats 4000000 in
set_option maxRecDepth 100000 in
theorem c_X10_put (p0 : Int32) (p1 : Int32) (σ : gS) (q : Int32 × gS) (hf : f_X10_put p0 p1 σ = some q) : Met l yX10_put (gW yX10_put cX10_put 4 (some .int)) rmX10_put (gPc G (entX G o) o 302 [.ref (o + 0), .int p0, .int p1] σ) (gQi G (entX G o) o 302 q) 0 0 (gA o 302) := by
  refine g_met (by decide) ⟨rfl, rfl⟩ (fun p e s m args below meth c ls K hS hl => ?_) (Nat.le_of_ble_eq_true rfl)
  have K : gK p s m args meth c G cX10_put 4 RX10 (some .int) := K
  have hl : lv_has ls 4 [(0, .ref (o + 0)), (1, .int p0), (2, .int p1)] := hl
  obtain ⟨hx, hb, hml, hown, hts, -⟩ := id K
  unfold f_X10_put at hf
  refine lv_iload_n hx hb dX10_put_0 rfl (lv_at hl 1 rfl) ?_
  obtain ⟨q1, hq1, hf⟩ := Option.bind_eq_some_iff.mp hf
  refine g_Si (As := [.int p0]) K hS lS_X10_130 (c_X10_isGhost p0 σ q1 hq1) rfl rfl (Nat.le_of_ble_eq_true rfl) ⟨⟨Nat.le_of_ble_eq_true rfl, Nat.le_of_ble_eq_true rfl⟩, rfl, rfl⟩ hl.1 ⟨Nat.zero_le _, Nat.zero_le _⟩ dX10_put_1 (fun H locs hS => ?_)
  refine lv_if_eq (tgt := 14) hx hb dX10_put_4 (by decide) (fun c2 => ?_) (fun c2 => ?_)
  · have hf := gIf_t c2 hf
    refine lv_iconst (v := (-1)) hx hb dX10_put_14 (by decide) ?_
    exact g_iret K hS hf dX10_put_15
  · have hf := gIf_f c2 hf
    refine lv_iload_n hx hb dX10_put_7 rfl (lv_at hl 2 rfl) ?_
    obtain ⟨q3, hq3, hf⟩ := Option.bind_eq_some_iff.mp hf
    refine g_Si (As := [.int p1]) K hS lS_X10_68 (c_X10_isRoom p1 q1.2 q3 hq3) rfl rfl (Nat.le_of_ble_eq_true rfl) ⟨⟨Nat.le_of_ble_eq_true rfl, Nat.le_of_ble_eq_true rfl⟩, rfl, rfl⟩ hl.1 ⟨Nat.zero_le _, Nat.zero_le _⟩ dX10_put_8 (fun H locs hS => ?_)
    refine lv_if_ne (tgt := 16) hx hb dX10_put_11 (by decide) (fun c4 => ?_) (fun c4 => ?_)
    · have hf := gIf_f c4 hf
      refine lv_aload_n hx hb dX10_put_16 rfl (lv_at hl 0 rfl) ?_
      refine g_get (cx := 0) K hS lF_X10_26 ((eX_0 G o) _) (by decide) rfl dX10_put_17 ?_
      refine lv_aload_n hx hb dX10_put_20 rfl (lv_at hl 0 rfl) ?_
      refine g_get (cx := 0) K hS lF_X10_10 ((eX_0 G o) _) (by decide) rfl dX10_put_21 ?_
      obtain ⟨q5, hq5, hf⟩ := Option.bind_eq_some_iff.mp hf
      refine g_Vv (cx := 36) (As := [.ref (o + 1)]) K hS lV_X10_50 (c_X3_remember q3.2 q5 hq5) ((eX_36 G o) _) (by decide) rfl rfl rfl (Nat.le_of_ble_eq_true rfl) ⟨⟨Nat.le_of_ble_eq_true rfl, Nat.le_of_ble_eq_true rfl⟩, rfl, rfl⟩ hl.1 ⟨Nat.zero_le _, Nat.zero_le _⟩ dX10_put_24 (fun H locs hS => ?_)
      refine lv_aload_n hx hb dX10_put_27 rfl (lv_at hl 0 rfl) ?_
      refine g_get (cx := 0) K hS lF_X10_10 ((eX_0 G o) _) (by decide) rfl dX10_put_28 ?_
      refine g_get (cx := 1) K hS lF_X10_110 ((eX_1 G o) _) (by decide) rfl dX10_put_31 ?_
      refine g_get (cx := 17) K hS lF_X10_133 ((eX_17 G o) _) (by decide) rfl dX10_put_34 ?_
      refine lv_iload_n hx hb dX10_put_37 rfl (lv_at hl 1 rfl) ?_
      obtain ⟨q6, hq6, hf⟩ := Option.bind_eq_some_iff.mp hf
      refine g_Vi (cx := 18) (As := [.int p0]) K hS lV_X10_58 (c_X5_at 18 4 (gRow_18 G o) p0 q5 q6 hq6) ((eX_18 G o) _) (by decide) rfl rfl rfl (Nat.le_of_ble_eq_true rfl) ⟨⟨Nat.le_of_ble_eq_true rfl, Nat.le_of_ble_eq_true rfl⟩, rfl, rfl⟩ hl.1 ⟨Nat.zero_le _, Nat.zero_le _⟩ dX10_put_38 (fun H locs hS => ?_)
      refine lv_istore_n (lv' := [(3, .int q6.1), (0, .ref (o + 0)), (1, .int p0), (2, .int p1)]) hx hb dX10_put_41 rfl hl (by decide) rfl (fun ls hl => ?_)
      refine lv_aload_n hx hb dX10_put_42 rfl (lv_at hl 1 rfl) ?_
      refine g_get (cx := 0) K hS lF_X10_10 ((eX_0 G o) _) (by decide) rfl dX10_put_43 ?_
      refine g_get (cx := 1) K hS lF_X10_110 ((eX_1 G o) _) (by decide) rfl dX10_put_46 ?_
      refine g_get (cx := 17) K hS lF_X10_133 ((eX_17 G o) _) (by decide) rfl dX10_put_49 ?_
      refine lv_iload_n hx hb dX10_put_52 rfl (lv_at hl 2 rfl) ?_
      refine lv_iload_n hx hb dX10_put_53 rfl (lv_at hl 3 rfl) ?_
      obtain ⟨q7, hq7, hf⟩ := Option.bind_eq_some_iff.mp hf
      refine g_Vv (cx := 18) (As := [.int p0, .int p1]) K hS lV_X10_64 (c_X5_store 18 4 (gRow_18 G o) p0 p1 q6.2 q7 hq7) ((eX_18 G o) _) (by decide) rfl rfl rfl (Nat.le_of_ble_eq_true rfl) ⟨⟨Nat.le_of_ble_eq_true rfl, Nat.le_of_ble_eq_true rfl⟩, rfl, rfl⟩ hl.1 ⟨Nat.zero_le _, Nat.zero_le _⟩ dX10_put_54 (fun H locs hS => ?_)
      refine lv_iload_n hx hb dX10_put_57 rfl (lv_at hl 0 rfl) ?_
      exact g_iret K hS hf dX10_put_58
    · have hf := gIf_t c4 hf
      refine lv_iconst (v := (-1)) hx hb dX10_put_14 (by decide) ?_
      exact g_iret K hS hf dX10_put_15
abbrev rmX10_glide : Room := { frames := 6, cells := 0, slots := 0, locals := 146 }
def f_X10_glide (p0 : Int32) (p1 : Int32) (σ : gS) : Option (Int32 × gS) := Option.bind (f_X10_isGhost p0 σ) (fun q1 => if q1.1 = 0 then (some ((-1), q1.2)) else (Option.bind (f_X1_has p1 q1.2) (fun q3 => if q3.1 = 0 then (some ((-1), q3.2)) else (Option.bind (f_X0_freeAtRoomOf p0 q3.2) (fun q5 => Option.bind (f_X10_holds q5.1 p1 q5.2) (fun q6 => if q6.1 = 0 then (some ((-5), q6.2)) else (Option.bind (f_X3_remember q6.2) (fun q8 => Option.bind (f_X0_letGlide p0 p1 q8) (fun q9 => some (q9.1, q9.2))))))))))
set_option maxHeartbeats 4000000 in
set_option maxRecDepth 100000 in
theorem c_X10_glide (p0 : Int32) (p1 : Int32) (σ : gS) (q : Int32 × gS) (hf : f_X10_glide p0 p1 σ = some q) : Met l yX10_glide (gW yX10_glide cX10_glide 3 (some .int)) rmX10_glide (gPc G (entX G o) o 302 [.ref (o + 0), .int p0, .int p1] σ) (gQi G (entX G o) o 302 q) 0 0 (gA o 302) := by
  refine g_met (by decide) ⟨rfl, rfl⟩ (fun p e s m args below meth c ls K hS hl => ?_) (Nat.le_of_ble_eq_true rfl)
  have K : gK p s m args meth c G cX10_glide 3 RX10 (some .int) := K
  have hl : lv_has ls 3 [(0, .ref (o + 0)), (1, .int p0), (2, .int p1)] := hl
  obtain ⟨hx, hb, hml, hown, hts, -⟩ := id K
  unfold f_X10_glide at hf
  refine lv_iload_n hx hb dX10_glide_0 rfl (lv_at hl 1 rfl) ?_
  obtain ⟨q1, hq1, hf⟩ := Option.bind_eq_some_iff.mp hf
  refine g_Si (As := [.int p0]) K hS lS_X10_130 (c_X10_isGhost p0 σ q1 hq1) rfl rfl (Nat.le_of_ble_eq_true rfl) ⟨⟨Nat.le_of_ble_eq_true rfl, Nat.le_of_ble_eq_true rfl⟩, rfl, rfl⟩ hl.1 ⟨Nat.zero_le _, Nat.zero_le _⟩ dX10_glide_1 (fun H locs hS => ?_)
  refine lv_if_eq (tgt := 21) hx hb dX10_glide_4 (by decide) (fun c2 => ?_) (fun c2 => ?_)
  · have hf := gIf_t c2 hf
    refine lv_iconst (v := (-1)) hx hb dX10_glide_21 (by decide) ?_
    exact g_iret K hS hf dX10_glide_22
  · have hf := gIf_f c2 hf
    refine lv_aload_n hx hb dX10_glide_7 rfl (lv_at hl 0 rfl) ?_
    refine g_get (cx := 0) K hS lF_X10_10 ((eX_0 G o) _) (by decide) rfl dX10_glide_8 ?_
    refine g_get (cx := 1) K hS lF_X10_76 ((eX_1 G o) _) (by decide) rfl dX10_glide_11 ?_
    refine lv_iload_n hx hb dX10_glide_14 rfl (lv_at hl 2 rfl) ?_
    obtain ⟨q3, hq3, hf⟩ := Option.bind_eq_some_iff.mp hf
    refine g_Vi (cx := 4) (As := [.int p1]) K hS lV_X10_104 (c_X1_has p1 q1.2 q3 hq3) ((eX_4 G o) _) (by decide) rfl rfl rfl (Nat.le_of_ble_eq_true rfl) ⟨⟨Nat.le_of_ble_eq_true rfl, Nat.le_of_ble_eq_true rfl⟩, rfl, rfl⟩ hl.1 ⟨Nat.zero_le _, Nat.zero_le _⟩ dX10_glide_15 (fun H locs hS => ?_)
    refine lv_if_ne (tgt := 23) hx hb dX10_glide_18 (by decide) (fun c4 => ?_) (fun c4 => ?_)
    · have hf := gIf_f c4 hf
      refine lv_aload_n hx hb dX10_glide_23 rfl (lv_at hl 0 rfl) ?_
      refine g_get (cx := 0) K hS lF_X10_10 ((eX_0 G o) _) (by decide) rfl dX10_glide_24 ?_
      refine lv_iload_n hx hb dX10_glide_27 rfl (lv_at hl 1 rfl) ?_
      obtain ⟨q5, hq5, hf⟩ := Option.bind_eq_some_iff.mp hf
      refine g_Vi (cx := 1) (As := [.int p0]) K hS lV_X10_136 (c_X0_freeAtRoomOf p0 q3.2 q5 hq5) ((eX_1 G o) _) (by decide) rfl rfl rfl (Nat.le_of_ble_eq_true rfl) ⟨⟨Nat.le_of_ble_eq_true rfl, Nat.le_of_ble_eq_true rfl⟩, rfl, rfl⟩ hl.1 ⟨Nat.zero_le _, Nat.zero_le _⟩ dX10_glide_28 (fun H locs hS => ?_)
      refine lv_iload_n hx hb dX10_glide_31 rfl (lv_at hl 2 rfl) ?_
      obtain ⟨q6, hq6, hf⟩ := Option.bind_eq_some_iff.mp hf
      refine g_Si (As := [.int q5.1, .int p1]) K hS lS_X10_139 (c_X10_holds q5.1 p1 q5.2 q6 hq6) rfl rfl (Nat.le_of_ble_eq_true rfl) ⟨⟨Nat.le_of_ble_eq_true rfl, Nat.le_of_ble_eq_true rfl⟩, rfl, rfl⟩ hl.1 ⟨Nat.zero_le _, Nat.zero_le _⟩ dX10_glide_32 (fun H locs hS => ?_)
      refine lv_if_ne (tgt := 41) hx hb dX10_glide_35 (by decide) (fun c7 => ?_) (fun c7 => ?_)
      · have hf := gIf_f c7 hf
        refine lv_aload_n hx hb dX10_glide_41 rfl (lv_at hl 0 rfl) ?_
        refine g_get (cx := 0) K hS lF_X10_26 ((eX_0 G o) _) (by decide) rfl dX10_glide_42 ?_
        refine lv_aload_n hx hb dX10_glide_45 rfl (lv_at hl 0 rfl) ?_
        refine g_get (cx := 0) K hS lF_X10_10 ((eX_0 G o) _) (by decide) rfl dX10_glide_46 ?_
        obtain ⟨q8, hq8, hf⟩ := Option.bind_eq_some_iff.mp hf
        refine g_Vv (cx := 36) (As := [.ref (o + 1)]) K hS lV_X10_50 (c_X3_remember q6.2 q8 hq8) ((eX_36 G o) _) (by decide) rfl rfl rfl (Nat.le_of_ble_eq_true rfl) ⟨⟨Nat.le_of_ble_eq_true rfl, Nat.le_of_ble_eq_true rfl⟩, rfl, rfl⟩ hl.1 ⟨Nat.zero_le _, Nat.zero_le _⟩ dX10_glide_49 (fun H locs hS => ?_)
        refine lv_aload_n hx hb dX10_glide_52 rfl (lv_at hl 0 rfl) ?_
        refine g_get (cx := 0) K hS lF_X10_10 ((eX_0 G o) _) (by decide) rfl dX10_glide_53 ?_
        refine lv_iload_n hx hb dX10_glide_56 rfl (lv_at hl 1 rfl) ?_
        refine lv_iload_n hx hb dX10_glide_57 rfl (lv_at hl 2 rfl) ?_
        obtain ⟨q9, hq9, hf⟩ := Option.bind_eq_some_iff.mp hf
        refine g_Vi (cx := 1) (As := [.int p0, .int p1]) K hS lV_X10_142 (c_X0_letGlide p0 p1 q8 q9 hq9) ((eX_1 G o) _) (by decide) rfl rfl rfl (Nat.le_of_ble_eq_true rfl) ⟨⟨Nat.le_of_ble_eq_true rfl, Nat.le_of_ble_eq_true rfl⟩, rfl, rfl⟩ hl.1 ⟨Nat.zero_le _, Nat.zero_le _⟩ dX10_glide_58 (fun H locs hS => ?_)
        exact g_iret K hS hf dX10_glide_61
      · have hf := gIf_t c7 hf
        refine lv_bipush (v := (-5)) hx hb dX10_glide_38 (by decide) ?_
        exact g_iret K hS hf dX10_glide_40
    · have hf := gIf_t c4 hf
      refine lv_iconst (v := (-1)) hx hb dX10_glide_21 (by decide) ?_
      exact g_iret K hS hf dX10_glide_22
abbrev rmX10_findWay : Room := { frames := 5, cells := 0, slots := 0, locals := 120 }
def f_X10_findWay (p0 : Int32) (p1 : Int32) (σ : gS) : Option (gS) := Option.bind (f_X0_freeTo p0 σ) (fun q1 => Option.bind (f_X5_at 18 4 p0 q1.2) (fun q2 => Option.bind (f_X9_find q1.1 q2.1 p1 q2.2) (fun q3 => some q3)))
set_option maxHeartbeats 4000000 in
set_option maxRecDepth 100000 in
theorem c_X10_findWay (p0 : Int32) (p1 : Int32) (σ : gS) (q : gS) (hf : f_X10_findWay p0 p1 σ = some q) : Met l yX10_findWay (gW yX10_findWay cX10_findWay 3 none) rmX10_findWay (gPc G (entX G o) o 302 [.ref (o + 0), .int p0, .int p1] σ) (gQv G (entX G o) o 302 q) 0 0 (gA o 302) := by
  refine g_met (by decide) ⟨rfl, rfl⟩ (fun p e s m args below meth c ls K hS hl => ?_) (Nat.le_of_ble_eq_true rfl)
  have K : gK p s m args meth c G cX10_findWay 3 RX10 none := K
  have hl : lv_has ls 3 [(0, .ref (o + 0)), (1, .int p0), (2, .int p1)] := hl
  obtain ⟨hx, hb, hml, hown, hts, -⟩ := id K
  unfold f_X10_findWay at hf
  refine lv_aload_n hx hb dX10_findWay_0 rfl (lv_at hl 0 rfl) ?_
  refine g_get (cx := 0) K hS lF_X10_42 ((eX_0 G o) _) (by decide) rfl dX10_findWay_1 ?_
  refine lv_aload_n hx hb dX10_findWay_4 rfl (lv_at hl 0 rfl) ?_
  refine g_get (cx := 0) K hS lF_X10_10 ((eX_0 G o) _) (by decide) rfl dX10_findWay_5 ?_
  refine g_get (cx := 1) K hS lF_X10_76 ((eX_1 G o) _) (by decide) rfl dX10_findWay_8 ?_
  refine lv_aload_n hx hb dX10_findWay_11 rfl (lv_at hl 0 rfl) ?_
  refine g_get (cx := 0) K hS lF_X10_10 ((eX_0 G o) _) (by decide) rfl dX10_findWay_12 ?_
  refine lv_iload_n hx hb dX10_findWay_15 rfl (lv_at hl 1 rfl) ?_
  obtain ⟨q1, hq1, hf⟩ := Option.bind_eq_some_iff.mp hf
  refine g_Vi (cx := 1) (As := [.int p0]) K hS lV_X10_187 (c_X0_freeTo p0 σ q1 hq1) ((eX_1 G o) _) (by decide) rfl rfl rfl (Nat.le_of_ble_eq_true rfl) ⟨⟨Nat.le_of_ble_eq_true rfl, Nat.le_of_ble_eq_true rfl⟩, rfl, rfl⟩ hl.1 ⟨Nat.zero_le _, Nat.zero_le _⟩ dX10_findWay_16 (fun H locs hS => ?_)
  refine lv_aload_n hx hb dX10_findWay_19 rfl (lv_at hl 0 rfl) ?_
  refine g_get (cx := 0) K hS lF_X10_10 ((eX_0 G o) _) (by decide) rfl dX10_findWay_20 ?_
  refine g_get (cx := 1) K hS lF_X10_110 ((eX_1 G o) _) (by decide) rfl dX10_findWay_23 ?_
  refine g_get (cx := 17) K hS lF_X10_133 ((eX_17 G o) _) (by decide) rfl dX10_findWay_26 ?_
  refine lv_iload_n hx hb dX10_findWay_29 rfl (lv_at hl 1 rfl) ?_
  obtain ⟨q2, hq2, hf⟩ := Option.bind_eq_some_iff.mp hf
  refine g_Vi (cx := 18) (As := [.int p0]) K hS lV_X10_58 (c_X5_at 18 4 (gRow_18 G o) p0 q1.2 q2 hq2) ((eX_18 G o) _) (by decide) rfl rfl rfl (Nat.le_of_ble_eq_true rfl) ⟨⟨Nat.le_of_ble_eq_true rfl, Nat.le_of_ble_eq_true rfl⟩, rfl, rfl⟩ hl.1 ⟨Nat.zero_le _, Nat.zero_le _⟩ dX10_findWay_30 (fun H locs hS => ?_)
  refine lv_iload_n hx hb dX10_findWay_33 rfl (lv_at hl 2 rfl) ?_
  obtain ⟨q3, hq3, hf⟩ := Option.bind_eq_some_iff.mp hf
  refine g_Vv (cx := 297) (As := [.ref (o + 4), .int q1.1, .int q2.1, .int p1]) K hS lV_X10_274 (c_X9_find q1.1 q2.1 p1 q2.2 q3 hq3) ((eX_297 G o) _) (by decide) rfl rfl rfl (Nat.le_of_ble_eq_true rfl) ⟨⟨Nat.le_of_ble_eq_true rfl, Nat.le_of_ble_eq_true rfl⟩, rfl, rfl⟩ hl.1 ⟨Nat.zero_le _, Nat.zero_le _⟩ dX10_findWay_34 (fun H locs hS => ?_)
  exact g_vret K hS hf dX10_findWay_37
abbrev rmX10_go : Room := { frames := 6, cells := 0, slots := 0, locals := 146 }
def f_X10_go_L48 (w1 : Int32) (K108 : gS → Option (Int32 × gS)) (K88 : gS → Option (Int32 × gS)) : Nat → Int32 → gS → Option (Int32 × gS)
  | 0, _, _ => none
  | n + 1, v3, σ => if (σ 297 4) ≤ v3 then (K108 σ) else (Option.bind (f_X5_at 300 10 v3 σ) (fun q9 => Option.bind (f_X0_freeAtRoomOf w1 q9.2) (fun q10 => Option.bind (f_X10_holds q10.1 q9.1 q10.2) (fun q11 => if q11.1 = 0 then (K88 q11.2) else (Option.bind (f_X0_letGlide w1 q9.1 q11.2) (fun q13 => f_X10_go_L48 w1 K108 K88 n (v3 + 1) q13.2))))))
theorem f_X10_go_L48_s (w1 : Int32) (K108 : gS → Option (Int32 × gS)) (K88 : gS → Option (Int32 × gS)) (n : Nat) (v3 : Int32) (σ : gS) : f_X10_go_L48 w1 K108 K88 (n + 1) v3 σ = (if (σ 297 4) ≤ v3 then (K108 σ) else (Option.bind (f_X5_at 300 10 v3 σ) (fun q9 => Option.bind (f_X0_freeAtRoomOf w1 q9.2) (fun q10 => Option.bind (f_X10_holds q10.1 q9.1 q10.2) (fun q11 => if q11.1 = 0 then (K88 q11.2) else (Option.bind (f_X0_letGlide w1 q9.1 q11.2) (fun q13 => f_X10_go_L48 w1 K108 K88 n (v3 + 1) q13.2))))))) := rfl
def f_X10_go (p0 : Int32) (p1 : Int32) (σ : gS) : Option (Int32 × gS) := Option.bind (f_X10_isGhost p0 σ) (fun q1 => if q1.1 = 0 then (some ((-1), q1.2)) else (Option.bind (f_X10_isRoom p1 q1.2) (fun q3 => if q3.1 = 0 then (some ((-1), q3.2)) else (Option.bind (f_X10_findWay p0 p1 q3.2) (fun q5 => if (q5 297 2) = 0 then (some ((-5), q5)) else (Option.bind (f_X3_remember q5) (fun q7 => f_X10_go_L48 p0 (fun (s14 : gS) => Option.bind (f_X5_at 18 4 p0 s14) (fun q15 => some (q15.1, q15.2))) (fun (s16 : gS) => Option.bind (f_X5_at 18 4 p0 s16) (fun q17 => some (q17.1, q17.2))) gFu 0 q7)))))))
set_option maxHeartbeats 4000000 in
set_option maxRecDepth 100000 in
theorem w_X10_go_L48 (w1 : Int32) (K108 : gS → Option (Int32 × gS)) (K88 : gS → Option (Int32 × gS)) {q : Int32 × gS} (K : gK p s m args meth c G cX10_go 5 RX10 (some .int)) (hK108 : ∀ (σ : gS), K108 σ = some q → ∀ (H : Heap) (locs : List Loc) (ls : Array Slot), gSt G (entX G o) o 302 s σ H locs → lv_has ls 5 [(0, .ref (o + 0)), (1, .int w1)] → W p l e rmX10_go s m args below meth c H locs 0 0 (MQ below (gQi G (entX G o) o 302 q) args s 0 0 (gA o 302)) (F0 m 108 ls [])) (hK88 : ∀ (σ : gS), K88 σ = some q → ∀ (H : Heap) (locs : List Loc) (ls : Array Slot), gSt G (entX G o) o 302 s σ H locs → lv_has ls 5 [(0, .ref (o + 0)), (1, .int w1)] → W p l e rmX10_go s m args below meth c H locs 0 0 (MQ below (gQi G (entX G o) o 302 q) args s 0 0 (gA o 302)) (F0 m 88 ls [])) : ∀ (n : Nat) (v3 : Int32) (σ : gS), f_X10_go_L48 w1 K108 K88 n v3 σ = some q → ∀ (H : Heap) (locs : List Loc) (ls : Array Slot), gSt G (entX G o) o 302 s σ H locs → lv_has ls 5 [(0, .ref (o + 0)), (1, .int w1), (3, .int v3)] → W p l e rmX10_go s m args below meth c H locs 0 0 (MQ below (gQi G (entX G o) o 302 q) args s 0 0 (gA o 302)) (F0 m 48 ls []) := by
  obtain ⟨hx, hb, hml, hown, hts, -⟩ := id K
  intro n
  induction n with
  | zero =>
    intro v3 σ hf
    exact absurd (show (none : Option _) = some q from hf) (by simp)
  | succ n ih =>
    intro v3 σ hf H locs ls hS hl
    rw [f_X10_go_L48_s] at hf
    refine lv_iload_n hx hb dX10_go_48 rfl (lv_at hl 2 rfl) ?_
    refine lv_aload_n hx hb dX10_go_49 rfl (lv_at hl 0 rfl) ?_
    refine g_get (cx := 0) K hS lF_X10_42 ((eX_0 G o) _) (by decide) rfl dX10_go_50 ?_
    refine g_get (cx := 297) K hS lF_X10_153 ((eX_297 G o) _) (by decide) rfl dX10_go_53 ?_
    refine lv_icmp_ge (tgt := 108) hx hb dX10_go_56 (by decide) (fun c8 => ?_) (fun c8 => ?_)
    · have hf := gIf_t c8 hf
      exact hK108 σ hf _ _ _ hS (lv_sub hl [0, 1] rfl)
    · have hf := gIf_f c8 hf
      refine lv_aload_n hx hb dX10_go_59 rfl (lv_at hl 0 rfl) ?_
      refine g_get (cx := 0) K hS lF_X10_42 ((eX_0 G o) _) (by decide) rfl dX10_go_60 ?_
      refine g_get (cx := 297) K hS lF_X10_154 ((eX_297 G o) _) (by decide) rfl dX10_go_63 ?_
      refine lv_iload_n hx hb dX10_go_66 rfl (lv_at hl 2 rfl) ?_
      obtain ⟨q9, hq9, hf⟩ := Option.bind_eq_some_iff.mp hf
      refine g_Vi (cx := 300) (As := [.int v3]) K hS lV_X10_58 (c_X5_at 300 10 (gRow_300 G o) v3 σ q9 hq9) ((eX_300 G o) _) (by decide) rfl rfl rfl (Nat.le_of_ble_eq_true rfl) ⟨⟨Nat.le_of_ble_eq_true rfl, Nat.le_of_ble_eq_true rfl⟩, rfl, rfl⟩ hl.1 ⟨Nat.zero_le _, Nat.zero_le _⟩ dX10_go_67 (fun H locs hS => ?_)
      refine lv_istore (lv' := [(4, .int q9.1), (0, .ref (o + 0)), (1, .int w1), (3, .int v3)]) hx hb dX10_go_70 hl (by decide) rfl (fun ls hl => ?_)
      refine lv_aload_n hx hb dX10_go_72 rfl (lv_at hl 1 rfl) ?_
      refine g_get (cx := 0) K hS lF_X10_10 ((eX_0 G o) _) (by decide) rfl dX10_go_73 ?_
      refine lv_iload_n hx hb dX10_go_76 rfl (lv_at hl 2 rfl) ?_
      obtain ⟨q10, hq10, hf⟩ := Option.bind_eq_some_iff.mp hf
      refine g_Vi (cx := 1) (As := [.int w1]) K hS lV_X10_136 (c_X0_freeAtRoomOf w1 q9.2 q10 hq10) ((eX_1 G o) _) (by decide) rfl rfl rfl (Nat.le_of_ble_eq_true rfl) ⟨⟨Nat.le_of_ble_eq_true rfl, Nat.le_of_ble_eq_true rfl⟩, rfl, rfl⟩ hl.1 ⟨Nat.zero_le _, Nat.zero_le _⟩ dX10_go_77 (fun H locs hS => ?_)
      refine lv_iload hx hb dX10_go_80 (lv_at hl 0 rfl) ?_
      obtain ⟨q11, hq11, hf⟩ := Option.bind_eq_some_iff.mp hf
      refine g_Si (As := [.int q10.1, .int q9.1]) K hS lS_X10_139 (c_X10_holds q10.1 q9.1 q10.2 q11 hq11) rfl rfl (Nat.le_of_ble_eq_true rfl) ⟨⟨Nat.le_of_ble_eq_true rfl, Nat.le_of_ble_eq_true rfl⟩, rfl, rfl⟩ hl.1 ⟨Nat.zero_le _, Nat.zero_le _⟩ dX10_go_82 (fun H locs hS => ?_)
      refine lv_if_ne (tgt := 91) hx hb dX10_go_85 (by decide) (fun c12 => ?_) (fun c12 => ?_)
      · have hf := gIf_f c12 hf
        refine lv_aload_n hx hb dX10_go_91 rfl (lv_at hl 1 rfl) ?_
        refine g_get (cx := 0) K hS lF_X10_10 ((eX_0 G o) _) (by decide) rfl dX10_go_92 ?_
        refine lv_iload_n hx hb dX10_go_95 rfl (lv_at hl 2 rfl) ?_
        refine lv_iload hx hb dX10_go_96 (lv_at hl 0 rfl) ?_
        obtain ⟨q13, hq13, hf⟩ := Option.bind_eq_some_iff.mp hf
        refine g_Vi (cx := 1) (As := [.int w1, .int q9.1]) K hS lV_X10_142 (c_X0_letGlide w1 q9.1 q11.2 q13 hq13) ((eX_1 G o) _) (by decide) rfl rfl rfl (Nat.le_of_ble_eq_true rfl) ⟨⟨Nat.le_of_ble_eq_true rfl, Nat.le_of_ble_eq_true rfl⟩, rfl, rfl⟩ hl.1 ⟨Nat.zero_le _, Nat.zero_le _⟩ dX10_go_98 (fun H locs hS => ?_)
        refine lv_pop hx hb dX10_go_101 rfl ?_
        refine lv_iinc (v := (v3 + 1)) (lv' := [(3, .int (v3 + 1)), (4, .int q9.1), (0, .ref (o + 0)), (1, .int w1)]) hx hb dX10_go_102 hl (k := 3) rfl rfl (by decide) rfl (fun ls hl => ?_)
        refine lv_goto (tgt := 48) hx hb dX10_go_105 (by decide) ?_
        exact ih (v3 + 1) q13.2 hf _ _ _ hS (lv_sub hl [2, 3, 0] rfl)
      · have hf := gIf_t c12 hf
        exact hK88 q11.2 hf _ _ _ hS (lv_sub hl [1, 2] rfl)
set_option maxHeartbeats 4000000 in
set_option maxRecDepth 100000 in
theorem c_X10_go (p0 : Int32) (p1 : Int32) (σ : gS) (q : Int32 × gS) (hf : f_X10_go p0 p1 σ = some q) : Met l yX10_go (gW yX10_go cX10_go 5 (some .int)) rmX10_go (gPc G (entX G o) o 302 [.ref (o + 0), .int p0, .int p1] σ) (gQi G (entX G o) o 302 q) 0 0 (gA o 302) := by
  refine g_met (by decide) ⟨rfl, rfl⟩ (fun p e s m args below meth c ls K hS hl => ?_) (Nat.le_of_ble_eq_true rfl)
  have K : gK p s m args meth c G cX10_go 5 RX10 (some .int) := K
  have hl : lv_has ls 5 [(0, .ref (o + 0)), (1, .int p0), (2, .int p1)] := hl
  obtain ⟨hx, hb, hml, hown, hts, -⟩ := id K
  unfold f_X10_go at hf
  refine lv_iload_n hx hb dX10_go_0 rfl (lv_at hl 1 rfl) ?_
  obtain ⟨q1, hq1, hf⟩ := Option.bind_eq_some_iff.mp hf
  refine g_Si (As := [.int p0]) K hS lS_X10_130 (c_X10_isGhost p0 σ q1 hq1) rfl rfl (Nat.le_of_ble_eq_true rfl) ⟨⟨Nat.le_of_ble_eq_true rfl, Nat.le_of_ble_eq_true rfl⟩, rfl, rfl⟩ hl.1 ⟨Nat.zero_le _, Nat.zero_le _⟩ dX10_go_1 (fun H locs hS => ?_)
  refine lv_if_eq (tgt := 14) hx hb dX10_go_4 (by decide) (fun c2 => ?_) (fun c2 => ?_)
  · have hf := gIf_t c2 hf
    refine lv_iconst (v := (-1)) hx hb dX10_go_14 (by decide) ?_
    exact g_iret K hS hf dX10_go_15
  · have hf := gIf_f c2 hf
    refine lv_iload_n hx hb dX10_go_7 rfl (lv_at hl 2 rfl) ?_
    obtain ⟨q3, hq3, hf⟩ := Option.bind_eq_some_iff.mp hf
    refine g_Si (As := [.int p1]) K hS lS_X10_68 (c_X10_isRoom p1 q1.2 q3 hq3) rfl rfl (Nat.le_of_ble_eq_true rfl) ⟨⟨Nat.le_of_ble_eq_true rfl, Nat.le_of_ble_eq_true rfl⟩, rfl, rfl⟩ hl.1 ⟨Nat.zero_le _, Nat.zero_le _⟩ dX10_go_8 (fun H locs hS => ?_)
    refine lv_if_ne (tgt := 16) hx hb dX10_go_11 (by decide) (fun c4 => ?_) (fun c4 => ?_)
    · have hf := gIf_f c4 hf
      refine lv_aload_n hx hb dX10_go_16 rfl (lv_at hl 0 rfl) ?_
      refine lv_iload_n hx hb dX10_go_17 rfl (lv_at hl 1 rfl) ?_
      refine lv_iload_n hx hb dX10_go_18 rfl (lv_at hl 2 rfl) ?_
      obtain ⟨q5, hq5, hf⟩ := Option.bind_eq_some_iff.mp hf
      refine g_Vv (cx := 0) (As := [.int p0, .int p1]) K hS lV_X10_146 (c_X10_findWay p0 p1 q3.2 q5 hq5) ((eX_0 G o) _) (by decide) rfl rfl rfl (Nat.le_of_ble_eq_true rfl) ⟨⟨Nat.le_of_ble_eq_true rfl, Nat.le_of_ble_eq_true rfl⟩, rfl, rfl⟩ hl.1 ⟨Nat.zero_le _, Nat.zero_le _⟩ dX10_go_19 (fun H locs hS => ?_)
      refine lv_aload_n hx hb dX10_go_22 rfl (lv_at hl 0 rfl) ?_
      refine g_get (cx := 0) K hS lF_X10_42 ((eX_0 G o) _) (by decide) rfl dX10_go_23 ?_
      refine g_get (cx := 297) K hS lF_X10_149 ((eX_297 G o) _) (by decide) rfl dX10_go_26 ?_
      refine lv_if_ne (tgt := 35) hx hb dX10_go_29 (by decide) (fun c6 => ?_) (fun c6 => ?_)
      · have hf := gIf_f c6 hf
        refine lv_aload_n hx hb dX10_go_35 rfl (lv_at hl 0 rfl) ?_
        refine g_get (cx := 0) K hS lF_X10_26 ((eX_0 G o) _) (by decide) rfl dX10_go_36 ?_
        refine lv_aload_n hx hb dX10_go_39 rfl (lv_at hl 0 rfl) ?_
        refine g_get (cx := 0) K hS lF_X10_10 ((eX_0 G o) _) (by decide) rfl dX10_go_40 ?_
        obtain ⟨q7, hq7, hf⟩ := Option.bind_eq_some_iff.mp hf
        refine g_Vv (cx := 36) (As := [.ref (o + 1)]) K hS lV_X10_50 (c_X3_remember q5 q7 hq7) ((eX_36 G o) _) (by decide) rfl rfl rfl (Nat.le_of_ble_eq_true rfl) ⟨⟨Nat.le_of_ble_eq_true rfl, Nat.le_of_ble_eq_true rfl⟩, rfl, rfl⟩ hl.1 ⟨Nat.zero_le _, Nat.zero_le _⟩ dX10_go_43 (fun H locs hS => ?_)
        refine lv_iconst (v := 0) hx hb dX10_go_46 (by decide) ?_
        refine lv_istore_n (lv' := [(3, .int 0), (0, .ref (o + 0)), (1, .int p0), (2, .int p1)]) hx hb dX10_go_47 rfl hl (by decide) rfl (fun ls hl => ?_)
        refine w_X10_go_L48 p0 _ _ K ?_ ?_ gFu 0 q7 hf _ _ _ hS (lv_sub hl [1, 2, 0] rfl)
        · intro  s14 hf H locs ls hS hl
          refine lv_aload_n hx hb dX10_go_108 rfl (lv_at hl 0 rfl) ?_
          refine g_get (cx := 0) K hS lF_X10_10 ((eX_0 G o) _) (by decide) rfl dX10_go_109 ?_
          refine g_get (cx := 1) K hS lF_X10_110 ((eX_1 G o) _) (by decide) rfl dX10_go_112 ?_
          refine g_get (cx := 17) K hS lF_X10_133 ((eX_17 G o) _) (by decide) rfl dX10_go_115 ?_
          refine lv_iload_n hx hb dX10_go_118 rfl (lv_at hl 1 rfl) ?_
          obtain ⟨q15, hq15, hf⟩ := Option.bind_eq_some_iff.mp hf
          refine g_Vi (cx := 18) (As := [.int p0]) K hS lV_X10_58 (c_X5_at 18 4 (gRow_18 G o) p0 s14 q15 hq15) ((eX_18 G o) _) (by decide) rfl rfl rfl (Nat.le_of_ble_eq_true rfl) ⟨⟨Nat.le_of_ble_eq_true rfl, Nat.le_of_ble_eq_true rfl⟩, rfl, rfl⟩ hl.1 ⟨Nat.zero_le _, Nat.zero_le _⟩ dX10_go_119 (fun H locs hS => ?_)
          exact g_iret K hS hf dX10_go_122
        · intro  s16 hf H locs ls hS hl
          refine lv_goto (tgt := 108) hx hb dX10_go_88 (by decide) ?_
          refine lv_aload_n hx hb dX10_go_108 rfl (lv_at hl 0 rfl) ?_
          refine g_get (cx := 0) K hS lF_X10_10 ((eX_0 G o) _) (by decide) rfl dX10_go_109 ?_
          refine g_get (cx := 1) K hS lF_X10_110 ((eX_1 G o) _) (by decide) rfl dX10_go_112 ?_
          refine g_get (cx := 17) K hS lF_X10_133 ((eX_17 G o) _) (by decide) rfl dX10_go_115 ?_
          refine lv_iload_n hx hb dX10_go_118 rfl (lv_at hl 1 rfl) ?_
          obtain ⟨q17, hq17, hf⟩ := Option.bind_eq_some_iff.mp hf
          refine g_Vi (cx := 18) (As := [.int p0]) K hS lV_X10_58 (c_X5_at 18 4 (gRow_18 G o) p0 s16 q17 hq17) ((eX_18 G o) _) (by decide) rfl rfl rfl (Nat.le_of_ble_eq_true rfl) ⟨⟨Nat.le_of_ble_eq_true rfl, Nat.le_of_ble_eq_true rfl⟩, rfl, rfl⟩ hl.1 ⟨Nat.zero_le _, Nat.zero_le _⟩ dX10_go_119 (fun H locs hS => ?_)
          exact g_iret K hS hf dX10_go_122
      · have hf := gIf_t c6 hf
        refine lv_bipush (v := (-5)) hx hb dX10_go_32 (by decide) ?_
        exact g_iret K hS hf dX10_go_34
    · have hf := gIf_t c4 hf
      refine lv_iconst (v := (-1)) hx hb dX10_go_14 (by decide) ?_
      exact g_iret K hS hf dX10_go_15
abbrev rmX10_pass : Room := { frames := 6, cells := 0, slots := 0, locals := 146 }
def f_X10_pass (p0 : Int32) (σ : gS) : Option (Int32 × gS) := Option.bind (f_X10_isWithin p0 1 200 σ) (fun q1 => if q1.1 = 0 then (some ((-2), q1.2)) else (if ((q1.2 1 0) + p0) ≤ 99999 then (Option.bind (f_X3_remember q1.2) (fun q4 => Option.bind (f_X0_letPass p0 q4) (fun q5 => some (q5.1, q5.2)))) else (some ((-4), q1.2))))
set_option maxHeartbeats 4000000 in
set_option maxRecDepth 100000 in
theorem c_X10_pass (p0 : Int32) (σ : gS) (q : Int32 × gS) (hf : f_X10_pass p0 σ = some q) : Met l yX10_pass (gW yX10_pass cX10_pass 2 (some .int)) rmX10_pass (gPc G (entX G o) o 302 [.ref (o + 0), .int p0] σ) (gQi G (entX G o) o 302 q) 0 0 (gA o 302) := by
  refine g_met (by decide) ⟨rfl, rfl⟩ (fun p e s m args below meth c ls K hS hl => ?_) (Nat.le_of_ble_eq_true rfl)
  have K : gK p s m args meth c G cX10_pass 2 RX10 (some .int) := K
  have hl : lv_has ls 2 [(0, .ref (o + 0)), (1, .int p0)] := hl
  obtain ⟨hx, hb, hml, hown, hts, -⟩ := id K
  unfold f_X10_pass at hf
  refine lv_iload_n hx hb dX10_pass_0 rfl (lv_at hl 1 rfl) ?_
  refine lv_iconst (v := 1) hx hb dX10_pass_1 (by decide) ?_
  refine lv_sipush (v := 200) hx hb dX10_pass_2 (by decide) ?_
  obtain ⟨q1, hq1, hf⟩ := Option.bind_eq_some_iff.mp hf
  refine g_Si (As := [.int p0, .int 1, .int 200]) K hS lS_X10_72 (c_X10_isWithin p0 1 200 σ q1 hq1) rfl rfl (Nat.le_of_ble_eq_true rfl) ⟨⟨Nat.le_of_ble_eq_true rfl, Nat.le_of_ble_eq_true rfl⟩, rfl, rfl⟩ hl.1 ⟨Nat.zero_le _, Nat.zero_le _⟩ dX10_pass_5 (fun H locs hS => ?_)
  refine lv_if_ne (tgt := 14) hx hb dX10_pass_8 (by decide) (fun c2 => ?_) (fun c2 => ?_)
  · have hf := gIf_f c2 hf
    refine lv_aload_n hx hb dX10_pass_14 rfl (lv_at hl 0 rfl) ?_
    refine g_get (cx := 0) K hS lF_X10_10 ((eX_0 G o) _) (by decide) rfl dX10_pass_15 ?_
    refine g_get (cx := 1) K hS lF_X10_157 ((eX_1 G o) _) (by decide) rfl dX10_pass_18 ?_
    refine lv_iload_n hx hb dX10_pass_21 rfl (lv_at hl 1 rfl) ?_
    refine lv_iadd hx hb dX10_pass_22 ?_
    refine lv_ldc (v := 99999) hx hb hown (hts _ (gmem 517 (by decide +kernel) rfl)) dX10_pass_23 ?_
    refine lv_icmp_le (tgt := 31) hx hb dX10_pass_25 (by decide) (fun c3 => ?_) (fun c3 => ?_)
    · have hf := gIf_t c3 hf
      refine lv_aload_n hx hb dX10_pass_31 rfl (lv_at hl 0 rfl) ?_
      refine g_get (cx := 0) K hS lF_X10_26 ((eX_0 G o) _) (by decide) rfl dX10_pass_32 ?_
      refine lv_aload_n hx hb dX10_pass_35 rfl (lv_at hl 0 rfl) ?_
      refine g_get (cx := 0) K hS lF_X10_10 ((eX_0 G o) _) (by decide) rfl dX10_pass_36 ?_
      obtain ⟨q4, hq4, hf⟩ := Option.bind_eq_some_iff.mp hf
      refine g_Vv (cx := 36) (As := [.ref (o + 1)]) K hS lV_X10_50 (c_X3_remember q1.2 q4 hq4) ((eX_36 G o) _) (by decide) rfl rfl rfl (Nat.le_of_ble_eq_true rfl) ⟨⟨Nat.le_of_ble_eq_true rfl, Nat.le_of_ble_eq_true rfl⟩, rfl, rfl⟩ hl.1 ⟨Nat.zero_le _, Nat.zero_le _⟩ dX10_pass_39 (fun H locs hS => ?_)
      refine lv_aload_n hx hb dX10_pass_42 rfl (lv_at hl 0 rfl) ?_
      refine g_get (cx := 0) K hS lF_X10_10 ((eX_0 G o) _) (by decide) rfl dX10_pass_43 ?_
      refine lv_iload_n hx hb dX10_pass_46 rfl (lv_at hl 1 rfl) ?_
      obtain ⟨q5, hq5, hf⟩ := Option.bind_eq_some_iff.mp hf
      refine g_Vi (cx := 1) (As := [.int p0]) K hS lV_X10_161 (c_X0_letPass p0 q4 q5 hq5) ((eX_1 G o) _) (by decide) rfl rfl rfl (Nat.le_of_ble_eq_true rfl) ⟨⟨Nat.le_of_ble_eq_true rfl, Nat.le_of_ble_eq_true rfl⟩, rfl, rfl⟩ hl.1 ⟨Nat.zero_le _, Nat.zero_le _⟩ dX10_pass_47 (fun H locs hS => ?_)
      exact g_iret K hS hf dX10_pass_50
    · have hf := gIf_f c3 hf
      refine lv_bipush (v := (-4)) hx hb dX10_pass_28 (by decide) ?_
      exact g_iret K hS hf dX10_pass_30
  · have hf := gIf_t c2 hf
    refine lv_bipush (v := (-2)) hx hb dX10_pass_11 (by decide) ?_
    exact g_iret K hS hf dX10_pass_13
abbrev rmX10_board : Room := { frames := 4, cells := 0, slots := 0, locals := 88 }
def f_X10_board (p0 : Int32) (p1 : Int32) (σ : gS) : Option (Int32 × gS) := Option.bind (f_X1_has p0 σ) (fun q1 => if q1.1 = 0 then (some ((-1), q1.2)) else (if p1 = 0 then (Option.bind (f_X5_at 5 20 p0 q1.2) (fun q4 => some (q4.1, q4.2))) else (if p1 = 1 then (Option.bind (f_X5_at 7 20 p0 q1.2) (fun q6 => some (q6.1, q6.2))) else (if p1 = 2 then (Option.bind (f_X5_at 11 20 p0 q1.2) (fun q8 => some (q8.1, q8.2))) else (if p1 = 3 then (Option.bind (f_X5_at 13 20 p0 q1.2) (fun q10 => some (q10.1, q10.2))) else (if p1 = 4 then (Option.bind (f_X2_whoCrossed p0 q1.2) (fun q12 => some (q12.1, q12.2))) else (if p1 = 5 then (Option.bind (f_X0_ghostsFreeFor p0 q1.2) (fun q14 => some (q14.1, q14.2))) else (if p1 = 6 then (Option.bind (f_X5_at 15 20 p0 q1.2) (fun q16 => some (q16.1, q16.2))) else (some ((-2), q1.2))))))))))
set_option maxHeartbeats 4000000 in
set_option maxRecDepth 100000 in
theorem c_X10_board (p0 : Int32) (p1 : Int32) (σ : gS) (q : Int32 × gS) (hf : f_X10_board p0 p1 σ = some q) : Met l yX10_board (gW yX10_board cX10_board 3 (some .int)) rmX10_board (gPc G (entX G o) o 302 [.ref (o + 0), .int p0, .int p1] σ) (gQi G (entX G o) o 302 q) 0 0 (gA o 302) := by
  refine g_met (by decide) ⟨rfl, rfl⟩ (fun p e s m args below meth c ls K hS hl => ?_) (Nat.le_of_ble_eq_true rfl)
  have K : gK p s m args meth c G cX10_board 3 RX10 (some .int) := K
  have hl : lv_has ls 3 [(0, .ref (o + 0)), (1, .int p0), (2, .int p1)] := hl
  obtain ⟨hx, hb, hml, hown, hts, -⟩ := id K
  unfold f_X10_board at hf
  refine lv_aload_n hx hb dX10_board_0 rfl (lv_at hl 0 rfl) ?_
  refine g_get (cx := 0) K hS lF_X10_10 ((eX_0 G o) _) (by decide) rfl dX10_board_1 ?_
  refine g_get (cx := 1) K hS lF_X10_76 ((eX_1 G o) _) (by decide) rfl dX10_board_4 ?_
  refine lv_iload_n hx hb dX10_board_7 rfl (lv_at hl 1 rfl) ?_
  obtain ⟨q1, hq1, hf⟩ := Option.bind_eq_some_iff.mp hf
  refine g_Vi (cx := 4) (As := [.int p0]) K hS lV_X10_104 (c_X1_has p0 σ q1 hq1) ((eX_4 G o) _) (by decide) rfl rfl rfl (Nat.le_of_ble_eq_true rfl) ⟨⟨Nat.le_of_ble_eq_true rfl, Nat.le_of_ble_eq_true rfl⟩, rfl, rfl⟩ hl.1 ⟨Nat.zero_le _, Nat.zero_le _⟩ dX10_board_8 (fun H locs hS => ?_)
  refine lv_if_ne (tgt := 16) hx hb dX10_board_11 (by decide) (fun c2 => ?_) (fun c2 => ?_)
  · have hf := gIf_f c2 hf
    refine lv_iload_n hx hb dX10_board_16 rfl (lv_at hl 2 rfl) ?_
    by_cases c3 : p1 = 0
    · have hf := gIf_t c3 hf
      refine g_tab c3 (off := 43) (tgt := 60) hx hb dX10_board_17 (by decide) (by decide) (by decide) (by decide) ?_
      refine lv_aload_n hx hb dX10_board_60 rfl (lv_at hl 0 rfl) ?_
      refine g_get (cx := 0) K hS lF_X10_10 ((eX_0 G o) _) (by decide) rfl dX10_board_61 ?_
      refine g_get (cx := 1) K hS lF_X10_76 ((eX_1 G o) _) (by decide) rfl dX10_board_64 ?_
      refine g_get (cx := 4) K hS lF_X10_164 ((eX_4 G o) _) (by decide) rfl dX10_board_67 ?_
      refine lv_iload_n hx hb dX10_board_70 rfl (lv_at hl 1 rfl) ?_
      obtain ⟨q4, hq4, hf⟩ := Option.bind_eq_some_iff.mp hf
      refine g_Vi (cx := 5) (As := [.int p0]) K hS lV_X10_58 (c_X5_at 5 20 (gRow_5 G o) p0 q1.2 q4 hq4) ((eX_5 G o) _) (by decide) rfl rfl rfl (Nat.le_of_ble_eq_true rfl) ⟨⟨Nat.le_of_ble_eq_true rfl, Nat.le_of_ble_eq_true rfl⟩, rfl, rfl⟩ hl.1 ⟨Nat.zero_le _, Nat.zero_le _⟩ dX10_board_71 (fun H locs hS => ?_)
      exact g_iret K hS hf dX10_board_74
    have hf := gIf_f c3 hf
    by_cases c5 : p1 = 1
    · have hf := gIf_t c5 hf
      refine g_tab c5 (off := 58) (tgt := 75) hx hb dX10_board_17 (by decide) (by decide) (by decide) (by decide) ?_
      refine lv_aload_n hx hb dX10_board_75 rfl (lv_at hl 0 rfl) ?_
      refine g_get (cx := 0) K hS lF_X10_10 ((eX_0 G o) _) (by decide) rfl dX10_board_76 ?_
      refine g_get (cx := 1) K hS lF_X10_76 ((eX_1 G o) _) (by decide) rfl dX10_board_79 ?_
      refine g_get (cx := 4) K hS lF_X10_167 ((eX_4 G o) _) (by decide) rfl dX10_board_82 ?_
      refine lv_iload_n hx hb dX10_board_85 rfl (lv_at hl 1 rfl) ?_
      obtain ⟨q6, hq6, hf⟩ := Option.bind_eq_some_iff.mp hf
      refine g_Vi (cx := 7) (As := [.int p0]) K hS lV_X10_58 (c_X5_at 7 20 (gRow_7 G o) p0 q1.2 q6 hq6) ((eX_7 G o) _) (by decide) rfl rfl rfl (Nat.le_of_ble_eq_true rfl) ⟨⟨Nat.le_of_ble_eq_true rfl, Nat.le_of_ble_eq_true rfl⟩, rfl, rfl⟩ hl.1 ⟨Nat.zero_le _, Nat.zero_le _⟩ dX10_board_86 (fun H locs hS => ?_)
      exact g_iret K hS hf dX10_board_89
    have hf := gIf_f c5 hf
    by_cases c7 : p1 = 2
    · have hf := gIf_t c7 hf
      refine g_tab c7 (off := 73) (tgt := 90) hx hb dX10_board_17 (by decide) (by decide) (by decide) (by decide) ?_
      refine lv_aload_n hx hb dX10_board_90 rfl (lv_at hl 0 rfl) ?_
      refine g_get (cx := 0) K hS lF_X10_10 ((eX_0 G o) _) (by decide) rfl dX10_board_91 ?_
      refine g_get (cx := 1) K hS lF_X10_76 ((eX_1 G o) _) (by decide) rfl dX10_board_94 ?_
      refine g_get (cx := 4) K hS lF_X10_170 ((eX_4 G o) _) (by decide) rfl dX10_board_97 ?_
      refine lv_iload_n hx hb dX10_board_100 rfl (lv_at hl 1 rfl) ?_
      obtain ⟨q8, hq8, hf⟩ := Option.bind_eq_some_iff.mp hf
      refine g_Vi (cx := 11) (As := [.int p0]) K hS lV_X10_58 (c_X5_at 11 20 (gRow_11 G o) p0 q1.2 q8 hq8) ((eX_11 G o) _) (by decide) rfl rfl rfl (Nat.le_of_ble_eq_true rfl) ⟨⟨Nat.le_of_ble_eq_true rfl, Nat.le_of_ble_eq_true rfl⟩, rfl, rfl⟩ hl.1 ⟨Nat.zero_le _, Nat.zero_le _⟩ dX10_board_101 (fun H locs hS => ?_)
      exact g_iret K hS hf dX10_board_104
    have hf := gIf_f c7 hf
    by_cases c9 : p1 = 3
    · have hf := gIf_t c9 hf
      refine g_tab c9 (off := 88) (tgt := 105) hx hb dX10_board_17 (by decide) (by decide) (by decide) (by decide) ?_
      refine lv_aload_n hx hb dX10_board_105 rfl (lv_at hl 0 rfl) ?_
      refine g_get (cx := 0) K hS lF_X10_10 ((eX_0 G o) _) (by decide) rfl dX10_board_106 ?_
      refine g_get (cx := 1) K hS lF_X10_76 ((eX_1 G o) _) (by decide) rfl dX10_board_109 ?_
      refine g_get (cx := 4) K hS lF_X10_173 ((eX_4 G o) _) (by decide) rfl dX10_board_112 ?_
      refine lv_iload_n hx hb dX10_board_115 rfl (lv_at hl 1 rfl) ?_
      obtain ⟨q10, hq10, hf⟩ := Option.bind_eq_some_iff.mp hf
      refine g_Vi (cx := 13) (As := [.int p0]) K hS lV_X10_58 (c_X5_at 13 20 (gRow_13 G o) p0 q1.2 q10 hq10) ((eX_13 G o) _) (by decide) rfl rfl rfl (Nat.le_of_ble_eq_true rfl) ⟨⟨Nat.le_of_ble_eq_true rfl, Nat.le_of_ble_eq_true rfl⟩, rfl, rfl⟩ hl.1 ⟨Nat.zero_le _, Nat.zero_le _⟩ dX10_board_116 (fun H locs hS => ?_)
      exact g_iret K hS hf dX10_board_119
    have hf := gIf_f c9 hf
    by_cases c11 : p1 = 4
    · have hf := gIf_t c11 hf
      refine g_tab c11 (off := 103) (tgt := 120) hx hb dX10_board_17 (by decide) (by decide) (by decide) (by decide) ?_
      refine lv_aload_n hx hb dX10_board_120 rfl (lv_at hl 0 rfl) ?_
      refine g_get (cx := 0) K hS lF_X10_10 ((eX_0 G o) _) (by decide) rfl dX10_board_121 ?_
      refine g_get (cx := 1) K hS lF_X10_110 ((eX_1 G o) _) (by decide) rfl dX10_board_124 ?_
      refine lv_iload_n hx hb dX10_board_127 rfl (lv_at hl 1 rfl) ?_
      obtain ⟨q12, hq12, hf⟩ := Option.bind_eq_some_iff.mp hf
      refine g_Vi (cx := 17) (As := [.int p0]) K hS lV_X10_175 (c_X2_whoCrossed p0 q1.2 q12 hq12) ((eX_17 G o) _) (by decide) rfl rfl rfl (Nat.le_of_ble_eq_true rfl) ⟨⟨Nat.le_of_ble_eq_true rfl, Nat.le_of_ble_eq_true rfl⟩, rfl, rfl⟩ hl.1 ⟨Nat.zero_le _, Nat.zero_le _⟩ dX10_board_128 (fun H locs hS => ?_)
      exact g_iret K hS hf dX10_board_131
    have hf := gIf_f c11 hf
    by_cases c13 : p1 = 5
    · have hf := gIf_t c13 hf
      refine g_tab c13 (off := 115) (tgt := 132) hx hb dX10_board_17 (by decide) (by decide) (by decide) (by decide) ?_
      refine lv_aload_n hx hb dX10_board_132 rfl (lv_at hl 0 rfl) ?_
      refine g_get (cx := 0) K hS lF_X10_10 ((eX_0 G o) _) (by decide) rfl dX10_board_133 ?_
      refine lv_iload_n hx hb dX10_board_136 rfl (lv_at hl 1 rfl) ?_
      obtain ⟨q14, hq14, hf⟩ := Option.bind_eq_some_iff.mp hf
      refine g_Vi (cx := 1) (As := [.int p0]) K hS lV_X10_178 (c_X0_ghostsFreeFor p0 q1.2 q14 hq14) ((eX_1 G o) _) (by decide) rfl rfl rfl (Nat.le_of_ble_eq_true rfl) ⟨⟨Nat.le_of_ble_eq_true rfl, Nat.le_of_ble_eq_true rfl⟩, rfl, rfl⟩ hl.1 ⟨Nat.zero_le _, Nat.zero_le _⟩ dX10_board_137 (fun H locs hS => ?_)
      exact g_iret K hS hf dX10_board_140
    have hf := gIf_f c13 hf
    by_cases c15 : p1 = 6
    · have hf := gIf_t c15 hf
      refine g_tab c15 (off := 124) (tgt := 141) hx hb dX10_board_17 (by decide) (by decide) (by decide) (by decide) ?_
      refine lv_aload_n hx hb dX10_board_141 rfl (lv_at hl 0 rfl) ?_
      refine g_get (cx := 0) K hS lF_X10_10 ((eX_0 G o) _) (by decide) rfl dX10_board_142 ?_
      refine g_get (cx := 1) K hS lF_X10_76 ((eX_1 G o) _) (by decide) rfl dX10_board_145 ?_
      refine g_get (cx := 4) K hS lF_X10_181 ((eX_4 G o) _) (by decide) rfl dX10_board_148 ?_
      refine lv_iload_n hx hb dX10_board_151 rfl (lv_at hl 1 rfl) ?_
      obtain ⟨q16, hq16, hf⟩ := Option.bind_eq_some_iff.mp hf
      refine g_Vi (cx := 15) (As := [.int p0]) K hS lV_X10_58 (c_X5_at 15 20 (gRow_15 G o) p0 q1.2 q16 hq16) ((eX_15 G o) _) (by decide) rfl rfl rfl (Nat.le_of_ble_eq_true rfl) ⟨⟨Nat.le_of_ble_eq_true rfl, Nat.le_of_ble_eq_true rfl⟩, rfl, rfl⟩ hl.1 ⟨Nat.zero_le _, Nat.zero_le _⟩ dX10_board_152 (fun H locs hS => ?_)
      exact g_iret K hS hf dX10_board_155
    have hf := gIf_f c15 hf
    refine lv_tableOut (tgt := 156) hx hb dX10_board_17 (g_tabOut 6 (fun k hk => by
      rcases (show k = 0 ∨ k = 1 ∨ k = 2 ∨ k = 3 ∨ k = 4 ∨ k = 5 ∨ k = 6 by omega) with rfl | rfl | rfl | rfl | rfl | rfl | rfl
      · exact c3
      · exact c5
      · exact c7
      · exact c9
      · exact c11
      · exact c13
      · exact c15
      )) (by decide) ?_
    refine lv_bipush (v := (-2)) hx hb dX10_board_156 (by decide) ?_
    exact g_iret K hS hf dX10_board_158
  · have hf := gIf_t c2 hf
    refine lv_iconst (v := (-1)) hx hb dX10_board_14 (by decide) ?_
    exact g_iret K hS hf dX10_board_15
abbrev rmX10_ghost : Room := { frames := 4, cells := 0, slots := 0, locals := 86 }
def f_X10_ghost (p0 : Int32) (p1 : Int32) (σ : gS) : Option (Int32 × gS) := Option.bind (f_X10_isGhost p0 σ) (fun q1 => if q1.1 = 0 then (some ((-1), q1.2)) else (if p1 = 0 then (Option.bind (f_X5_at 18 4 p0 q1.2) (fun q4 => some (q4.1, q4.2))) else (if p1 = 1 then (Option.bind (f_X5_at 20 4 p0 q1.2) (fun q6 => some (q6.1, q6.2))) else (if p1 = 2 then (Option.bind (f_X0_freeAtRoomOf p0 q1.2) (fun q8 => some (q8.1, q8.2))) else (if p1 = 3 then (Option.bind (f_X5_at 18 4 p0 q1.2) (fun q10 => Option.bind (f_X0_freeTo p0 q10.2) (fun q11 => Option.bind (f_X1_roomsFrom q10.1 q11.1 q11.2) (fun q12 => some (q12.1, q12.2))))) else (if p1 = 4 then (Option.bind (f_X5_at 22 4 p0 q1.2) (fun q14 => some (q14.1, q14.2))) else (some ((-2), q1.2))))))))
set_option maxHeartbeats 4000000 in
set_option maxRecDepth 100000 in
theorem c_X10_ghost (p0 : Int32) (p1 : Int32) (σ : gS) (q : Int32 × gS) (hf : f_X10_ghost p0 p1 σ = some q) : Met l yX10_ghost (gW yX10_ghost cX10_ghost 3 (some .int)) rmX10_ghost (gPc G (entX G o) o 302 [.ref (o + 0), .int p0, .int p1] σ) (gQi G (entX G o) o 302 q) 0 0 (gA o 302) := by
  refine g_met (by decide) ⟨rfl, rfl⟩ (fun p e s m args below meth c ls K hS hl => ?_) (Nat.le_of_ble_eq_true rfl)
  have K : gK p s m args meth c G cX10_ghost 3 RX10 (some .int) := K
  have hl : lv_has ls 3 [(0, .ref (o + 0)), (1, .int p0), (2, .int p1)] := hl
  obtain ⟨hx, hb, hml, hown, hts, -⟩ := id K
  unfold f_X10_ghost at hf
  refine lv_iload_n hx hb dX10_ghost_0 rfl (lv_at hl 1 rfl) ?_
  obtain ⟨q1, hq1, hf⟩ := Option.bind_eq_some_iff.mp hf
  refine g_Si (As := [.int p0]) K hS lS_X10_130 (c_X10_isGhost p0 σ q1 hq1) rfl rfl (Nat.le_of_ble_eq_true rfl) ⟨⟨Nat.le_of_ble_eq_true rfl, Nat.le_of_ble_eq_true rfl⟩, rfl, rfl⟩ hl.1 ⟨Nat.zero_le _, Nat.zero_le _⟩ dX10_ghost_1 (fun H locs hS => ?_)
  refine lv_if_ne (tgt := 9) hx hb dX10_ghost_4 (by decide) (fun c2 => ?_) (fun c2 => ?_)
  · have hf := gIf_f c2 hf
    refine lv_iload_n hx hb dX10_ghost_9 rfl (lv_at hl 2 rfl) ?_
    by_cases c3 : p1 = 0
    · have hf := gIf_t c3 hf
      refine g_tab c3 (off := 34) (tgt := 44) hx hb dX10_ghost_10 (by decide) (by decide) (by decide) (by decide) ?_
      refine lv_aload_n hx hb dX10_ghost_44 rfl (lv_at hl 0 rfl) ?_
      refine g_get (cx := 0) K hS lF_X10_10 ((eX_0 G o) _) (by decide) rfl dX10_ghost_45 ?_
      refine g_get (cx := 1) K hS lF_X10_110 ((eX_1 G o) _) (by decide) rfl dX10_ghost_48 ?_
      refine g_get (cx := 17) K hS lF_X10_133 ((eX_17 G o) _) (by decide) rfl dX10_ghost_51 ?_
      refine lv_iload_n hx hb dX10_ghost_54 rfl (lv_at hl 1 rfl) ?_
      obtain ⟨q4, hq4, hf⟩ := Option.bind_eq_some_iff.mp hf
      refine g_Vi (cx := 18) (As := [.int p0]) K hS lV_X10_58 (c_X5_at 18 4 (gRow_18 G o) p0 q1.2 q4 hq4) ((eX_18 G o) _) (by decide) rfl rfl rfl (Nat.le_of_ble_eq_true rfl) ⟨⟨Nat.le_of_ble_eq_true rfl, Nat.le_of_ble_eq_true rfl⟩, rfl, rfl⟩ hl.1 ⟨Nat.zero_le _, Nat.zero_le _⟩ dX10_ghost_55 (fun H locs hS => ?_)
      exact g_iret K hS hf dX10_ghost_58
    have hf := gIf_f c3 hf
    by_cases c5 : p1 = 1
    · have hf := gIf_t c5 hf
      refine g_tab c5 (off := 49) (tgt := 59) hx hb dX10_ghost_10 (by decide) (by decide) (by decide) (by decide) ?_
      refine lv_aload_n hx hb dX10_ghost_59 rfl (lv_at hl 0 rfl) ?_
      refine g_get (cx := 0) K hS lF_X10_10 ((eX_0 G o) _) (by decide) rfl dX10_ghost_60 ?_
      refine g_get (cx := 1) K hS lF_X10_110 ((eX_1 G o) _) (by decide) rfl dX10_ghost_63 ?_
      refine g_get (cx := 17) K hS lF_X10_184 ((eX_17 G o) _) (by decide) rfl dX10_ghost_66 ?_
      refine lv_iload_n hx hb dX10_ghost_69 rfl (lv_at hl 1 rfl) ?_
      obtain ⟨q6, hq6, hf⟩ := Option.bind_eq_some_iff.mp hf
      refine g_Vi (cx := 20) (As := [.int p0]) K hS lV_X10_58 (c_X5_at 20 4 (gRow_20 G o) p0 q1.2 q6 hq6) ((eX_20 G o) _) (by decide) rfl rfl rfl (Nat.le_of_ble_eq_true rfl) ⟨⟨Nat.le_of_ble_eq_true rfl, Nat.le_of_ble_eq_true rfl⟩, rfl, rfl⟩ hl.1 ⟨Nat.zero_le _, Nat.zero_le _⟩ dX10_ghost_70 (fun H locs hS => ?_)
      exact g_iret K hS hf dX10_ghost_73
    have hf := gIf_f c5 hf
    by_cases c7 : p1 = 2
    · have hf := gIf_t c7 hf
      refine g_tab c7 (off := 64) (tgt := 74) hx hb dX10_ghost_10 (by decide) (by decide) (by decide) (by decide) ?_
      refine lv_aload_n hx hb dX10_ghost_74 rfl (lv_at hl 0 rfl) ?_
      refine g_get (cx := 0) K hS lF_X10_10 ((eX_0 G o) _) (by decide) rfl dX10_ghost_75 ?_
      refine lv_iload_n hx hb dX10_ghost_78 rfl (lv_at hl 1 rfl) ?_
      obtain ⟨q8, hq8, hf⟩ := Option.bind_eq_some_iff.mp hf
      refine g_Vi (cx := 1) (As := [.int p0]) K hS lV_X10_136 (c_X0_freeAtRoomOf p0 q1.2 q8 hq8) ((eX_1 G o) _) (by decide) rfl rfl rfl (Nat.le_of_ble_eq_true rfl) ⟨⟨Nat.le_of_ble_eq_true rfl, Nat.le_of_ble_eq_true rfl⟩, rfl, rfl⟩ hl.1 ⟨Nat.zero_le _, Nat.zero_le _⟩ dX10_ghost_79 (fun H locs hS => ?_)
      exact g_iret K hS hf dX10_ghost_82
    have hf := gIf_f c7 hf
    by_cases c9 : p1 = 3
    · have hf := gIf_t c9 hf
      refine g_tab c9 (off := 73) (tgt := 83) hx hb dX10_ghost_10 (by decide) (by decide) (by decide) (by decide) ?_
      refine lv_aload_n hx hb dX10_ghost_83 rfl (lv_at hl 0 rfl) ?_
      refine g_get (cx := 0) K hS lF_X10_10 ((eX_0 G o) _) (by decide) rfl dX10_ghost_84 ?_
      refine g_get (cx := 1) K hS lF_X10_76 ((eX_1 G o) _) (by decide) rfl dX10_ghost_87 ?_
      refine lv_aload_n hx hb dX10_ghost_90 rfl (lv_at hl 0 rfl) ?_
      refine g_get (cx := 0) K hS lF_X10_10 ((eX_0 G o) _) (by decide) rfl dX10_ghost_91 ?_
      refine g_get (cx := 1) K hS lF_X10_110 ((eX_1 G o) _) (by decide) rfl dX10_ghost_94 ?_
      refine g_get (cx := 17) K hS lF_X10_133 ((eX_17 G o) _) (by decide) rfl dX10_ghost_97 ?_
      refine lv_iload_n hx hb dX10_ghost_100 rfl (lv_at hl 1 rfl) ?_
      obtain ⟨q10, hq10, hf⟩ := Option.bind_eq_some_iff.mp hf
      refine g_Vi (cx := 18) (As := [.int p0]) K hS lV_X10_58 (c_X5_at 18 4 (gRow_18 G o) p0 q1.2 q10 hq10) ((eX_18 G o) _) (by decide) rfl rfl rfl (Nat.le_of_ble_eq_true rfl) ⟨⟨Nat.le_of_ble_eq_true rfl, Nat.le_of_ble_eq_true rfl⟩, rfl, rfl⟩ hl.1 ⟨Nat.zero_le _, Nat.zero_le _⟩ dX10_ghost_101 (fun H locs hS => ?_)
      refine lv_aload_n hx hb dX10_ghost_104 rfl (lv_at hl 0 rfl) ?_
      refine g_get (cx := 0) K hS lF_X10_10 ((eX_0 G o) _) (by decide) rfl dX10_ghost_105 ?_
      refine lv_iload_n hx hb dX10_ghost_108 rfl (lv_at hl 1 rfl) ?_
      obtain ⟨q11, hq11, hf⟩ := Option.bind_eq_some_iff.mp hf
      refine g_Vi (cx := 1) (As := [.int p0]) K hS lV_X10_187 (c_X0_freeTo p0 q10.2 q11 hq11) ((eX_1 G o) _) (by decide) rfl rfl rfl (Nat.le_of_ble_eq_true rfl) ⟨⟨Nat.le_of_ble_eq_true rfl, Nat.le_of_ble_eq_true rfl⟩, rfl, rfl⟩ hl.1 ⟨Nat.zero_le _, Nat.zero_le _⟩ dX10_ghost_109 (fun H locs hS => ?_)
      obtain ⟨q12, hq12, hf⟩ := Option.bind_eq_some_iff.mp hf
      refine g_Vi (cx := 4) (As := [.int q10.1, .int q11.1]) K hS lV_X10_190 (c_X1_roomsFrom q10.1 q11.1 q11.2 q12 hq12) ((eX_4 G o) _) (by decide) rfl rfl rfl (Nat.le_of_ble_eq_true rfl) ⟨⟨Nat.le_of_ble_eq_true rfl, Nat.le_of_ble_eq_true rfl⟩, rfl, rfl⟩ hl.1 ⟨Nat.zero_le _, Nat.zero_le _⟩ dX10_ghost_112 (fun H locs hS => ?_)
      exact g_iret K hS hf dX10_ghost_115
    have hf := gIf_f c9 hf
    by_cases c13 : p1 = 4
    · have hf := gIf_t c13 hf
      refine g_tab c13 (off := 106) (tgt := 116) hx hb dX10_ghost_10 (by decide) (by decide) (by decide) (by decide) ?_
      refine lv_aload_n hx hb dX10_ghost_116 rfl (lv_at hl 0 rfl) ?_
      refine g_get (cx := 0) K hS lF_X10_10 ((eX_0 G o) _) (by decide) rfl dX10_ghost_117 ?_
      refine g_get (cx := 1) K hS lF_X10_110 ((eX_1 G o) _) (by decide) rfl dX10_ghost_120 ?_
      refine g_get (cx := 17) K hS lF_X10_193 ((eX_17 G o) _) (by decide) rfl dX10_ghost_123 ?_
      refine lv_iload_n hx hb dX10_ghost_126 rfl (lv_at hl 1 rfl) ?_
      obtain ⟨q14, hq14, hf⟩ := Option.bind_eq_some_iff.mp hf
      refine g_Vi (cx := 22) (As := [.int p0]) K hS lV_X10_58 (c_X5_at 22 4 (gRow_22 G o) p0 q1.2 q14 hq14) ((eX_22 G o) _) (by decide) rfl rfl rfl (Nat.le_of_ble_eq_true rfl) ⟨⟨Nat.le_of_ble_eq_true rfl, Nat.le_of_ble_eq_true rfl⟩, rfl, rfl⟩ hl.1 ⟨Nat.zero_le _, Nat.zero_le _⟩ dX10_ghost_127 (fun H locs hS => ?_)
      exact g_iret K hS hf dX10_ghost_130
    have hf := gIf_f c13 hf
    refine lv_tableOut (tgt := 131) hx hb dX10_ghost_10 (g_tabOut 4 (fun k hk => by
      rcases (show k = 0 ∨ k = 1 ∨ k = 2 ∨ k = 3 ∨ k = 4 by omega) with rfl | rfl | rfl | rfl | rfl
      · exact c3
      · exact c5
      · exact c7
      · exact c9
      · exact c13
      )) (by decide) ?_
    refine lv_bipush (v := (-2)) hx hb dX10_ghost_131 (by decide) ?_
    exact g_iret K hS hf dX10_ghost_133
  · have hf := gIf_t c2 hf
    refine lv_iconst (v := (-1)) hx hb dX10_ghost_7 (by decide) ?_
    exact g_iret K hS hf dX10_ghost_8
abbrev rmX10_sleeperOf : Room := { frames := 5, cells := 0, slots := 0, locals := 117 }
def f_X10_sleeperOf (p0 : Int32) (p1 : Int32) (σ : gS) : Option (Int32 × gS) := Option.bind (f_X7_has p0 σ) (fun q1 => if q1.1 = 0 then (some ((-1), q1.2)) else (if p1 = 0 then (Option.bind (f_X5_at 25 5 p0 q1.2) (fun q4 => some (q4.1, q4.2))) else (if p1 = 1 then (Option.bind (f_X5_at 27 5 p0 q1.2) (fun q6 => some (q6.1, q6.2))) else (if p1 = 2 then (Option.bind (f_X5_at 29 5 p0 q1.2) (fun q8 => some (q8.1, q8.2))) else (if p1 = 3 then (Option.bind (f_X5_at 31 5 p0 q1.2) (fun q10 => some (q10.1, q10.2))) else (if p1 = 4 then (Option.bind (f_X0_boardsThatWake p0 q1.2) (fun q12 => some (q12.1, q12.2))) else (some ((-2), q1.2))))))))
set_option maxHeartbeats 4000000 in
set_option maxRecDepth 100000 in
theorem c_X10_sleeperOf (p0 : Int32) (p1 : Int32) (σ : gS) (q : Int32 × gS) (hf : f_X10_sleeperOf p0 p1 σ = some q) : Met l yX10_sleeperOf (gW yX10_sleeperOf cX10_sleeperOf 3 (some .int)) rmX10_sleeperOf (gPc G (entX G o) o 302 [.ref (o + 0), .int p0, .int p1] σ) (gQi G (entX G o) o 302 q) 0 0 (gA o 302) := by
  refine g_met (by decide) ⟨rfl, rfl⟩ (fun p e s m args below meth c ls K hS hl => ?_) (Nat.le_of_ble_eq_true rfl)
  have K : gK p s m args meth c G cX10_sleeperOf 3 RX10 (some .int) := K
  have hl : lv_has ls 3 [(0, .ref (o + 0)), (1, .int p0), (2, .int p1)] := hl
  obtain ⟨hx, hb, hml, hown, hts, -⟩ := id K
  unfold f_X10_sleeperOf at hf
  refine lv_aload_n hx hb dX10_sleeperOf_0 rfl (lv_at hl 0 rfl) ?_
  refine g_get (cx := 0) K hS lF_X10_10 ((eX_0 G o) _) (by decide) rfl dX10_sleeperOf_1 ?_
  refine g_get (cx := 1) K hS lF_X10_119 ((eX_1 G o) _) (by decide) rfl dX10_sleeperOf_4 ?_
  refine lv_iload_n hx hb dX10_sleeperOf_7 rfl (lv_at hl 1 rfl) ?_
  obtain ⟨q1, hq1, hf⟩ := Option.bind_eq_some_iff.mp hf
  refine g_Vi (cx := 24) (As := [.int p0]) K hS lV_X10_196 (c_X7_has p0 σ q1 hq1) ((eX_24 G o) _) (by decide) rfl rfl rfl (Nat.le_of_ble_eq_true rfl) ⟨⟨Nat.le_of_ble_eq_true rfl, Nat.le_of_ble_eq_true rfl⟩, rfl, rfl⟩ hl.1 ⟨Nat.zero_le _, Nat.zero_le _⟩ dX10_sleeperOf_8 (fun H locs hS => ?_)
  refine lv_if_ne (tgt := 16) hx hb dX10_sleeperOf_11 (by decide) (fun c2 => ?_) (fun c2 => ?_)
  · have hf := gIf_f c2 hf
    refine lv_iload_n hx hb dX10_sleeperOf_16 rfl (lv_at hl 2 rfl) ?_
    by_cases c3 : p1 = 0
    · have hf := gIf_t c3 hf
      refine g_tab c3 (off := 35) (tgt := 52) hx hb dX10_sleeperOf_17 (by decide) (by decide) (by decide) (by decide) ?_
      refine lv_aload_n hx hb dX10_sleeperOf_52 rfl (lv_at hl 0 rfl) ?_
      refine g_get (cx := 0) K hS lF_X10_10 ((eX_0 G o) _) (by decide) rfl dX10_sleeperOf_53 ?_
      refine g_get (cx := 1) K hS lF_X10_119 ((eX_1 G o) _) (by decide) rfl dX10_sleeperOf_56 ?_
      refine g_get (cx := 24) K hS lF_X10_197 ((eX_24 G o) _) (by decide) rfl dX10_sleeperOf_59 ?_
      refine lv_iload_n hx hb dX10_sleeperOf_62 rfl (lv_at hl 1 rfl) ?_
      obtain ⟨q4, hq4, hf⟩ := Option.bind_eq_some_iff.mp hf
      refine g_Vi (cx := 25) (As := [.int p0]) K hS lV_X10_58 (c_X5_at 25 5 (gRow_25 G o) p0 q1.2 q4 hq4) ((eX_25 G o) _) (by decide) rfl rfl rfl (Nat.le_of_ble_eq_true rfl) ⟨⟨Nat.le_of_ble_eq_true rfl, Nat.le_of_ble_eq_true rfl⟩, rfl, rfl⟩ hl.1 ⟨Nat.zero_le _, Nat.zero_le _⟩ dX10_sleeperOf_63 (fun H locs hS => ?_)
      exact g_iret K hS hf dX10_sleeperOf_66
    have hf := gIf_f c3 hf
    by_cases c5 : p1 = 1
    · have hf := gIf_t c5 hf
      refine g_tab c5 (off := 50) (tgt := 67) hx hb dX10_sleeperOf_17 (by decide) (by decide) (by decide) (by decide) ?_
      refine lv_aload_n hx hb dX10_sleeperOf_67 rfl (lv_at hl 0 rfl) ?_
      refine g_get (cx := 0) K hS lF_X10_10 ((eX_0 G o) _) (by decide) rfl dX10_sleeperOf_68 ?_
      refine g_get (cx := 1) K hS lF_X10_119 ((eX_1 G o) _) (by decide) rfl dX10_sleeperOf_71 ?_
      refine g_get (cx := 24) K hS lF_X10_198 ((eX_24 G o) _) (by decide) rfl dX10_sleeperOf_74 ?_
      refine lv_iload_n hx hb dX10_sleeperOf_77 rfl (lv_at hl 1 rfl) ?_
      obtain ⟨q6, hq6, hf⟩ := Option.bind_eq_some_iff.mp hf
      refine g_Vi (cx := 27) (As := [.int p0]) K hS lV_X10_58 (c_X5_at 27 5 (gRow_27 G o) p0 q1.2 q6 hq6) ((eX_27 G o) _) (by decide) rfl rfl rfl (Nat.le_of_ble_eq_true rfl) ⟨⟨Nat.le_of_ble_eq_true rfl, Nat.le_of_ble_eq_true rfl⟩, rfl, rfl⟩ hl.1 ⟨Nat.zero_le _, Nat.zero_le _⟩ dX10_sleeperOf_78 (fun H locs hS => ?_)
      exact g_iret K hS hf dX10_sleeperOf_81
    have hf := gIf_f c5 hf
    by_cases c7 : p1 = 2
    · have hf := gIf_t c7 hf
      refine g_tab c7 (off := 65) (tgt := 82) hx hb dX10_sleeperOf_17 (by decide) (by decide) (by decide) (by decide) ?_
      refine lv_aload_n hx hb dX10_sleeperOf_82 rfl (lv_at hl 0 rfl) ?_
      refine g_get (cx := 0) K hS lF_X10_10 ((eX_0 G o) _) (by decide) rfl dX10_sleeperOf_83 ?_
      refine g_get (cx := 1) K hS lF_X10_119 ((eX_1 G o) _) (by decide) rfl dX10_sleeperOf_86 ?_
      refine g_get (cx := 24) K hS lF_X10_201 ((eX_24 G o) _) (by decide) rfl dX10_sleeperOf_89 ?_
      refine lv_iload_n hx hb dX10_sleeperOf_92 rfl (lv_at hl 1 rfl) ?_
      obtain ⟨q8, hq8, hf⟩ := Option.bind_eq_some_iff.mp hf
      refine g_Vi (cx := 29) (As := [.int p0]) K hS lV_X10_58 (c_X5_at 29 5 (gRow_29 G o) p0 q1.2 q8 hq8) ((eX_29 G o) _) (by decide) rfl rfl rfl (Nat.le_of_ble_eq_true rfl) ⟨⟨Nat.le_of_ble_eq_true rfl, Nat.le_of_ble_eq_true rfl⟩, rfl, rfl⟩ hl.1 ⟨Nat.zero_le _, Nat.zero_le _⟩ dX10_sleeperOf_93 (fun H locs hS => ?_)
      exact g_iret K hS hf dX10_sleeperOf_96
    have hf := gIf_f c7 hf
    by_cases c9 : p1 = 3
    · have hf := gIf_t c9 hf
      refine g_tab c9 (off := 80) (tgt := 97) hx hb dX10_sleeperOf_17 (by decide) (by decide) (by decide) (by decide) ?_
      refine lv_aload_n hx hb dX10_sleeperOf_97 rfl (lv_at hl 0 rfl) ?_
      refine g_get (cx := 0) K hS lF_X10_10 ((eX_0 G o) _) (by decide) rfl dX10_sleeperOf_98 ?_
      refine g_get (cx := 1) K hS lF_X10_119 ((eX_1 G o) _) (by decide) rfl dX10_sleeperOf_101 ?_
      refine g_get (cx := 24) K hS lF_X10_204 ((eX_24 G o) _) (by decide) rfl dX10_sleeperOf_104 ?_
      refine lv_iload_n hx hb dX10_sleeperOf_107 rfl (lv_at hl 1 rfl) ?_
      obtain ⟨q10, hq10, hf⟩ := Option.bind_eq_some_iff.mp hf
      refine g_Vi (cx := 31) (As := [.int p0]) K hS lV_X10_58 (c_X5_at 31 5 (gRow_31 G o) p0 q1.2 q10 hq10) ((eX_31 G o) _) (by decide) rfl rfl rfl (Nat.le_of_ble_eq_true rfl) ⟨⟨Nat.le_of_ble_eq_true rfl, Nat.le_of_ble_eq_true rfl⟩, rfl, rfl⟩ hl.1 ⟨Nat.zero_le _, Nat.zero_le _⟩ dX10_sleeperOf_108 (fun H locs hS => ?_)
      exact g_iret K hS hf dX10_sleeperOf_111
    have hf := gIf_f c9 hf
    by_cases c11 : p1 = 4
    · have hf := gIf_t c11 hf
      refine g_tab c11 (off := 95) (tgt := 112) hx hb dX10_sleeperOf_17 (by decide) (by decide) (by decide) (by decide) ?_
      refine lv_aload_n hx hb dX10_sleeperOf_112 rfl (lv_at hl 0 rfl) ?_
      refine g_get (cx := 0) K hS lF_X10_10 ((eX_0 G o) _) (by decide) rfl dX10_sleeperOf_113 ?_
      refine lv_iload_n hx hb dX10_sleeperOf_116 rfl (lv_at hl 1 rfl) ?_
      obtain ⟨q12, hq12, hf⟩ := Option.bind_eq_some_iff.mp hf
      refine g_Vi (cx := 1) (As := [.int p0]) K hS lV_X10_207 (c_X0_boardsThatWake p0 q1.2 q12 hq12) ((eX_1 G o) _) (by decide) rfl rfl rfl (Nat.le_of_ble_eq_true rfl) ⟨⟨Nat.le_of_ble_eq_true rfl, Nat.le_of_ble_eq_true rfl⟩, rfl, rfl⟩ hl.1 ⟨Nat.zero_le _, Nat.zero_le _⟩ dX10_sleeperOf_117 (fun H locs hS => ?_)
      exact g_iret K hS hf dX10_sleeperOf_120
    have hf := gIf_f c11 hf
    refine lv_tableOut (tgt := 121) hx hb dX10_sleeperOf_17 (g_tabOut 4 (fun k hk => by
      rcases (show k = 0 ∨ k = 1 ∨ k = 2 ∨ k = 3 ∨ k = 4 by omega) with rfl | rfl | rfl | rfl | rfl
      · exact c3
      · exact c5
      · exact c7
      · exact c9
      · exact c11
      )) (by decide) ?_
    refine lv_bipush (v := (-2)) hx hb dX10_sleeperOf_121 (by decide) ?_
    exact g_iret K hS hf dX10_sleeperOf_123
  · have hf := gIf_t c2 hf
    refine lv_iconst (v := (-1)) hx hb dX10_sleeperOf_14 (by decide) ?_
    exact g_iret K hS hf dX10_sleeperOf_15
abbrev rmX10_loudness : Room := { frames := 4, cells := 0, slots := 0, locals := 93 }
def f_X10_loudness (p0 : Int32) (p1 : Int32) (σ : gS) : Option (Int32 × gS) := Option.bind (f_X1_has p0 σ) (fun q1 => if q1.1 = 0 then (some ((-1), q1.2)) else (Option.bind (f_X7_has p1 q1.2) (fun q3 => if q3.1 = 0 then (some ((-1), q3.2)) else (Option.bind (f_X5_at 25 5 p1 q3.2) (fun q5 => Option.bind (f_X1_loudnessIn q5.1 p0 q5.2) (fun q6 => some (q6.1, q6.2)))))))
set_option maxHeartbeats 4000000 in
set_option maxRecDepth 100000 in
theorem c_X10_loudness (p0 : Int32) (p1 : Int32) (σ : gS) (q : Int32 × gS) (hf : f_X10_loudness p0 p1 σ = some q) : Met l yX10_loudness (gW yX10_loudness cX10_loudness 3 (some .int)) rmX10_loudness (gPc G (entX G o) o 302 [.ref (o + 0), .int p0, .int p1] σ) (gQi G (entX G o) o 302 q) 0 0 (gA o 302) := by
  refine g_met (by decide) ⟨rfl, rfl⟩ (fun p e s m args below meth c ls K hS hl => ?_) (Nat.le_of_ble_eq_true rfl)
  have K : gK p s m args meth c G cX10_loudness 3 RX10 (some .int) := K
  have hl : lv_has ls 3 [(0, .ref (o + 0)), (1, .int p0), (2, .int p1)] := hl
  obtain ⟨hx, hb, hml, hown, hts, -⟩ := id K
  unfold f_X10_loudness at hf
  refine lv_aload_n hx hb dX10_loudness_0 rfl (lv_at hl 0 rfl) ?_
  refine g_get (cx := 0) K hS lF_X10_10 ((eX_0 G o) _) (by decide) rfl dX10_loudness_1 ?_
  refine g_get (cx := 1) K hS lF_X10_76 ((eX_1 G o) _) (by decide) rfl dX10_loudness_4 ?_
  refine lv_iload_n hx hb dX10_loudness_7 rfl (lv_at hl 1 rfl) ?_
  obtain ⟨q1, hq1, hf⟩ := Option.bind_eq_some_iff.mp hf
  refine g_Vi (cx := 4) (As := [.int p0]) K hS lV_X10_104 (c_X1_has p0 σ q1 hq1) ((eX_4 G o) _) (by decide) rfl rfl rfl (Nat.le_of_ble_eq_true rfl) ⟨⟨Nat.le_of_ble_eq_true rfl, Nat.le_of_ble_eq_true rfl⟩, rfl, rfl⟩ hl.1 ⟨Nat.zero_le _, Nat.zero_le _⟩ dX10_loudness_8 (fun H locs hS => ?_)
  refine lv_if_eq (tgt := 28) hx hb dX10_loudness_11 (by decide) (fun c2 => ?_) (fun c2 => ?_)
  · have hf := gIf_t c2 hf
    refine lv_iconst (v := (-1)) hx hb dX10_loudness_28 (by decide) ?_
    exact g_iret K hS hf dX10_loudness_29
  · have hf := gIf_f c2 hf
    refine lv_aload_n hx hb dX10_loudness_14 rfl (lv_at hl 0 rfl) ?_
    refine g_get (cx := 0) K hS lF_X10_10 ((eX_0 G o) _) (by decide) rfl dX10_loudness_15 ?_
    refine g_get (cx := 1) K hS lF_X10_119 ((eX_1 G o) _) (by decide) rfl dX10_loudness_18 ?_
    refine lv_iload_n hx hb dX10_loudness_21 rfl (lv_at hl 2 rfl) ?_
    obtain ⟨q3, hq3, hf⟩ := Option.bind_eq_some_iff.mp hf
    refine g_Vi (cx := 24) (As := [.int p1]) K hS lV_X10_196 (c_X7_has p1 q1.2 q3 hq3) ((eX_24 G o) _) (by decide) rfl rfl rfl (Nat.le_of_ble_eq_true rfl) ⟨⟨Nat.le_of_ble_eq_true rfl, Nat.le_of_ble_eq_true rfl⟩, rfl, rfl⟩ hl.1 ⟨Nat.zero_le _, Nat.zero_le _⟩ dX10_loudness_22 (fun H locs hS => ?_)
    refine lv_if_ne (tgt := 30) hx hb dX10_loudness_25 (by decide) (fun c4 => ?_) (fun c4 => ?_)
    · have hf := gIf_f c4 hf
      refine lv_aload_n hx hb dX10_loudness_30 rfl (lv_at hl 0 rfl) ?_
      refine g_get (cx := 0) K hS lF_X10_10 ((eX_0 G o) _) (by decide) rfl dX10_loudness_31 ?_
      refine g_get (cx := 1) K hS lF_X10_76 ((eX_1 G o) _) (by decide) rfl dX10_loudness_34 ?_
      refine lv_aload_n hx hb dX10_loudness_37 rfl (lv_at hl 0 rfl) ?_
      refine g_get (cx := 0) K hS lF_X10_10 ((eX_0 G o) _) (by decide) rfl dX10_loudness_38 ?_
      refine g_get (cx := 1) K hS lF_X10_119 ((eX_1 G o) _) (by decide) rfl dX10_loudness_41 ?_
      refine g_get (cx := 24) K hS lF_X10_197 ((eX_24 G o) _) (by decide) rfl dX10_loudness_44 ?_
      refine lv_iload_n hx hb dX10_loudness_47 rfl (lv_at hl 2 rfl) ?_
      obtain ⟨q5, hq5, hf⟩ := Option.bind_eq_some_iff.mp hf
      refine g_Vi (cx := 25) (As := [.int p1]) K hS lV_X10_58 (c_X5_at 25 5 (gRow_25 G o) p1 q3.2 q5 hq5) ((eX_25 G o) _) (by decide) rfl rfl rfl (Nat.le_of_ble_eq_true rfl) ⟨⟨Nat.le_of_ble_eq_true rfl, Nat.le_of_ble_eq_true rfl⟩, rfl, rfl⟩ hl.1 ⟨Nat.zero_le _, Nat.zero_le _⟩ dX10_loudness_48 (fun H locs hS => ?_)
      refine lv_iload_n hx hb dX10_loudness_51 rfl (lv_at hl 1 rfl) ?_
      obtain ⟨q6, hq6, hf⟩ := Option.bind_eq_some_iff.mp hf
      refine g_Vi (cx := 4) (As := [.int q5.1, .int p0]) K hS lV_X10_210 (c_X1_loudnessIn q5.1 p0 q5.2 q6 hq6) ((eX_4 G o) _) (by decide) rfl rfl rfl (Nat.le_of_ble_eq_true rfl) ⟨⟨Nat.le_of_ble_eq_true rfl, Nat.le_of_ble_eq_true rfl⟩, rfl, rfl⟩ hl.1 ⟨Nat.zero_le _, Nat.zero_le _⟩ dX10_loudness_52 (fun H locs hS => ?_)
      exact g_iret K hS hf dX10_loudness_55
    · have hf := gIf_t c4 hf
      refine lv_iconst (v := (-1)) hx hb dX10_loudness_28 (by decide) ?_
      exact g_iret K hS hf dX10_loudness_29
abbrev rmX10_far : Room := { frames := 3, cells := 0, slots := 0, locals := 70 }
def f_X10_far (p0 : Int32) (p1 : Int32) (σ : gS) : Option (Int32 × gS) := Option.bind (f_X10_isRoom p0 σ) (fun q1 => if q1.1 = 0 then (some ((-1), q1.2)) else (Option.bind (f_X10_isRoom p1 q1.2) (fun q3 => if q3.1 = 0 then (some ((-1), q3.2)) else (Option.bind (f_X1_fewestTo p0 (1 <<< (p1 &&& 31)) q3.2) (fun q5 => some (q5.1, q5.2))))))
set_option maxHeartbeats 4000000 in
set_option maxRecDepth 100000 in
theorem c_X10_far (p0 : Int32) (p1 : Int32) (σ : gS) (q : Int32 × gS) (hf : f_X10_far p0 p1 σ = some q) : Met l yX10_far (gW yX10_far cX10_far 3 (some .int)) rmX10_far (gPc G (entX G o) o 302 [.ref (o + 0), .int p0, .int p1] σ) (gQi G (entX G o) o 302 q) 0 0 (gA o 302) := by
  refine g_met (by decide) ⟨rfl, rfl⟩ (fun p e s m args below meth c ls K hS hl => ?_) (Nat.le_of_ble_eq_true rfl)
  have K : gK p s m args meth c G cX10_far 3 RX10 (some .int) := K
  have hl : lv_has ls 3 [(0, .ref (o + 0)), (1, .int p0), (2, .int p1)] := hl
  obtain ⟨hx, hb, hml, hown, hts, -⟩ := id K
  unfold f_X10_far at hf
  refine lv_iload_n hx hb dX10_far_0 rfl (lv_at hl 1 rfl) ?_
  obtain ⟨q1, hq1, hf⟩ := Option.bind_eq_some_iff.mp hf
  refine g_Si (As := [.int p0]) K hS lS_X10_68 (c_X10_isRoom p0 σ q1 hq1) rfl rfl (Nat.le_of_ble_eq_true rfl) ⟨⟨Nat.le_of_ble_eq_true rfl, Nat.le_of_ble_eq_true rfl⟩, rfl, rfl⟩ hl.1 ⟨Nat.zero_le _, Nat.zero_le _⟩ dX10_far_1 (fun H locs hS => ?_)
  refine lv_if_eq (tgt := 14) hx hb dX10_far_4 (by decide) (fun c2 => ?_) (fun c2 => ?_)
  · have hf := gIf_t c2 hf
    refine lv_iconst (v := (-1)) hx hb dX10_far_14 (by decide) ?_
    exact g_iret K hS hf dX10_far_15
  · have hf := gIf_f c2 hf
    refine lv_iload_n hx hb dX10_far_7 rfl (lv_at hl 2 rfl) ?_
    obtain ⟨q3, hq3, hf⟩ := Option.bind_eq_some_iff.mp hf
    refine g_Si (As := [.int p1]) K hS lS_X10_68 (c_X10_isRoom p1 q1.2 q3 hq3) rfl rfl (Nat.le_of_ble_eq_true rfl) ⟨⟨Nat.le_of_ble_eq_true rfl, Nat.le_of_ble_eq_true rfl⟩, rfl, rfl⟩ hl.1 ⟨Nat.zero_le _, Nat.zero_le _⟩ dX10_far_8 (fun H locs hS => ?_)
    refine lv_if_ne (tgt := 16) hx hb dX10_far_11 (by decide) (fun c4 => ?_) (fun c4 => ?_)
    · have hf := gIf_f c4 hf
      refine lv_aload_n hx hb dX10_far_16 rfl (lv_at hl 0 rfl) ?_
      refine g_get (cx := 0) K hS lF_X10_10 ((eX_0 G o) _) (by decide) rfl dX10_far_17 ?_
      refine g_get (cx := 1) K hS lF_X10_76 ((eX_1 G o) _) (by decide) rfl dX10_far_20 ?_
      refine lv_iload_n hx hb dX10_far_23 rfl (lv_at hl 1 rfl) ?_
      refine lv_iconst (v := 1) hx hb dX10_far_24 (by decide) ?_
      refine lv_iload_n hx hb dX10_far_25 rfl (lv_at hl 2 rfl) ?_
      refine lv_ishl hx hb dX10_far_26 ?_
      obtain ⟨q5, hq5, hf⟩ := Option.bind_eq_some_iff.mp hf
      refine g_Vi (cx := 4) (As := [.int p0, .int (1 <<< (p1 &&& 31))]) K hS lV_X10_213 (c_X1_fewestTo p0 (1 <<< (p1 &&& 31)) q3.2 q5 hq5) ((eX_4 G o) _) (by decide) rfl rfl rfl (Nat.le_of_ble_eq_true rfl) ⟨⟨Nat.le_of_ble_eq_true rfl, Nat.le_of_ble_eq_true rfl⟩, rfl, rfl⟩ hl.1 ⟨Nat.zero_le _, Nat.zero_le _⟩ dX10_far_27 (fun H locs hS => ?_)
      exact g_iret K hS hf dX10_far_30
    · have hf := gIf_t c4 hf
      refine lv_iconst (v := (-1)) hx hb dX10_far_14 (by decide) ?_
      exact g_iret K hS hf dX10_far_15
abbrev rmX10_count : Room := { frames := 3, cells := 0, slots := 0, locals := 61 }
def f_X10_count (p0 : Int32) (σ : gS) : Option (Int32 × gS) := if p0 = 0 then (Option.bind (f_X5_at 2 2 0 σ) (fun q2 => some (q2.1, q2.2))) else (if p0 = 1 then (Option.bind (f_X5_at 2 2 1 σ) (fun q4 => some (q4.1, q4.2))) else (if p0 = 2 then (some ((σ 1 0), σ)) else (if p0 = 3 then (some ((σ 4 0), σ)) else (if p0 = 4 then (some ((σ 24 0), σ)) else (if p0 = 5 then (Option.bind (f_X7_whoAreAwake σ) (fun q9 => some (q9.1, q9.2))) else (if p0 = 6 then (Option.bind (f_X7_watchedRooms σ) (fun q11 => some (q11.1, q11.2))) else (if p0 = 7 then (some ((σ 1 1), σ)) else (if p0 = 8 then (Option.bind (f_X0_minutesToBell σ) (fun q14 => some (q14.1, q14.2))) else (if p0 = 9 then (some ((σ 33 0), σ)) else (if p0 = 10 then (some ((σ 36 2), σ)) else (some ((-2), σ))))))))))))
set_option maxHeartbeats 4000000 in
set_option maxRecDepth 100000 in
theorem c_X10_count (p0 : Int32) (σ : gS) (q : Int32 × gS) (hf : f_X10_count p0 σ = some q) : Met l yX10_count (gW yX10_count cX10_count 2 (some .int)) rmX10_count (gPc G (entX G o) o 302 [.ref (o + 0), .int p0] σ) (gQi G (entX G o) o 302 q) 0 0 (gA o 302) := by
  refine g_met (by decide) ⟨rfl, rfl⟩ (fun p e s m args below meth c ls K hS hl => ?_) (Nat.le_of_ble_eq_true rfl)
  have K : gK p s m args meth c G cX10_count 2 RX10 (some .int) := K
  have hl : lv_has ls 2 [(0, .ref (o + 0)), (1, .int p0)] := hl
  obtain ⟨hx, hb, hml, hown, hts, -⟩ := id K
  unfold f_X10_count at hf
  refine lv_iload_n hx hb dX10_count_0 rfl (lv_at hl 1 rfl) ?_
  by_cases c1 : p0 = 0
  · have hf := gIf_t c1 hf
    refine g_tab c1 (off := 59) (tgt := 60) hx hb dX10_count_1 (by decide) (by decide) (by decide) (by decide) ?_
    refine lv_aload_n hx hb dX10_count_60 rfl (lv_at hl 0 rfl) ?_
    refine g_get (cx := 0) K hS lF_X10_10 ((eX_0 G o) _) (by decide) rfl dX10_count_61 ?_
    refine g_get (cx := 1) K hS lF_X10_54 ((eX_1 G o) _) (by decide) rfl dX10_count_64 ?_
    refine lv_iconst (v := 0) hx hb dX10_count_67 (by decide) ?_
    obtain ⟨q2, hq2, hf⟩ := Option.bind_eq_some_iff.mp hf
    refine g_Vi (cx := 2) (As := [.int 0]) K hS lV_X10_58 (c_X5_at 2 2 (gRow_2 G o) 0 σ q2 hq2) ((eX_2 G o) _) (by decide) rfl rfl rfl (Nat.le_of_ble_eq_true rfl) ⟨⟨Nat.le_of_ble_eq_true rfl, Nat.le_of_ble_eq_true rfl⟩, rfl, rfl⟩ hl.1 ⟨Nat.zero_le _, Nat.zero_le _⟩ dX10_count_68 (fun H locs hS => ?_)
    exact g_iret K hS hf dX10_count_71
  have hf := gIf_f c1 hf
  by_cases c3 : p0 = 1
  · have hf := gIf_t c3 hf
    refine g_tab c3 (off := 71) (tgt := 72) hx hb dX10_count_1 (by decide) (by decide) (by decide) (by decide) ?_
    refine lv_aload_n hx hb dX10_count_72 rfl (lv_at hl 0 rfl) ?_
    refine g_get (cx := 0) K hS lF_X10_10 ((eX_0 G o) _) (by decide) rfl dX10_count_73 ?_
    refine g_get (cx := 1) K hS lF_X10_54 ((eX_1 G o) _) (by decide) rfl dX10_count_76 ?_
    refine lv_iconst (v := 1) hx hb dX10_count_79 (by decide) ?_
    obtain ⟨q4, hq4, hf⟩ := Option.bind_eq_some_iff.mp hf
    refine g_Vi (cx := 2) (As := [.int 1]) K hS lV_X10_58 (c_X5_at 2 2 (gRow_2 G o) 1 σ q4 hq4) ((eX_2 G o) _) (by decide) rfl rfl rfl (Nat.le_of_ble_eq_true rfl) ⟨⟨Nat.le_of_ble_eq_true rfl, Nat.le_of_ble_eq_true rfl⟩, rfl, rfl⟩ hl.1 ⟨Nat.zero_le _, Nat.zero_le _⟩ dX10_count_80 (fun H locs hS => ?_)
    exact g_iret K hS hf dX10_count_83
  have hf := gIf_f c3 hf
  by_cases c5 : p0 = 2
  · have hf := gIf_t c5 hf
    refine g_tab c5 (off := 83) (tgt := 84) hx hb dX10_count_1 (by decide) (by decide) (by decide) (by decide) ?_
    refine lv_aload_n hx hb dX10_count_84 rfl (lv_at hl 0 rfl) ?_
    refine g_get (cx := 0) K hS lF_X10_10 ((eX_0 G o) _) (by decide) rfl dX10_count_85 ?_
    refine g_get (cx := 1) K hS lF_X10_157 ((eX_1 G o) _) (by decide) rfl dX10_count_88 ?_
    exact g_iret K hS hf dX10_count_91
  have hf := gIf_f c5 hf
  by_cases c6 : p0 = 3
  · have hf := gIf_t c6 hf
    refine g_tab c6 (off := 91) (tgt := 92) hx hb dX10_count_1 (by decide) (by decide) (by decide) (by decide) ?_
    refine lv_aload_n hx hb dX10_count_92 rfl (lv_at hl 0 rfl) ?_
    refine g_get (cx := 0) K hS lF_X10_10 ((eX_0 G o) _) (by decide) rfl dX10_count_93 ?_
    refine g_get (cx := 1) K hS lF_X10_76 ((eX_1 G o) _) (by decide) rfl dX10_count_96 ?_
    refine g_get (cx := 4) K hS lF_X10_80 ((eX_4 G o) _) (by decide) rfl dX10_count_99 ?_
    exact g_iret K hS hf dX10_count_102
  have hf := gIf_f c6 hf
  by_cases c7 : p0 = 4
  · have hf := gIf_t c7 hf
    refine g_tab c7 (off := 102) (tgt := 103) hx hb dX10_count_1 (by decide) (by decide) (by decide) (by decide) ?_
    refine lv_aload_n hx hb dX10_count_103 rfl (lv_at hl 0 rfl) ?_
    refine g_get (cx := 0) K hS lF_X10_10 ((eX_0 G o) _) (by decide) rfl dX10_count_104 ?_
    refine g_get (cx := 1) K hS lF_X10_119 ((eX_1 G o) _) (by decide) rfl dX10_count_107 ?_
    refine g_get (cx := 24) K hS lF_X10_123 ((eX_24 G o) _) (by decide) rfl dX10_count_110 ?_
    exact g_iret K hS hf dX10_count_113
  have hf := gIf_f c7 hf
  by_cases c8 : p0 = 5
  · have hf := gIf_t c8 hf
    refine g_tab c8 (off := 113) (tgt := 114) hx hb dX10_count_1 (by decide) (by decide) (by decide) (by decide) ?_
    refine lv_aload_n hx hb dX10_count_114 rfl (lv_at hl 0 rfl) ?_
    refine g_get (cx := 0) K hS lF_X10_10 ((eX_0 G o) _) (by decide) rfl dX10_count_115 ?_
    refine g_get (cx := 1) K hS lF_X10_119 ((eX_1 G o) _) (by decide) rfl dX10_count_118 ?_
    obtain ⟨q9, hq9, hf⟩ := Option.bind_eq_some_iff.mp hf
    refine g_Vi (cx := 24) (As := []) K hS lV_X10_216 (c_X7_whoAreAwake σ q9 hq9) ((eX_24 G o) _) (by decide) rfl rfl rfl (Nat.le_of_ble_eq_true rfl) ⟨⟨Nat.le_of_ble_eq_true rfl, Nat.le_of_ble_eq_true rfl⟩, rfl, rfl⟩ hl.1 ⟨Nat.zero_le _, Nat.zero_le _⟩ dX10_count_121 (fun H locs hS => ?_)
    exact g_iret K hS hf dX10_count_124
  have hf := gIf_f c8 hf
  by_cases c10 : p0 = 6
  · have hf := gIf_t c10 hf
    refine g_tab c10 (off := 124) (tgt := 125) hx hb dX10_count_1 (by decide) (by decide) (by decide) (by decide) ?_
    refine lv_aload_n hx hb dX10_count_125 rfl (lv_at hl 0 rfl) ?_
    refine g_get (cx := 0) K hS lF_X10_10 ((eX_0 G o) _) (by decide) rfl dX10_count_126 ?_
    refine g_get (cx := 1) K hS lF_X10_119 ((eX_1 G o) _) (by decide) rfl dX10_count_129 ?_
    obtain ⟨q11, hq11, hf⟩ := Option.bind_eq_some_iff.mp hf
    refine g_Vi (cx := 24) (As := []) K hS lV_X10_219 (c_X7_watchedRooms σ q11 hq11) ((eX_24 G o) _) (by decide) rfl rfl rfl (Nat.le_of_ble_eq_true rfl) ⟨⟨Nat.le_of_ble_eq_true rfl, Nat.le_of_ble_eq_true rfl⟩, rfl, rfl⟩ hl.1 ⟨Nat.zero_le _, Nat.zero_le _⟩ dX10_count_132 (fun H locs hS => ?_)
    exact g_iret K hS hf dX10_count_135
  have hf := gIf_f c10 hf
  by_cases c12 : p0 = 7
  · have hf := gIf_t c12 hf
    refine g_tab c12 (off := 135) (tgt := 136) hx hb dX10_count_1 (by decide) (by decide) (by decide) (by decide) ?_
    refine lv_aload_n hx hb dX10_count_136 rfl (lv_at hl 0 rfl) ?_
    refine g_get (cx := 0) K hS lF_X10_10 ((eX_0 G o) _) (by decide) rfl dX10_count_137 ?_
    refine g_get (cx := 1) K hS lF_X10_222 ((eX_1 G o) _) (by decide) rfl dX10_count_140 ?_
    exact g_iret K hS hf dX10_count_143
  have hf := gIf_f c12 hf
  by_cases c13 : p0 = 8
  · have hf := gIf_t c13 hf
    refine g_tab c13 (off := 143) (tgt := 144) hx hb dX10_count_1 (by decide) (by decide) (by decide) (by decide) ?_
    refine lv_aload_n hx hb dX10_count_144 rfl (lv_at hl 0 rfl) ?_
    refine g_get (cx := 0) K hS lF_X10_10 ((eX_0 G o) _) (by decide) rfl dX10_count_145 ?_
    obtain ⟨q14, hq14, hf⟩ := Option.bind_eq_some_iff.mp hf
    refine g_Vi (cx := 1) (As := []) K hS lV_X10_225 (c_X0_minutesToBell σ q14 hq14) ((eX_1 G o) _) (by decide) rfl rfl rfl (Nat.le_of_ble_eq_true rfl) ⟨⟨Nat.le_of_ble_eq_true rfl, Nat.le_of_ble_eq_true rfl⟩, rfl, rfl⟩ hl.1 ⟨Nat.zero_le _, Nat.zero_le _⟩ dX10_count_148 (fun H locs hS => ?_)
    exact g_iret K hS hf dX10_count_151
  have hf := gIf_f c13 hf
  by_cases c15 : p0 = 9
  · have hf := gIf_t c15 hf
    refine g_tab c15 (off := 151) (tgt := 152) hx hb dX10_count_1 (by decide) (by decide) (by decide) (by decide) ?_
    refine lv_aload_n hx hb dX10_count_152 rfl (lv_at hl 0 rfl) ?_
    refine g_get (cx := 0) K hS lF_X10_19 ((eX_0 G o) _) (by decide) rfl dX10_count_153 ?_
    refine g_get (cx := 33) K hS lF_X10_101 ((eX_33 G o) _) (by decide) rfl dX10_count_156 ?_
    exact g_iret K hS hf dX10_count_159
  have hf := gIf_f c15 hf
  by_cases c16 : p0 = 10
  · have hf := gIf_t c16 hf
    refine g_tab c16 (off := 159) (tgt := 160) hx hb dX10_count_1 (by decide) (by decide) (by decide) (by decide) ?_
    refine lv_aload_n hx hb dX10_count_160 rfl (lv_at hl 0 rfl) ?_
    refine g_get (cx := 0) K hS lF_X10_26 ((eX_0 G o) _) (by decide) rfl dX10_count_161 ?_
    refine g_get (cx := 36) K hS lF_X10_228 ((eX_36 G o) _) (by decide) rfl dX10_count_164 ?_
    exact g_iret K hS hf dX10_count_167
  have hf := gIf_f c16 hf
  refine lv_tableOut (tgt := 168) hx hb dX10_count_1 (g_tabOut 10 (fun k hk => by
    rcases (show k = 0 ∨ k = 1 ∨ k = 2 ∨ k = 3 ∨ k = 4 ∨ k = 5 ∨ k = 6 ∨ k = 7 ∨ k = 8 ∨ k = 9 ∨ k = 10 by omega) with rfl | rfl | rfl | rfl | rfl | rfl | rfl | rfl | rfl | rfl | rfl
    · exact c1
    · exact c3
    · exact c5
    · exact c6
    · exact c7
    · exact c8
    · exact c10
    · exact c12
    · exact c13
    · exact c15
    · exact c16
    )) (by decide) ?_
  refine lv_bipush (v := (-2)) hx hb dX10_count_168 (by decide) ?_
  exact g_iret K hS hf dX10_count_170
abbrev rmX10_soonest : Room := { frames := 6, cells := 0, slots := 0, locals := 142 }
def f_X10_soonest (p0 : Int32) (p1 : Int32) (p2 : Int32) (σ : gS) : Option (Int32 × gS) := Option.bind (f_X10_isGhost p0 σ) (fun q1 => if q1.1 = 0 then (some ((-1), q1.2)) else (Option.bind (f_X10_isRoom p1 q1.2) (fun q3 => if q3.1 = 0 then (some ((-1), q3.2)) else (if 0 ≤ p2 then (Option.bind (f_X10_findWay p0 p1 q3.2) (fun q6 => if (q6 297 2) = 0 then (some ((-6), q6)) else (if p2 = 0 then (some ((q6 297 3), q6)) else (if p2 = 1 then (some ((q6 297 4), q6)) else (if (q6 297 4) ≤ (p2 - 2) then (some ((-6), q6)) else (Option.bind (f_X5_at 300 10 (p2 - 2) q6) (fun q11 => some (q11.1, q11.2)))))))) else (some ((-2), q3.2))))))
set_option maxHeartbeats 4000000 in
set_option maxRecDepth 100000 in
theorem c_X10_soonest (p0 : Int32) (p1 : Int32) (p2 : Int32) (σ : gS) (q : Int32 × gS) (hf : f_X10_soonest p0 p1 p2 σ = some q) : Met l yX10_soonest (gW yX10_soonest cX10_soonest 4 (some .int)) rmX10_soonest (gPc G (entX G o) o 302 [.ref (o + 0), .int p0, .int p1, .int p2] σ) (gQi G (entX G o) o 302 q) 0 0 (gA o 302) := by
  refine g_met (by decide) ⟨rfl, rfl⟩ (fun p e s m args below meth c ls K hS hl => ?_) (Nat.le_of_ble_eq_true rfl)
  have K : gK p s m args meth c G cX10_soonest 4 RX10 (some .int) := K
  have hl : lv_has ls 4 [(0, .ref (o + 0)), (1, .int p0), (2, .int p1), (3, .int p2)] := hl
  obtain ⟨hx, hb, hml, hown, hts, -⟩ := id K
  unfold f_X10_soonest at hf
  refine lv_iload_n hx hb dX10_soonest_0 rfl (lv_at hl 1 rfl) ?_
  obtain ⟨q1, hq1, hf⟩ := Option.bind_eq_some_iff.mp hf
  refine g_Si (As := [.int p0]) K hS lS_X10_130 (c_X10_isGhost p0 σ q1 hq1) rfl rfl (Nat.le_of_ble_eq_true rfl) ⟨⟨Nat.le_of_ble_eq_true rfl, Nat.le_of_ble_eq_true rfl⟩, rfl, rfl⟩ hl.1 ⟨Nat.zero_le _, Nat.zero_le _⟩ dX10_soonest_1 (fun H locs hS => ?_)
  refine lv_if_eq (tgt := 14) hx hb dX10_soonest_4 (by decide) (fun c2 => ?_) (fun c2 => ?_)
  · have hf := gIf_t c2 hf
    refine lv_iconst (v := (-1)) hx hb dX10_soonest_14 (by decide) ?_
    exact g_iret K hS hf dX10_soonest_15
  · have hf := gIf_f c2 hf
    refine lv_iload_n hx hb dX10_soonest_7 rfl (lv_at hl 2 rfl) ?_
    obtain ⟨q3, hq3, hf⟩ := Option.bind_eq_some_iff.mp hf
    refine g_Si (As := [.int p1]) K hS lS_X10_68 (c_X10_isRoom p1 q1.2 q3 hq3) rfl rfl (Nat.le_of_ble_eq_true rfl) ⟨⟨Nat.le_of_ble_eq_true rfl, Nat.le_of_ble_eq_true rfl⟩, rfl, rfl⟩ hl.1 ⟨Nat.zero_le _, Nat.zero_le _⟩ dX10_soonest_8 (fun H locs hS => ?_)
    refine lv_if_ne (tgt := 16) hx hb dX10_soonest_11 (by decide) (fun c4 => ?_) (fun c4 => ?_)
    · have hf := gIf_f c4 hf
      refine lv_iload_n hx hb dX10_soonest_16 rfl (lv_at hl 3 rfl) ?_
      refine lv_if_ge (tgt := 23) hx hb dX10_soonest_17 (by decide) (fun c5 => ?_) (fun c5 => ?_)
      · have hf := gIf_t c5 hf
        refine lv_aload_n hx hb dX10_soonest_23 rfl (lv_at hl 0 rfl) ?_
        refine lv_iload_n hx hb dX10_soonest_24 rfl (lv_at hl 1 rfl) ?_
        refine lv_iload_n hx hb dX10_soonest_25 rfl (lv_at hl 2 rfl) ?_
        obtain ⟨q6, hq6, hf⟩ := Option.bind_eq_some_iff.mp hf
        refine g_Vv (cx := 0) (As := [.int p0, .int p1]) K hS lV_X10_146 (c_X10_findWay p0 p1 q3.2 q6 hq6) ((eX_0 G o) _) (by decide) rfl rfl rfl (Nat.le_of_ble_eq_true rfl) ⟨⟨Nat.le_of_ble_eq_true rfl, Nat.le_of_ble_eq_true rfl⟩, rfl, rfl⟩ hl.1 ⟨Nat.zero_le _, Nat.zero_le _⟩ dX10_soonest_26 (fun H locs hS => ?_)
        refine lv_aload_n hx hb dX10_soonest_29 rfl (lv_at hl 0 rfl) ?_
        refine g_get (cx := 0) K hS lF_X10_42 ((eX_0 G o) _) (by decide) rfl dX10_soonest_30 ?_
        refine g_get (cx := 297) K hS lF_X10_149 ((eX_297 G o) _) (by decide) rfl dX10_soonest_33 ?_
        refine lv_if_ne (tgt := 42) hx hb dX10_soonest_36 (by decide) (fun c7 => ?_) (fun c7 => ?_)
        · have hf := gIf_f c7 hf
          refine lv_iload_n hx hb dX10_soonest_42 rfl (lv_at hl 3 rfl) ?_
          refine lv_if_ne (tgt := 54) hx hb dX10_soonest_43 (by decide) (fun c8 => ?_) (fun c8 => ?_)
          · have hf := gIf_f c8 hf
            refine lv_iload_n hx hb dX10_soonest_54 rfl (lv_at hl 3 rfl) ?_
            refine lv_iconst (v := 1) hx hb dX10_soonest_55 (by decide) ?_
            refine lv_icmp_ne (tgt := 67) hx hb dX10_soonest_56 (by decide) (fun c9 => ?_) (fun c9 => ?_)
            · have hf := gIf_f c9 hf
              refine lv_iload_n hx hb dX10_soonest_67 rfl (lv_at hl 3 rfl) ?_
              refine lv_iconst (v := 2) hx hb dX10_soonest_68 (by decide) ?_
              refine lv_isub hx hb dX10_soonest_69 ?_
              refine lv_aload_n hx hb dX10_soonest_70 rfl (lv_at hl 0 rfl) ?_
              refine g_get (cx := 0) K hS lF_X10_42 ((eX_0 G o) _) (by decide) rfl dX10_soonest_71 ?_
              refine g_get (cx := 297) K hS lF_X10_153 ((eX_297 G o) _) (by decide) rfl dX10_soonest_74 ?_
              refine lv_icmp_ge (tgt := 96) hx hb dX10_soonest_77 (by decide) (fun c10 => ?_) (fun c10 => ?_)
              · have hf := gIf_t c10 hf
                refine lv_bipush (v := (-6)) hx hb dX10_soonest_96 (by decide) ?_
                exact g_iret K hS hf dX10_soonest_98
              · have hf := gIf_f c10 hf
                refine lv_aload_n hx hb dX10_soonest_80 rfl (lv_at hl 0 rfl) ?_
                refine g_get (cx := 0) K hS lF_X10_42 ((eX_0 G o) _) (by decide) rfl dX10_soonest_81 ?_
                refine g_get (cx := 297) K hS lF_X10_154 ((eX_297 G o) _) (by decide) rfl dX10_soonest_84 ?_
                refine lv_iload_n hx hb dX10_soonest_87 rfl (lv_at hl 3 rfl) ?_
                refine lv_iconst (v := 2) hx hb dX10_soonest_88 (by decide) ?_
                refine lv_isub hx hb dX10_soonest_89 ?_
                obtain ⟨q11, hq11, hf⟩ := Option.bind_eq_some_iff.mp hf
                refine g_Vi (cx := 300) (As := [.int (p2 - 2)]) K hS lV_X10_58 (c_X5_at 300 10 (gRow_300 G o) (p2 - 2) q6 q11 hq11) ((eX_300 G o) _) (by decide) rfl rfl rfl (Nat.le_of_ble_eq_true rfl) ⟨⟨Nat.le_of_ble_eq_true rfl, Nat.le_of_ble_eq_true rfl⟩, rfl, rfl⟩ hl.1 ⟨Nat.zero_le _, Nat.zero_le _⟩ dX10_soonest_90 (fun H locs hS => ?_)
                refine lv_goto (tgt := 98) hx hb dX10_soonest_93 (by decide) ?_
                exact g_iret K hS hf dX10_soonest_98
            · have hf := gIf_t c9 hf
              refine lv_aload_n hx hb dX10_soonest_59 rfl (lv_at hl 0 rfl) ?_
              refine g_get (cx := 0) K hS lF_X10_42 ((eX_0 G o) _) (by decide) rfl dX10_soonest_60 ?_
              refine g_get (cx := 297) K hS lF_X10_153 ((eX_297 G o) _) (by decide) rfl dX10_soonest_63 ?_
              exact g_iret K hS hf dX10_soonest_66
          · have hf := gIf_t c8 hf
            refine lv_aload_n hx hb dX10_soonest_46 rfl (lv_at hl 0 rfl) ?_
            refine g_get (cx := 0) K hS lF_X10_42 ((eX_0 G o) _) (by decide) rfl dX10_soonest_47 ?_
            refine g_get (cx := 297) K hS lF_X10_231 ((eX_297 G o) _) (by decide) rfl dX10_soonest_50 ?_
            exact g_iret K hS hf dX10_soonest_53
        · have hf := gIf_t c7 hf
          refine lv_bipush (v := (-6)) hx hb dX10_soonest_39 (by decide) ?_
          exact g_iret K hS hf dX10_soonest_41
      · have hf := gIf_f c5 hf
        refine lv_bipush (v := (-2)) hx hb dX10_soonest_20 (by decide) ?_
        exact g_iret K hS hf dX10_soonest_22
    · have hf := gIf_t c4 hf
      refine lv_iconst (v := (-1)) hx hb dX10_soonest_14 (by decide) ?_
      exact g_iret K hS hf dX10_soonest_15
abbrev rmX10_quietest : Room := { frames := 3, cells := 0, slots := 0, locals := 70 }
def f_X10_quietest_L44 (w2 : Int32) (w3 : Int32) (w4 : Int32) : Nat → Int32 → gS → Option (Int32 × gS)
  | 0, _, _ => none
  | n + 1, v5, σ => if 9 < v5 then (some ((-6), σ)) else (Option.bind (f_X1_atMostAsLoud v5 σ) (fun q8 => Option.bind (f_X1_roomsFrom w3 (w4 &&& q8.1) q8.2) (fun q9 => Option.bind (f_X10_holds q9.1 w2 q9.2) (fun q10 => if q10.1 = 0 then (f_X10_quietest_L44 w2 w3 w4 n (v5 + 1) q10.2) else (some (v5, q10.2))))))
theorem f_X10_quietest_L44_s (w2 : Int32) (w3 : Int32) (w4 : Int32) (n : Nat) (v5 : Int32) (σ : gS) : f_X10_quietest_L44 w2 w3 w4 (n + 1) v5 σ = (if 9 < v5 then (some ((-6), σ)) else (Option.bind (f_X1_atMostAsLoud v5 σ) (fun q8 => Option.bind (f_X1_roomsFrom w3 (w4 &&& q8.1) q8.2) (fun q9 => Option.bind (f_X10_holds q9.1 w2 q9.2) (fun q10 => if q10.1 = 0 then (f_X10_quietest_L44 w2 w3 w4 n (v5 + 1) q10.2) else (some (v5, q10.2))))))) := rfl
def f_X10_quietest (p0 : Int32) (p1 : Int32) (σ : gS) : Option (Int32 × gS) := Option.bind (f_X10_isGhost p0 σ) (fun q1 => if q1.1 = 0 then (some ((-1), q1.2)) else (Option.bind (f_X10_isRoom p1 q1.2) (fun q3 => if q3.1 = 0 then (some ((-1), q3.2)) else (Option.bind (f_X5_at 18 4 p0 q3.2) (fun q5 => Option.bind (f_X0_freeTo p0 q5.2) (fun q6 => f_X10_quietest_L44 p1 q5.1 q6.1 gFu 0 q6.2))))))
set_option maxHeartbeats 4000000 in
set_option maxRecDepth 100000 in
theorem w_X10_quietest_L44 (w2 : Int32) (w3 : Int32) (w4 : Int32) {q : Int32 × gS} (K : gK p s m args meth c G cX10_quietest 6 RX10 (some .int)) : ∀ (n : Nat) (v5 : Int32) (σ : gS), f_X10_quietest_L44 w2 w3 w4 n v5 σ = some q → ∀ (H : Heap) (locs : List Loc) (ls : Array Slot), gSt G (entX G o) o 302 s σ H locs → lv_has ls 6 [(0, .ref (o + 0)), (2, .int w2), (3, .int w3), (4, .int w4), (5, .int v5)] → W p l e rmX10_quietest s m args below meth c H locs 0 0 (MQ below (gQi G (entX G o) o 302 q) args s 0 0 (gA o 302)) (F0 m 44 ls []) := by
  obtain ⟨hx, hb, hml, hown, hts, -⟩ := id K
  intro n
  induction n with
  | zero =>
    intro v5 σ hf
    exact absurd (show (none : Option _) = some q from hf) (by simp)
  | succ n ih =>
    intro v5 σ hf H locs ls hS hl
    rw [f_X10_quietest_L44_s] at hf
    refine lv_iload hx hb dX10_quietest_44 (lv_at hl 4 rfl) ?_
    refine lv_bipush (v := 9) hx hb dX10_quietest_46 (by decide) ?_
    refine lv_icmp_gt (tgt := 93) hx hb dX10_quietest_48 (by decide) (fun c7 => ?_) (fun c7 => ?_)
    · have hf := gIf_t c7 hf
      refine lv_bipush (v := (-6)) hx hb dX10_quietest_93 (by decide) ?_
      exact g_iret K hS hf dX10_quietest_95
    · have hf := gIf_f c7 hf
      refine lv_aload_n hx hb dX10_quietest_51 rfl (lv_at hl 0 rfl) ?_
      refine g_get (cx := 0) K hS lF_X10_10 ((eX_0 G o) _) (by decide) rfl dX10_quietest_52 ?_
      refine g_get (cx := 1) K hS lF_X10_76 ((eX_1 G o) _) (by decide) rfl dX10_quietest_55 ?_
      refine lv_iload_n hx hb dX10_quietest_58 rfl (lv_at hl 2 rfl) ?_
      refine lv_iload hx hb dX10_quietest_59 (lv_at hl 3 rfl) ?_
      refine lv_aload_n hx hb dX10_quietest_61 rfl (lv_at hl 0 rfl) ?_
      refine g_get (cx := 0) K hS lF_X10_10 ((eX_0 G o) _) (by decide) rfl dX10_quietest_62 ?_
      refine g_get (cx := 1) K hS lF_X10_76 ((eX_1 G o) _) (by decide) rfl dX10_quietest_65 ?_
      refine lv_iload hx hb dX10_quietest_68 (lv_at hl 4 rfl) ?_
      obtain ⟨q8, hq8, hf⟩ := Option.bind_eq_some_iff.mp hf
      refine g_Vi (cx := 4) (As := [.int v5]) K hS lV_X10_232 (c_X1_atMostAsLoud v5 σ q8 hq8) ((eX_4 G o) _) (by decide) rfl rfl rfl (Nat.le_of_ble_eq_true rfl) ⟨⟨Nat.le_of_ble_eq_true rfl, Nat.le_of_ble_eq_true rfl⟩, rfl, rfl⟩ hl.1 ⟨Nat.zero_le _, Nat.zero_le _⟩ dX10_quietest_70 (fun H locs hS => ?_)
      refine lv_iand hx hb dX10_quietest_73 ?_
      obtain ⟨q9, hq9, hf⟩ := Option.bind_eq_some_iff.mp hf
      refine g_Vi (cx := 4) (As := [.int w3, .int (w4 &&& q8.1)]) K hS lV_X10_190 (c_X1_roomsFrom w3 (w4 &&& q8.1) q8.2 q9 hq9) ((eX_4 G o) _) (by decide) rfl rfl rfl (Nat.le_of_ble_eq_true rfl) ⟨⟨Nat.le_of_ble_eq_true rfl, Nat.le_of_ble_eq_true rfl⟩, rfl, rfl⟩ hl.1 ⟨Nat.zero_le _, Nat.zero_le _⟩ dX10_quietest_74 (fun H locs hS => ?_)
      refine lv_iload_n hx hb dX10_quietest_77 rfl (lv_at hl 1 rfl) ?_
      obtain ⟨q10, hq10, hf⟩ := Option.bind_eq_some_iff.mp hf
      refine g_Si (As := [.int q9.1, .int w2]) K hS lS_X10_139 (c_X10_holds q9.1 w2 q9.2 q10 hq10) rfl rfl (Nat.le_of_ble_eq_true rfl) ⟨⟨Nat.le_of_ble_eq_true rfl, Nat.le_of_ble_eq_true rfl⟩, rfl, rfl⟩ hl.1 ⟨Nat.zero_le _, Nat.zero_le _⟩ dX10_quietest_78 (fun H locs hS => ?_)
      refine lv_if_eq (tgt := 87) hx hb dX10_quietest_81 (by decide) (fun c11 => ?_) (fun c11 => ?_)
      · have hf := gIf_t c11 hf
        refine lv_iinc (v := (v5 + 1)) (lv' := [(5, .int (v5 + 1)), (0, .ref (o + 0)), (2, .int w2), (3, .int w3), (4, .int w4)]) hx hb dX10_quietest_87 hl (k := 4) rfl rfl (by decide) rfl (fun ls hl => ?_)
        refine lv_goto (tgt := 44) hx hb dX10_quietest_90 (by decide) ?_
        exact ih (v5 + 1) q10.2 hf _ _ _ hS (lv_sub hl [1, 2, 3, 4, 0] rfl)
      · have hf := gIf_f c11 hf
        refine lv_iload hx hb dX10_quietest_84 (lv_at hl 4 rfl) ?_
        exact g_iret K hS hf dX10_quietest_86
set_option maxHeartbeats 4000000 in
set_option maxRecDepth 100000 in
theorem c_X10_quietest (p0 : Int32) (p1 : Int32) (σ : gS) (q : Int32 × gS) (hf : f_X10_quietest p0 p1 σ = some q) : Met l yX10_quietest (gW yX10_quietest cX10_quietest 6 (some .int)) rmX10_quietest (gPc G (entX G o) o 302 [.ref (o + 0), .int p0, .int p1] σ) (gQi G (entX G o) o 302 q) 0 0 (gA o 302) := by
  refine g_met (by decide) ⟨rfl, rfl⟩ (fun p e s m args below meth c ls K hS hl => ?_) (Nat.le_of_ble_eq_true rfl)
  have K : gK p s m args meth c G cX10_quietest 6 RX10 (some .int) := K
  have hl : lv_has ls 6 [(0, .ref (o + 0)), (1, .int p0), (2, .int p1)] := hl
  obtain ⟨hx, hb, hml, hown, hts, -⟩ := id K
  unfold f_X10_quietest at hf
  refine lv_iload_n hx hb dX10_quietest_0 rfl (lv_at hl 1 rfl) ?_
  obtain ⟨q1, hq1, hf⟩ := Option.bind_eq_some_iff.mp hf
  refine g_Si (As := [.int p0]) K hS lS_X10_130 (c_X10_isGhost p0 σ q1 hq1) rfl rfl (Nat.le_of_ble_eq_true rfl) ⟨⟨Nat.le_of_ble_eq_true rfl, Nat.le_of_ble_eq_true rfl⟩, rfl, rfl⟩ hl.1 ⟨Nat.zero_le _, Nat.zero_le _⟩ dX10_quietest_1 (fun H locs hS => ?_)
  refine lv_if_eq (tgt := 14) hx hb dX10_quietest_4 (by decide) (fun c2 => ?_) (fun c2 => ?_)
  · have hf := gIf_t c2 hf
    refine lv_iconst (v := (-1)) hx hb dX10_quietest_14 (by decide) ?_
    exact g_iret K hS hf dX10_quietest_15
  · have hf := gIf_f c2 hf
    refine lv_iload_n hx hb dX10_quietest_7 rfl (lv_at hl 2 rfl) ?_
    obtain ⟨q3, hq3, hf⟩ := Option.bind_eq_some_iff.mp hf
    refine g_Si (As := [.int p1]) K hS lS_X10_68 (c_X10_isRoom p1 q1.2 q3 hq3) rfl rfl (Nat.le_of_ble_eq_true rfl) ⟨⟨Nat.le_of_ble_eq_true rfl, Nat.le_of_ble_eq_true rfl⟩, rfl, rfl⟩ hl.1 ⟨Nat.zero_le _, Nat.zero_le _⟩ dX10_quietest_8 (fun H locs hS => ?_)
    refine lv_if_ne (tgt := 16) hx hb dX10_quietest_11 (by decide) (fun c4 => ?_) (fun c4 => ?_)
    · have hf := gIf_f c4 hf
      refine lv_aload_n hx hb dX10_quietest_16 rfl (lv_at hl 0 rfl) ?_
      refine g_get (cx := 0) K hS lF_X10_10 ((eX_0 G o) _) (by decide) rfl dX10_quietest_17 ?_
      refine g_get (cx := 1) K hS lF_X10_110 ((eX_1 G o) _) (by decide) rfl dX10_quietest_20 ?_
      refine g_get (cx := 17) K hS lF_X10_133 ((eX_17 G o) _) (by decide) rfl dX10_quietest_23 ?_
      refine lv_iload_n hx hb dX10_quietest_26 rfl (lv_at hl 1 rfl) ?_
      obtain ⟨q5, hq5, hf⟩ := Option.bind_eq_some_iff.mp hf
      refine g_Vi (cx := 18) (As := [.int p0]) K hS lV_X10_58 (c_X5_at 18 4 (gRow_18 G o) p0 q3.2 q5 hq5) ((eX_18 G o) _) (by decide) rfl rfl rfl (Nat.le_of_ble_eq_true rfl) ⟨⟨Nat.le_of_ble_eq_true rfl, Nat.le_of_ble_eq_true rfl⟩, rfl, rfl⟩ hl.1 ⟨Nat.zero_le _, Nat.zero_le _⟩ dX10_quietest_27 (fun H locs hS => ?_)
      refine lv_istore_n (lv' := [(3, .int q5.1), (0, .ref (o + 0)), (1, .int p0), (2, .int p1)]) hx hb dX10_quietest_30 rfl hl (by decide) rfl (fun ls hl => ?_)
      refine lv_aload_n hx hb dX10_quietest_31 rfl (lv_at hl 1 rfl) ?_
      refine g_get (cx := 0) K hS lF_X10_10 ((eX_0 G o) _) (by decide) rfl dX10_quietest_32 ?_
      refine lv_iload_n hx hb dX10_quietest_35 rfl (lv_at hl 2 rfl) ?_
      obtain ⟨q6, hq6, hf⟩ := Option.bind_eq_some_iff.mp hf
      refine g_Vi (cx := 1) (As := [.int p0]) K hS lV_X10_187 (c_X0_freeTo p0 q5.2 q6 hq6) ((eX_1 G o) _) (by decide) rfl rfl rfl (Nat.le_of_ble_eq_true rfl) ⟨⟨Nat.le_of_ble_eq_true rfl, Nat.le_of_ble_eq_true rfl⟩, rfl, rfl⟩ hl.1 ⟨Nat.zero_le _, Nat.zero_le _⟩ dX10_quietest_36 (fun H locs hS => ?_)
      refine lv_istore (lv' := [(4, .int q6.1), (3, .int q5.1), (0, .ref (o + 0)), (1, .int p0), (2, .int p1)]) hx hb dX10_quietest_39 hl (by decide) rfl (fun ls hl => ?_)
      refine lv_iconst (v := 0) hx hb dX10_quietest_41 (by decide) ?_
      refine lv_istore (lv' := [(5, .int 0), (4, .int q6.1), (3, .int q5.1), (0, .ref (o + 0)), (1, .int p0), (2, .int p1)]) hx hb dX10_quietest_42 hl (by decide) rfl (fun ls hl => ?_)
      refine w_X10_quietest_L44 p1 q5.1 q6.1 K gFu 0 q6.2 hf _ _ _ hS (lv_sub hl [3, 5, 2, 1, 0] rfl)
    · have hf := gIf_t c4 hf
      refine lv_iconst (v := (-1)) hx hb dX10_quietest_14 (by decide) ?_
      exact g_iret K hS hf dX10_quietest_15
abbrev rmX10_reason : Room := { frames := 4, cells := 0, slots := 0, locals := 95 }
def f_X10_reason (p0 : Int32) (σ : gS) : Option (Int32 × gS) := Option.bind (f_X10_isGhost p0 σ) (fun q1 => if q1.1 = 0 then (some ((-1), q1.2)) else (Option.bind (f_X0_leftTo p0 q1.2) (fun q3 => Option.bind (f_X5_at 18 4 p0 q3.2) (fun q4 => Option.bind (f_X8_whyNot q3.1 q4.1 q4.2) (fun q5 => some (q5.1, q5.2))))))
set_option maxHeartbeats 4000000 in
set_option maxRecDepth 100000 in
theorem c_X10_reason (p0 : Int32) (σ : gS) (q : Int32 × gS) (hf : f_X10_reason p0 σ = some q) : Met l yX10_reason (gW yX10_reason cX10_reason 2 (some .int)) rmX10_reason (gPc G (entX G o) o 302 [.ref (o + 0), .int p0] σ) (gQi G (entX G o) o 302 q) 0 0 (gA o 302) := by
  refine g_met (by decide) ⟨rfl, rfl⟩ (fun p e s m args below meth c ls K hS hl => ?_) (Nat.le_of_ble_eq_true rfl)
  have K : gK p s m args meth c G cX10_reason 2 RX10 (some .int) := K
  have hl : lv_has ls 2 [(0, .ref (o + 0)), (1, .int p0)] := hl
  obtain ⟨hx, hb, hml, hown, hts, -⟩ := id K
  unfold f_X10_reason at hf
  refine lv_iload_n hx hb dX10_reason_0 rfl (lv_at hl 1 rfl) ?_
  obtain ⟨q1, hq1, hf⟩ := Option.bind_eq_some_iff.mp hf
  refine g_Si (As := [.int p0]) K hS lS_X10_130 (c_X10_isGhost p0 σ q1 hq1) rfl rfl (Nat.le_of_ble_eq_true rfl) ⟨⟨Nat.le_of_ble_eq_true rfl, Nat.le_of_ble_eq_true rfl⟩, rfl, rfl⟩ hl.1 ⟨Nat.zero_le _, Nat.zero_le _⟩ dX10_reason_1 (fun H locs hS => ?_)
  refine lv_if_ne (tgt := 9) hx hb dX10_reason_4 (by decide) (fun c2 => ?_) (fun c2 => ?_)
  · have hf := gIf_f c2 hf
    refine lv_aload_n hx hb dX10_reason_9 rfl (lv_at hl 0 rfl) ?_
    refine g_get (cx := 0) K hS lF_X10_10 ((eX_0 G o) _) (by decide) rfl dX10_reason_10 ?_
    refine g_get (cx := 1) K hS lF_X10_76 ((eX_1 G o) _) (by decide) rfl dX10_reason_13 ?_
    refine lv_aload_n hx hb dX10_reason_16 rfl (lv_at hl 0 rfl) ?_
    refine g_get (cx := 0) K hS lF_X10_10 ((eX_0 G o) _) (by decide) rfl dX10_reason_17 ?_
    refine lv_iload_n hx hb dX10_reason_20 rfl (lv_at hl 1 rfl) ?_
    obtain ⟨q3, hq3, hf⟩ := Option.bind_eq_some_iff.mp hf
    refine g_Vi (cx := 1) (As := [.int p0]) K hS lV_X10_235 (c_X0_leftTo p0 q1.2 q3 hq3) ((eX_1 G o) _) (by decide) rfl rfl rfl (Nat.le_of_ble_eq_true rfl) ⟨⟨Nat.le_of_ble_eq_true rfl, Nat.le_of_ble_eq_true rfl⟩, rfl, rfl⟩ hl.1 ⟨Nat.zero_le _, Nat.zero_le _⟩ dX10_reason_21 (fun H locs hS => ?_)
    refine lv_aload_n hx hb dX10_reason_24 rfl (lv_at hl 0 rfl) ?_
    refine g_get (cx := 0) K hS lF_X10_10 ((eX_0 G o) _) (by decide) rfl dX10_reason_25 ?_
    refine g_get (cx := 1) K hS lF_X10_110 ((eX_1 G o) _) (by decide) rfl dX10_reason_28 ?_
    refine g_get (cx := 17) K hS lF_X10_133 ((eX_17 G o) _) (by decide) rfl dX10_reason_31 ?_
    refine lv_iload_n hx hb dX10_reason_34 rfl (lv_at hl 1 rfl) ?_
    obtain ⟨q4, hq4, hf⟩ := Option.bind_eq_some_iff.mp hf
    refine g_Vi (cx := 18) (As := [.int p0]) K hS lV_X10_58 (c_X5_at 18 4 (gRow_18 G o) p0 q3.2 q4 hq4) ((eX_18 G o) _) (by decide) rfl rfl rfl (Nat.le_of_ble_eq_true rfl) ⟨⟨Nat.le_of_ble_eq_true rfl, Nat.le_of_ble_eq_true rfl⟩, rfl, rfl⟩ hl.1 ⟨Nat.zero_le _, Nat.zero_le _⟩ dX10_reason_35 (fun H locs hS => ?_)
    obtain ⟨q5, hq5, hf⟩ := Option.bind_eq_some_iff.mp hf
    refine g_Si (As := [.ref (o + 4), .int q3.1, .int q4.1]) K hS lS_X10_238 (c_X8_whyNot q3.1 q4.1 q4.2 q5 hq5) rfl rfl (Nat.le_of_ble_eq_true rfl) ⟨⟨Nat.le_of_ble_eq_true rfl, Nat.le_of_ble_eq_true rfl⟩, rfl, rfl⟩ hl.1 ⟨Nat.zero_le _, Nat.zero_le _⟩ dX10_reason_38 (fun H locs hS => ?_)
    exact g_iret K hS hf dX10_reason_41
  · have hf := gIf_t c2 hf
    refine lv_iconst (v := (-1)) hx hb dX10_reason_7 (by decide) ?_
    exact g_iret K hS hf dX10_reason_8
abbrev rmX10_trail : Room := { frames := 6, cells := 0, slots := 0, locals := 147 }
def f_X10_trail (p0 : Int32) (p1 : Int32) (σ : gS) : Option (Int32 × gS) := Option.bind (f_X10_isGhost p0 σ) (fun q1 => if q1.1 = 0 then (some ((-1), q1.2)) else (if 0 ≤ p1 then (Option.bind (f_X0_leftTo p0 q1.2) (fun q4 => Option.bind (f_X5_at 18 4 p0 q4.2) (fun q5 => Option.bind (f_X8_whyNot q4.1 q5.1 q5.2) (fun q6 => if q6.1 = 0 then (Option.bind (f_X8_boardAt q4.1 q5.1 p1 q6.2) (fun q8 => some (q8.1, q8.2))) else (some ((-5), q6.2)))))) else (some ((-1), q1.2))))
set_option maxHeartbeats 4000000 in
set_option maxRecDepth 100000 in
theorem c_X10_trail (p0 : Int32) (p1 : Int32) (σ : gS) (q : Int32 × gS) (hf : f_X10_trail p0 p1 σ = some q) : Met l yX10_trail (gW yX10_trail cX10_trail 5 (some .int)) rmX10_trail (gPc G (entX G o) o 302 [.ref (o + 0), .int p0, .int p1] σ) (gQi G (entX G o) o 302 q) 0 0 (gA o 302) := by
  refine g_met (by decide) ⟨rfl, rfl⟩ (fun p e s m args below meth c ls K hS hl => ?_) (Nat.le_of_ble_eq_true rfl)
  have K : gK p s m args meth c G cX10_trail 5 RX10 (some .int) := K
  have hl : lv_has ls 5 [(0, .ref (o + 0)), (1, .int p0), (2, .int p1)] := hl
  obtain ⟨hx, hb, hml, hown, hts, -⟩ := id K
  unfold f_X10_trail at hf
  refine lv_iload_n hx hb dX10_trail_0 rfl (lv_at hl 1 rfl) ?_
  obtain ⟨q1, hq1, hf⟩ := Option.bind_eq_some_iff.mp hf
  refine g_Si (As := [.int p0]) K hS lS_X10_130 (c_X10_isGhost p0 σ q1 hq1) rfl rfl (Nat.le_of_ble_eq_true rfl) ⟨⟨Nat.le_of_ble_eq_true rfl, Nat.le_of_ble_eq_true rfl⟩, rfl, rfl⟩ hl.1 ⟨Nat.zero_le _, Nat.zero_le _⟩ dX10_trail_1 (fun H locs hS => ?_)
  refine lv_if_eq (tgt := 11) hx hb dX10_trail_4 (by decide) (fun c2 => ?_) (fun c2 => ?_)
  · have hf := gIf_t c2 hf
    refine lv_iconst (v := (-1)) hx hb dX10_trail_11 (by decide) ?_
    exact g_iret K hS hf dX10_trail_12
  · have hf := gIf_f c2 hf
    refine lv_iload_n hx hb dX10_trail_7 rfl (lv_at hl 2 rfl) ?_
    refine lv_if_ge (tgt := 13) hx hb dX10_trail_8 (by decide) (fun c3 => ?_) (fun c3 => ?_)
    · have hf := gIf_t c3 hf
      refine lv_aload_n hx hb dX10_trail_13 rfl (lv_at hl 0 rfl) ?_
      refine g_get (cx := 0) K hS lF_X10_10 ((eX_0 G o) _) (by decide) rfl dX10_trail_14 ?_
      refine lv_iload_n hx hb dX10_trail_17 rfl (lv_at hl 1 rfl) ?_
      obtain ⟨q4, hq4, hf⟩ := Option.bind_eq_some_iff.mp hf
      refine g_Vi (cx := 1) (As := [.int p0]) K hS lV_X10_235 (c_X0_leftTo p0 q1.2 q4 hq4) ((eX_1 G o) _) (by decide) rfl rfl rfl (Nat.le_of_ble_eq_true rfl) ⟨⟨Nat.le_of_ble_eq_true rfl, Nat.le_of_ble_eq_true rfl⟩, rfl, rfl⟩ hl.1 ⟨Nat.zero_le _, Nat.zero_le _⟩ dX10_trail_18 (fun H locs hS => ?_)
      refine lv_istore_n (lv' := [(3, .int q4.1), (0, .ref (o + 0)), (1, .int p0), (2, .int p1)]) hx hb dX10_trail_21 rfl hl (by decide) rfl (fun ls hl => ?_)
      refine lv_aload_n hx hb dX10_trail_22 rfl (lv_at hl 1 rfl) ?_
      refine g_get (cx := 0) K hS lF_X10_10 ((eX_0 G o) _) (by decide) rfl dX10_trail_23 ?_
      refine g_get (cx := 1) K hS lF_X10_110 ((eX_1 G o) _) (by decide) rfl dX10_trail_26 ?_
      refine g_get (cx := 17) K hS lF_X10_133 ((eX_17 G o) _) (by decide) rfl dX10_trail_29 ?_
      refine lv_iload_n hx hb dX10_trail_32 rfl (lv_at hl 2 rfl) ?_
      obtain ⟨q5, hq5, hf⟩ := Option.bind_eq_some_iff.mp hf
      refine g_Vi (cx := 18) (As := [.int p0]) K hS lV_X10_58 (c_X5_at 18 4 (gRow_18 G o) p0 q4.2 q5 hq5) ((eX_18 G o) _) (by decide) rfl rfl rfl (Nat.le_of_ble_eq_true rfl) ⟨⟨Nat.le_of_ble_eq_true rfl, Nat.le_of_ble_eq_true rfl⟩, rfl, rfl⟩ hl.1 ⟨Nat.zero_le _, Nat.zero_le _⟩ dX10_trail_33 (fun H locs hS => ?_)
      refine lv_istore (lv' := [(4, .int q5.1), (3, .int q4.1), (0, .ref (o + 0)), (1, .int p0), (2, .int p1)]) hx hb dX10_trail_36 hl (by decide) rfl (fun ls hl => ?_)
      refine lv_aload_n hx hb dX10_trail_38 rfl (lv_at hl 2 rfl) ?_
      refine g_get (cx := 0) K hS lF_X10_10 ((eX_0 G o) _) (by decide) rfl dX10_trail_39 ?_
      refine g_get (cx := 1) K hS lF_X10_76 ((eX_1 G o) _) (by decide) rfl dX10_trail_42 ?_
      refine lv_iload_n hx hb dX10_trail_45 rfl (lv_at hl 1 rfl) ?_
      refine lv_iload hx hb dX10_trail_46 (lv_at hl 0 rfl) ?_
      obtain ⟨q6, hq6, hf⟩ := Option.bind_eq_some_iff.mp hf
      refine g_Si (As := [.ref (o + 4), .int q4.1, .int q5.1]) K hS lS_X10_238 (c_X8_whyNot q4.1 q5.1 q5.2 q6 hq6) rfl rfl (Nat.le_of_ble_eq_true rfl) ⟨⟨Nat.le_of_ble_eq_true rfl, Nat.le_of_ble_eq_true rfl⟩, rfl, rfl⟩ hl.1 ⟨Nat.zero_le _, Nat.zero_le _⟩ dX10_trail_48 (fun H locs hS => ?_)
      refine lv_if_eq (tgt := 57) hx hb dX10_trail_51 (by decide) (fun c7 => ?_) (fun c7 => ?_)
      · have hf := gIf_t c7 hf
        refine lv_aload_n hx hb dX10_trail_57 rfl (lv_at hl 2 rfl) ?_
        refine g_get (cx := 0) K hS lF_X10_10 ((eX_0 G o) _) (by decide) rfl dX10_trail_58 ?_
        refine g_get (cx := 1) K hS lF_X10_76 ((eX_1 G o) _) (by decide) rfl dX10_trail_61 ?_
        refine lv_iload_n hx hb dX10_trail_64 rfl (lv_at hl 1 rfl) ?_
        refine lv_iload hx hb dX10_trail_65 (lv_at hl 0 rfl) ?_
        refine lv_iload_n hx hb dX10_trail_67 rfl (lv_at hl 4 rfl) ?_
        obtain ⟨q8, hq8, hf⟩ := Option.bind_eq_some_iff.mp hf
        refine g_Si (As := [.ref (o + 4), .int q4.1, .int q5.1, .int p1]) K hS lS_X10_244 (c_X8_boardAt q4.1 q5.1 p1 q6.2 q8 hq8) rfl rfl (Nat.le_of_ble_eq_true rfl) ⟨⟨Nat.le_of_ble_eq_true rfl, Nat.le_of_ble_eq_true rfl⟩, rfl, rfl⟩ hl.1 ⟨Nat.zero_le _, Nat.zero_le _⟩ dX10_trail_68 (fun H locs hS => ?_)
        exact g_iret K hS hf dX10_trail_71
      · have hf := gIf_f c7 hf
        refine lv_bipush (v := (-5)) hx hb dX10_trail_54 (by decide) ?_
        exact g_iret K hS hf dX10_trail_56
    · have hf := gIf_f c3 hf
      refine lv_iconst (v := (-1)) hx hb dX10_trail_11 (by decide) ?_
      exact g_iret K hS hf dX10_trail_12
abbrev rmX10_worstGap : Room := { frames := 4, cells := 0, slots := 0, locals := 94 }
def f_X10_worstGap_L20 (w1 : Int32) (K67 : Int32 → Int32 → gS → Option (Int32 × gS)) : Nat → Int32 → Int32 → Int32 → gS → Option (Int32 × gS)
  | 0, _, _, _, _ => none
  | n + 1, v2, v3, v4, σ => if (σ 4 0) ≤ v4 then (K67 v2 v3 σ) else (Option.bind (f_X1_pairsApartWithout v4 σ) (fun q3 => if q3.1 ≤ v3 then (f_X10_worstGap_L20 w1 K67 n v2 v3 (v4 + 1) q3.2) else (f_X10_worstGap_L20 w1 K67 n v4 q3.1 (v4 + 1) q3.2)))
theorem f_X10_worstGap_L20_s (w1 : Int32) (K67 : Int32 → Int32 → gS → Option (Int32 × gS)) (n : Nat) (v2 : Int32) (v3 : Int32) (v4 : Int32) (σ : gS) : f_X10_worstGap_L20 w1 K67 (n + 1) v2 v3 v4 σ = (if (σ 4 0) ≤ v4 then (K67 v2 v3 σ) else (Option.bind (f_X1_pairsApartWithout v4 σ) (fun q3 => if q3.1 ≤ v3 then (f_X10_worstGap_L20 w1 K67 n v2 v3 (v4 + 1) q3.2) else (f_X10_worstGap_L20 w1 K67 n v4 q3.1 (v4 + 1) q3.2)))) := rfl
def f_X10_worstGap (p0 : Int32) (σ : gS) : Option (Int32 × gS) := if p0 = 0 then (f_X10_worstGap_L20 p0 (fun (k5 : Int32) (k6 : Int32) (s7 : gS) => if k6 = 0 then (some ((-6), s7)) else (if p0 = 0 then (some (k5, s7)) else (some (k6, s7)))) gFu (-6) 0 0 σ) else (if p0 = 1 then (f_X10_worstGap_L20 p0 (fun (k11 : Int32) (k12 : Int32) (s13 : gS) => if k12 = 0 then (some ((-6), s13)) else (if p0 = 0 then (some (k11, s13)) else (some (k12, s13)))) gFu (-6) 0 0 σ) else (some ((-2), σ)))
set_option maxHeartbeats 4000000 in
set_option maxRecDepth 100000 in
theorem w_X10_worstGap_L20 (w1 : Int32) (K67 : Int32 → Int32 → gS → Option (Int32 × gS)) {q : Int32 × gS} (K : gK p s m args meth c G cX10_worstGap 6 RX10 (some .int)) (hK67 : ∀ (k2 : Int32) (k3 : Int32) (σ : gS), K67 k2 k3 σ = some q → ∀ (H : Heap) (locs : List Loc) (ls : Array Slot), gSt G (entX G o) o 302 s σ H locs → lv_has ls 6 [(1, .int w1), (2, .int k2), (3, .int k3)] → W p l e rmX10_worstGap s m args below meth c H locs 0 0 (MQ below (gQi G (entX G o) o 302 q) args s 0 0 (gA o 302)) (F0 m 67 ls [])) : ∀ (n : Nat) (v2 : Int32) (v3 : Int32) (v4 : Int32) (σ : gS), f_X10_worstGap_L20 w1 K67 n v2 v3 v4 σ = some q → ∀ (H : Heap) (locs : List Loc) (ls : Array Slot), gSt G (entX G o) o 302 s σ H locs → lv_has ls 6 [(0, .ref (o + 0)), (1, .int w1), (2, .int v2), (3, .int v3), (4, .int v4)] → W p l e rmX10_worstGap s m args below meth c H locs 0 0 (MQ below (gQi G (entX G o) o 302 q) args s 0 0 (gA o 302)) (F0 m 20 ls []) := by
  obtain ⟨hx, hb, hml, hown, hts, -⟩ := id K
  intro n
  induction n with
  | zero =>
    intro v2 v3 v4 σ hf
    exact absurd (show (none : Option _) = some q from hf) (by simp)
  | succ n ih =>
    intro v2 v3 v4 σ hf H locs ls hS hl
    rw [f_X10_worstGap_L20_s] at hf
    refine lv_iload hx hb dX10_worstGap_20 (lv_at hl 4 rfl) ?_
    refine lv_aload_n hx hb dX10_worstGap_22 rfl (lv_at hl 0 rfl) ?_
    refine g_get (cx := 0) K hS lF_X10_10 ((eX_0 G o) _) (by decide) rfl dX10_worstGap_23 ?_
    refine g_get (cx := 1) K hS lF_X10_76 ((eX_1 G o) _) (by decide) rfl dX10_worstGap_26 ?_
    refine g_get (cx := 4) K hS lF_X10_80 ((eX_4 G o) _) (by decide) rfl dX10_worstGap_29 ?_
    refine lv_icmp_ge (tgt := 67) hx hb dX10_worstGap_32 (by decide) (fun c2 => ?_) (fun c2 => ?_)
    · have hf := gIf_t c2 hf
      exact hK67 v2 v3 σ hf _ _ _ hS (lv_sub hl [1, 2, 3] rfl)
    · have hf := gIf_f c2 hf
      refine lv_aload_n hx hb dX10_worstGap_35 rfl (lv_at hl 0 rfl) ?_
      refine g_get (cx := 0) K hS lF_X10_10 ((eX_0 G o) _) (by decide) rfl dX10_worstGap_36 ?_
      refine g_get (cx := 1) K hS lF_X10_76 ((eX_1 G o) _) (by decide) rfl dX10_worstGap_39 ?_
      refine lv_iload hx hb dX10_worstGap_42 (lv_at hl 4 rfl) ?_
      obtain ⟨q3, hq3, hf⟩ := Option.bind_eq_some_iff.mp hf
      refine g_Vi (cx := 4) (As := [.int v4]) K hS lV_X10_248 (c_X1_pairsApartWithout v4 σ q3 hq3) ((eX_4 G o) _) (by decide) rfl rfl rfl (Nat.le_of_ble_eq_true rfl) ⟨⟨Nat.le_of_ble_eq_true rfl, Nat.le_of_ble_eq_true rfl⟩, rfl, rfl⟩ hl.1 ⟨Nat.zero_le _, Nat.zero_le _⟩ dX10_worstGap_44 (fun H locs hS => ?_)
      refine lv_istore (lv' := [(5, .int q3.1), (0, .ref (o + 0)), (1, .int w1), (2, .int v2), (3, .int v3), (4, .int v4)]) hx hb dX10_worstGap_47 hl (by decide) rfl (fun ls hl => ?_)
      refine lv_iload hx hb dX10_worstGap_49 (lv_at hl 0 rfl) ?_
      refine lv_iload_n hx hb dX10_worstGap_51 rfl (lv_at hl 4 rfl) ?_
      refine lv_icmp_le (tgt := 61) hx hb dX10_worstGap_52 (by decide) (fun c4 => ?_) (fun c4 => ?_)
      · have hf := gIf_t c4 hf
        refine lv_iinc (v := (v4 + 1)) (lv' := [(4, .int (v4 + 1)), (5, .int q3.1), (0, .ref (o + 0)), (1, .int w1), (2, .int v2), (3, .int v3)]) hx hb dX10_worstGap_61 hl (k := 5) rfl rfl (by decide) rfl (fun ls hl => ?_)
        refine lv_goto (tgt := 20) hx hb dX10_worstGap_64 (by decide) ?_
        exact ih v2 v3 (v4 + 1) q3.2 hf _ _ _ hS (lv_sub hl [2, 3, 4, 5, 0] rfl)
      · have hf := gIf_f c4 hf
        refine lv_iload hx hb dX10_worstGap_55 (lv_at hl 0 rfl) ?_
        refine lv_istore_n (lv' := [(3, .int q3.1), (5, .int q3.1), (0, .ref (o + 0)), (1, .int w1), (2, .int v2), (4, .int v4)]) hx hb dX10_worstGap_57 rfl hl (by decide) rfl (fun ls hl => ?_)
        refine lv_iload hx hb dX10_worstGap_58 (lv_at hl 5 rfl) ?_
        refine lv_istore_n (lv' := [(2, .int v4), (3, .int q3.1), (5, .int q3.1), (0, .ref (o + 0)), (1, .int w1), (4, .int v4)]) hx hb dX10_worstGap_60 rfl hl (by decide) rfl (fun ls hl => ?_)
        refine lv_iinc (v := (v4 + 1)) (lv' := [(4, .int (v4 + 1)), (2, .int v4), (3, .int q3.1), (5, .int q3.1), (0, .ref (o + 0)), (1, .int w1)]) hx hb dX10_worstGap_61 hl (k := 5) rfl rfl (by decide) rfl (fun ls hl => ?_)
        refine lv_goto (tgt := 20) hx hb dX10_worstGap_64 (by decide) ?_
        exact ih v4 q3.1 (v4 + 1) q3.2 hf _ _ _ hS (lv_sub hl [4, 5, 1, 2, 0] rfl)
set_option maxHeartbeats 4000000 in
set_option maxRecDepth 100000 in
theorem c_X10_worstGap (p0 : Int32) (σ : gS) (q : Int32 × gS) (hf : f_X10_worstGap p0 σ = some q) : Met l yX10_worstGap (gW yX10_worstGap cX10_worstGap 6 (some .int)) rmX10_worstGap (gPc G (entX G o) o 302 [.ref (o + 0), .int p0] σ) (gQi G (entX G o) o 302 q) 0 0 (gA o 302) := by
  refine g_met (by decide) ⟨rfl, rfl⟩ (fun p e s m args below meth c ls K hS hl => ?_) (Nat.le_of_ble_eq_true rfl)
  have K : gK p s m args meth c G cX10_worstGap 6 RX10 (some .int) := K
  have hl : lv_has ls 6 [(0, .ref (o + 0)), (1, .int p0)] := hl
  obtain ⟨hx, hb, hml, hown, hts, -⟩ := id K
  unfold f_X10_worstGap at hf
  refine lv_iload_n hx hb dX10_worstGap_0 rfl (lv_at hl 1 rfl) ?_
  refine lv_if_eq (tgt := 12) hx hb dX10_worstGap_1 (by decide) (fun c1 => ?_) (fun c1 => ?_)
  · have hf := gIf_t c1 hf
    refine lv_bipush (v := (-6)) hx hb dX10_worstGap_12 (by decide) ?_
    refine lv_istore_n (lv' := [(2, .int (-6)), (0, .ref (o + 0)), (1, .int p0)]) hx hb dX10_worstGap_14 rfl hl (by decide) rfl (fun ls hl => ?_)
    refine lv_iconst (v := 0) hx hb dX10_worstGap_15 (by decide) ?_
    refine lv_istore_n (lv' := [(3, .int 0), (2, .int (-6)), (0, .ref (o + 0)), (1, .int p0)]) hx hb dX10_worstGap_16 rfl hl (by decide) rfl (fun ls hl => ?_)
    refine lv_iconst (v := 0) hx hb dX10_worstGap_17 (by decide) ?_
    refine lv_istore (lv' := [(4, .int 0), (3, .int 0), (2, .int (-6)), (0, .ref (o + 0)), (1, .int p0)]) hx hb dX10_worstGap_18 hl (by decide) rfl (fun ls hl => ?_)
    refine w_X10_worstGap_L20 p0 _ K ?_ gFu (-6) 0 0 σ hf _ _ _ hS (lv_sub hl [3, 4, 2, 1, 0] rfl)
    · intro k5 k6 s7 hf H locs ls hS hl
      refine lv_iload_n hx hb dX10_worstGap_67 rfl (lv_at hl 2 rfl) ?_
      refine lv_if_ne (tgt := 74) hx hb dX10_worstGap_68 (by decide) (fun c8 => ?_) (fun c8 => ?_)
      · have hf := gIf_f c8 hf
        refine lv_iload_n hx hb dX10_worstGap_74 rfl (lv_at hl 0 rfl) ?_
        refine lv_if_ne (tgt := 82) hx hb dX10_worstGap_75 (by decide) (fun c9 => ?_) (fun c9 => ?_)
        · have hf := gIf_f c9 hf
          refine lv_iload_n hx hb dX10_worstGap_82 rfl (lv_at hl 2 rfl) ?_
          exact g_iret K hS hf dX10_worstGap_83
        · have hf := gIf_t c9 hf
          refine lv_iload_n hx hb dX10_worstGap_78 rfl (lv_at hl 1 rfl) ?_
          refine lv_goto (tgt := 83) hx hb dX10_worstGap_79 (by decide) ?_
          exact g_iret K hS hf dX10_worstGap_83
      · have hf := gIf_t c8 hf
        refine lv_bipush (v := (-6)) hx hb dX10_worstGap_71 (by decide) ?_
        exact g_iret K hS hf dX10_worstGap_73
  · have hf := gIf_f c1 hf
    refine lv_iload_n hx hb dX10_worstGap_4 rfl (lv_at hl 1 rfl) ?_
    refine lv_iconst (v := 1) hx hb dX10_worstGap_5 (by decide) ?_
    refine lv_icmp_eq (tgt := 12) hx hb dX10_worstGap_6 (by decide) (fun c10 => ?_) (fun c10 => ?_)
    · have hf := gIf_t c10 hf
      refine lv_bipush (v := (-6)) hx hb dX10_worstGap_12 (by decide) ?_
      refine lv_istore_n (lv' := [(2, .int (-6)), (0, .ref (o + 0)), (1, .int p0)]) hx hb dX10_worstGap_14 rfl hl (by decide) rfl (fun ls hl => ?_)
      refine lv_iconst (v := 0) hx hb dX10_worstGap_15 (by decide) ?_
      refine lv_istore_n (lv' := [(3, .int 0), (2, .int (-6)), (0, .ref (o + 0)), (1, .int p0)]) hx hb dX10_worstGap_16 rfl hl (by decide) rfl (fun ls hl => ?_)
      refine lv_iconst (v := 0) hx hb dX10_worstGap_17 (by decide) ?_
      refine lv_istore (lv' := [(4, .int 0), (3, .int 0), (2, .int (-6)), (0, .ref (o + 0)), (1, .int p0)]) hx hb dX10_worstGap_18 hl (by decide) rfl (fun ls hl => ?_)
      refine w_X10_worstGap_L20 p0 _ K ?_ gFu (-6) 0 0 σ hf _ _ _ hS (lv_sub hl [3, 4, 2, 1, 0] rfl)
      · intro k11 k12 s13 hf H locs ls hS hl
        refine lv_iload_n hx hb dX10_worstGap_67 rfl (lv_at hl 2 rfl) ?_
        refine lv_if_ne (tgt := 74) hx hb dX10_worstGap_68 (by decide) (fun c14 => ?_) (fun c14 => ?_)
        · have hf := gIf_f c14 hf
          refine lv_iload_n hx hb dX10_worstGap_74 rfl (lv_at hl 0 rfl) ?_
          refine lv_if_ne (tgt := 82) hx hb dX10_worstGap_75 (by decide) (fun c15 => ?_) (fun c15 => ?_)
          · have hf := gIf_f c15 hf
            refine lv_iload_n hx hb dX10_worstGap_82 rfl (lv_at hl 2 rfl) ?_
            exact g_iret K hS hf dX10_worstGap_83
          · have hf := gIf_t c15 hf
            refine lv_iload_n hx hb dX10_worstGap_78 rfl (lv_at hl 1 rfl) ?_
            refine lv_goto (tgt := 83) hx hb dX10_worstGap_79 (by decide) ?_
            exact g_iret K hS hf dX10_worstGap_83
        · have hf := gIf_t c14 hf
          refine lv_bipush (v := (-6)) hx hb dX10_worstGap_71 (by decide) ?_
          exact g_iret K hS hf dX10_worstGap_73
    · have hf := gIf_f c10 hf
      refine lv_bipush (v := (-2)) hx hb dX10_worstGap_9 (by decide) ?_
      exact g_iret K hS hf dX10_worstGap_11
end
end
