def RX0 : String := "CreakingGhosts$Attic"
def TX0 : u_T := fun k => match k with
  | 0 => ("CreakingGhosts$Attic", "minutes", "I", false)
  | 1 => ("CreakingGhosts$Attic", "bells", "I", false)
  | 2 => ("CreakingGhosts$Attic", "settings", "LCreakingGhosts$Row;", true)
  | 3 => ("CreakingGhosts$Attic", "boards", "LCreakingGhosts$Boards;", true)
  | 4 => ("CreakingGhosts$Attic", "ghosts", "LCreakingGhosts$Ghosts;", true)
  | _ => ("CreakingGhosts$Attic", "sleepers", "LCreakingGhosts$Sleepers;", true)
def tyX0 : Nat → FieldType := fun k => match k with
  | 0 => .int
  | 1 => .int
  | 2 => .object "CreakingGhosts$Row"
  | 3 => .object "CreakingGhosts$Boards"
  | 4 => .object "CreakingGhosts$Ghosts"
  | _ => .object "CreakingGhosts$Sleepers"
abbrev wsX00 : List Cond := u_ws RX0 TX0 6
theorem nmX0 : ∀ a, a < 6 → ∀ b, b < 6 → a ≠ b → (TX0 a).2.1 ≠ (TX0 b).2.1 := by decide +kernel
theorem tyX0_ok : ∀ k, k < 6 → parseFieldDescriptor (TX0 k).2.2.1 = some (tyX0 k) := by decide +kernel
abbrev cX0_init : ByteArray := prog_2_method_1_code
def yX0_init : MethodName := ⟨RX0, "<init>", "()V"⟩
abbrev cX0_copyFrom : ByteArray := prog_2_method_2_code
def yX0_copyFrom : MethodName := ⟨RX0, "copyFrom", "(LCreakingGhosts$Attic;)V"⟩
abbrev cX0_minutesBetweenBells : ByteArray := prog_2_method_3_code
def yX0_minutesBetweenBells : MethodName := ⟨RX0, "minutesBetweenBells", "()I"⟩
abbrev cX0_minutesToBell : ByteArray := prog_2_method_4_code
def yX0_minutesToBell : MethodName := ⟨RX0, "minutesToBell", "()I"⟩
abbrev cX0_leftTo : ByteArray := prog_2_method_5_code
def yX0_leftTo : MethodName := ⟨RX0, "leftTo", "(I)I"⟩
abbrev cX0_freeTo : ByteArray := prog_2_method_6_code
def yX0_freeTo : MethodName := ⟨RX0, "freeTo", "(I)I"⟩
abbrev cX0_freeAtRoomOf : ByteArray := prog_2_method_7_code
def yX0_freeAtRoomOf : MethodName := ⟨RX0, "freeAtRoomOf", "(I)I"⟩
abbrev cX0_ghostsFreeFor : ByteArray := prog_2_method_8_code
def yX0_ghostsFreeFor : MethodName := ⟨RX0, "ghostsFreeFor", "(I)I"⟩
abbrev cX0_boardsThatWake : ByteArray := prog_2_method_9_code
def yX0_boardsThatWake : MethodName := ⟨RX0, "boardsThatWake", "(I)I"⟩
abbrev cX0_letCreak : ByteArray := prog_2_method_10_code
def yX0_letCreak : MethodName := ⟨RX0, "letCreak", "(I)I"⟩
abbrev cX0_letPass : ByteArray := prog_2_method_11_code
def yX0_letPass : MethodName := ⟨RX0, "letPass", "(I)I"⟩
abbrev cX0_letGlide : ByteArray := prog_2_method_12_code
def yX0_letGlide : MethodName := ⟨RX0, "letGlide", "(II)I"⟩
def RX1 : String := "CreakingGhosts$Boards"
def TX1 : u_T := fun k => match k with
  | 0 => ("CreakingGhosts$Boards", "laid", "I", false)
  | 1 => ("CreakingGhosts$Boards", "lower", "LCreakingGhosts$Row;", true)
  | 2 => ("CreakingGhosts$Boards", "greater", "LCreakingGhosts$Row;", true)
  | 3 => ("CreakingGhosts$Boards", "ends", "LCreakingGhosts$Row;", true)
  | 4 => ("CreakingGhosts$Boards", "creak", "LCreakingGhosts$Row;", true)
  | 5 => ("CreakingGhosts$Boards", "minutes", "LCreakingGhosts$Row;", true)
  | _ => ("CreakingGhosts$Boards", "creaked", "LCreakingGhosts$Row;", true)
def tyX1 : Nat → FieldType := fun k => match k with
  | 0 => .int
  | 1 => .object "CreakingGhosts$Row"
  | 2 => .object "CreakingGhosts$Row"
  | 3 => .object "CreakingGhosts$Row"
  | 4 => .object "CreakingGhosts$Row"
  | 5 => .object "CreakingGhosts$Row"
  | _ => .object "CreakingGhosts$Row"
abbrev wsX10 : List Cond := u_ws RX1 TX1 7
theorem nmX1 : ∀ a, a < 7 → ∀ b, b < 7 → a ≠ b → (TX1 a).2.1 ≠ (TX1 b).2.1 := by decide +kernel
theorem tyX1_ok : ∀ k, k < 7 → parseFieldDescriptor (TX1 k).2.2.1 = some (tyX1 k) := by decide +kernel
abbrev cX1_init : ByteArray := prog_3_method_1_code
def yX1_init : MethodName := ⟨RX1, "<init>", "()V"⟩
abbrev cX1_copyFrom : ByteArray := prog_3_method_2_code
def yX1_copyFrom : MethodName := ⟨RX1, "copyFrom", "(LCreakingGhosts$Boards;)V"⟩
abbrev cX1_has : ByteArray := prog_3_method_3_code
def yX1_has : MethodName := ⟨RX1, "has", "(I)Z"⟩
abbrev cX1_append : ByteArray := prog_3_method_4_code
def yX1_append : MethodName := ⟨RX1, "append", "(IIII)V"⟩
abbrev cX1_remove : ByteArray := prog_3_method_5_code
def yX1_remove : MethodName := ⟨RX1, "remove", "(I)V"⟩
abbrev cX1_all : ByteArray := prog_3_method_6_code
def yX1_all : MethodName := ⟨RX1, "all", "()I"⟩
abbrev cX1_beyond : ByteArray := prog_3_method_7_code
def yX1_beyond : MethodName := ⟨RX1, "beyond", "(II)I"⟩
abbrev cX1_touching : ByteArray := prog_3_method_8_code
def yX1_touching : MethodName := ⟨RX1, "touching", "(I)I"⟩
abbrev cX1_atMostAsLoud : ByteArray := prog_3_method_9_code
def yX1_atMostAsLoud : MethodName := ⟨RX1, "atMostAsLoud", "(I)I"⟩
abbrev cX1_widened : ByteArray := prog_3_method_10_code
def yX1_widened : MethodName := ⟨RX1, "widened", "(II)I"⟩
abbrev cX1_roomsFrom : ByteArray := prog_3_method_11_code
def yX1_roomsFrom : MethodName := ⟨RX1, "roomsFrom", "(II)I"⟩
abbrev cX1_fewestTo : ByteArray := prog_3_method_12_code
def yX1_fewestTo : MethodName := ⟨RX1, "fewestTo", "(II)I"⟩
abbrev cX1_loudnessIn : ByteArray := prog_3_method_13_code
def yX1_loudnessIn : MethodName := ⟨RX1, "loudnessIn", "(II)I"⟩
abbrev cX1_pairsApartWithout : ByteArray := prog_3_method_14_code
def yX1_pairsApartWithout : MethodName := ⟨RX1, "pairsApartWithout", "(I)I"⟩
def RX2 : String := "CreakingGhosts$Ghosts"
def TX2 : u_T := fun k => match k with
  | 0 => ("CreakingGhosts$Ghosts", "room", "LCreakingGhosts$Row;", true)
  | 1 => ("CreakingGhosts$Ghosts", "crossed", "LCreakingGhosts$Row;", true)
  | _ => ("CreakingGhosts$Ghosts", "crossings", "LCreakingGhosts$Row;", true)
def tyX2 : Nat → FieldType := fun k => match k with
  | 0 => .object "CreakingGhosts$Row"
  | 1 => .object "CreakingGhosts$Row"
  | _ => .object "CreakingGhosts$Row"
abbrev wsX20 : List Cond := u_ws RX2 TX2 3
theorem nmX2 : ∀ a, a < 3 → ∀ b, b < 3 → a ≠ b → (TX2 a).2.1 ≠ (TX2 b).2.1 := by decide +kernel
theorem tyX2_ok : ∀ k, k < 3 → parseFieldDescriptor (TX2 k).2.2.1 = some (tyX2 k) := by decide +kernel
abbrev cX2_init : ByteArray := prog_4_method_1_code
def yX2_init : MethodName := ⟨RX2, "<init>", "()V"⟩
abbrev cX2_copyFrom : ByteArray := prog_4_method_2_code
def yX2_copyFrom : MethodName := ⟨RX2, "copyFrom", "(LCreakingGhosts$Ghosts;)V"⟩
abbrev cX2_whoCrossed : ByteArray := prog_4_method_3_code
def yX2_whoCrossed : MethodName := ⟨RX2, "whoCrossed", "(I)I"⟩
abbrev cX2_cross : ByteArray := prog_4_method_4_code
def yX2_cross : MethodName := ⟨RX2, "cross", "(III)V"⟩
abbrev cX2_forgetBoard : ByteArray := prog_4_method_5_code
def yX2_forgetBoard : MethodName := ⟨RX2, "forgetBoard", "(I)V"⟩
def RX3 : String := "CreakingGhosts$History"
def TX3 : u_T := fun k => match k with
  | 0 => ("CreakingGhosts$History", "states", "LCreakingGhosts$Shelf;", true)
  | 1 => ("CreakingGhosts$History", "next", "I", false)
  | _ => ("CreakingGhosts$History", "kept", "I", false)
def tyX3 : Nat → FieldType := fun k => match k with
  | 0 => .object "CreakingGhosts$Shelf"
  | 1 => .int
  | _ => .int
abbrev wsX30 : List Cond := u_ws RX3 TX3 3
theorem nmX3 : ∀ a, a < 3 → ∀ b, b < 3 → a ≠ b → (TX3 a).2.1 ≠ (TX3 b).2.1 := by decide +kernel
theorem tyX3_ok : ∀ k, k < 3 → parseFieldDescriptor (TX3 k).2.2.1 = some (tyX3 k) := by decide +kernel
abbrev cX3_init : ByteArray := prog_5_method_1_code
def yX3_init : MethodName := ⟨RX3, "<init>", "()V"⟩
abbrev cX3_remember : ByteArray := prog_5_method_2_code
def yX3_remember : MethodName := ⟨RX3, "remember", "(LCreakingGhosts$Attic;)V"⟩
def RX4 : String := "CreakingGhosts$Pad"
def TX4 : u_T := fun k => match k with
  | 0 => ("CreakingGhosts$Pad", "length", "I", false)
  | _ => ("CreakingGhosts$Pad", "signs", "LCreakingGhosts$Row;", true)
def tyX4 : Nat → FieldType := fun k => match k with
  | 0 => .int
  | _ => .object "CreakingGhosts$Row"
abbrev wsX40 : List Cond := u_ws RX4 TX4 2
theorem nmX4 : ∀ a, a < 2 → ∀ b, b < 2 → a ≠ b → (TX4 a).2.1 ≠ (TX4 b).2.1 := by decide +kernel
theorem tyX4_ok : ∀ k, k < 2 → parseFieldDescriptor (TX4 k).2.2.1 = some (tyX4 k) := by decide +kernel
abbrev cX4_init : ByteArray := prog_6_method_1_code
def yX4_init : MethodName := ⟨RX4, "<init>", "()V"⟩
def RX5 : String := "CreakingGhosts$Row"
def TX5 : u_T := fun k => match k with
  | _ => ("CreakingGhosts$Row", "cells", "[I", true)
def tyX5 : Nat → FieldType := fun k => match k with
  | _ => .array .int
abbrev wsX50 : List Cond := u_ws RX5 TX5 1
theorem nmX5 : ∀ a, a < 1 → ∀ b, b < 1 → a ≠ b → (TX5 a).2.1 ≠ (TX5 b).2.1 := by decide +kernel
theorem tyX5_ok : ∀ k, k < 1 → parseFieldDescriptor (TX5 k).2.2.1 = some (tyX5 k) := by decide +kernel
abbrev cX5_init : ByteArray := prog_7_method_1_code
def yX5_init : MethodName := ⟨RX5, "<init>", "(I)V"⟩
abbrev cX5_at : ByteArray := prog_7_method_2_code
def yX5_at : MethodName := ⟨RX5, "at", "(I)I"⟩
abbrev cX5_store : ByteArray := prog_7_method_3_code
def yX5_store : MethodName := ⟨RX5, "store", "(II)V"⟩
abbrev cX5_increase : ByteArray := prog_7_method_4_code
def yX5_increase : MethodName := ⟨RX5, "increase", "(I)V"⟩
abbrev cX5_fill : ByteArray := prog_7_method_5_code
def yX5_fill : MethodName := ⟨RX5, "fill", "(I)V"⟩
abbrev cX5_moveUpBehind : ByteArray := prog_7_method_6_code
def yX5_moveUpBehind : MethodName := ⟨RX5, "moveUpBehind", "(I)V"⟩
abbrev cX5_copyFrom : ByteArray := prog_7_method_7_code
def yX5_copyFrom : MethodName := ⟨RX5, "copyFrom", "(LCreakingGhosts$Row;)V"⟩
def RX6 : String := "CreakingGhosts$Shelf"
def TX6 : u_T := fun k => match k with
  | _ => ("CreakingGhosts$Shelf", "copies", "[LCreakingGhosts$Attic;", true)
def tyX6 : Nat → FieldType := fun k => match k with
  | _ => .array (.object "CreakingGhosts$Attic")
abbrev wsX60 : List Cond := u_ws RX6 TX6 1
theorem nmX6 : ∀ a, a < 1 → ∀ b, b < 1 → a ≠ b → (TX6 a).2.1 ≠ (TX6 b).2.1 := by decide +kernel
theorem tyX6_ok : ∀ k, k < 1 → parseFieldDescriptor (TX6 k).2.2.1 = some (tyX6 k) := by decide +kernel
abbrev cX6_init : ByteArray := prog_8_method_1_code
def yX6_init : MethodName := ⟨RX6, "<init>", "(I)V"⟩
abbrev cX6_has : ByteArray := prog_8_method_2_code
def yX6_has : MethodName := ⟨RX6, "has", "(I)Z"⟩
abbrev cX6_keep : ByteArray := prog_8_method_3_code
def yX6_keep : MethodName := ⟨RX6, "keep", "(ILCreakingGhosts$Attic;)V"⟩
def RX7 : String := "CreakingGhosts$Sleepers"
def TX7 : u_T := fun k => match k with
  | 0 => ("CreakingGhosts$Sleepers", "come", "I", false)
  | 1 => ("CreakingGhosts$Sleepers", "room", "LCreakingGhosts$Row;", true)
  | 2 => ("CreakingGhosts$Sleepers", "ear", "LCreakingGhosts$Row;", true)
  | 3 => ("CreakingGhosts$Sleepers", "awake", "LCreakingGhosts$Row;", true)
  | _ => ("CreakingGhosts$Sleepers", "woke", "LCreakingGhosts$Row;", true)
def tyX7 : Nat → FieldType := fun k => match k with
  | 0 => .int
  | 1 => .object "CreakingGhosts$Row"
  | 2 => .object "CreakingGhosts$Row"
  | 3 => .object "CreakingGhosts$Row"
  | _ => .object "CreakingGhosts$Row"
abbrev wsX70 : List Cond := u_ws RX7 TX7 5
theorem nmX7 : ∀ a, a < 5 → ∀ b, b < 5 → a ≠ b → (TX7 a).2.1 ≠ (TX7 b).2.1 := by decide +kernel
theorem tyX7_ok : ∀ k, k < 5 → parseFieldDescriptor (TX7 k).2.2.1 = some (tyX7 k) := by decide +kernel
abbrev cX7_init : ByteArray := prog_9_method_1_code
def yX7_init : MethodName := ⟨RX7, "<init>", "()V"⟩
abbrev cX7_copyFrom : ByteArray := prog_9_method_2_code
def yX7_copyFrom : MethodName := ⟨RX7, "copyFrom", "(LCreakingGhosts$Sleepers;)V"⟩
abbrev cX7_has : ByteArray := prog_9_method_3_code
def yX7_has : MethodName := ⟨RX7, "has", "(I)Z"⟩
abbrev cX7_append : ByteArray := prog_9_method_4_code
def yX7_append : MethodName := ⟨RX7, "append", "(II)V"⟩
abbrev cX7_whoAreAwake : ByteArray := prog_9_method_5_code
def yX7_whoAreAwake : MethodName := ⟨RX7, "whoAreAwake", "()I"⟩
abbrev cX7_watchedRooms : ByteArray := prog_9_method_6_code
def yX7_watchedRooms : MethodName := ⟨RX7, "watchedRooms", "()I"⟩
abbrev cX7_wake : ByteArray := prog_9_method_7_code
def yX7_wake : MethodName := ⟨RX7, "wake", "(II)V"⟩
abbrev cX7_tire : ByteArray := prog_9_method_8_code
def yX7_tire : MethodName := ⟨RX7, "tire", "(I)V"⟩
def RX8 : String := "CreakingGhosts$Trail"
def TX8 : u_T := fun k => match k with
  | _ => ("", "", "", false)
def tyX8 : Nat → FieldType := fun k => match k with
  | _ => .int
abbrev wsX80 : List Cond := u_ws RX8 TX8 0
theorem nmX8 : ∀ a, a < 0 → ∀ b, b < 0 → a ≠ b → (TX8 a).2.1 ≠ (TX8 b).2.1 := by decide +kernel
theorem tyX8_ok : ∀ k, k < 0 → parseFieldDescriptor (TX8 k).2.2.1 = some (tyX8 k) := by decide +kernel
abbrev cX8_whyNot : ByteArray := prog_10_method_2_code
def yX8_whyNot : MethodName := ⟨RX8, "whyNot", "(LCreakingGhosts$Boards;II)I"⟩
abbrev cX8_boardAt : ByteArray := prog_10_method_3_code
def yX8_boardAt : MethodName := ⟨RX8, "boardAt", "(LCreakingGhosts$Boards;III)I"⟩
abbrev cX8_firstBoard : ByteArray := prog_10_method_4_code
def yX8_firstBoard : MethodName := ⟨RX8, "firstBoard", "(LCreakingGhosts$Boards;II)I"⟩
def RX9 : String := "CreakingGhosts$Way"
def TX9 : u_T := fun k => match k with
  | 0 => ("CreakingGhosts$Way", "costs", "LCreakingGhosts$Row;", true)
  | 1 => ("CreakingGhosts$Way", "steps", "LCreakingGhosts$Row;", true)
  | 2 => ("CreakingGhosts$Way", "found", "Z", false)
  | 3 => ("CreakingGhosts$Way", "minutes", "I", false)
  | _ => ("CreakingGhosts$Way", "length", "I", false)
def tyX9 : Nat → FieldType := fun k => match k with
  | 0 => .object "CreakingGhosts$Row"
  | 1 => .object "CreakingGhosts$Row"
  | 2 => .boolean
  | 3 => .int
  | _ => .int
abbrev wsX90 : List Cond := u_ws RX9 TX9 5
theorem nmX9 : ∀ a, a < 5 → ∀ b, b < 5 → a ≠ b → (TX9 a).2.1 ≠ (TX9 b).2.1 := by decide +kernel
theorem tyX9_ok : ∀ k, k < 5 → parseFieldDescriptor (TX9 k).2.2.1 = some (tyX9 k) := by decide +kernel
abbrev cX9_init : ByteArray := prog_11_method_1_code
def yX9_init : MethodName := ⟨RX9, "<init>", "()V"⟩
abbrev cX9_find : ByteArray := prog_11_method_2_code
def yX9_find : MethodName := ⟨RX9, "find", "(LCreakingGhosts$Boards;III)V"⟩
abbrev cX9_weigh : ByteArray := prog_11_method_3_code
def yX9_weigh : MethodName := ⟨RX9, "weigh", "(LCreakingGhosts$Boards;II)V"⟩
abbrev cX9_lowerCosts : ByteArray := prog_11_method_4_code
def yX9_lowerCosts : MethodName := ⟨RX9, "lowerCosts", "(LCreakingGhosts$Boards;I)Z"⟩
abbrev cX9_priceOf : ByteArray := prog_11_method_5_code
def yX9_priceOf : MethodName := ⟨RX9, "priceOf", "(LCreakingGhosts$Boards;I)I"⟩
abbrev cX9_firstStep : ByteArray := prog_11_method_6_code
def yX9_firstStep : MethodName := ⟨RX9, "firstStep", "(LCreakingGhosts$Boards;II)I"⟩
def RX10 : String := "CreakingGhosts"
def TX10 : u_T := fun k => match k with
  | 0 => ("CreakingGhosts", "attic", "LCreakingGhosts$Attic;", true)
  | 1 => ("CreakingGhosts", "pad", "LCreakingGhosts$Pad;", true)
  | 2 => ("CreakingGhosts", "history", "LCreakingGhosts$History;", true)
  | 3 => ("CreakingGhosts", "slots", "LCreakingGhosts$Shelf;", true)
  | 4 => ("CreakingGhosts", "savedSlots", "I", false)
  | _ => ("CreakingGhosts", "way", "LCreakingGhosts$Way;", true)
def tyX10 : Nat → FieldType := fun k => match k with
  | 0 => .object "CreakingGhosts$Attic"
  | 1 => .object "CreakingGhosts$Pad"
  | 2 => .object "CreakingGhosts$History"
  | 3 => .object "CreakingGhosts$Shelf"
  | 4 => .int
  | _ => .object "CreakingGhosts$Way"
abbrev wsX100 : List Cond := u_ws RX10 TX10 6
theorem nmX10 : ∀ a, a < 6 → ∀ b, b < 6 → a ≠ b → (TX10 a).2.1 ≠ (TX10 b).2.1 := by decide +kernel
theorem tyX10_ok : ∀ k, k < 6 → parseFieldDescriptor (TX10 k).2.2.1 = some (tyX10 k) := by decide +kernel
abbrev cX10_init : ByteArray := prog_1_method_1_code
def yX10_init : MethodName := ⟨RX10, "<init>", "()V"⟩
abbrev cX10_set : ByteArray := prog_1_method_2_code
def yX10_set : MethodName := ⟨RX10, "set", "(II)I"⟩
abbrev cX10_lay : ByteArray := prog_1_method_3_code
def yX10_lay : MethodName := ⟨RX10, "lay", "(IIII)I"⟩
abbrev cX10_takeUp : ByteArray := prog_1_method_5_code
def yX10_takeUp : MethodName := ⟨RX10, "takeUp", "(I)I"⟩
abbrev cX10_sleeper : ByteArray := prog_1_method_6_code
def yX10_sleeper : MethodName := ⟨RX10, "sleeper", "(II)I"⟩
abbrev cX10_put : ByteArray := prog_1_method_7_code
def yX10_put : MethodName := ⟨RX10, "put", "(II)I"⟩
abbrev cX10_glide : ByteArray := prog_1_method_8_code
def yX10_glide : MethodName := ⟨RX10, "glide", "(II)I"⟩
abbrev cX10_go : ByteArray := prog_1_method_9_code
def yX10_go : MethodName := ⟨RX10, "go", "(II)I"⟩
abbrev cX10_pass : ByteArray := prog_1_method_10_code
def yX10_pass : MethodName := ⟨RX10, "pass", "(I)I"⟩
abbrev cX10_board : ByteArray := prog_1_method_11_code
def yX10_board : MethodName := ⟨RX10, "board", "(II)I"⟩
abbrev cX10_ghost : ByteArray := prog_1_method_12_code
def yX10_ghost : MethodName := ⟨RX10, "ghost", "(II)I"⟩
abbrev cX10_sleeperOf : ByteArray := prog_1_method_13_code
def yX10_sleeperOf : MethodName := ⟨RX10, "sleeperOf", "(II)I"⟩
abbrev cX10_loudness : ByteArray := prog_1_method_14_code
def yX10_loudness : MethodName := ⟨RX10, "loudness", "(II)I"⟩
abbrev cX10_far : ByteArray := prog_1_method_15_code
def yX10_far : MethodName := ⟨RX10, "far", "(II)I"⟩
abbrev cX10_count : ByteArray := prog_1_method_16_code
def yX10_count : MethodName := ⟨RX10, "count", "(I)I"⟩
abbrev cX10_soonest : ByteArray := prog_1_method_17_code
def yX10_soonest : MethodName := ⟨RX10, "soonest", "(III)I"⟩
abbrev cX10_quietest : ByteArray := prog_1_method_18_code
def yX10_quietest : MethodName := ⟨RX10, "quietest", "(II)I"⟩
abbrev cX10_reason : ByteArray := prog_1_method_19_code
def yX10_reason : MethodName := ⟨RX10, "reason", "(I)I"⟩
abbrev cX10_trail : ByteArray := prog_1_method_20_code
def yX10_trail : MethodName := ⟨RX10, "trail", "(II)I"⟩
abbrev cX10_worstGap : ByteArray := prog_1_method_21_code
def yX10_worstGap : MethodName := ⟨RX10, "worstGap", "(I)I"⟩
abbrev cX10_findWay : ByteArray := prog_1_method_28_code
def yX10_findWay : MethodName := ⟨RX10, "findWay", "(II)V"⟩
abbrev cX10_isWithin : ByteArray := prog_1_method_29_code
def yX10_isWithin : MethodName := ⟨RX10, "isWithin", "(III)Z"⟩
abbrev cX10_isSetting : ByteArray := prog_1_method_30_code
def yX10_isSetting : MethodName := ⟨RX10, "isSetting", "(II)Z"⟩
abbrev cX10_isRoom : ByteArray := prog_1_method_31_code
def yX10_isRoom : MethodName := ⟨RX10, "isRoom", "(I)Z"⟩
abbrev cX10_isGhost : ByteArray := prog_1_method_32_code
def yX10_isGhost : MethodName := ⟨RX10, "isGhost", "(I)Z"⟩
abbrev cX10_holds : ByteArray := prog_1_method_34_code
def yX10_holds : MethodName := ⟨RX10, "holds", "(II)Z"⟩
def RX11 : String := "CreakingGhostsModel"
def TX11 : u_T := fun k => match k with
  | _ => ("", "", "", false)
def tyX11 : Nat → FieldType := fun k => match k with
  | _ => .int
abbrev wsX110 : List Cond := u_ws RX11 TX11 0
theorem nmX11 : ∀ a, a < 0 → ∀ b, b < 0 → a ≠ b → (TX11 a).2.1 ≠ (TX11 b).2.1 := by decide +kernel
theorem tyX11_ok : ∀ k, k < 0 → parseFieldDescriptor (TX11 k).2.2.1 = some (tyX11 k) := by decide +kernel
def RJ6 : String := "java/lang/Integer"
def TJ6 : u_T := fun k => match k with
  | _ => ("", "", "", false)
def tyJ6 : Nat → FieldType := fun k => match k with
  | _ => .int
abbrev wsJ60 : List Cond := u_ws RJ6 TJ6 0
theorem nmJ6 : ∀ a, a < 0 → ∀ b, b < 0 → a ≠ b → (TJ6 a).2.1 ≠ (TJ6 b).2.1 := by decide +kernel
theorem tyJ6_ok : ∀ k, k < 0 → parseFieldDescriptor (TJ6 k).2.2.1 = some (tyJ6 k) := by decide +kernel
abbrev cJ6_bitCount_0f7a4 : ByteArray := prog_14_method_49_code
def yJ6_bitCount_0f7a4 : MethodName := ⟨RJ6, "bitCount", "(I)I"⟩
def RJ9 : String := "java/lang/Math"
def TJ9 : u_T := fun k => match k with
  | _ => ("", "", "", false)
def tyJ9 : Nat → FieldType := fun k => match k with
  | _ => .int
abbrev wsJ90 : List Cond := u_ws RJ9 TJ9 0
theorem nmJ9 : ∀ a, a < 0 → ∀ b, b < 0 → a ≠ b → (TJ9 a).2.1 ≠ (TJ9 b).2.1 := by decide +kernel
theorem tyJ9_ok : ∀ k, k < 0 → parseFieldDescriptor (TJ9 k).2.2.1 = some (tyJ9 k) := by decide +kernel
abbrev cJ9_max_7cf53 : ByteArray := prog_15_method_65_code
def yJ9_max_7cf53 : MethodName := ⟨RJ9, "max", "(II)I"⟩
abbrev cJ9_min_7cf53 : ByteArray := prog_15_method_69_code
def yJ9_min_7cf53 : MethodName := ⟨RJ9, "min", "(II)I"⟩
def RJ10 : String := "java/lang/System"
def TJ10 : u_T := fun k => match k with
  | _ => ("", "", "", false)
def tyJ10 : Nat → FieldType := fun k => match k with
  | _ => .int
abbrev wsJ100 : List Cond := u_ws RJ10 TJ10 0
theorem nmJ10 : ∀ a, a < 0 → ∀ b, b < 0 → a ≠ b → (TJ10 a).2.1 ≠ (TJ10 b).2.1 := by decide +kernel
theorem tyJ10_ok : ∀ k, k < 0 → parseFieldDescriptor (TJ10 k).2.2.1 = some (tyJ10 k) := by decide +kernel
def RL : String := "CreakingGhostsLaw"
abbrev cL_cell : ByteArray := method_2_code
def yL_cell : MethodName := ⟨RL, "cell", "([II)I"⟩
abbrev cL_low : ByteArray := method_3_code
def yL_low : MethodName := ⟨RL, "low", "(II)I"⟩
abbrev cL_one : ByteArray := method_4_code
def yL_one : MethodName := ⟨RL, "one", "([II)I"⟩
abbrev cL_two : ByteArray := method_5_code
def yL_two : MethodName := ⟨RL, "two", "([II)I"⟩
abbrev cL_creak : ByteArray := method_6_code
def yL_creak : MethodName := ⟨RL, "creak", "([II)I"⟩
abbrev cL_minutes : ByteArray := method_7_code
def yL_minutes : MethodName := ⟨RL, "minutes", "([II)I"⟩
abbrev cL_reach : ByteArray := method_8_code
def yL_reach : MethodName := ⟨RL, "reach", "([I[IIII)I"⟩
abbrev cL_all : ByteArray := method_9_code
def yL_all : MethodName := ⟨RL, "all", "([I)I"⟩
abbrev cL_far : ByteArray := method_10_code
def yL_far : MethodName := ⟨RL, "far", "([I[III)I"⟩
abbrev cL_loud : ByteArray := method_11_code
def yL_loud : MethodName := ⟨RL, "loud", "([I[I[III)I"⟩
abbrev cL_watched : ByteArray := method_12_code
def yL_watched : MethodName := ⟨RL, "watched", "([I[I)I"⟩
abbrev cL_free : ByteArray := method_13_code
def yL_free : MethodName := ⟨RL, "free", "([I[I[I[III)Z"⟩
abbrev cL_open : ByteArray := method_14_code
def yL_open : MethodName := ⟨RL, "open", "([I[I[I[II)I"⟩
abbrev cL_pass : ByteArray := method_15_code
def yL_pass : MethodName := ⟨RL, "pass", "([I[I[II)I"⟩
abbrev cL_glide : ByteArray := method_16_code
def yL_glide : MethodName := ⟨RL, "glide", "([I[I[I[I[III)I"⟩
abbrev cL_costs : ByteArray := method_17_code
def yL_costs : MethodName := ⟨RL, "costs", "([I[III)[I"⟩
abbrev cL_first : ByteArray := method_18_code
def yL_first : MethodName := ⟨RL, "first", "([I[I[III)I"⟩
abbrev cL_ways : ByteArray := method_19_code
def yL_ways : MethodName := ⟨RL, "ways", "(LCreakingGhosts;[I[I[I[III)Z"⟩
abbrev cL_degree : ByteArray := method_20_code
def yL_degree : MethodName := ⟨RL, "degree", "([I[III)I"⟩
abbrev cL_reason : ByteArray := method_21_code
def yL_reason : MethodName := ⟨RL, "reason", "([I[III)I"⟩
abbrev cL_trail : ByteArray := method_22_code
def yL_trail : MethodName := ⟨RL, "trail", "(LCreakingGhosts;[I[I[II)Z"⟩
abbrev cL_pairs : ByteArray := method_23_code
def yL_pairs : MethodName := ⟨RL, "pairs", "([I[II)I"⟩
abbrev cL_gap : ByteArray := method_24_code
def yL_gap : MethodName := ⟨RL, "gap", "(LCreakingGhosts;[I[I)Z"⟩
abbrev cL_boards : ByteArray := method_25_code
def yL_boards : MethodName := ⟨RL, "boards", "(LCreakingGhosts;[I[I[I[I[I)Z"⟩
abbrev cL_tells : ByteArray := method_26_code
def yL_tells : MethodName := ⟨RL, "tells", "(LCreakingGhosts;[I[I[I[I[I)Z"⟩
abbrev cL_law : ByteArray := code
def yL_law : MethodName := ⟨RL, "law", "([I)Z"⟩
