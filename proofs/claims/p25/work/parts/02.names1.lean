/-! ===== BEGIN words of one list among another's, by their places ===== -/
theorem goodIn_r {big : List Cond} (ws : List Cond) (ps : List Nat) (hp : ws = ps.filterMap (fun i => big[i]?)) (h : ws.all goodWord = true) : GoodIn big ws := by
  intro w hw
  have h1 := List.all_eq_true.mp h w hw
  rw [hp] at hw
  obtain ⟨i, -, hi⟩ := List.mem_filterMap.mp hw
  have hm : w ∈ big := by first | exact List.mem_of_getElem? hi | exact List.getElem?_mem hi
  exact ⟨hm, good_of_word h1⟩
theorem goodIn_app {big a b : List Cond} (ha : GoodIn big a) (hb : GoodIn big b) : GoodIn big (a ++ b) := fun w h => (List.mem_append.mp h).elim (ha w) (hb w)
theorem goodIn_ca {big a b : List Cond} {c : Cond} (ha : GoodIn big (c :: a)) (hb : GoodIn big b) : GoodIn big (c :: (a ++ b)) := fun w h => (List.mem_cons.mp h).elim (fun e => ha w (List.mem_cons.mpr (Or.inl e))) (fun h => (List.mem_append.mp h).elim (fun h => ha w (List.mem_cons.mpr (Or.inr h))) (hb w))
theorem goodIn_sub {big ws : List Cond} (hm : ∀ w ∈ ws, w ∈ big) (h : ws.all goodWord = true) : GoodIn big ws := fun w hw => ⟨hm w hw, good_of_word (List.all_eq_true.mp h w hw)⟩
/-! ===== END ===== -/

/-! ===== BEGIN printed: names, fields, word lists, decode rows ===== -/
def RX0 : String := "CassetteTones$BlockReader"
def TX0 : u_T := fun k => match k with
  | 0 => ("CassetteTones$BlockReader", "first", "LCassetteTones$Telling;", true)
  | _ => ("CassetteTones$BlockReader", "second", "LCassetteTones$Telling;", true)
def tyX0 : Nat → FieldType := fun k => match k with
  | 0 => .object "CassetteTones$Telling"
  | _ => .object "CassetteTones$Telling"
abbrev wsX00 : List Cond := u_ws RX0 TX0 2
theorem nmX0 : ∀ a, a < 2 → ∀ b, b < 2 → a ≠ b → (TX0 a).2.1 ≠ (TX0 b).2.1 := by decide +kernel
theorem tyX0_ok : ∀ k, k < 2 → parseFieldDescriptor (TX0 k).2.2.1 = some (tyX0 k) := by decide +kernel
abbrev cX0_init : ByteArray := prog_2_method_1_code
def yX0_init : MethodName := ⟨RX0, "<init>", "()V"⟩
abbrev cX0_telling : ByteArray := prog_2_method_2_code
def yX0_telling : MethodName := ⟨RX0, "telling", "(I)LCassetteTones$Telling;"⟩
abbrev cX0_readBlock : ByteArray := prog_2_method_3_code
def yX0_readBlock : MethodName := ⟨RX0, "readBlock", "(LCassetteTones$Tape;I)V"⟩
abbrev cX0_wayBy : ByteArray := prog_2_method_4_code
def yX0_wayBy : MethodName := ⟨RX0, "wayBy", "(I)I"⟩
abbrev cX0_isWholeTogether : ByteArray := prog_2_method_5_code
def yX0_isWholeTogether : MethodName := ⟨RX0, "isWholeTogether", "(I)Z"⟩
abbrev cX0_byteTogether : ByteArray := prog_2_method_6_code
def yX0_byteTogether : MethodName := ⟨RX0, "byteTogether", "(II)I"⟩
abbrev cX0_bytesBy : ByteArray := prog_2_method_7_code
def yX0_bytesBy : MethodName := ⟨RX0, "bytesBy", "(II)J"⟩
abbrev cX0_byteBy : ByteArray := prog_2_method_8_code
def yX0_byteBy : MethodName := ⟨RX0, "byteBy", "(III)I"⟩
def RX1 : String := "CassetteTones$History"
def TX1 : u_T := fun k => match k with
  | 0 => ("CassetteTones$History", "states", "[LCassetteTones$Tape;", true)
  | 1 => ("CassetteTones$History", "oldest", "I", false)
  | _ => ("CassetteTones$History", "size", "I", false)
def tyX1 : Nat → FieldType := fun k => match k with
  | 0 => .array (.object "CassetteTones$Tape")
  | 1 => .int
  | _ => .int
abbrev wsX10 : List Cond := u_ws RX1 TX1 3
theorem nmX1 : ∀ a, a < 3 → ∀ b, b < 3 → a ≠ b → (TX1 a).2.1 ≠ (TX1 b).2.1 := by decide +kernel
theorem tyX1_ok : ∀ k, k < 3 → parseFieldDescriptor (TX1 k).2.2.1 = some (tyX1 k) := by decide +kernel
abbrev cX1_init : ByteArray := prog_3_method_1_code
def yX1_init : MethodName := ⟨RX1, "<init>", "()V"⟩
abbrev cX1_keep : ByteArray := prog_3_method_2_code
def yX1_keep : MethodName := ⟨RX1, "keep", "(LCassetteTones$Tape;)V"⟩
abbrev cX1_stateAt : ByteArray := prog_3_method_4_code
def yX1_stateAt : MethodName := ⟨RX1, "stateAt", "(I)LCassetteTones$Tape;"⟩
def RX2 : String := "CassetteTones$Pad"
def TX2 : u_T := fun k => match k with
  | 0 => ("CassetteTones$Pad", "characters", "[C", true)
  | 1 => ("CassetteTones$Pad", "length", "I", false)
  | 2 => ("CassetteTones$Pad", "at", "I", false)
  | 3 => ("CassetteTones$Pad", "kind", "C", false)
  | 4 => ("CassetteTones$Pad", "number", "I", false)
  | 5 => ("CassetteTones$Pad", "to", "I", false)
  | 6 => ("CassetteTones$Pad", "volume", "I", false)
  | 7 => ("CassetteTones$Pad", "under", "I", false)
  | 8 => ("CassetteTones$Pad", "many", "I", false)
  | 9 => ("CassetteTones$Pad", "bytes", "J", false)
  | _ => ("CassetteTones$Pad", "byteTooGreat", "Z", false)
def tyX2 : Nat → FieldType := fun k => match k with
  | 0 => .array .char
  | 1 => .int
  | 2 => .int
  | 3 => .char
  | 4 => .int
  | 5 => .int
  | 6 => .int
  | 7 => .int
  | 8 => .int
  | 9 => .long
  | _ => .boolean
abbrev wsX20 : List Cond := u_ws RX2 TX2 11
theorem nmX2 : ∀ a, a < 11 → ∀ b, b < 11 → a ≠ b → (TX2 a).2.1 ≠ (TX2 b).2.1 := by decide +kernel
theorem tyX2_ok : ∀ k, k < 11 → parseFieldDescriptor (TX2 k).2.2.1 = some (tyX2 k) := by decide +kernel
abbrev cX2_init : ByteArray := prog_4_method_1_code
def yX2_init : MethodName := ⟨RX2, "<init>", "()V"⟩
def RX3 : String := "CassetteTones$Slot"
def TX3 : u_T := fun k => match k with
  | 0 => ("CassetteTones$Slot", "saved", "LCassetteTones$Tape;", true)
  | _ => ("CassetteTones$Slot", "filled", "Z", false)
def tyX3 : Nat → FieldType := fun k => match k with
  | 0 => .object "CassetteTones$Tape"
  | _ => .boolean
abbrev wsX30 : List Cond := u_ws RX3 TX3 2
theorem nmX3 : ∀ a, a < 2 → ∀ b, b < 2 → a ≠ b → (TX3 a).2.1 ≠ (TX3 b).2.1 := by decide +kernel
theorem tyX3_ok : ∀ k, k < 2 → parseFieldDescriptor (TX3 k).2.2.1 = some (tyX3 k) := by decide +kernel
abbrev cX3_init : ByteArray := prog_5_method_1_code
def yX3_init : MethodName := ⟨RX3, "<init>", "()V"⟩
def RX4 : String := "CassetteTones$Tape"
def TX4 : u_T := fun k => match k with
  | 0 => ("CassetteTones$Tape", "settings", "[I", true)
  | 1 => ("CassetteTones$Tape", "blocks", "I", false)
  | 2 => ("CassetteTones$Tape", "names", "[I", true)
  | 3 => ("CassetteTones$Tape", "unders", "[I", true)
  | 4 => ("CassetteTones$Tape", "manys", "[I", true)
  | 5 => ("CassetteTones$Tape", "firsts", "[I", true)
  | 6 => ("CassetteTones$Tape", "volumes", "[I", true)
  | 7 => ("CassetteTones$Tape", "bad", "[I", true)
  | _ => ("CassetteTones$Tape", "written", "[I", true)
def tyX4 : Nat → FieldType := fun k => match k with
  | 0 => .array .int
  | 1 => .int
  | 2 => .array .int
  | 3 => .array .int
  | 4 => .array .int
  | 5 => .array .int
  | 6 => .array .int
  | 7 => .array .int
  | _ => .array .int
abbrev wsX40 : List Cond := u_ws RX4 TX4 9
theorem nmX4 : ∀ a, a < 9 → ∀ b, b < 9 → a ≠ b → (TX4 a).2.1 ≠ (TX4 b).2.1 := by decide +kernel
theorem tyX4_ok : ∀ k, k < 9 → parseFieldDescriptor (TX4 k).2.2.1 = some (tyX4 k) := by decide +kernel
abbrev cX4_init : ByteArray := prog_6_method_1_code
def yX4_init : MethodName := ⟨RX4, "<init>", "()V"⟩
abbrev cX4_copyFrom : ByteArray := prog_6_method_2_code
def yX4_copyFrom : MethodName := ⟨RX4, "copyFrom", "(LCassetteTones$Tape;)V"⟩
abbrev cX4_hasBlock : ByteArray := prog_6_method_3_code
def yX4_hasBlock : MethodName := ⟨RX4, "hasBlock", "(I)Z"⟩
abbrev cX4_setting : ByteArray := prog_6_method_4_code
def yX4_setting : MethodName := ⟨RX4, "setting", "(I)I"⟩
abbrev cX4_firstOf : ByteArray := prog_6_method_5_code
def yX4_firstOf : MethodName := ⟨RX4, "firstOf", "(I)I"⟩
abbrev cX4_cells : ByteArray := prog_6_method_6_code
def yX4_cells : MethodName := ⟨RX4, "cells", "()I"⟩
abbrev cX4_hasCell : ByteArray := prog_6_method_7_code
def yX4_hasCell : MethodName := ⟨RX4, "hasCell", "(I)Z"⟩
abbrev cX4_tellingCells : ByteArray := prog_6_method_8_code
def yX4_tellingCells : MethodName := ⟨RX4, "tellingCells", "(I)I"⟩
abbrev cX4_errorOfBlock : ByteArray := prog_6_method_9_code
def yX4_errorOfBlock : MethodName := ⟨RX4, "errorOfBlock", "(III)I"⟩
abbrev cX4_appendBlock : ByteArray := prog_6_method_10_code
def yX4_appendBlock : MethodName := ⟨RX4, "appendBlock", "(IIIJ)I"⟩
abbrev cX4_writeTelling : ByteArray := prog_6_method_11_code
def yX4_writeTelling : MethodName := ⟨RX4, "writeTelling", "(IIJ)V"⟩
abbrev cX4_writeByte : ByteArray := prog_6_method_12_code
def yX4_writeByte : MethodName := ⟨RX4, "writeByte", "(II)V"⟩
abbrev cX4_errorOfFading : ByteArray := prog_6_method_13_code
def yX4_errorOfFading : MethodName := ⟨RX4, "errorOfFading", "(III)I"⟩
abbrev cX4_fadeCells : ByteArray := prog_6_method_14_code
def yX4_fadeCells : MethodName := ⟨RX4, "fadeCells", "(III)I"⟩
abbrev cX4_spoilCell : ByteArray := prog_6_method_15_code
def yX4_spoilCell : MethodName := ⟨RX4, "spoilCell", "(I)I"⟩
abbrev cX4_silentCells : ByteArray := prog_6_method_16_code
def yX4_silentCells : MethodName := ⟨RX4, "silentCells", "()I"⟩
abbrev cX4_badCells : ByteArray := prog_6_method_17_code
def yX4_badCells : MethodName := ⟨RX4, "badCells", "()I"⟩
abbrev cX4_blockAt : ByteArray := prog_6_method_18_code
def yX4_blockAt : MethodName := ⟨RX4, "blockAt", "(I)I"⟩
abbrev cX4_partAt : ByteArray := prog_6_method_19_code
def yX4_partAt : MethodName := ⟨RX4, "partAt", "(I)I"⟩
abbrev cX4_bitAt : ByteArray := prog_6_method_20_code
def yX4_bitAt : MethodName := ⟨RX4, "bitAt", "(I)I"⟩
abbrev cX4_toldAt : ByteArray := prog_6_method_21_code
def yX4_toldAt : MethodName := ⟨RX4, "toldAt", "(I)I"⟩
abbrev cX4_counterOf : ByteArray := prog_6_method_22_code
def yX4_counterOf : MethodName := ⟨RX4, "counterOf", "(I)I"⟩
abbrev cX4_distanceOf : ByteArray := prog_6_method_23_code
def yX4_distanceOf : MethodName := ⟨RX4, "distanceOf", "(II)I"⟩
abbrev cX4_nearerBlocks : ByteArray := prog_6_method_24_code
def yX4_nearerBlocks : MethodName := ⟨RX4, "nearerBlocks", "(II)I"⟩
abbrev cX4_depthOf : ByteArray := prog_6_method_25_code
def yX4_depthOf : MethodName := ⟨RX4, "depthOf", "(I)I"⟩
def RX5 : String := "CassetteTones$Telling"
def TX5 : u_T := fun k => match k with
  | 0 => ("CassetteTones$Telling", "many", "I", false)
  | 1 => ("CassetteTones$Telling", "leaderHeard", "I", false)
  | 2 => ("CassetteTones$Telling", "values", "[I", true)
  | _ => ("CassetteTones$Telling", "wholeUpTo", "[I", true)
def tyX5 : Nat → FieldType := fun k => match k with
  | 0 => .int
  | 1 => .int
  | 2 => .array .int
  | _ => .array .int
abbrev wsX50 : List Cond := u_ws RX5 TX5 4
theorem nmX5 : ∀ a, a < 4 → ∀ b, b < 4 → a ≠ b → (TX5 a).2.1 ≠ (TX5 b).2.1 := by decide +kernel
theorem tyX5_ok : ∀ k, k < 4 → parseFieldDescriptor (TX5 k).2.2.1 = some (tyX5 k) := by decide +kernel
abbrev cX5_init : ByteArray := prog_7_method_1_code
def yX5_init : MethodName := ⟨RX5, "<init>", "()V"⟩
abbrev cX5_readCells : ByteArray := prog_7_method_2_code
def yX5_readCells : MethodName := ⟨RX5, "readCells", "(LCassetteTones$Tape;II)V"⟩
abbrev cX5_readLeader : ByteArray := prog_7_method_3_code
def yX5_readLeader : MethodName := ⟨RX5, "readLeader", "(LCassetteTones$Tape;I)V"⟩
abbrev cX5_readByte : ByteArray := prog_7_method_4_code
def yX5_readByte : MethodName := ⟨RX5, "readByte", "(LCassetteTones$Tape;II)V"⟩
abbrev cX5_isLost : ByteArray := prog_7_method_5_code
def yX5_isLost : MethodName := ⟨RX5, "isLost", "(I)Z"⟩
abbrev cX5_isByteWhole : ByteArray := prog_7_method_6_code
def yX5_isByteWhole : MethodName := ⟨RX5, "isByteWhole", "(II)Z"⟩
abbrev cX5_tellsSum : ByteArray := prog_7_method_7_code
def yX5_tellsSum : MethodName := ⟨RX5, "tellsSum", "(II)Z"⟩
abbrev cX5_stateBy : ByteArray := prog_7_method_8_code
def yX5_stateBy : MethodName := ⟨RX5, "stateBy", "(I)I"⟩
def RX6 : String := "CassetteTones"
def TX6 : u_T := fun k => match k with
  | 0 => ("CassetteTones", "tape", "LCassetteTones$Tape;", true)
  | 1 => ("CassetteTones", "reader", "LCassetteTones$BlockReader;", true)
  | 2 => ("CassetteTones", "pad", "LCassetteTones$Pad;", true)
  | 3 => ("CassetteTones", "history", "LCassetteTones$History;", true)
  | 4 => ("CassetteTones", "firstSlot", "LCassetteTones$Slot;", true)
  | 5 => ("CassetteTones", "secondSlot", "LCassetteTones$Slot;", true)
  | _ => ("CassetteTones", "below", "[I", true)
def tyX6 : Nat → FieldType := fun k => match k with
  | 0 => .object "CassetteTones$Tape"
  | 1 => .object "CassetteTones$BlockReader"
  | 2 => .object "CassetteTones$Pad"
  | 3 => .object "CassetteTones$History"
  | 4 => .object "CassetteTones$Slot"
  | 5 => .object "CassetteTones$Slot"
  | _ => .array .int
abbrev wsX60 : List Cond := u_ws RX6 TX6 7
theorem nmX6 : ∀ a, a < 7 → ∀ b, b < 7 → a ≠ b → (TX6 a).2.1 ≠ (TX6 b).2.1 := by decide +kernel
theorem tyX6_ok : ∀ k, k < 7 → parseFieldDescriptor (TX6 k).2.2.1 = some (tyX6 k) := by decide +kernel
abbrev cX6_init : ByteArray := prog_1_method_1_code
def yX6_init : MethodName := ⟨RX6, "<init>", "()V"⟩
abbrev cX6_set : ByteArray := prog_1_method_2_code
def yX6_set : MethodName := ⟨RX6, "set", "(II)I"⟩
abbrev cX6_write : ByteArray := prog_1_method_3_code
def yX6_write : MethodName := ⟨RX6, "write", "(IIIJ)I"⟩
abbrev cX6_wipeLast : ByteArray := prog_1_method_4_code
def yX6_wipeLast : MethodName := ⟨RX6, "wipeLast", "()I"⟩
abbrev cX6_fade : ByteArray := prog_1_method_5_code
def yX6_fade : MethodName := ⟨RX6, "fade", "(III)I"⟩
abbrev cX6_spoil : ByteArray := prog_1_method_6_code
def yX6_spoil : MethodName := ⟨RX6, "spoil", "(I)I"⟩
abbrev cX6_of : ByteArray := prog_1_method_7_code
def yX6_of : MethodName := ⟨RX6, "of", "(II)I"⟩
abbrev cX6_load : ByteArray := prog_1_method_8_code
def yX6_load : MethodName := ⟨RX6, "load", "(I)J"⟩
abbrev cX6_read : ByteArray := prog_1_method_9_code
def yX6_read : MethodName := ⟨RX6, "read", "(III)I"⟩
abbrev cX6_cell : ByteArray := prog_1_method_10_code
def yX6_cell : MethodName := ⟨RX6, "cell", "(II)I"⟩
abbrev cX6_count : ByteArray := prog_1_method_11_code
def yX6_count : MethodName := ⟨RX6, "count", "(I)I"⟩
abbrev cX6_reached : ByteArray := prog_1_method_12_code
def yX6_reached : MethodName := ⟨RX6, "reached", "()I"⟩
abbrev cX6_near : ByteArray := prog_1_method_13_code
def yX6_near : MethodName := ⟨RX6, "near", "(II)I"⟩
abbrev cX6_mostLeast : ByteArray := prog_1_method_14_code
def yX6_mostLeast : MethodName := ⟨RX6, "mostLeast", "(I)I"⟩
abbrev cX6_weak : ByteArray := prog_1_method_15_code
def yX6_weak : MethodName := ⟨RX6, "weak", "(II)I"⟩
abbrev cX6_widest : ByteArray := prog_1_method_16_code
def yX6_widest : MethodName := ⟨RX6, "widest", "(I)I"⟩
abbrev cX6_valueAt : ByteArray := prog_1_method_24_code
def yX6_valueAt : MethodName := ⟨RX6, "valueAt", "([II)I"⟩
abbrev cX6_setValue : ByteArray := prog_1_method_25_code
def yX6_setValue : MethodName := ⟨RX6, "setValue", "([III)V"⟩
abbrev cX6_mostOf : ByteArray := prog_1_method_27_code
def yX6_mostOf : MethodName := ⟨RX6, "mostOf", "(I)I"⟩
abbrev cX6_holds : ByteArray := prog_1_method_28_code
def yX6_holds : MethodName := ⟨RX6, "holds", "(II)Z"⟩
abbrev cX6_stateOfTelling : ByteArray := prog_1_method_29_code
def yX6_stateOfTelling : MethodName := ⟨RX6, "stateOfTelling", "(II)I"⟩
abbrev cX6_wayOfLoading : ByteArray := prog_1_method_30_code
def yX6_wayOfLoading : MethodName := ⟨RX6, "wayOfLoading", "(I)I"⟩
abbrev cX6_loadedBlocks : ByteArray := prog_1_method_31_code
def yX6_loadedBlocks : MethodName := ⟨RX6, "loadedBlocks", "(Z)I"⟩
abbrev cX6_countBelow : ByteArray := prog_1_method_32_code
def yX6_countBelow : MethodName := ⟨RX6, "countBelow", "(I)V"⟩
def RX7 : String := "CassetteTonesModel"
def TX7 : u_T := fun k => match k with
  | _ => ("", "", "", false)
def tyX7 : Nat → FieldType := fun k => match k with
  | _ => .int
abbrev wsX70 : List Cond := u_ws RX7 TX7 0
theorem nmX7 : ∀ a, a < 0 → ∀ b, b < 0 → a ≠ b → (TX7 a).2.1 ≠ (TX7 b).2.1 := by decide +kernel
theorem tyX7_ok : ∀ k, k < 0 → parseFieldDescriptor (TX7 k).2.2.1 = some (tyX7 k) := by decide +kernel
def RJ6 : String := "java/lang/Integer"
def TJ6 : u_T := fun k => match k with
  | _ => ("", "", "", false)
def tyJ6 : Nat → FieldType := fun k => match k with
  | _ => .int
abbrev wsJ60 : List Cond := u_ws RJ6 TJ6 0
theorem nmJ6 : ∀ a, a < 0 → ∀ b, b < 0 → a ≠ b → (TJ6 a).2.1 ≠ (TJ6 b).2.1 := by decide +kernel
theorem tyJ6_ok : ∀ k, k < 0 → parseFieldDescriptor (TJ6 k).2.2.1 = some (tyJ6 k) := by decide +kernel
abbrev cJ6_bitCount_0f7a4 : ByteArray := prog_10_method_49_code
def yJ6_bitCount_0f7a4 : MethodName := ⟨RJ6, "bitCount", "(I)I"⟩
def RJ9 : String := "java/lang/Math"
def TJ9 : u_T := fun k => match k with
  | _ => ("", "", "", false)
def tyJ9 : Nat → FieldType := fun k => match k with
  | _ => .int
abbrev wsJ90 : List Cond := u_ws RJ9 TJ9 0
theorem nmJ9 : ∀ a, a < 0 → ∀ b, b < 0 → a ≠ b → (TJ9 a).2.1 ≠ (TJ9 b).2.1 := by decide +kernel
theorem tyJ9_ok : ∀ k, k < 0 → parseFieldDescriptor (TJ9 k).2.2.1 = some (tyJ9 k) := by decide +kernel
abbrev cJ9_floorMod_7cf53 : ByteArray := prog_11_method_50_code
def yJ9_floorMod_7cf53 : MethodName := ⟨RJ9, "floorMod", "(II)I"⟩
abbrev cJ9_abs_0f7a4 : ByteArray := prog_11_method_59_code
def yJ9_abs_0f7a4 : MethodName := ⟨RJ9, "abs", "(I)I"⟩
abbrev cJ9_max_7cf53 : ByteArray := prog_11_method_65_code
def yJ9_max_7cf53 : MethodName := ⟨RJ9, "max", "(II)I"⟩
abbrev cJ9_min_7cf53 : ByteArray := prog_11_method_69_code
def yJ9_min_7cf53 : MethodName := ⟨RJ9, "min", "(II)I"⟩
def RJ10 : String := "java/lang/System"
def TJ10 : u_T := fun k => match k with
  | _ => ("", "", "", false)
def tyJ10 : Nat → FieldType := fun k => match k with
  | _ => .int
abbrev wsJ100 : List Cond := u_ws RJ10 TJ10 0
theorem nmJ10 : ∀ a, a < 0 → ∀ b, b < 0 → a ≠ b → (TJ10 a).2.1 ≠ (TJ10 b).2.1 := by decide +kernel
theorem tyJ10_ok : ∀ k, k < 0 → parseFieldDescriptor (TJ10 k).2.2.1 = some (tyJ10 k) := by decide +kernel
def RL : String := "CassetteTonesLaw"
abbrev cL_cell : ByteArray := method_2_code
def yL_cell : MethodName := ⟨RL, "cell", "([II)I"⟩
abbrev cL_low : ByteArray := method_3_code
def yL_low : MethodName := ⟨RL, "low", "(II)I"⟩
abbrev cL_mem : ByteArray := method_4_code
def yL_mem : MethodName := ⟨RL, "mem", "(I[J)I"⟩
abbrev cL_lay : ByteArray := method_5_code
def yL_lay : MethodName := ⟨RL, "lay", "(II[J)V"⟩
abbrev cL_odd : ByteArray := method_6_code
def yL_odd : MethodName := ⟨RL, "odd", "(I)I"⟩
abbrev cL_size : ByteArray := method_7_code
def yL_size : MethodName := ⟨RL, "size", "(I[I)I"⟩
abbrev cL_sum : ByteArray := method_8_code
def yL_sum : MethodName := ⟨RL, "sum", "(I[I)I"⟩
abbrev cL_nine : ByteArray := method_9_code
def yL_nine : MethodName := ⟨RL, "nine", "(III[I[J)I"⟩
abbrev cL_byteOf : ByteArray := method_10_code
def yL_byteOf : MethodName := ⟨RL, "byteOf", "(IIII[I[J)I"⟩
abbrev cL_lost : ByteArray := method_11_code
def yL_lost : MethodName := ⟨RL, "lost", "(III[I[J)Z"⟩
abbrev cL_how : ByteArray := method_12_code
def yL_how : MethodName := ⟨RL, "how", "(III[I[J)I"⟩
abbrev cL_load : ByteArray := method_13_code
def yL_load : MethodName := ⟨RL, "load", "(II[I[J)J"⟩
abbrev cL_counter : ByteArray := method_14_code
def yL_counter : MethodName := ⟨RL, "counter", "(I[I)I"⟩
abbrev cL_far : ByteArray := method_15_code
def yL_far : MethodName := ⟨RL, "far", "(II[I[I)I"⟩
abbrev cL_same : ByteArray := method_16_code
def yL_same : MethodName := ⟨RL, "same", "(LCassetteTones;I[I[I[J)Z"⟩
abbrev cL_law : ByteArray := code
def yL_law : MethodName := ⟨RL, "law", "([I)Z"⟩
def wsX5_init : List Cond := .code yX5_init cX5_init 1 none :: ([.methodLink RX5 3 objectInit, .instanceMethod objectInit, .code objectInit ⟨#[0xb1]⟩ 1 none, .arrayClass .int, .fieldLink RX5 9 "CassetteTones$Telling" "values" "[I", .fieldLink RX5 15 "CassetteTones$Telling" "wholeUpTo" "[I"] ++ wsX50)
def wsX0_init : List Cond := .code yX0_init cX0_init 1 none :: ([.methodLink RX0 3 objectInit, .instanceMethod objectInit, .code objectInit ⟨#[0xb1]⟩ 1 none, .classLink RX0 9 RX5, .instantiable RX5 4, .initialized RX5, .fieldLink RX0 12 "CassetteTones$BlockReader" "first" "LCassetteTones$Telling;", .fieldLink RX0 18 "CassetteTones$BlockReader" "second" "LCassetteTones$Telling;", .instanceMethod yX5_init, .code yX5_init cX5_init 1 none, .methodLink RX5 3 objectInit, .arrayClass .int, .fieldLink RX5 9 "CassetteTones$Telling" "values" "[I", .fieldLink RX5 15 "CassetteTones$Telling" "wholeUpTo" "[I"] ++ wsX50 ++ wsX00)
def wsX0_telling : List Cond := .code yX0_telling cX0_telling 2 (some (.object "CassetteTones$Telling")) :: ([.fieldLink RX0 12 "CassetteTones$BlockReader" "first" "LCassetteTones$Telling;", .fieldLink RX0 18 "CassetteTones$BlockReader" "second" "LCassetteTones$Telling;"] ++ wsX00)
def wsX6_valueAt : List Cond := .code yX6_valueAt cX6_valueAt 2 (some .int) :: ([])
def wsX4_firstOf : List Cond := .code yX4_firstOf cX4_firstOf 2 (some .int) :: ([.fieldLink RX4 24 "CassetteTones$Tape" "firsts" "[I", .static yX6_valueAt, .initialized RX6, .code yX6_valueAt cX6_valueAt 2 (some .int)] ++ wsX40)
def wsX5_readLeader : List Cond := .code yX5_readLeader cX5_readLeader 7 none :: ([.methodLink RX5 39 Lib.Math.min.name, .static Lib.Math.min.name, .initialized "java/lang/Math", .code Lib.Math.min.name Lib.Math.min.code 2 (some .int), .methodLink RX5 45 Lib.Math.max.name, .static Lib.Math.max.name, .code Lib.Math.max.name Lib.Math.max.code 2 (some .int), .fieldLink RX5 48 "CassetteTones$Telling" "leaderHeard" "I", .static yX6_valueAt, .initialized RX6, .code yX6_valueAt cX6_valueAt 2 (some .int)] ++ wsX40 ++ wsX50)
def wsX4_toldAt : List Cond := .code yX4_toldAt cX4_toldAt 2 (some .int) :: ([.fieldLink RX4 33 "CassetteTones$Tape" "written" "[I", .fieldLink RX4 30 "CassetteTones$Tape" "bad" "[I", .static yX6_valueAt, .initialized RX6, .code yX6_valueAt cX6_valueAt 2 (some .int)] ++ wsX40)
def wsX6_setValue : List Cond := .code yX6_setValue cX6_setValue 3 none :: ([])
def wsX5_readByte : List Cond := .code yX5_readByte cX5_readByte 9 none :: ([.methodLink RX5 39 Lib.Math.min.name, .static Lib.Math.min.name, .initialized "java/lang/Math", .code Lib.Math.min.name Lib.Math.min.code 2 (some .int), .fieldLink RX5 9 "CassetteTones$Telling" "values" "[I", .fieldLink RX5 15 "CassetteTones$Telling" "wholeUpTo" "[I", .instanceMethod yX4_toldAt, .initialized RX4, .selects RX4 yX4_toldAt yX4_toldAt, .code yX4_toldAt cX4_toldAt 2 (some .int), .fieldLink RX4 33 "CassetteTones$Tape" "written" "[I", .fieldLink RX4 30 "CassetteTones$Tape" "bad" "[I", .static yX6_valueAt, .initialized RX6, .code yX6_valueAt cX6_valueAt 2 (some .int), .static yX6_setValue, .code yX6_setValue cX6_setValue 3 none] ++ wsX40 ++ wsX50)
def wsX5_readCells_r1 : List Cond := [Cond.fieldLink RX5 18 "CassetteTones$Telling" "many" "I", Cond.methodLink RX5 22 yX5_readLeader, Cond.instanceMethod yX5_readLeader, Cond.selects RX5 yX5_readLeader yX5_readLeader, Cond.initialized RX5, Cond.code yX5_readLeader cX5_readLeader 7 none, Cond.methodLink RX5 39 Lib.Math.min.name, Cond.static Lib.Math.min.name, Cond.initialized "java/lang/Math", Cond.code Lib.Math.min.name Lib.Math.min.code 2 (some .int), Cond.methodLink RX5 45 Lib.Math.max.name, Cond.static Lib.Math.max.name, Cond.code Lib.Math.max.name Lib.Math.max.code 2 (some .int), Cond.fieldLink RX5 48 "CassetteTones$Telling" "leaderHeard" "I", Cond.static yX6_valueAt, Cond.initialized RX6, Cond.code yX6_valueAt cX6_valueAt 2 (some .int), Cond.methodLink RX5 26 yX5_readByte, Cond.instanceMethod yX5_readByte, Cond.selects RX5 yX5_readByte yX5_readByte, Cond.code yX5_readByte cX5_readByte 9 none, Cond.fieldLink RX5 9 "CassetteTones$Telling" "values" "[I", Cond.fieldLink RX5 15 "CassetteTones$Telling" "wholeUpTo" "[I", Cond.instanceMethod yX4_toldAt]
def wsX5_readCells_r2 : List Cond := [Cond.initialized RX4, Cond.selects RX4 yX4_toldAt yX4_toldAt, Cond.code yX4_toldAt cX4_toldAt 2 (some .int), Cond.fieldLink RX4 33 "CassetteTones$Tape" "written" "[I", Cond.fieldLink RX4 30 "CassetteTones$Tape" "bad" "[I", Cond.static yX6_setValue, Cond.code yX6_setValue cX6_setValue 3 none]
def wsX5_readCells : List Cond := .code yX5_readCells cX5_readCells 5 none :: ((wsX5_readCells_r1 ++ wsX5_readCells_r2) ++ wsX50 ++ wsX40)
def wsX4_tellingCells : List Cond := .code yX4_tellingCells cX4_tellingCells 2 (some .int) :: ([.fieldLink RX4 21 "CassetteTones$Tape" "manys" "[I", .static yX6_valueAt, .initialized RX6, .code yX6_valueAt cX6_valueAt 2 (some .int)] ++ wsX40)
def wsX0_readBlock_r1 : List Cond := [Cond.fieldLink RX0 12 "CassetteTones$BlockReader" "first" "LCassetteTones$Telling;", Cond.fieldLink RX0 18 "CassetteTones$BlockReader" "second" "LCassetteTones$Telling;", Cond.instanceMethod yX4_firstOf, Cond.initialized RX4, Cond.selects RX4 yX4_firstOf yX4_firstOf, Cond.code yX4_firstOf cX4_firstOf 2 (some .int), Cond.fieldLink RX4 24 "CassetteTones$Tape" "firsts" "[I", Cond.static yX6_valueAt, Cond.initialized RX6, Cond.code yX6_valueAt cX6_valueAt 2 (some .int), Cond.instanceMethod yX5_readCells, Cond.initialized RX5, Cond.selects RX5 yX5_readCells yX5_readCells, Cond.code yX5_readCells cX5_readCells 5 none, Cond.fieldLink RX5 18 "CassetteTones$Telling" "many" "I", Cond.methodLink RX5 22 yX5_readLeader, Cond.instanceMethod yX5_readLeader, Cond.selects RX5 yX5_readLeader yX5_readLeader, Cond.code yX5_readLeader cX5_readLeader 7 none, Cond.methodLink RX5 39 Lib.Math.min.name, Cond.static Lib.Math.min.name, Cond.initialized "java/lang/Math", Cond.code Lib.Math.min.name Lib.Math.min.code 2 (some .int), Cond.methodLink RX5 45 Lib.Math.max.name]
def wsX0_readBlock_r2 : List Cond := [Cond.static Lib.Math.max.name, Cond.code Lib.Math.max.name Lib.Math.max.code 2 (some .int), Cond.fieldLink RX5 48 "CassetteTones$Telling" "leaderHeard" "I", Cond.methodLink RX5 26 yX5_readByte, Cond.instanceMethod yX5_readByte, Cond.selects RX5 yX5_readByte yX5_readByte, Cond.code yX5_readByte cX5_readByte 9 none, Cond.fieldLink RX5 9 "CassetteTones$Telling" "values" "[I", Cond.fieldLink RX5 15 "CassetteTones$Telling" "wholeUpTo" "[I", Cond.instanceMethod yX4_toldAt, Cond.selects RX4 yX4_toldAt yX4_toldAt, Cond.code yX4_toldAt cX4_toldAt 2 (some .int), Cond.fieldLink RX4 33 "CassetteTones$Tape" "written" "[I", Cond.fieldLink RX4 30 "CassetteTones$Tape" "bad" "[I", Cond.static yX6_setValue, Cond.code yX6_setValue cX6_setValue 3 none, Cond.instanceMethod yX4_tellingCells, Cond.selects RX4 yX4_tellingCells yX4_tellingCells, Cond.code yX4_tellingCells cX4_tellingCells 2 (some .int), Cond.fieldLink RX4 21 "CassetteTones$Tape" "manys" "[I"]
def wsX0_readBlock : List Cond := .code yX0_readBlock cX0_readBlock 5 none :: ((wsX0_readBlock_r1 ++ wsX0_readBlock_r2) ++ wsX40 ++ wsX00 ++ wsX50)
def wsX5_isLost : List Cond := .code yX5_isLost cX5_isLost 2 (some .boolean) :: ([.fieldLink RX5 48 "CassetteTones$Telling" "leaderHeard" "I"] ++ wsX50)
def wsX5_isByteWhole : List Cond := .code yX5_isByteWhole cX5_isByteWhole 3 (some .boolean) :: ([.fieldLink RX5 15 "CassetteTones$Telling" "wholeUpTo" "[I", .static yX6_valueAt, .initialized RX6, .code yX6_valueAt cX6_valueAt 2 (some .int)] ++ wsX50)
def wsX5_tellsSum : List Cond := .code yX5_tellsSum cX5_tellsSum 3 (some .boolean) :: ([.fieldLink RX5 18 "CassetteTones$Telling" "many" "I", .fieldLink RX5 9 "CassetteTones$Telling" "values" "[I", .methodLink RX5 59 yX5_isByteWhole, .instanceMethod yX5_isByteWhole, .selects RX5 yX5_isByteWhole yX5_isByteWhole, .initialized RX5, .code yX5_isByteWhole cX5_isByteWhole 3 (some .boolean), .fieldLink RX5 15 "CassetteTones$Telling" "wholeUpTo" "[I", .static yX6_valueAt, .initialized RX6, .code yX6_valueAt cX6_valueAt 2 (some .int)] ++ wsX50)
def wsX5_stateBy : List Cond := .code yX5_stateBy cX5_stateBy 4 (some .int) :: ([.fieldLink RX5 18 "CassetteTones$Telling" "many" "I", .fieldLink RX5 9 "CassetteTones$Telling" "values" "[I", .methodLink RX5 63 yX5_isLost, .instanceMethod yX5_isLost, .selects RX5 yX5_isLost yX5_isLost, .initialized RX5, .code yX5_isLost cX5_isLost 2 (some .boolean), .fieldLink RX5 48 "CassetteTones$Telling" "leaderHeard" "I", .methodLink RX5 59 yX5_isByteWhole, .instanceMethod yX5_isByteWhole, .selects RX5 yX5_isByteWhole yX5_isByteWhole, .code yX5_isByteWhole cX5_isByteWhole 3 (some .boolean), .fieldLink RX5 15 "CassetteTones$Telling" "wholeUpTo" "[I", .static yX6_valueAt, .initialized RX6, .code yX6_valueAt cX6_valueAt 2 (some .int), .methodLink RX5 67 yX5_tellsSum, .instanceMethod yX5_tellsSum, .selects RX5 yX5_tellsSum yX5_tellsSum, .code yX5_tellsSum cX5_tellsSum 3 (some .boolean)] ++ wsX50)
def wsX0_byteTogether : List Cond := .code yX0_byteTogether cX0_byteTogether 3 (some .int) :: ([.fieldLink RX0 12 "CassetteTones$BlockReader" "first" "LCassetteTones$Telling;", .fieldLink RX0 18 "CassetteTones$BlockReader" "second" "LCassetteTones$Telling;", .instanceMethod yX5_isByteWhole, .initialized RX5, .selects RX5 yX5_isByteWhole yX5_isByteWhole, .code yX5_isByteWhole cX5_isByteWhole 3 (some .boolean), .fieldLink RX5 15 "CassetteTones$Telling" "wholeUpTo" "[I", .static yX6_valueAt, .initialized RX6, .code yX6_valueAt cX6_valueAt 2 (some .int)] ++ wsX00 ++ wsX50)
def wsX0_isWholeTogether_r1 : List Cond := [Cond.fieldLink RX0 12 "CassetteTones$BlockReader" "first" "LCassetteTones$Telling;", Cond.fieldLink RX0 18 "CassetteTones$BlockReader" "second" "LCassetteTones$Telling;", Cond.instanceMethod yX5_isLost, Cond.initialized RX5, Cond.selects RX5 yX5_isLost yX5_isLost, Cond.code yX5_isLost cX5_isLost 2 (some .boolean), Cond.fieldLink RX5 48 "CassetteTones$Telling" "leaderHeard" "I", Cond.methodLink RX0 56 yX0_byteTogether, Cond.instanceMethod yX0_byteTogether, Cond.selects RX0 yX0_byteTogether yX0_byteTogether, Cond.initialized RX0, Cond.code yX0_byteTogether cX0_byteTogether 3 (some .int), Cond.instanceMethod yX5_isByteWhole, Cond.selects RX5 yX5_isByteWhole yX5_isByteWhole, Cond.code yX5_isByteWhole cX5_isByteWhole 3 (some .boolean), Cond.fieldLink RX5 15 "CassetteTones$Telling" "wholeUpTo" "[I", Cond.static yX6_valueAt, Cond.initialized RX6, Cond.code yX6_valueAt cX6_valueAt 2 (some .int), Cond.instanceMethod yX5_tellsSum, Cond.selects RX5 yX5_tellsSum yX5_tellsSum, Cond.code yX5_tellsSum cX5_tellsSum 3 (some .boolean), Cond.fieldLink RX5 18 "CassetteTones$Telling" "many" "I", Cond.fieldLink RX5 9 "CassetteTones$Telling" "values" "[I"]
def wsX0_isWholeTogether_r2 : List Cond := [Cond.methodLink RX5 59 yX5_isByteWhole]
def wsX0_isWholeTogether : List Cond := .code yX0_isWholeTogether cX0_isWholeTogether 5 (some .boolean) :: ((wsX0_isWholeTogether_r1 ++ wsX0_isWholeTogether_r2) ++ wsX00 ++ wsX50)
def wsX0_wayBy_r1 : List Cond := [Cond.fieldLink RX0 12 "CassetteTones$BlockReader" "first" "LCassetteTones$Telling;", Cond.fieldLink RX0 18 "CassetteTones$BlockReader" "second" "LCassetteTones$Telling;", Cond.instanceMethod yX5_stateBy, Cond.initialized RX5, Cond.selects RX5 yX5_stateBy yX5_stateBy, Cond.code yX5_stateBy cX5_stateBy 4 (some .int), Cond.fieldLink RX5 18 "CassetteTones$Telling" "many" "I", Cond.fieldLink RX5 9 "CassetteTones$Telling" "values" "[I", Cond.methodLink RX5 63 yX5_isLost, Cond.instanceMethod yX5_isLost, Cond.selects RX5 yX5_isLost yX5_isLost, Cond.code yX5_isLost cX5_isLost 2 (some .boolean), Cond.fieldLink RX5 48 "CassetteTones$Telling" "leaderHeard" "I", Cond.methodLink RX5 59 yX5_isByteWhole, Cond.instanceMethod yX5_isByteWhole, Cond.selects RX5 yX5_isByteWhole yX5_isByteWhole, Cond.code yX5_isByteWhole cX5_isByteWhole 3 (some .boolean), Cond.fieldLink RX5 15 "CassetteTones$Telling" "wholeUpTo" "[I", Cond.static yX6_valueAt, Cond.initialized RX6, Cond.code yX6_valueAt cX6_valueAt 2 (some .int), Cond.methodLink RX5 67 yX5_tellsSum, Cond.instanceMethod yX5_tellsSum, Cond.selects RX5 yX5_tellsSum yX5_tellsSum]
def wsX0_wayBy_r2 : List Cond := [Cond.code yX5_tellsSum cX5_tellsSum 3 (some .boolean), Cond.methodLink RX0 45 yX0_isWholeTogether, Cond.instanceMethod yX0_isWholeTogether, Cond.selects RX0 yX0_isWholeTogether yX0_isWholeTogether, Cond.initialized RX0, Cond.code yX0_isWholeTogether cX0_isWholeTogether 5 (some .boolean), Cond.methodLink RX0 56 yX0_byteTogether, Cond.instanceMethod yX0_byteTogether, Cond.selects RX0 yX0_byteTogether yX0_byteTogether, Cond.code yX0_byteTogether cX0_byteTogether 3 (some .int)]
def wsX0_wayBy : List Cond := .code yX0_wayBy cX0_wayBy 2 (some .int) :: ((wsX0_wayBy_r1 ++ wsX0_wayBy_r2) ++ wsX00 ++ wsX50)
def wsX0_byteBy : List Cond := .code yX0_byteBy cX0_byteBy 4 (some .int) :: ([.fieldLink RX0 18 "CassetteTones$BlockReader" "second" "LCassetteTones$Telling;", .fieldLink RX0 12 "CassetteTones$BlockReader" "first" "LCassetteTones$Telling;", .static yX6_valueAt, .initialized RX6, .code yX6_valueAt cX6_valueAt 2 (some .int), .methodLink RX0 56 yX0_byteTogether, .instanceMethod yX0_byteTogether, .selects RX0 yX0_byteTogether yX0_byteTogether, .initialized RX0, .code yX0_byteTogether cX0_byteTogether 3 (some .int), .instanceMethod yX5_isByteWhole, .initialized RX5, .selects RX5 yX5_isByteWhole yX5_isByteWhole, .code yX5_isByteWhole cX5_isByteWhole 3 (some .boolean), .fieldLink RX5 15 "CassetteTones$Telling" "wholeUpTo" "[I"] ++ wsX00 ++ wsX50)
def wsX0_bytesBy : List Cond := .code yX0_bytesBy cX0_bytesBy 6 (some .long) :: ([.fieldLink RX0 12 "CassetteTones$BlockReader" "first" "LCassetteTones$Telling;", .methodLink RX0 70 yX0_byteBy, .instanceMethod yX0_byteBy, .selects RX0 yX0_byteBy yX0_byteBy, .initialized RX0, .code yX0_byteBy cX0_byteBy 4 (some .int), .fieldLink RX0 18 "CassetteTones$BlockReader" "second" "LCassetteTones$Telling;", .static yX6_valueAt, .initialized RX6, .code yX6_valueAt cX6_valueAt 2 (some .int), .methodLink RX0 56 yX0_byteTogether, .instanceMethod yX0_byteTogether, .selects RX0 yX0_byteTogether yX0_byteTogether, .code yX0_byteTogether cX0_byteTogether 3 (some .int), .instanceMethod yX5_isByteWhole, .initialized RX5, .selects RX5 yX5_isByteWhole yX5_isByteWhole, .code yX5_isByteWhole cX5_isByteWhole 3 (some .boolean), .fieldLink RX5 15 "CassetteTones$Telling" "wholeUpTo" "[I"] ++ wsX00 ++ wsX50)
def wsX4_init : List Cond := .code yX4_init cX4_init 1 none :: ([.methodLink RX4 3 objectInit, .instanceMethod objectInit, .code objectInit ⟨#[0xb1]⟩ 1 none, .arrayClass .int, .fieldLink RX4 9 "CassetteTones$Tape" "settings" "[I", .fieldLink RX4 15 "CassetteTones$Tape" "names" "[I", .fieldLink RX4 18 "CassetteTones$Tape" "unders" "[I", .fieldLink RX4 21 "CassetteTones$Tape" "manys" "[I", .fieldLink RX4 24 "CassetteTones$Tape" "firsts" "[I", .fieldLink RX4 27 "CassetteTones$Tape" "volumes" "[I", .fieldLink RX4 30 "CassetteTones$Tape" "bad" "[I", .fieldLink RX4 33 "CassetteTones$Tape" "written" "[I"] ++ wsX40)
def wsX1_init : List Cond := .code yX1_init cX1_init 2 none :: ([.methodLink RX1 3 objectInit, .instanceMethod objectInit, .code objectInit ⟨#[0xb1]⟩ 1 none, .classLink RX1 9 RX4, .fieldLink RX1 11 "CassetteTones$History" "states" "[LCassetteTones$Tape;", .instantiable RX4 9, .initialized RX4, .instanceMethod yX4_init, .code yX4_init cX4_init 1 none, .methodLink RX4 3 objectInit, .arrayClass .int, .fieldLink RX4 9 "CassetteTones$Tape" "settings" "[I", .fieldLink RX4 15 "CassetteTones$Tape" "names" "[I", .fieldLink RX4 18 "CassetteTones$Tape" "unders" "[I", .fieldLink RX4 21 "CassetteTones$Tape" "manys" "[I", .fieldLink RX4 24 "CassetteTones$Tape" "firsts" "[I", .fieldLink RX4 27 "CassetteTones$Tape" "volumes" "[I", .fieldLink RX4 30 "CassetteTones$Tape" "bad" "[I", .fieldLink RX4 33 "CassetteTones$Tape" "written" "[I"] ++ wsX10 ++ wsX40)
def wsJ9_floorMod_7cf53 : List Cond := .code yJ9_floorMod_7cf53 cJ9_floorMod_7cf53 3 (some .int) :: ([])
def wsX1_stateAt : List Cond := .code yX1_stateAt cX1_stateAt 3 (some (.object "CassetteTones$Tape")) :: ([.fieldLink RX1 11 "CassetteTones$History" "states" "[LCassetteTones$Tape;", .methodLink RX1 33 yJ9_floorMod_7cf53, .static yJ9_floorMod_7cf53, .initialized RJ9, .code yJ9_floorMod_7cf53 cJ9_floorMod_7cf53 3 (some .int)] ++ wsX10)
def wsX4_cells : List Cond := .code yX4_cells cX4_cells 1 (some .int) :: ([.fieldLink RX4 24 "CassetteTones$Tape" "firsts" "[I", .fieldLink RX4 36 "CassetteTones$Tape" "blocks" "I", .static yX6_valueAt, .initialized RX6, .code yX6_valueAt cX6_valueAt 2 (some .int)] ++ wsX40)
def wsX4_copyFrom_r1 : List Cond := [Cond.fieldLink RX4 36 "CassetteTones$Tape" "blocks" "I", Cond.fieldLink RX4 9 "CassetteTones$Tape" "settings" "[I", Cond.methodLink RX4 40 arraycopyName, Cond.native arraycopyName, Cond.static arraycopyName, Cond.initialized "java/lang/System", Cond.fieldLink RX4 15 "CassetteTones$Tape" "names" "[I", Cond.fieldLink RX4 18 "CassetteTones$Tape" "unders" "[I", Cond.fieldLink RX4 21 "CassetteTones$Tape" "manys" "[I", Cond.fieldLink RX4 24 "CassetteTones$Tape" "firsts" "[I", Cond.methodLink RX4 50 Lib.Math.min.name, Cond.static Lib.Math.min.name, Cond.initialized "java/lang/Math", Cond.code Lib.Math.min.name Lib.Math.min.code 2 (some .int), Cond.methodLink RX4 56 Lib.Math.max.name, Cond.static Lib.Math.max.name, Cond.code Lib.Math.max.name Lib.Math.max.code 2 (some .int), Cond.fieldLink RX4 27 "CassetteTones$Tape" "volumes" "[I", Cond.fieldLink RX4 30 "CassetteTones$Tape" "bad" "[I", Cond.fieldLink RX4 33 "CassetteTones$Tape" "written" "[I", Cond.methodLink RX4 46 yX4_cells, Cond.instanceMethod yX4_cells, Cond.selects RX4 yX4_cells yX4_cells, Cond.initialized RX4]
def wsX4_copyFrom_r2 : List Cond := [Cond.code yX4_cells cX4_cells 1 (some .int), Cond.static yX6_valueAt, Cond.initialized RX6, Cond.code yX6_valueAt cX6_valueAt 2 (some .int)]
def wsX4_copyFrom : List Cond := .code yX4_copyFrom cX4_copyFrom 3 none :: ((wsX4_copyFrom_r1 ++ wsX4_copyFrom_r2) ++ wsX40)
def wsX1_keep_r1 : List Cond := [Cond.fieldLink RX1 18 "CassetteTones$History" "oldest" "I", Cond.fieldLink RX1 22 "CassetteTones$History" "size" "I", Cond.methodLink RX1 25 yX1_stateAt, Cond.instanceMethod yX1_stateAt, Cond.selects RX1 yX1_stateAt yX1_stateAt, Cond.initialized RX1, Cond.code yX1_stateAt cX1_stateAt 3 (some (.object "CassetteTones$Tape")), Cond.fieldLink RX1 11 "CassetteTones$History" "states" "[LCassetteTones$Tape;", Cond.methodLink RX1 33 yJ9_floorMod_7cf53, Cond.static yJ9_floorMod_7cf53, Cond.initialized RJ9, Cond.code yJ9_floorMod_7cf53 cJ9_floorMod_7cf53 3 (some .int), Cond.instanceMethod yX4_copyFrom, Cond.initialized RX4, Cond.selects RX4 yX4_copyFrom yX4_copyFrom, Cond.code yX4_copyFrom cX4_copyFrom 3 none, Cond.fieldLink RX4 36 "CassetteTones$Tape" "blocks" "I", Cond.fieldLink RX4 9 "CassetteTones$Tape" "settings" "[I", Cond.methodLink RX4 40 arraycopyName, Cond.native arraycopyName, Cond.static arraycopyName, Cond.initialized "java/lang/System", Cond.fieldLink RX4 15 "CassetteTones$Tape" "names" "[I", Cond.fieldLink RX4 18 "CassetteTones$Tape" "unders" "[I"]
def wsX1_keep_r2 : List Cond := [Cond.fieldLink RX4 21 "CassetteTones$Tape" "manys" "[I", Cond.fieldLink RX4 24 "CassetteTones$Tape" "firsts" "[I", Cond.methodLink RX4 50 Lib.Math.min.name, Cond.static Lib.Math.min.name, Cond.initialized "java/lang/Math", Cond.code Lib.Math.min.name Lib.Math.min.code 2 (some .int), Cond.methodLink RX4 56 Lib.Math.max.name, Cond.static Lib.Math.max.name, Cond.code Lib.Math.max.name Lib.Math.max.code 2 (some .int), Cond.fieldLink RX4 27 "CassetteTones$Tape" "volumes" "[I", Cond.fieldLink RX4 30 "CassetteTones$Tape" "bad" "[I", Cond.fieldLink RX4 33 "CassetteTones$Tape" "written" "[I", Cond.methodLink RX4 46 yX4_cells, Cond.instanceMethod yX4_cells, Cond.selects RX4 yX4_cells yX4_cells, Cond.code yX4_cells cX4_cells 1 (some .int), Cond.static yX6_valueAt, Cond.initialized RX6, Cond.code yX6_valueAt cX6_valueAt 2 (some .int)]
def wsX1_keep : List Cond := .code yX1_keep cX1_keep 3 none :: ((wsX1_keep_r1 ++ wsX1_keep_r2) ++ wsX10 ++ wsX40)
def wsX2_init : List Cond := .code yX2_init cX2_init 1 none :: ([.methodLink RX2 3 objectInit, .instanceMethod objectInit, .code objectInit ⟨#[0xb1]⟩ 1 none, .arrayClass .char, .fieldLink RX2 9 "CassetteTones$Pad" "characters" "[C"] ++ wsX20)
def wsX3_init : List Cond := .code yX3_init cX3_init 1 none :: ([.methodLink RX3 1 objectInit, .instanceMethod objectInit, .code objectInit ⟨#[0xb1]⟩ 1 none, .classLink RX3 7 RX4, .instantiable RX4 9, .initialized RX4, .fieldLink RX3 10 "CassetteTones$Slot" "saved" "LCassetteTones$Tape;", .instanceMethod yX4_init, .code yX4_init cX4_init 1 none, .methodLink RX4 3 objectInit, .arrayClass .int, .fieldLink RX4 9 "CassetteTones$Tape" "settings" "[I", .fieldLink RX4 15 "CassetteTones$Tape" "names" "[I", .fieldLink RX4 18 "CassetteTones$Tape" "unders" "[I", .fieldLink RX4 21 "CassetteTones$Tape" "manys" "[I", .fieldLink RX4 24 "CassetteTones$Tape" "firsts" "[I", .fieldLink RX4 27 "CassetteTones$Tape" "volumes" "[I", .fieldLink RX4 30 "CassetteTones$Tape" "bad" "[I", .fieldLink RX4 33 "CassetteTones$Tape" "written" "[I"] ++ wsX40 ++ wsX30)
def wsX4_hasBlock : List Cond := .code yX4_hasBlock cX4_hasBlock 2 (some .boolean) :: ([.fieldLink RX4 36 "CassetteTones$Tape" "blocks" "I"] ++ wsX40)
def wsX4_setting : List Cond := .code yX4_setting cX4_setting 2 (some .int) :: ([.fieldLink RX4 9 "CassetteTones$Tape" "settings" "[I", .static yX6_valueAt, .initialized RX6, .code yX6_valueAt cX6_valueAt 2 (some .int)] ++ wsX40)
def wsX4_hasCell : List Cond := .code yX4_hasCell cX4_hasCell 2 (some .boolean) :: ([.methodLink RX4 46 yX4_cells, .instanceMethod yX4_cells, .selects RX4 yX4_cells yX4_cells, .initialized RX4, .code yX4_cells cX4_cells 1 (some .int), .fieldLink RX4 24 "CassetteTones$Tape" "firsts" "[I", .fieldLink RX4 36 "CassetteTones$Tape" "blocks" "I", .static yX6_valueAt, .initialized RX6, .code yX6_valueAt cX6_valueAt 2 (some .int)] ++ wsX40)
def wsX4_errorOfBlock : List Cond := .code yX4_errorOfBlock cX4_errorOfBlock 4 (some .int) :: ([.fieldLink RX4 36 "CassetteTones$Tape" "blocks" "I", .methodLink RX4 63 yX4_hasBlock, .instanceMethod yX4_hasBlock, .selects RX4 yX4_hasBlock yX4_hasBlock, .initialized RX4, .code yX4_hasBlock cX4_hasBlock 2 (some .boolean)] ++ wsX40)
def wsJ6_bitCount_0f7a4 : List Cond := .code yJ6_bitCount_0f7a4 cJ6_bitCount_0f7a4 1 (some .int) :: ([.constant RJ6 265 (1431655765), .constant RJ6 266 (858993459), .constant RJ6 267 (252645135)])
def wsX4_writeByte : List Cond := .code yX4_writeByte cX4_writeByte 4 none :: ([.fieldLink RX4 33 "CassetteTones$Tape" "written" "[I", .static yX6_setValue, .initialized RX6, .code yX6_setValue cX6_setValue 3 none, .methodLink RX4 89 yJ6_bitCount_0f7a4, .static yJ6_bitCount_0f7a4, .initialized RJ6, .code yJ6_bitCount_0f7a4 cJ6_bitCount_0f7a4 1 (some .int), .constant RJ6 265 (1431655765), .constant RJ6 266 (858993459), .constant RJ6 267 (252645135)] ++ wsX40)
def wsX4_writeTelling : List Cond := .code yX4_writeTelling cX4_writeTelling 8 none :: ([.methodLink RX4 85 yX4_writeByte, .instanceMethod yX4_writeByte, .selects RX4 yX4_writeByte yX4_writeByte, .initialized RX4, .code yX4_writeByte cX4_writeByte 4 none, .fieldLink RX4 33 "CassetteTones$Tape" "written" "[I", .static yX6_setValue, .initialized RX6, .code yX6_setValue cX6_setValue 3 none, .methodLink RX4 89 yJ6_bitCount_0f7a4, .static yJ6_bitCount_0f7a4, .initialized RJ6, .code yJ6_bitCount_0f7a4 cJ6_bitCount_0f7a4 1 (some .int), .constant RJ6 265 (1431655765), .constant RJ6 266 (858993459), .constant RJ6 267 (252645135)] ++ wsX40)
def wsX4_appendBlock_r1 : List Cond := [Cond.fieldLink RX4 36 "CassetteTones$Tape" "blocks" "I", Cond.fieldLink RX4 15 "CassetteTones$Tape" "names" "[I", Cond.fieldLink RX4 18 "CassetteTones$Tape" "unders" "[I", Cond.fieldLink RX4 21 "CassetteTones$Tape" "manys" "[I", Cond.fieldLink RX4 27 "CassetteTones$Tape" "volumes" "[I", Cond.fieldLink RX4 30 "CassetteTones$Tape" "bad" "[I", Cond.fieldLink RX4 24 "CassetteTones$Tape" "firsts" "[I", Cond.static yX6_setValue, Cond.initialized RX6, Cond.code yX6_setValue cX6_setValue 3 none, Cond.methodLink RX4 71 yX4_firstOf, Cond.instanceMethod yX4_firstOf, Cond.selects RX4 yX4_firstOf yX4_firstOf, Cond.initialized RX4, Cond.code yX4_firstOf cX4_firstOf 2 (some .int), Cond.static yX6_valueAt, Cond.code yX6_valueAt cX6_valueAt 2 (some .int), Cond.methodLink RX4 75 yX4_tellingCells, Cond.instanceMethod yX4_tellingCells, Cond.selects RX4 yX4_tellingCells yX4_tellingCells, Cond.code yX4_tellingCells cX4_tellingCells 2 (some .int), Cond.methodLink RX4 78 yX4_setting, Cond.instanceMethod yX4_setting, Cond.selects RX4 yX4_setting yX4_setting]
def wsX4_appendBlock_r2 : List Cond := [Cond.code yX4_setting cX4_setting 2 (some .int), Cond.fieldLink RX4 9 "CassetteTones$Tape" "settings" "[I", Cond.methodLink RX4 81 yX4_writeTelling, Cond.instanceMethod yX4_writeTelling, Cond.selects RX4 yX4_writeTelling yX4_writeTelling, Cond.code yX4_writeTelling cX4_writeTelling 8 none, Cond.methodLink RX4 85 yX4_writeByte, Cond.instanceMethod yX4_writeByte, Cond.selects RX4 yX4_writeByte yX4_writeByte, Cond.code yX4_writeByte cX4_writeByte 4 none, Cond.fieldLink RX4 33 "CassetteTones$Tape" "written" "[I", Cond.methodLink RX4 89 yJ6_bitCount_0f7a4, Cond.static yJ6_bitCount_0f7a4, Cond.initialized RJ6, Cond.code yJ6_bitCount_0f7a4 cJ6_bitCount_0f7a4 1 (some .int), Cond.constant RJ6 265 (1431655765), Cond.constant RJ6 266 (858993459), Cond.constant RJ6 267 (252645135)]
def wsX4_appendBlock : List Cond := .code yX4_appendBlock cX4_appendBlock 11 (some .int) :: ((wsX4_appendBlock_r1 ++ wsX4_appendBlock_r2) ++ wsX40)
def wsX4_errorOfFading : List Cond := .code yX4_errorOfFading cX4_errorOfFading 4 (some .int) :: ([.methodLink RX4 94 yX4_hasCell, .instanceMethod yX4_hasCell, .selects RX4 yX4_hasCell yX4_hasCell, .initialized RX4, .code yX4_hasCell cX4_hasCell 2 (some .boolean), .methodLink RX4 46 yX4_cells, .instanceMethod yX4_cells, .selects RX4 yX4_cells yX4_cells, .code yX4_cells cX4_cells 1 (some .int), .fieldLink RX4 24 "CassetteTones$Tape" "firsts" "[I", .fieldLink RX4 36 "CassetteTones$Tape" "blocks" "I", .static yX6_valueAt, .initialized RX6, .code yX6_valueAt cX6_valueAt 2 (some .int)] ++ wsX40)
def wsX4_fadeCells : List Cond := .code yX4_fadeCells cX4_fadeCells 6 (some .int) :: ([.fieldLink RX4 27 "CassetteTones$Tape" "volumes" "[I", .static yX6_valueAt, .initialized RX6, .code yX6_valueAt cX6_valueAt 2 (some .int), .static yX6_setValue, .code yX6_setValue cX6_setValue 3 none] ++ wsX40)
def wsX4_spoilCell : List Cond := .code yX4_spoilCell cX4_spoilCell 3 (some .int) :: ([.fieldLink RX4 30 "CassetteTones$Tape" "bad" "[I", .static yX6_valueAt, .initialized RX6, .code yX6_valueAt cX6_valueAt 2 (some .int), .static yX6_setValue, .code yX6_setValue cX6_setValue 3 none] ++ wsX40)
def wsX4_silentCells : List Cond := .code yX4_silentCells cX4_silentCells 4 (some .int) :: ([.fieldLink RX4 27 "CassetteTones$Tape" "volumes" "[I", .methodLink RX4 46 yX4_cells, .instanceMethod yX4_cells, .selects RX4 yX4_cells yX4_cells, .initialized RX4, .code yX4_cells cX4_cells 1 (some .int), .fieldLink RX4 24 "CassetteTones$Tape" "firsts" "[I", .fieldLink RX4 36 "CassetteTones$Tape" "blocks" "I", .static yX6_valueAt, .initialized RX6, .code yX6_valueAt cX6_valueAt 2 (some .int), .methodLink RX4 78 yX4_setting, .instanceMethod yX4_setting, .selects RX4 yX4_setting yX4_setting, .code yX4_setting cX4_setting 2 (some .int), .fieldLink RX4 9 "CassetteTones$Tape" "settings" "[I"] ++ wsX40)
def wsX4_badCells : List Cond := .code yX4_badCells cX4_badCells 4 (some .int) :: ([.fieldLink RX4 30 "CassetteTones$Tape" "bad" "[I", .methodLink RX4 46 yX4_cells, .instanceMethod yX4_cells, .selects RX4 yX4_cells yX4_cells, .initialized RX4, .code yX4_cells cX4_cells 1 (some .int), .fieldLink RX4 24 "CassetteTones$Tape" "firsts" "[I", .fieldLink RX4 36 "CassetteTones$Tape" "blocks" "I", .static yX6_valueAt, .initialized RX6, .code yX6_valueAt cX6_valueAt 2 (some .int)] ++ wsX40)
def wsX4_blockAt : List Cond := .code yX4_blockAt cX4_blockAt 3 (some .int) :: ([.fieldLink RX4 36 "CassetteTones$Tape" "blocks" "I", .methodLink RX4 71 yX4_firstOf, .instanceMethod yX4_firstOf, .selects RX4 yX4_firstOf yX4_firstOf, .initialized RX4, .code yX4_firstOf cX4_firstOf 2 (some .int), .fieldLink RX4 24 "CassetteTones$Tape" "firsts" "[I", .static yX6_valueAt, .initialized RX6, .code yX6_valueAt cX6_valueAt 2 (some .int)] ++ wsX40)
def wsX4_partAt : List Cond := .code yX4_partAt cX4_partAt 5 (some .int) :: ([.methodLink RX4 97 yX4_blockAt, .instanceMethod yX4_blockAt, .selects RX4 yX4_blockAt yX4_blockAt, .initialized RX4, .code yX4_blockAt cX4_blockAt 3 (some .int), .fieldLink RX4 36 "CassetteTones$Tape" "blocks" "I", .methodLink RX4 71 yX4_firstOf, .instanceMethod yX4_firstOf, .selects RX4 yX4_firstOf yX4_firstOf, .code yX4_firstOf cX4_firstOf 2 (some .int), .fieldLink RX4 24 "CassetteTones$Tape" "firsts" "[I", .static yX6_valueAt, .initialized RX6, .code yX6_valueAt cX6_valueAt 2 (some .int), .methodLink RX4 75 yX4_tellingCells, .instanceMethod yX4_tellingCells, .selects RX4 yX4_tellingCells yX4_tellingCells, .code yX4_tellingCells cX4_tellingCells 2 (some .int), .fieldLink RX4 21 "CassetteTones$Tape" "manys" "[I"] ++ wsX40)
def wsX4_bitAt_r1 : List Cond := [Cond.methodLink RX4 97 yX4_blockAt, Cond.instanceMethod yX4_blockAt, Cond.selects RX4 yX4_blockAt yX4_blockAt, Cond.initialized RX4, Cond.code yX4_blockAt cX4_blockAt 3 (some .int), Cond.fieldLink RX4 36 "CassetteTones$Tape" "blocks" "I", Cond.methodLink RX4 71 yX4_firstOf, Cond.instanceMethod yX4_firstOf, Cond.selects RX4 yX4_firstOf yX4_firstOf, Cond.code yX4_firstOf cX4_firstOf 2 (some .int), Cond.fieldLink RX4 24 "CassetteTones$Tape" "firsts" "[I", Cond.static yX6_valueAt, Cond.initialized RX6, Cond.code yX6_valueAt cX6_valueAt 2 (some .int), Cond.methodLink RX4 100 yX4_partAt, Cond.instanceMethod yX4_partAt, Cond.selects RX4 yX4_partAt yX4_partAt, Cond.code yX4_partAt cX4_partAt 5 (some .int), Cond.methodLink RX4 75 yX4_tellingCells, Cond.instanceMethod yX4_tellingCells, Cond.selects RX4 yX4_tellingCells yX4_tellingCells, Cond.code yX4_tellingCells cX4_tellingCells 2 (some .int), Cond.fieldLink RX4 21 "CassetteTones$Tape" "manys" "[I", Cond.methodLink RX4 103 yX4_toldAt]
def wsX4_bitAt_r2 : List Cond := [Cond.instanceMethod yX4_toldAt, Cond.selects RX4 yX4_toldAt yX4_toldAt, Cond.code yX4_toldAt cX4_toldAt 2 (some .int), Cond.fieldLink RX4 33 "CassetteTones$Tape" "written" "[I", Cond.fieldLink RX4 30 "CassetteTones$Tape" "bad" "[I"]
def wsX4_bitAt : List Cond := .code yX4_bitAt cX4_bitAt 5 (some .int) :: ((wsX4_bitAt_r1 ++ wsX4_bitAt_r2) ++ wsX40)
def wsX4_counterOf : List Cond := .code yX4_counterOf cX4_counterOf 2 (some .int) :: ([.methodLink RX4 78 yX4_setting, .instanceMethod yX4_setting, .selects RX4 yX4_setting yX4_setting, .initialized RX4, .code yX4_setting cX4_setting 2 (some .int), .fieldLink RX4 9 "CassetteTones$Tape" "settings" "[I", .static yX6_valueAt, .initialized RX6, .code yX6_valueAt cX6_valueAt 2 (some .int)] ++ wsX40)
def wsX4_distanceOf_r1 : List Cond := [Cond.methodLink RX4 109 Lib.Math.abs.name, Cond.static Lib.Math.abs.name, Cond.initialized "java/lang/Math", Cond.code Lib.Math.abs.name Lib.Math.abs.code 1 (some .int), Cond.methodLink RX4 50 Lib.Math.min.name, Cond.static Lib.Math.min.name, Cond.code Lib.Math.min.name Lib.Math.min.code 2 (some .int), Cond.methodLink RX4 71 yX4_firstOf, Cond.instanceMethod yX4_firstOf, Cond.selects RX4 yX4_firstOf yX4_firstOf, Cond.initialized RX4, Cond.code yX4_firstOf cX4_firstOf 2 (some .int), Cond.fieldLink RX4 24 "CassetteTones$Tape" "firsts" "[I", Cond.static yX6_valueAt, Cond.initialized RX6, Cond.code yX6_valueAt cX6_valueAt 2 (some .int), Cond.methodLink RX4 106 yX4_counterOf, Cond.instanceMethod yX4_counterOf, Cond.selects RX4 yX4_counterOf yX4_counterOf, Cond.code yX4_counterOf cX4_counterOf 2 (some .int), Cond.methodLink RX4 78 yX4_setting, Cond.instanceMethod yX4_setting, Cond.selects RX4 yX4_setting yX4_setting, Cond.code yX4_setting cX4_setting 2 (some .int)]
def wsX4_distanceOf_r2 : List Cond := [Cond.fieldLink RX4 9 "CassetteTones$Tape" "settings" "[I"]
def wsX4_distanceOf : List Cond := .code yX4_distanceOf cX4_distanceOf 4 (some .int) :: ((wsX4_distanceOf_r1 ++ wsX4_distanceOf_r2) ++ wsX40)
def wsX4_nearerBlocks_r1 : List Cond := [Cond.fieldLink RX4 36 "CassetteTones$Tape" "blocks" "I", Cond.methodLink RX4 112 yX4_distanceOf, Cond.instanceMethod yX4_distanceOf, Cond.selects RX4 yX4_distanceOf yX4_distanceOf, Cond.initialized RX4, Cond.code yX4_distanceOf cX4_distanceOf 4 (some .int), Cond.methodLink RX4 109 Lib.Math.abs.name, Cond.static Lib.Math.abs.name, Cond.initialized "java/lang/Math", Cond.code Lib.Math.abs.name Lib.Math.abs.code 1 (some .int), Cond.methodLink RX4 50 Lib.Math.min.name, Cond.static Lib.Math.min.name, Cond.code Lib.Math.min.name Lib.Math.min.code 2 (some .int), Cond.methodLink RX4 71 yX4_firstOf, Cond.instanceMethod yX4_firstOf, Cond.selects RX4 yX4_firstOf yX4_firstOf, Cond.code yX4_firstOf cX4_firstOf 2 (some .int), Cond.fieldLink RX4 24 "CassetteTones$Tape" "firsts" "[I", Cond.static yX6_valueAt, Cond.initialized RX6, Cond.code yX6_valueAt cX6_valueAt 2 (some .int), Cond.methodLink RX4 106 yX4_counterOf, Cond.instanceMethod yX4_counterOf, Cond.selects RX4 yX4_counterOf yX4_counterOf]
def wsX4_nearerBlocks_r2 : List Cond := [Cond.code yX4_counterOf cX4_counterOf 2 (some .int), Cond.methodLink RX4 78 yX4_setting, Cond.instanceMethod yX4_setting, Cond.selects RX4 yX4_setting yX4_setting, Cond.code yX4_setting cX4_setting 2 (some .int), Cond.fieldLink RX4 9 "CassetteTones$Tape" "settings" "[I"]
def wsX4_nearerBlocks : List Cond := .code yX4_nearerBlocks cX4_nearerBlocks 7 (some .int) :: ((wsX4_nearerBlocks_r1 ++ wsX4_nearerBlocks_r2) ++ wsX40)
def wsX4_depthOf : List Cond := .code yX4_depthOf cX4_depthOf 4 (some .int) :: ([.fieldLink RX4 18 "CassetteTones$Tape" "unders" "[I", .static yX6_valueAt, .initialized RX6, .code yX6_valueAt cX6_valueAt 2 (some .int)] ++ wsX40)
def wsX6_init_r1 : List Cond := [Cond.methodLink RX6 3 objectInit, Cond.instanceMethod objectInit, Cond.code objectInit ⟨#[0xb1]⟩ 1 none, Cond.classLink RX6 9 RX4, Cond.instantiable RX4 9, Cond.initialized RX4, Cond.fieldLink RX6 12 "CassetteTones" "tape" "LCassetteTones$Tape;", Cond.classLink RX6 16 RX0, Cond.instantiable RX0 2, Cond.initialized RX0, Cond.fieldLink RX6 19 "CassetteTones" "reader" "LCassetteTones$BlockReader;", Cond.classLink RX6 23 RX2, Cond.instantiable RX2 11, Cond.initialized RX2, Cond.fieldLink RX6 26 "CassetteTones" "pad" "LCassetteTones$Pad;", Cond.classLink RX6 30 RX1, Cond.instantiable RX1 3, Cond.initialized RX1, Cond.fieldLink RX6 33 "CassetteTones" "history" "LCassetteTones$History;", Cond.classLink RX6 37 RX3, Cond.instantiable RX3 2, Cond.initialized RX3, Cond.fieldLink RX6 40 "CassetteTones" "firstSlot" "LCassetteTones$Slot;", Cond.fieldLink RX6 44 "CassetteTones" "secondSlot" "LCassetteTones$Slot;"]
def wsX6_init_r2 : List Cond := [Cond.arrayClass .int, Cond.fieldLink RX6 47 "CassetteTones" "below" "[I", Cond.instanceMethod yX4_init, Cond.code yX4_init cX4_init 1 none, Cond.methodLink RX4 3 objectInit, Cond.fieldLink RX4 9 "CassetteTones$Tape" "settings" "[I", Cond.fieldLink RX4 15 "CassetteTones$Tape" "names" "[I", Cond.fieldLink RX4 18 "CassetteTones$Tape" "unders" "[I", Cond.fieldLink RX4 21 "CassetteTones$Tape" "manys" "[I", Cond.fieldLink RX4 24 "CassetteTones$Tape" "firsts" "[I", Cond.fieldLink RX4 27 "CassetteTones$Tape" "volumes" "[I", Cond.fieldLink RX4 30 "CassetteTones$Tape" "bad" "[I", Cond.fieldLink RX4 33 "CassetteTones$Tape" "written" "[I", Cond.instanceMethod yX0_init, Cond.code yX0_init cX0_init 1 none, Cond.methodLink RX0 3 objectInit, Cond.classLink RX0 9 RX5, Cond.instantiable RX5 4, Cond.initialized RX5, Cond.fieldLink RX0 12 "CassetteTones$BlockReader" "first" "LCassetteTones$Telling;", Cond.fieldLink RX0 18 "CassetteTones$BlockReader" "second" "LCassetteTones$Telling;", Cond.instanceMethod yX5_init, Cond.code yX5_init cX5_init 1 none, Cond.methodLink RX5 3 objectInit]
def wsX6_init_r3 : List Cond := [Cond.fieldLink RX5 9 "CassetteTones$Telling" "values" "[I", Cond.fieldLink RX5 15 "CassetteTones$Telling" "wholeUpTo" "[I", Cond.instanceMethod yX2_init, Cond.code yX2_init cX2_init 1 none, Cond.methodLink RX2 3 objectInit, Cond.arrayClass .char, Cond.fieldLink RX2 9 "CassetteTones$Pad" "characters" "[C", Cond.instanceMethod yX1_init, Cond.code yX1_init cX1_init 2 none, Cond.methodLink RX1 3 objectInit, Cond.classLink RX1 9 RX4, Cond.fieldLink RX1 11 "CassetteTones$History" "states" "[LCassetteTones$Tape;", Cond.instanceMethod yX3_init, Cond.code yX3_init cX3_init 1 none, Cond.methodLink RX3 1 objectInit, Cond.classLink RX3 7 RX4, Cond.fieldLink RX3 10 "CassetteTones$Slot" "saved" "LCassetteTones$Tape;"]
def wsX6_init : List Cond := .code yX6_init cX6_init 1 none :: ((wsX6_init_r1 ++ (wsX6_init_r2 ++ wsX6_init_r3)) ++ wsX40 ++ wsX60 ++ wsX00 ++ wsX20 ++ wsX10 ++ wsX30 ++ wsX50)
def wsX6_mostOf : List Cond := .code yX6_mostOf cX6_mostOf 1 (some .int) :: ([])
def wsX6_set_r1 : List Cond := [Cond.fieldLink RX6 33 "CassetteTones" "history" "LCassetteTones$History;", Cond.fieldLink RX6 12 "CassetteTones" "tape" "LCassetteTones$Tape;", Cond.methodLink RX6 51 yX6_mostOf, Cond.static yX6_mostOf, Cond.initialized RX6, Cond.code yX6_mostOf cX6_mostOf 1 (some .int), Cond.instanceMethod yX1_keep, Cond.initialized RX1, Cond.selects RX1 yX1_keep yX1_keep, Cond.code yX1_keep cX1_keep 3 none, Cond.fieldLink RX1 18 "CassetteTones$History" "oldest" "I", Cond.fieldLink RX1 22 "CassetteTones$History" "size" "I", Cond.methodLink RX1 25 yX1_stateAt, Cond.instanceMethod yX1_stateAt, Cond.selects RX1 yX1_stateAt yX1_stateAt, Cond.code yX1_stateAt cX1_stateAt 3 (some (.object "CassetteTones$Tape")), Cond.fieldLink RX1 11 "CassetteTones$History" "states" "[LCassetteTones$Tape;", Cond.methodLink RX1 33 yJ9_floorMod_7cf53, Cond.static yJ9_floorMod_7cf53, Cond.initialized RJ9, Cond.code yJ9_floorMod_7cf53 cJ9_floorMod_7cf53 3 (some .int), Cond.instanceMethod yX4_copyFrom, Cond.initialized RX4, Cond.selects RX4 yX4_copyFrom yX4_copyFrom]
def wsX6_set_r2 : List Cond := [Cond.code yX4_copyFrom cX4_copyFrom 3 none, Cond.fieldLink RX4 36 "CassetteTones$Tape" "blocks" "I", Cond.fieldLink RX4 9 "CassetteTones$Tape" "settings" "[I", Cond.methodLink RX4 40 arraycopyName, Cond.native arraycopyName, Cond.static arraycopyName, Cond.initialized "java/lang/System", Cond.fieldLink RX4 15 "CassetteTones$Tape" "names" "[I", Cond.fieldLink RX4 18 "CassetteTones$Tape" "unders" "[I", Cond.fieldLink RX4 21 "CassetteTones$Tape" "manys" "[I", Cond.fieldLink RX4 24 "CassetteTones$Tape" "firsts" "[I", Cond.methodLink RX4 50 Lib.Math.min.name, Cond.static Lib.Math.min.name, Cond.initialized "java/lang/Math", Cond.code Lib.Math.min.name Lib.Math.min.code 2 (some .int), Cond.methodLink RX4 56 Lib.Math.max.name, Cond.static Lib.Math.max.name, Cond.code Lib.Math.max.name Lib.Math.max.code 2 (some .int), Cond.fieldLink RX4 27 "CassetteTones$Tape" "volumes" "[I", Cond.fieldLink RX4 30 "CassetteTones$Tape" "bad" "[I", Cond.fieldLink RX4 33 "CassetteTones$Tape" "written" "[I", Cond.methodLink RX4 46 yX4_cells, Cond.instanceMethod yX4_cells, Cond.selects RX4 yX4_cells yX4_cells]
def wsX6_set_r3 : List Cond := [Cond.code yX4_cells cX4_cells 1 (some .int), Cond.static yX6_valueAt, Cond.code yX6_valueAt cX6_valueAt 2 (some .int), Cond.instanceMethod yX4_setting, Cond.selects RX4 yX4_setting yX4_setting, Cond.code yX4_setting cX4_setting 2 (some .int), Cond.methodLink RX6 65 yX6_setValue, Cond.static yX6_setValue, Cond.code yX6_setValue cX6_setValue 3 none]
def wsX6_set : List Cond := .code yX6_set cX6_set 4 (some .int) :: ((wsX6_set_r1 ++ (wsX6_set_r2 ++ wsX6_set_r3)) ++ wsX60 ++ wsX40 ++ wsX10)
def wsX6_write_r1 : List Cond := [Cond.fieldLink RX6 12 "CassetteTones" "tape" "LCassetteTones$Tape;", Cond.fieldLink RX6 33 "CassetteTones" "history" "LCassetteTones$History;", Cond.instanceMethod yX4_errorOfBlock, Cond.initialized RX4, Cond.selects RX4 yX4_errorOfBlock yX4_errorOfBlock, Cond.code yX4_errorOfBlock cX4_errorOfBlock 4 (some .int), Cond.fieldLink RX4 36 "CassetteTones$Tape" "blocks" "I", Cond.methodLink RX4 63 yX4_hasBlock, Cond.instanceMethod yX4_hasBlock, Cond.selects RX4 yX4_hasBlock yX4_hasBlock, Cond.code yX4_hasBlock cX4_hasBlock 2 (some .boolean), Cond.instanceMethod yX1_keep, Cond.initialized RX1, Cond.selects RX1 yX1_keep yX1_keep, Cond.code yX1_keep cX1_keep 3 none, Cond.fieldLink RX1 18 "CassetteTones$History" "oldest" "I", Cond.fieldLink RX1 22 "CassetteTones$History" "size" "I", Cond.methodLink RX1 25 yX1_stateAt, Cond.instanceMethod yX1_stateAt, Cond.selects RX1 yX1_stateAt yX1_stateAt, Cond.code yX1_stateAt cX1_stateAt 3 (some (.object "CassetteTones$Tape")), Cond.fieldLink RX1 11 "CassetteTones$History" "states" "[LCassetteTones$Tape;", Cond.methodLink RX1 33 yJ9_floorMod_7cf53, Cond.static yJ9_floorMod_7cf53]
def wsX6_write_r2 : List Cond := [Cond.initialized RJ9, Cond.code yJ9_floorMod_7cf53 cJ9_floorMod_7cf53 3 (some .int), Cond.instanceMethod yX4_copyFrom, Cond.selects RX4 yX4_copyFrom yX4_copyFrom, Cond.code yX4_copyFrom cX4_copyFrom 3 none, Cond.fieldLink RX4 9 "CassetteTones$Tape" "settings" "[I", Cond.methodLink RX4 40 arraycopyName, Cond.native arraycopyName, Cond.static arraycopyName, Cond.initialized "java/lang/System", Cond.fieldLink RX4 15 "CassetteTones$Tape" "names" "[I", Cond.fieldLink RX4 18 "CassetteTones$Tape" "unders" "[I", Cond.fieldLink RX4 21 "CassetteTones$Tape" "manys" "[I", Cond.fieldLink RX4 24 "CassetteTones$Tape" "firsts" "[I", Cond.methodLink RX4 50 Lib.Math.min.name, Cond.static Lib.Math.min.name, Cond.initialized "java/lang/Math", Cond.code Lib.Math.min.name Lib.Math.min.code 2 (some .int), Cond.methodLink RX4 56 Lib.Math.max.name, Cond.static Lib.Math.max.name, Cond.code Lib.Math.max.name Lib.Math.max.code 2 (some .int), Cond.fieldLink RX4 27 "CassetteTones$Tape" "volumes" "[I", Cond.fieldLink RX4 30 "CassetteTones$Tape" "bad" "[I", Cond.fieldLink RX4 33 "CassetteTones$Tape" "written" "[I"]
def wsX6_write_r3 : List Cond := [Cond.methodLink RX4 46 yX4_cells, Cond.instanceMethod yX4_cells, Cond.selects RX4 yX4_cells yX4_cells, Cond.code yX4_cells cX4_cells 1 (some .int), Cond.static yX6_valueAt, Cond.initialized RX6, Cond.code yX6_valueAt cX6_valueAt 2 (some .int), Cond.instanceMethod yX4_appendBlock, Cond.selects RX4 yX4_appendBlock yX4_appendBlock, Cond.code yX4_appendBlock cX4_appendBlock 11 (some .int), Cond.static yX6_setValue, Cond.code yX6_setValue cX6_setValue 3 none, Cond.methodLink RX4 71 yX4_firstOf, Cond.instanceMethod yX4_firstOf, Cond.selects RX4 yX4_firstOf yX4_firstOf, Cond.code yX4_firstOf cX4_firstOf 2 (some .int), Cond.methodLink RX4 75 yX4_tellingCells, Cond.instanceMethod yX4_tellingCells, Cond.selects RX4 yX4_tellingCells yX4_tellingCells, Cond.code yX4_tellingCells cX4_tellingCells 2 (some .int), Cond.methodLink RX4 78 yX4_setting, Cond.instanceMethod yX4_setting, Cond.selects RX4 yX4_setting yX4_setting, Cond.code yX4_setting cX4_setting 2 (some .int)]
def wsX6_write_r4 : List Cond := [Cond.methodLink RX4 81 yX4_writeTelling, Cond.instanceMethod yX4_writeTelling, Cond.selects RX4 yX4_writeTelling yX4_writeTelling, Cond.code yX4_writeTelling cX4_writeTelling 8 none, Cond.methodLink RX4 85 yX4_writeByte, Cond.instanceMethod yX4_writeByte, Cond.selects RX4 yX4_writeByte yX4_writeByte, Cond.code yX4_writeByte cX4_writeByte 4 none, Cond.methodLink RX4 89 yJ6_bitCount_0f7a4, Cond.static yJ6_bitCount_0f7a4, Cond.initialized RJ6, Cond.code yJ6_bitCount_0f7a4 cJ6_bitCount_0f7a4 1 (some .int), Cond.constant RJ6 265 (1431655765), Cond.constant RJ6 266 (858993459), Cond.constant RJ6 267 (252645135)]
def wsX6_write : List Cond := .code yX6_write cX6_write 7 (some .int) :: ((wsX6_write_r1 ++ (wsX6_write_r2 ++ (wsX6_write_r3 ++ wsX6_write_r4))) ++ wsX60 ++ wsX40 ++ wsX10)
def wsX6_wipeLast_r1 : List Cond := [Cond.fieldLink RX6 12 "CassetteTones" "tape" "LCassetteTones$Tape;", Cond.fieldLink RX6 33 "CassetteTones" "history" "LCassetteTones$History;", Cond.instanceMethod yX1_keep, Cond.initialized RX1, Cond.selects RX1 yX1_keep yX1_keep, Cond.code yX1_keep cX1_keep 3 none, Cond.fieldLink RX1 18 "CassetteTones$History" "oldest" "I", Cond.fieldLink RX1 22 "CassetteTones$History" "size" "I", Cond.methodLink RX1 25 yX1_stateAt, Cond.instanceMethod yX1_stateAt, Cond.selects RX1 yX1_stateAt yX1_stateAt, Cond.code yX1_stateAt cX1_stateAt 3 (some (.object "CassetteTones$Tape")), Cond.fieldLink RX1 11 "CassetteTones$History" "states" "[LCassetteTones$Tape;", Cond.methodLink RX1 33 yJ9_floorMod_7cf53, Cond.static yJ9_floorMod_7cf53, Cond.initialized RJ9, Cond.code yJ9_floorMod_7cf53 cJ9_floorMod_7cf53 3 (some .int), Cond.instanceMethod yX4_copyFrom, Cond.initialized RX4, Cond.selects RX4 yX4_copyFrom yX4_copyFrom, Cond.code yX4_copyFrom cX4_copyFrom 3 none, Cond.fieldLink RX4 36 "CassetteTones$Tape" "blocks" "I", Cond.fieldLink RX4 9 "CassetteTones$Tape" "settings" "[I", Cond.methodLink RX4 40 arraycopyName]
def wsX6_wipeLast_r2 : List Cond := [Cond.native arraycopyName, Cond.static arraycopyName, Cond.initialized "java/lang/System", Cond.fieldLink RX4 15 "CassetteTones$Tape" "names" "[I", Cond.fieldLink RX4 18 "CassetteTones$Tape" "unders" "[I", Cond.fieldLink RX4 21 "CassetteTones$Tape" "manys" "[I", Cond.fieldLink RX4 24 "CassetteTones$Tape" "firsts" "[I", Cond.methodLink RX4 50 Lib.Math.min.name, Cond.static Lib.Math.min.name, Cond.initialized "java/lang/Math", Cond.code Lib.Math.min.name Lib.Math.min.code 2 (some .int), Cond.methodLink RX4 56 Lib.Math.max.name, Cond.static Lib.Math.max.name, Cond.code Lib.Math.max.name Lib.Math.max.code 2 (some .int), Cond.fieldLink RX4 27 "CassetteTones$Tape" "volumes" "[I", Cond.fieldLink RX4 30 "CassetteTones$Tape" "bad" "[I", Cond.fieldLink RX4 33 "CassetteTones$Tape" "written" "[I", Cond.methodLink RX4 46 yX4_cells, Cond.instanceMethod yX4_cells, Cond.selects RX4 yX4_cells yX4_cells, Cond.code yX4_cells cX4_cells 1 (some .int), Cond.static yX6_valueAt, Cond.initialized RX6, Cond.code yX6_valueAt cX6_valueAt 2 (some .int)]
def wsX6_wipeLast : List Cond := .code yX6_wipeLast cX6_wipeLast 1 (some .int) :: ((wsX6_wipeLast_r1 ++ wsX6_wipeLast_r2) ++ wsX60 ++ wsX40 ++ wsX10)
def wsX6_fade_r1 : List Cond := [Cond.fieldLink RX6 12 "CassetteTones" "tape" "LCassetteTones$Tape;", Cond.fieldLink RX6 33 "CassetteTones" "history" "LCassetteTones$History;", Cond.instanceMethod yX4_errorOfFading, Cond.initialized RX4, Cond.selects RX4 yX4_errorOfFading yX4_errorOfFading, Cond.code yX4_errorOfFading cX4_errorOfFading 4 (some .int), Cond.methodLink RX4 94 yX4_hasCell, Cond.instanceMethod yX4_hasCell, Cond.selects RX4 yX4_hasCell yX4_hasCell, Cond.code yX4_hasCell cX4_hasCell 2 (some .boolean), Cond.methodLink RX4 46 yX4_cells, Cond.instanceMethod yX4_cells, Cond.selects RX4 yX4_cells yX4_cells, Cond.code yX4_cells cX4_cells 1 (some .int), Cond.fieldLink RX4 24 "CassetteTones$Tape" "firsts" "[I", Cond.fieldLink RX4 36 "CassetteTones$Tape" "blocks" "I", Cond.static yX6_valueAt, Cond.initialized RX6, Cond.code yX6_valueAt cX6_valueAt 2 (some .int), Cond.instanceMethod yX1_keep, Cond.initialized RX1, Cond.selects RX1 yX1_keep yX1_keep, Cond.code yX1_keep cX1_keep 3 none, Cond.fieldLink RX1 18 "CassetteTones$History" "oldest" "I"]
def wsX6_fade_r2 : List Cond := [Cond.fieldLink RX1 22 "CassetteTones$History" "size" "I", Cond.methodLink RX1 25 yX1_stateAt, Cond.instanceMethod yX1_stateAt, Cond.selects RX1 yX1_stateAt yX1_stateAt, Cond.code yX1_stateAt cX1_stateAt 3 (some (.object "CassetteTones$Tape")), Cond.fieldLink RX1 11 "CassetteTones$History" "states" "[LCassetteTones$Tape;", Cond.methodLink RX1 33 yJ9_floorMod_7cf53, Cond.static yJ9_floorMod_7cf53, Cond.initialized RJ9, Cond.code yJ9_floorMod_7cf53 cJ9_floorMod_7cf53 3 (some .int), Cond.instanceMethod yX4_copyFrom, Cond.selects RX4 yX4_copyFrom yX4_copyFrom, Cond.code yX4_copyFrom cX4_copyFrom 3 none, Cond.fieldLink RX4 9 "CassetteTones$Tape" "settings" "[I", Cond.methodLink RX4 40 arraycopyName, Cond.native arraycopyName, Cond.static arraycopyName, Cond.initialized "java/lang/System", Cond.fieldLink RX4 15 "CassetteTones$Tape" "names" "[I", Cond.fieldLink RX4 18 "CassetteTones$Tape" "unders" "[I", Cond.fieldLink RX4 21 "CassetteTones$Tape" "manys" "[I", Cond.methodLink RX4 50 Lib.Math.min.name, Cond.static Lib.Math.min.name, Cond.initialized "java/lang/Math"]
def wsX6_fade_r3 : List Cond := [Cond.code Lib.Math.min.name Lib.Math.min.code 2 (some .int), Cond.methodLink RX4 56 Lib.Math.max.name, Cond.static Lib.Math.max.name, Cond.code Lib.Math.max.name Lib.Math.max.code 2 (some .int), Cond.fieldLink RX4 27 "CassetteTones$Tape" "volumes" "[I", Cond.fieldLink RX4 30 "CassetteTones$Tape" "bad" "[I", Cond.fieldLink RX4 33 "CassetteTones$Tape" "written" "[I", Cond.instanceMethod yX4_fadeCells, Cond.selects RX4 yX4_fadeCells yX4_fadeCells, Cond.code yX4_fadeCells cX4_fadeCells 6 (some .int), Cond.static yX6_setValue, Cond.code yX6_setValue cX6_setValue 3 none]
def wsX6_fade : List Cond := .code yX6_fade cX6_fade 5 (some .int) :: ((wsX6_fade_r1 ++ (wsX6_fade_r2 ++ wsX6_fade_r3)) ++ wsX60 ++ wsX40 ++ wsX10)
def wsX6_spoil_r1 : List Cond := [Cond.fieldLink RX6 12 "CassetteTones" "tape" "LCassetteTones$Tape;", Cond.fieldLink RX6 33 "CassetteTones" "history" "LCassetteTones$History;", Cond.instanceMethod yX4_hasCell, Cond.initialized RX4, Cond.selects RX4 yX4_hasCell yX4_hasCell, Cond.code yX4_hasCell cX4_hasCell 2 (some .boolean), Cond.methodLink RX4 46 yX4_cells, Cond.instanceMethod yX4_cells, Cond.selects RX4 yX4_cells yX4_cells, Cond.code yX4_cells cX4_cells 1 (some .int), Cond.fieldLink RX4 24 "CassetteTones$Tape" "firsts" "[I", Cond.fieldLink RX4 36 "CassetteTones$Tape" "blocks" "I", Cond.static yX6_valueAt, Cond.initialized RX6, Cond.code yX6_valueAt cX6_valueAt 2 (some .int), Cond.instanceMethod yX1_keep, Cond.initialized RX1, Cond.selects RX1 yX1_keep yX1_keep, Cond.code yX1_keep cX1_keep 3 none, Cond.fieldLink RX1 18 "CassetteTones$History" "oldest" "I", Cond.fieldLink RX1 22 "CassetteTones$History" "size" "I", Cond.methodLink RX1 25 yX1_stateAt, Cond.instanceMethod yX1_stateAt, Cond.selects RX1 yX1_stateAt yX1_stateAt]
def wsX6_spoil_r2 : List Cond := [Cond.code yX1_stateAt cX1_stateAt 3 (some (.object "CassetteTones$Tape")), Cond.fieldLink RX1 11 "CassetteTones$History" "states" "[LCassetteTones$Tape;", Cond.methodLink RX1 33 yJ9_floorMod_7cf53, Cond.static yJ9_floorMod_7cf53, Cond.initialized RJ9, Cond.code yJ9_floorMod_7cf53 cJ9_floorMod_7cf53 3 (some .int), Cond.instanceMethod yX4_copyFrom, Cond.selects RX4 yX4_copyFrom yX4_copyFrom, Cond.code yX4_copyFrom cX4_copyFrom 3 none, Cond.fieldLink RX4 9 "CassetteTones$Tape" "settings" "[I", Cond.methodLink RX4 40 arraycopyName, Cond.native arraycopyName, Cond.static arraycopyName, Cond.initialized "java/lang/System", Cond.fieldLink RX4 15 "CassetteTones$Tape" "names" "[I", Cond.fieldLink RX4 18 "CassetteTones$Tape" "unders" "[I", Cond.fieldLink RX4 21 "CassetteTones$Tape" "manys" "[I", Cond.methodLink RX4 50 Lib.Math.min.name, Cond.static Lib.Math.min.name, Cond.initialized "java/lang/Math", Cond.code Lib.Math.min.name Lib.Math.min.code 2 (some .int), Cond.methodLink RX4 56 Lib.Math.max.name, Cond.static Lib.Math.max.name, Cond.code Lib.Math.max.name Lib.Math.max.code 2 (some .int)]
def wsX6_spoil_r3 : List Cond := [Cond.fieldLink RX4 27 "CassetteTones$Tape" "volumes" "[I", Cond.fieldLink RX4 30 "CassetteTones$Tape" "bad" "[I", Cond.fieldLink RX4 33 "CassetteTones$Tape" "written" "[I", Cond.instanceMethod yX4_spoilCell, Cond.selects RX4 yX4_spoilCell yX4_spoilCell, Cond.code yX4_spoilCell cX4_spoilCell 3 (some .int), Cond.static yX6_setValue, Cond.code yX6_setValue cX6_setValue 3 none]
def wsX6_spoil : List Cond := .code yX6_spoil cX6_spoil 2 (some .int) :: ((wsX6_spoil_r1 ++ (wsX6_spoil_r2 ++ wsX6_spoil_r3)) ++ wsX60 ++ wsX40 ++ wsX10)
def wsX6_stateOfTelling_r1 : List Cond := [Cond.fieldLink RX6 19 "CassetteTones" "reader" "LCassetteTones$BlockReader;", Cond.fieldLink RX6 12 "CassetteTones" "tape" "LCassetteTones$Tape;", Cond.instanceMethod yX0_readBlock, Cond.initialized RX0, Cond.selects RX0 yX0_readBlock yX0_readBlock, Cond.code yX0_readBlock cX0_readBlock 5 none, Cond.fieldLink RX0 12 "CassetteTones$BlockReader" "first" "LCassetteTones$Telling;", Cond.fieldLink RX0 18 "CassetteTones$BlockReader" "second" "LCassetteTones$Telling;", Cond.instanceMethod yX4_firstOf, Cond.initialized RX4, Cond.selects RX4 yX4_firstOf yX4_firstOf, Cond.code yX4_firstOf cX4_firstOf 2 (some .int), Cond.fieldLink RX4 24 "CassetteTones$Tape" "firsts" "[I", Cond.static yX6_valueAt, Cond.initialized RX6, Cond.code yX6_valueAt cX6_valueAt 2 (some .int), Cond.instanceMethod yX5_readCells, Cond.initialized RX5, Cond.selects RX5 yX5_readCells yX5_readCells, Cond.code yX5_readCells cX5_readCells 5 none, Cond.fieldLink RX5 18 "CassetteTones$Telling" "many" "I", Cond.methodLink RX5 22 yX5_readLeader, Cond.instanceMethod yX5_readLeader, Cond.selects RX5 yX5_readLeader yX5_readLeader]
def wsX6_stateOfTelling_r2 : List Cond := [Cond.code yX5_readLeader cX5_readLeader 7 none, Cond.methodLink RX5 39 Lib.Math.min.name, Cond.static Lib.Math.min.name, Cond.initialized "java/lang/Math", Cond.code Lib.Math.min.name Lib.Math.min.code 2 (some .int), Cond.methodLink RX5 45 Lib.Math.max.name, Cond.static Lib.Math.max.name, Cond.code Lib.Math.max.name Lib.Math.max.code 2 (some .int), Cond.fieldLink RX5 48 "CassetteTones$Telling" "leaderHeard" "I", Cond.methodLink RX5 26 yX5_readByte, Cond.instanceMethod yX5_readByte, Cond.selects RX5 yX5_readByte yX5_readByte, Cond.code yX5_readByte cX5_readByte 9 none, Cond.fieldLink RX5 9 "CassetteTones$Telling" "values" "[I", Cond.fieldLink RX5 15 "CassetteTones$Telling" "wholeUpTo" "[I", Cond.instanceMethod yX4_toldAt, Cond.selects RX4 yX4_toldAt yX4_toldAt, Cond.code yX4_toldAt cX4_toldAt 2 (some .int), Cond.fieldLink RX4 33 "CassetteTones$Tape" "written" "[I", Cond.fieldLink RX4 30 "CassetteTones$Tape" "bad" "[I", Cond.static yX6_setValue, Cond.code yX6_setValue cX6_setValue 3 none, Cond.instanceMethod yX4_tellingCells, Cond.selects RX4 yX4_tellingCells yX4_tellingCells]
def wsX6_stateOfTelling_r3 : List Cond := [Cond.code yX4_tellingCells cX4_tellingCells 2 (some .int), Cond.fieldLink RX4 21 "CassetteTones$Tape" "manys" "[I", Cond.instanceMethod yX0_telling, Cond.selects RX0 yX0_telling yX0_telling, Cond.code yX0_telling cX0_telling 2 (some (.object "CassetteTones$Telling")), Cond.instanceMethod yX4_setting, Cond.selects RX4 yX4_setting yX4_setting, Cond.code yX4_setting cX4_setting 2 (some .int), Cond.fieldLink RX4 9 "CassetteTones$Tape" "settings" "[I", Cond.instanceMethod yX5_stateBy, Cond.selects RX5 yX5_stateBy yX5_stateBy, Cond.code yX5_stateBy cX5_stateBy 4 (some .int), Cond.methodLink RX5 63 yX5_isLost, Cond.instanceMethod yX5_isLost, Cond.selects RX5 yX5_isLost yX5_isLost, Cond.code yX5_isLost cX5_isLost 2 (some .boolean), Cond.methodLink RX5 59 yX5_isByteWhole, Cond.instanceMethod yX5_isByteWhole, Cond.selects RX5 yX5_isByteWhole yX5_isByteWhole, Cond.code yX5_isByteWhole cX5_isByteWhole 3 (some .boolean), Cond.methodLink RX5 67 yX5_tellsSum, Cond.instanceMethod yX5_tellsSum, Cond.selects RX5 yX5_tellsSum yX5_tellsSum, Cond.code yX5_tellsSum cX5_tellsSum 3 (some .boolean)]
def wsX6_stateOfTelling : List Cond := .code yX6_stateOfTelling cX6_stateOfTelling 3 (some .int) :: ((wsX6_stateOfTelling_r1 ++ (wsX6_stateOfTelling_r2 ++ wsX6_stateOfTelling_r3)) ++ wsX60 ++ wsX40 ++ wsX00 ++ wsX50)
def wsX6_wayOfLoading_r1 : List Cond := [Cond.fieldLink RX6 19 "CassetteTones" "reader" "LCassetteTones$BlockReader;", Cond.fieldLink RX6 12 "CassetteTones" "tape" "LCassetteTones$Tape;", Cond.instanceMethod yX0_readBlock, Cond.initialized RX0, Cond.selects RX0 yX0_readBlock yX0_readBlock, Cond.code yX0_readBlock cX0_readBlock 5 none, Cond.fieldLink RX0 12 "CassetteTones$BlockReader" "first" "LCassetteTones$Telling;", Cond.fieldLink RX0 18 "CassetteTones$BlockReader" "second" "LCassetteTones$Telling;", Cond.instanceMethod yX4_firstOf, Cond.initialized RX4, Cond.selects RX4 yX4_firstOf yX4_firstOf, Cond.code yX4_firstOf cX4_firstOf 2 (some .int), Cond.fieldLink RX4 24 "CassetteTones$Tape" "firsts" "[I", Cond.static yX6_valueAt, Cond.initialized RX6, Cond.code yX6_valueAt cX6_valueAt 2 (some .int), Cond.instanceMethod yX5_readCells, Cond.initialized RX5, Cond.selects RX5 yX5_readCells yX5_readCells, Cond.code yX5_readCells cX5_readCells 5 none, Cond.fieldLink RX5 18 "CassetteTones$Telling" "many" "I", Cond.methodLink RX5 22 yX5_readLeader, Cond.instanceMethod yX5_readLeader, Cond.selects RX5 yX5_readLeader yX5_readLeader]
def wsX6_wayOfLoading_r2 : List Cond := [Cond.code yX5_readLeader cX5_readLeader 7 none, Cond.methodLink RX5 39 Lib.Math.min.name, Cond.static Lib.Math.min.name, Cond.initialized "java/lang/Math", Cond.code Lib.Math.min.name Lib.Math.min.code 2 (some .int), Cond.methodLink RX5 45 Lib.Math.max.name, Cond.static Lib.Math.max.name, Cond.code Lib.Math.max.name Lib.Math.max.code 2 (some .int), Cond.fieldLink RX5 48 "CassetteTones$Telling" "leaderHeard" "I", Cond.methodLink RX5 26 yX5_readByte, Cond.instanceMethod yX5_readByte, Cond.selects RX5 yX5_readByte yX5_readByte, Cond.code yX5_readByte cX5_readByte 9 none, Cond.fieldLink RX5 9 "CassetteTones$Telling" "values" "[I", Cond.fieldLink RX5 15 "CassetteTones$Telling" "wholeUpTo" "[I", Cond.instanceMethod yX4_toldAt, Cond.selects RX4 yX4_toldAt yX4_toldAt, Cond.code yX4_toldAt cX4_toldAt 2 (some .int), Cond.fieldLink RX4 33 "CassetteTones$Tape" "written" "[I", Cond.fieldLink RX4 30 "CassetteTones$Tape" "bad" "[I", Cond.static yX6_setValue, Cond.code yX6_setValue cX6_setValue 3 none, Cond.instanceMethod yX4_tellingCells, Cond.selects RX4 yX4_tellingCells yX4_tellingCells]
def wsX6_wayOfLoading_r3 : List Cond := [Cond.code yX4_tellingCells cX4_tellingCells 2 (some .int), Cond.fieldLink RX4 21 "CassetteTones$Tape" "manys" "[I", Cond.instanceMethod yX4_setting, Cond.selects RX4 yX4_setting yX4_setting, Cond.code yX4_setting cX4_setting 2 (some .int), Cond.fieldLink RX4 9 "CassetteTones$Tape" "settings" "[I", Cond.instanceMethod yX0_wayBy, Cond.selects RX0 yX0_wayBy yX0_wayBy, Cond.code yX0_wayBy cX0_wayBy 2 (some .int), Cond.instanceMethod yX5_stateBy, Cond.selects RX5 yX5_stateBy yX5_stateBy, Cond.code yX5_stateBy cX5_stateBy 4 (some .int), Cond.methodLink RX5 63 yX5_isLost, Cond.instanceMethod yX5_isLost, Cond.selects RX5 yX5_isLost yX5_isLost, Cond.code yX5_isLost cX5_isLost 2 (some .boolean), Cond.methodLink RX5 59 yX5_isByteWhole, Cond.instanceMethod yX5_isByteWhole, Cond.selects RX5 yX5_isByteWhole yX5_isByteWhole, Cond.code yX5_isByteWhole cX5_isByteWhole 3 (some .boolean), Cond.methodLink RX5 67 yX5_tellsSum, Cond.instanceMethod yX5_tellsSum, Cond.selects RX5 yX5_tellsSum yX5_tellsSum, Cond.code yX5_tellsSum cX5_tellsSum 3 (some .boolean)]
def wsX6_wayOfLoading_r4 : List Cond := [Cond.methodLink RX0 45 yX0_isWholeTogether, Cond.instanceMethod yX0_isWholeTogether, Cond.selects RX0 yX0_isWholeTogether yX0_isWholeTogether, Cond.code yX0_isWholeTogether cX0_isWholeTogether 5 (some .boolean), Cond.methodLink RX0 56 yX0_byteTogether, Cond.instanceMethod yX0_byteTogether, Cond.selects RX0 yX0_byteTogether yX0_byteTogether, Cond.code yX0_byteTogether cX0_byteTogether 3 (some .int)]
def wsX6_wayOfLoading : List Cond := .code yX6_wayOfLoading cX6_wayOfLoading 2 (some .int) :: ((wsX6_wayOfLoading_r1 ++ (wsX6_wayOfLoading_r2 ++ (wsX6_wayOfLoading_r3 ++ wsX6_wayOfLoading_r4))) ++ wsX60 ++ wsX40 ++ wsX00 ++ wsX50)
def wsX6_of_r1 : List Cond := [Cond.fieldLink RX6 12 "CassetteTones" "tape" "LCassetteTones$Tape;", Cond.instanceMethod yX4_hasBlock, Cond.initialized RX4, Cond.selects RX4 yX4_hasBlock yX4_hasBlock, Cond.code yX4_hasBlock cX4_hasBlock 2 (some .boolean), Cond.fieldLink RX4 36 "CassetteTones$Tape" "blocks" "I", Cond.methodLink RX6 100 yX6_valueAt, Cond.static yX6_valueAt, Cond.initialized RX6, Cond.code yX6_valueAt cX6_valueAt 2 (some .int), Cond.instanceMethod yX4_firstOf, Cond.selects RX4 yX4_firstOf yX4_firstOf, Cond.code yX4_firstOf cX4_firstOf 2 (some .int), Cond.fieldLink RX4 24 "CassetteTones$Tape" "firsts" "[I", Cond.methodLink RX6 113 yX6_stateOfTelling, Cond.instanceMethod yX6_stateOfTelling, Cond.selects RX6 yX6_stateOfTelling yX6_stateOfTelling, Cond.code yX6_stateOfTelling cX6_stateOfTelling 3 (some .int), Cond.fieldLink RX6 19 "CassetteTones" "reader" "LCassetteTones$BlockReader;", Cond.instanceMethod yX0_readBlock, Cond.initialized RX0, Cond.selects RX0 yX0_readBlock yX0_readBlock, Cond.code yX0_readBlock cX0_readBlock 5 none, Cond.fieldLink RX0 12 "CassetteTones$BlockReader" "first" "LCassetteTones$Telling;"]
def wsX6_of_r2 : List Cond := [Cond.fieldLink RX0 18 "CassetteTones$BlockReader" "second" "LCassetteTones$Telling;", Cond.instanceMethod yX5_readCells, Cond.initialized RX5, Cond.selects RX5 yX5_readCells yX5_readCells, Cond.code yX5_readCells cX5_readCells 5 none, Cond.fieldLink RX5 18 "CassetteTones$Telling" "many" "I", Cond.methodLink RX5 22 yX5_readLeader, Cond.instanceMethod yX5_readLeader, Cond.selects RX5 yX5_readLeader yX5_readLeader, Cond.code yX5_readLeader cX5_readLeader 7 none, Cond.methodLink RX5 39 Lib.Math.min.name, Cond.static Lib.Math.min.name, Cond.initialized "java/lang/Math", Cond.code Lib.Math.min.name Lib.Math.min.code 2 (some .int), Cond.methodLink RX5 45 Lib.Math.max.name, Cond.static Lib.Math.max.name, Cond.code Lib.Math.max.name Lib.Math.max.code 2 (some .int), Cond.fieldLink RX5 48 "CassetteTones$Telling" "leaderHeard" "I", Cond.methodLink RX5 26 yX5_readByte, Cond.instanceMethod yX5_readByte, Cond.selects RX5 yX5_readByte yX5_readByte, Cond.code yX5_readByte cX5_readByte 9 none, Cond.fieldLink RX5 9 "CassetteTones$Telling" "values" "[I", Cond.fieldLink RX5 15 "CassetteTones$Telling" "wholeUpTo" "[I"]
def wsX6_of_r3 : List Cond := [Cond.instanceMethod yX4_toldAt, Cond.selects RX4 yX4_toldAt yX4_toldAt, Cond.code yX4_toldAt cX4_toldAt 2 (some .int), Cond.fieldLink RX4 33 "CassetteTones$Tape" "written" "[I", Cond.fieldLink RX4 30 "CassetteTones$Tape" "bad" "[I", Cond.static yX6_setValue, Cond.code yX6_setValue cX6_setValue 3 none, Cond.instanceMethod yX4_tellingCells, Cond.selects RX4 yX4_tellingCells yX4_tellingCells, Cond.code yX4_tellingCells cX4_tellingCells 2 (some .int), Cond.fieldLink RX4 21 "CassetteTones$Tape" "manys" "[I", Cond.instanceMethod yX0_telling, Cond.selects RX0 yX0_telling yX0_telling, Cond.code yX0_telling cX0_telling 2 (some (.object "CassetteTones$Telling")), Cond.instanceMethod yX4_setting, Cond.selects RX4 yX4_setting yX4_setting, Cond.code yX4_setting cX4_setting 2 (some .int), Cond.fieldLink RX4 9 "CassetteTones$Tape" "settings" "[I", Cond.instanceMethod yX5_stateBy, Cond.selects RX5 yX5_stateBy yX5_stateBy, Cond.code yX5_stateBy cX5_stateBy 4 (some .int), Cond.methodLink RX5 63 yX5_isLost, Cond.instanceMethod yX5_isLost, Cond.selects RX5 yX5_isLost yX5_isLost]
def wsX6_of_r4 : List Cond := [Cond.code yX5_isLost cX5_isLost 2 (some .boolean), Cond.methodLink RX5 59 yX5_isByteWhole, Cond.instanceMethod yX5_isByteWhole, Cond.selects RX5 yX5_isByteWhole yX5_isByteWhole, Cond.code yX5_isByteWhole cX5_isByteWhole 3 (some .boolean), Cond.methodLink RX5 67 yX5_tellsSum, Cond.instanceMethod yX5_tellsSum, Cond.selects RX5 yX5_tellsSum yX5_tellsSum, Cond.code yX5_tellsSum cX5_tellsSum 3 (some .boolean), Cond.methodLink RX6 117 yX6_wayOfLoading, Cond.instanceMethod yX6_wayOfLoading, Cond.selects RX6 yX6_wayOfLoading yX6_wayOfLoading, Cond.code yX6_wayOfLoading cX6_wayOfLoading 2 (some .int), Cond.instanceMethod yX0_wayBy, Cond.selects RX0 yX0_wayBy yX0_wayBy, Cond.code yX0_wayBy cX0_wayBy 2 (some .int), Cond.methodLink RX0 45 yX0_isWholeTogether, Cond.instanceMethod yX0_isWholeTogether, Cond.selects RX0 yX0_isWholeTogether yX0_isWholeTogether, Cond.code yX0_isWholeTogether cX0_isWholeTogether 5 (some .boolean), Cond.methodLink RX0 56 yX0_byteTogether, Cond.instanceMethod yX0_byteTogether, Cond.selects RX0 yX0_byteTogether yX0_byteTogether, Cond.code yX0_byteTogether cX0_byteTogether 3 (some .int)]
def wsX6_of_r5 : List Cond := [Cond.instanceMethod yX4_depthOf, Cond.selects RX4 yX4_depthOf yX4_depthOf, Cond.code yX4_depthOf cX4_depthOf 4 (some .int), Cond.fieldLink RX4 18 "CassetteTones$Tape" "unders" "[I", Cond.instanceMethod yX4_counterOf, Cond.selects RX4 yX4_counterOf yX4_counterOf, Cond.code yX4_counterOf cX4_counterOf 2 (some .int), Cond.methodLink RX4 78 yX4_setting]
def wsX6_of : List Cond := .code yX6_of cX6_of 3 (some .int) :: ((wsX6_of_r1 ++ (wsX6_of_r2 ++ (wsX6_of_r3 ++ (wsX6_of_r4 ++ wsX6_of_r5)))) ++ wsX60 ++ wsX40 ++ wsX00 ++ wsX50)
def wsX6_load_r1 : List Cond := [Cond.fieldLink RX6 12 "CassetteTones" "tape" "LCassetteTones$Tape;", Cond.constantLong RX6 126 (-1), Cond.constantLong RX6 128 (-5), Cond.fieldLink RX6 19 "CassetteTones" "reader" "LCassetteTones$BlockReader;", Cond.instanceMethod yX4_hasBlock, Cond.initialized RX4, Cond.selects RX4 yX4_hasBlock yX4_hasBlock, Cond.code yX4_hasBlock cX4_hasBlock 2 (some .boolean), Cond.fieldLink RX4 36 "CassetteTones$Tape" "blocks" "I", Cond.methodLink RX6 117 yX6_wayOfLoading, Cond.instanceMethod yX6_wayOfLoading, Cond.selects RX6 yX6_wayOfLoading yX6_wayOfLoading, Cond.initialized RX6, Cond.code yX6_wayOfLoading cX6_wayOfLoading 2 (some .int), Cond.instanceMethod yX0_readBlock, Cond.initialized RX0, Cond.selects RX0 yX0_readBlock yX0_readBlock, Cond.code yX0_readBlock cX0_readBlock 5 none, Cond.fieldLink RX0 12 "CassetteTones$BlockReader" "first" "LCassetteTones$Telling;", Cond.fieldLink RX0 18 "CassetteTones$BlockReader" "second" "LCassetteTones$Telling;", Cond.instanceMethod yX4_firstOf, Cond.selects RX4 yX4_firstOf yX4_firstOf, Cond.code yX4_firstOf cX4_firstOf 2 (some .int), Cond.fieldLink RX4 24 "CassetteTones$Tape" "firsts" "[I"]
def wsX6_load_r2 : List Cond := [Cond.static yX6_valueAt, Cond.code yX6_valueAt cX6_valueAt 2 (some .int), Cond.instanceMethod yX5_readCells, Cond.initialized RX5, Cond.selects RX5 yX5_readCells yX5_readCells, Cond.code yX5_readCells cX5_readCells 5 none, Cond.fieldLink RX5 18 "CassetteTones$Telling" "many" "I", Cond.methodLink RX5 22 yX5_readLeader, Cond.instanceMethod yX5_readLeader, Cond.selects RX5 yX5_readLeader yX5_readLeader, Cond.code yX5_readLeader cX5_readLeader 7 none, Cond.methodLink RX5 39 Lib.Math.min.name, Cond.static Lib.Math.min.name, Cond.initialized "java/lang/Math", Cond.code Lib.Math.min.name Lib.Math.min.code 2 (some .int), Cond.methodLink RX5 45 Lib.Math.max.name, Cond.static Lib.Math.max.name, Cond.code Lib.Math.max.name Lib.Math.max.code 2 (some .int), Cond.fieldLink RX5 48 "CassetteTones$Telling" "leaderHeard" "I", Cond.methodLink RX5 26 yX5_readByte, Cond.instanceMethod yX5_readByte, Cond.selects RX5 yX5_readByte yX5_readByte, Cond.code yX5_readByte cX5_readByte 9 none, Cond.fieldLink RX5 9 "CassetteTones$Telling" "values" "[I"]
def wsX6_load_r3 : List Cond := [Cond.fieldLink RX5 15 "CassetteTones$Telling" "wholeUpTo" "[I", Cond.instanceMethod yX4_toldAt, Cond.selects RX4 yX4_toldAt yX4_toldAt, Cond.code yX4_toldAt cX4_toldAt 2 (some .int), Cond.fieldLink RX4 33 "CassetteTones$Tape" "written" "[I", Cond.fieldLink RX4 30 "CassetteTones$Tape" "bad" "[I", Cond.static yX6_setValue, Cond.code yX6_setValue cX6_setValue 3 none, Cond.instanceMethod yX4_tellingCells, Cond.selects RX4 yX4_tellingCells yX4_tellingCells, Cond.code yX4_tellingCells cX4_tellingCells 2 (some .int), Cond.fieldLink RX4 21 "CassetteTones$Tape" "manys" "[I", Cond.instanceMethod yX4_setting, Cond.selects RX4 yX4_setting yX4_setting, Cond.code yX4_setting cX4_setting 2 (some .int), Cond.fieldLink RX4 9 "CassetteTones$Tape" "settings" "[I", Cond.instanceMethod yX0_wayBy, Cond.selects RX0 yX0_wayBy yX0_wayBy, Cond.code yX0_wayBy cX0_wayBy 2 (some .int), Cond.instanceMethod yX5_stateBy, Cond.selects RX5 yX5_stateBy yX5_stateBy, Cond.code yX5_stateBy cX5_stateBy 4 (some .int), Cond.methodLink RX5 63 yX5_isLost, Cond.instanceMethod yX5_isLost]
def wsX6_load_r4 : List Cond := [Cond.selects RX5 yX5_isLost yX5_isLost, Cond.code yX5_isLost cX5_isLost 2 (some .boolean), Cond.methodLink RX5 59 yX5_isByteWhole, Cond.instanceMethod yX5_isByteWhole, Cond.selects RX5 yX5_isByteWhole yX5_isByteWhole, Cond.code yX5_isByteWhole cX5_isByteWhole 3 (some .boolean), Cond.methodLink RX5 67 yX5_tellsSum, Cond.instanceMethod yX5_tellsSum, Cond.selects RX5 yX5_tellsSum yX5_tellsSum, Cond.code yX5_tellsSum cX5_tellsSum 3 (some .boolean), Cond.methodLink RX0 45 yX0_isWholeTogether, Cond.instanceMethod yX0_isWholeTogether, Cond.selects RX0 yX0_isWholeTogether yX0_isWholeTogether, Cond.code yX0_isWholeTogether cX0_isWholeTogether 5 (some .boolean), Cond.methodLink RX0 56 yX0_byteTogether, Cond.instanceMethod yX0_byteTogether, Cond.selects RX0 yX0_byteTogether yX0_byteTogether, Cond.code yX0_byteTogether cX0_byteTogether 3 (some .int), Cond.instanceMethod yX0_bytesBy, Cond.selects RX0 yX0_bytesBy yX0_bytesBy, Cond.code yX0_bytesBy cX0_bytesBy 6 (some .long), Cond.methodLink RX0 70 yX0_byteBy, Cond.instanceMethod yX0_byteBy, Cond.selects RX0 yX0_byteBy yX0_byteBy]
def wsX6_load_r5 : List Cond := [Cond.code yX0_byteBy cX0_byteBy 4 (some .int)]
def wsX6_load : List Cond := .code yX6_load cX6_load 3 (some .long) :: ((wsX6_load_r1 ++ (wsX6_load_r2 ++ (wsX6_load_r3 ++ (wsX6_load_r4 ++ wsX6_load_r5)))) ++ wsX60 ++ wsX40 ++ wsX00 ++ wsX50)
def wsX6_read_r1 : List Cond := [Cond.fieldLink RX6 12 "CassetteTones" "tape" "LCassetteTones$Tape;", Cond.fieldLink RX6 19 "CassetteTones" "reader" "LCassetteTones$BlockReader;", Cond.instanceMethod yX4_hasBlock, Cond.initialized RX4, Cond.selects RX4 yX4_hasBlock yX4_hasBlock, Cond.code yX4_hasBlock cX4_hasBlock 2 (some .boolean), Cond.fieldLink RX4 36 "CassetteTones$Tape" "blocks" "I", Cond.methodLink RX6 100 yX6_valueAt, Cond.static yX6_valueAt, Cond.initialized RX6, Cond.code yX6_valueAt cX6_valueAt 2 (some .int), Cond.instanceMethod yX0_readBlock, Cond.initialized RX0, Cond.selects RX0 yX0_readBlock yX0_readBlock, Cond.code yX0_readBlock cX0_readBlock 5 none, Cond.fieldLink RX0 12 "CassetteTones$BlockReader" "first" "LCassetteTones$Telling;", Cond.fieldLink RX0 18 "CassetteTones$BlockReader" "second" "LCassetteTones$Telling;", Cond.instanceMethod yX4_firstOf, Cond.selects RX4 yX4_firstOf yX4_firstOf, Cond.code yX4_firstOf cX4_firstOf 2 (some .int), Cond.fieldLink RX4 24 "CassetteTones$Tape" "firsts" "[I", Cond.instanceMethod yX5_readCells, Cond.initialized RX5, Cond.selects RX5 yX5_readCells yX5_readCells]
def wsX6_read_r2 : List Cond := [Cond.code yX5_readCells cX5_readCells 5 none, Cond.fieldLink RX5 18 "CassetteTones$Telling" "many" "I", Cond.methodLink RX5 22 yX5_readLeader, Cond.instanceMethod yX5_readLeader, Cond.selects RX5 yX5_readLeader yX5_readLeader, Cond.code yX5_readLeader cX5_readLeader 7 none, Cond.methodLink RX5 39 Lib.Math.min.name, Cond.static Lib.Math.min.name, Cond.initialized "java/lang/Math", Cond.code Lib.Math.min.name Lib.Math.min.code 2 (some .int), Cond.methodLink RX5 45 Lib.Math.max.name, Cond.static Lib.Math.max.name, Cond.code Lib.Math.max.name Lib.Math.max.code 2 (some .int), Cond.fieldLink RX5 48 "CassetteTones$Telling" "leaderHeard" "I", Cond.methodLink RX5 26 yX5_readByte, Cond.instanceMethod yX5_readByte, Cond.selects RX5 yX5_readByte yX5_readByte, Cond.code yX5_readByte cX5_readByte 9 none, Cond.fieldLink RX5 9 "CassetteTones$Telling" "values" "[I", Cond.fieldLink RX5 15 "CassetteTones$Telling" "wholeUpTo" "[I", Cond.instanceMethod yX4_toldAt, Cond.selects RX4 yX4_toldAt yX4_toldAt, Cond.code yX4_toldAt cX4_toldAt 2 (some .int), Cond.fieldLink RX4 33 "CassetteTones$Tape" "written" "[I"]
def wsX6_read_r3 : List Cond := [Cond.fieldLink RX4 30 "CassetteTones$Tape" "bad" "[I", Cond.static yX6_setValue, Cond.code yX6_setValue cX6_setValue 3 none, Cond.instanceMethod yX4_tellingCells, Cond.selects RX4 yX4_tellingCells yX4_tellingCells, Cond.code yX4_tellingCells cX4_tellingCells 2 (some .int), Cond.fieldLink RX4 21 "CassetteTones$Tape" "manys" "[I", Cond.instanceMethod yX0_telling, Cond.selects RX0 yX0_telling yX0_telling, Cond.code yX0_telling cX0_telling 2 (some (.object "CassetteTones$Telling")), Cond.instanceMethod yX4_setting, Cond.selects RX4 yX4_setting yX4_setting, Cond.code yX4_setting cX4_setting 2 (some .int), Cond.fieldLink RX4 9 "CassetteTones$Tape" "settings" "[I", Cond.instanceMethod yX5_isLost, Cond.selects RX5 yX5_isLost yX5_isLost, Cond.code yX5_isLost cX5_isLost 2 (some .boolean), Cond.instanceMethod yX5_isByteWhole, Cond.selects RX5 yX5_isByteWhole yX5_isByteWhole, Cond.code yX5_isByteWhole cX5_isByteWhole 3 (some .boolean)]
def wsX6_read : List Cond := .code yX6_read cX6_read 6 (some .int) :: ((wsX6_read_r1 ++ (wsX6_read_r2 ++ wsX6_read_r3)) ++ wsX60 ++ wsX40 ++ wsX50 ++ wsX00)
def wsX6_cell_r1 : List Cond := [Cond.fieldLink RX6 12 "CassetteTones" "tape" "LCassetteTones$Tape;", Cond.instanceMethod yX4_hasCell, Cond.initialized RX4, Cond.selects RX4 yX4_hasCell yX4_hasCell, Cond.code yX4_hasCell cX4_hasCell 2 (some .boolean), Cond.methodLink RX4 46 yX4_cells, Cond.instanceMethod yX4_cells, Cond.selects RX4 yX4_cells yX4_cells, Cond.code yX4_cells cX4_cells 1 (some .int), Cond.fieldLink RX4 24 "CassetteTones$Tape" "firsts" "[I", Cond.fieldLink RX4 36 "CassetteTones$Tape" "blocks" "I", Cond.static yX6_valueAt, Cond.initialized RX6, Cond.code yX6_valueAt cX6_valueAt 2 (some .int), Cond.methodLink RX6 100 yX6_valueAt, Cond.instanceMethod yX4_bitAt, Cond.selects RX4 yX4_bitAt yX4_bitAt, Cond.code yX4_bitAt cX4_bitAt 5 (some .int), Cond.methodLink RX4 97 yX4_blockAt, Cond.instanceMethod yX4_blockAt, Cond.selects RX4 yX4_blockAt yX4_blockAt, Cond.code yX4_blockAt cX4_blockAt 3 (some .int), Cond.methodLink RX4 71 yX4_firstOf, Cond.instanceMethod yX4_firstOf]
def wsX6_cell_r2 : List Cond := [Cond.selects RX4 yX4_firstOf yX4_firstOf, Cond.code yX4_firstOf cX4_firstOf 2 (some .int), Cond.methodLink RX4 100 yX4_partAt, Cond.instanceMethod yX4_partAt, Cond.selects RX4 yX4_partAt yX4_partAt, Cond.code yX4_partAt cX4_partAt 5 (some .int), Cond.methodLink RX4 75 yX4_tellingCells, Cond.instanceMethod yX4_tellingCells, Cond.selects RX4 yX4_tellingCells yX4_tellingCells, Cond.code yX4_tellingCells cX4_tellingCells 2 (some .int), Cond.fieldLink RX4 21 "CassetteTones$Tape" "manys" "[I", Cond.methodLink RX4 103 yX4_toldAt, Cond.instanceMethod yX4_toldAt, Cond.selects RX4 yX4_toldAt yX4_toldAt, Cond.code yX4_toldAt cX4_toldAt 2 (some .int), Cond.fieldLink RX4 33 "CassetteTones$Tape" "written" "[I", Cond.fieldLink RX4 30 "CassetteTones$Tape" "bad" "[I", Cond.instanceMethod yX4_counterOf, Cond.selects RX4 yX4_counterOf yX4_counterOf, Cond.code yX4_counterOf cX4_counterOf 2 (some .int), Cond.methodLink RX4 78 yX4_setting, Cond.instanceMethod yX4_setting, Cond.selects RX4 yX4_setting yX4_setting, Cond.code yX4_setting cX4_setting 2 (some .int)]
def wsX6_cell_r3 : List Cond := [Cond.fieldLink RX4 9 "CassetteTones$Tape" "settings" "[I"]
def wsX6_cell : List Cond := .code yX6_cell cX6_cell 3 (some .int) :: ((wsX6_cell_r1 ++ (wsX6_cell_r2 ++ wsX6_cell_r3)) ++ wsX60 ++ wsX40)
def wsX6_loadedBlocks_r1 : List Cond := [Cond.fieldLink RX6 12 "CassetteTones" "tape" "LCassetteTones$Tape;", Cond.methodLink RX6 117 yX6_wayOfLoading, Cond.instanceMethod yX6_wayOfLoading, Cond.selects RX6 yX6_wayOfLoading yX6_wayOfLoading, Cond.initialized RX6, Cond.code yX6_wayOfLoading cX6_wayOfLoading 2 (some .int), Cond.fieldLink RX6 19 "CassetteTones" "reader" "LCassetteTones$BlockReader;", Cond.instanceMethod yX0_readBlock, Cond.initialized RX0, Cond.selects RX0 yX0_readBlock yX0_readBlock, Cond.code yX0_readBlock cX0_readBlock 5 none, Cond.fieldLink RX0 12 "CassetteTones$BlockReader" "first" "LCassetteTones$Telling;", Cond.fieldLink RX0 18 "CassetteTones$BlockReader" "second" "LCassetteTones$Telling;", Cond.instanceMethod yX4_firstOf, Cond.initialized RX4, Cond.selects RX4 yX4_firstOf yX4_firstOf, Cond.code yX4_firstOf cX4_firstOf 2 (some .int), Cond.fieldLink RX4 24 "CassetteTones$Tape" "firsts" "[I", Cond.static yX6_valueAt, Cond.code yX6_valueAt cX6_valueAt 2 (some .int), Cond.instanceMethod yX5_readCells, Cond.initialized RX5, Cond.selects RX5 yX5_readCells yX5_readCells, Cond.code yX5_readCells cX5_readCells 5 none]
def wsX6_loadedBlocks_r2 : List Cond := [Cond.fieldLink RX5 18 "CassetteTones$Telling" "many" "I", Cond.methodLink RX5 22 yX5_readLeader, Cond.instanceMethod yX5_readLeader, Cond.selects RX5 yX5_readLeader yX5_readLeader, Cond.code yX5_readLeader cX5_readLeader 7 none, Cond.methodLink RX5 39 Lib.Math.min.name, Cond.static Lib.Math.min.name, Cond.initialized "java/lang/Math", Cond.code Lib.Math.min.name Lib.Math.min.code 2 (some .int), Cond.methodLink RX5 45 Lib.Math.max.name, Cond.static Lib.Math.max.name, Cond.code Lib.Math.max.name Lib.Math.max.code 2 (some .int), Cond.fieldLink RX5 48 "CassetteTones$Telling" "leaderHeard" "I", Cond.methodLink RX5 26 yX5_readByte, Cond.instanceMethod yX5_readByte, Cond.selects RX5 yX5_readByte yX5_readByte, Cond.code yX5_readByte cX5_readByte 9 none, Cond.fieldLink RX5 9 "CassetteTones$Telling" "values" "[I", Cond.fieldLink RX5 15 "CassetteTones$Telling" "wholeUpTo" "[I", Cond.instanceMethod yX4_toldAt, Cond.selects RX4 yX4_toldAt yX4_toldAt, Cond.code yX4_toldAt cX4_toldAt 2 (some .int), Cond.fieldLink RX4 33 "CassetteTones$Tape" "written" "[I", Cond.fieldLink RX4 30 "CassetteTones$Tape" "bad" "[I"]
def wsX6_loadedBlocks_r3 : List Cond := [Cond.static yX6_setValue, Cond.code yX6_setValue cX6_setValue 3 none, Cond.instanceMethod yX4_tellingCells, Cond.selects RX4 yX4_tellingCells yX4_tellingCells, Cond.code yX4_tellingCells cX4_tellingCells 2 (some .int), Cond.fieldLink RX4 21 "CassetteTones$Tape" "manys" "[I", Cond.instanceMethod yX4_setting, Cond.selects RX4 yX4_setting yX4_setting, Cond.code yX4_setting cX4_setting 2 (some .int), Cond.fieldLink RX4 9 "CassetteTones$Tape" "settings" "[I", Cond.instanceMethod yX0_wayBy, Cond.selects RX0 yX0_wayBy yX0_wayBy, Cond.code yX0_wayBy cX0_wayBy 2 (some .int), Cond.instanceMethod yX5_stateBy, Cond.selects RX5 yX5_stateBy yX5_stateBy, Cond.code yX5_stateBy cX5_stateBy 4 (some .int), Cond.methodLink RX5 63 yX5_isLost, Cond.instanceMethod yX5_isLost, Cond.selects RX5 yX5_isLost yX5_isLost, Cond.code yX5_isLost cX5_isLost 2 (some .boolean), Cond.methodLink RX5 59 yX5_isByteWhole, Cond.instanceMethod yX5_isByteWhole, Cond.selects RX5 yX5_isByteWhole yX5_isByteWhole, Cond.code yX5_isByteWhole cX5_isByteWhole 3 (some .boolean)]
def wsX6_loadedBlocks_r4 : List Cond := [Cond.methodLink RX5 67 yX5_tellsSum, Cond.instanceMethod yX5_tellsSum, Cond.selects RX5 yX5_tellsSum yX5_tellsSum, Cond.code yX5_tellsSum cX5_tellsSum 3 (some .boolean), Cond.methodLink RX0 45 yX0_isWholeTogether, Cond.instanceMethod yX0_isWholeTogether, Cond.selects RX0 yX0_isWholeTogether yX0_isWholeTogether, Cond.code yX0_isWholeTogether cX0_isWholeTogether 5 (some .boolean), Cond.methodLink RX0 56 yX0_byteTogether, Cond.instanceMethod yX0_byteTogether, Cond.selects RX0 yX0_byteTogether yX0_byteTogether, Cond.code yX0_byteTogether cX0_byteTogether 3 (some .int)]
def wsX6_loadedBlocks : List Cond := .code yX6_loadedBlocks cX6_loadedBlocks 5 (some .int) :: ((wsX6_loadedBlocks_r1 ++ (wsX6_loadedBlocks_r2 ++ (wsX6_loadedBlocks_r3 ++ wsX6_loadedBlocks_r4))) ++ wsX60 ++ wsX40 ++ wsX00 ++ wsX50)
def wsX6_count_r1 : List Cond := [Cond.fieldLink RX6 12 "CassetteTones" "tape" "LCassetteTones$Tape;", Cond.fieldLink RX6 26 "CassetteTones" "pad" "LCassetteTones$Pad;", Cond.fieldLink RX6 33 "CassetteTones" "history" "LCassetteTones$History;", Cond.instanceMethod yX4_cells, Cond.initialized RX4, Cond.selects RX4 yX4_cells yX4_cells, Cond.code yX4_cells cX4_cells 1 (some .int), Cond.fieldLink RX4 24 "CassetteTones$Tape" "firsts" "[I", Cond.fieldLink RX4 36 "CassetteTones$Tape" "blocks" "I", Cond.static yX6_valueAt, Cond.initialized RX6, Cond.code yX6_valueAt cX6_valueAt 2 (some .int), Cond.methodLink RX6 173 yX6_loadedBlocks, Cond.instanceMethod yX6_loadedBlocks, Cond.selects RX6 yX6_loadedBlocks yX6_loadedBlocks, Cond.code yX6_loadedBlocks cX6_loadedBlocks 5 (some .int), Cond.methodLink RX6 117 yX6_wayOfLoading, Cond.instanceMethod yX6_wayOfLoading, Cond.selects RX6 yX6_wayOfLoading yX6_wayOfLoading, Cond.code yX6_wayOfLoading cX6_wayOfLoading 2 (some .int), Cond.fieldLink RX6 19 "CassetteTones" "reader" "LCassetteTones$BlockReader;", Cond.instanceMethod yX0_readBlock, Cond.initialized RX0, Cond.selects RX0 yX0_readBlock yX0_readBlock]
def wsX6_count_r2 : List Cond := [Cond.code yX0_readBlock cX0_readBlock 5 none, Cond.fieldLink RX0 12 "CassetteTones$BlockReader" "first" "LCassetteTones$Telling;", Cond.fieldLink RX0 18 "CassetteTones$BlockReader" "second" "LCassetteTones$Telling;", Cond.instanceMethod yX4_firstOf, Cond.selects RX4 yX4_firstOf yX4_firstOf, Cond.code yX4_firstOf cX4_firstOf 2 (some .int), Cond.instanceMethod yX5_readCells, Cond.initialized RX5, Cond.selects RX5 yX5_readCells yX5_readCells, Cond.code yX5_readCells cX5_readCells 5 none, Cond.fieldLink RX5 18 "CassetteTones$Telling" "many" "I", Cond.methodLink RX5 22 yX5_readLeader, Cond.instanceMethod yX5_readLeader, Cond.selects RX5 yX5_readLeader yX5_readLeader, Cond.code yX5_readLeader cX5_readLeader 7 none, Cond.methodLink RX5 39 Lib.Math.min.name, Cond.static Lib.Math.min.name, Cond.initialized "java/lang/Math", Cond.code Lib.Math.min.name Lib.Math.min.code 2 (some .int), Cond.methodLink RX5 45 Lib.Math.max.name, Cond.static Lib.Math.max.name, Cond.code Lib.Math.max.name Lib.Math.max.code 2 (some .int), Cond.fieldLink RX5 48 "CassetteTones$Telling" "leaderHeard" "I", Cond.methodLink RX5 26 yX5_readByte]
def wsX6_count_r3 : List Cond := [Cond.instanceMethod yX5_readByte, Cond.selects RX5 yX5_readByte yX5_readByte, Cond.code yX5_readByte cX5_readByte 9 none, Cond.fieldLink RX5 9 "CassetteTones$Telling" "values" "[I", Cond.fieldLink RX5 15 "CassetteTones$Telling" "wholeUpTo" "[I", Cond.instanceMethod yX4_toldAt, Cond.selects RX4 yX4_toldAt yX4_toldAt, Cond.code yX4_toldAt cX4_toldAt 2 (some .int), Cond.fieldLink RX4 33 "CassetteTones$Tape" "written" "[I", Cond.fieldLink RX4 30 "CassetteTones$Tape" "bad" "[I", Cond.static yX6_setValue, Cond.code yX6_setValue cX6_setValue 3 none, Cond.instanceMethod yX4_tellingCells, Cond.selects RX4 yX4_tellingCells yX4_tellingCells, Cond.code yX4_tellingCells cX4_tellingCells 2 (some .int), Cond.fieldLink RX4 21 "CassetteTones$Tape" "manys" "[I", Cond.instanceMethod yX4_setting, Cond.selects RX4 yX4_setting yX4_setting, Cond.code yX4_setting cX4_setting 2 (some .int), Cond.fieldLink RX4 9 "CassetteTones$Tape" "settings" "[I", Cond.instanceMethod yX0_wayBy, Cond.selects RX0 yX0_wayBy yX0_wayBy, Cond.code yX0_wayBy cX0_wayBy 2 (some .int), Cond.instanceMethod yX5_stateBy]
def wsX6_count_r4 : List Cond := [Cond.selects RX5 yX5_stateBy yX5_stateBy, Cond.code yX5_stateBy cX5_stateBy 4 (some .int), Cond.methodLink RX5 63 yX5_isLost, Cond.instanceMethod yX5_isLost, Cond.selects RX5 yX5_isLost yX5_isLost, Cond.code yX5_isLost cX5_isLost 2 (some .boolean), Cond.methodLink RX5 59 yX5_isByteWhole, Cond.instanceMethod yX5_isByteWhole, Cond.selects RX5 yX5_isByteWhole yX5_isByteWhole, Cond.code yX5_isByteWhole cX5_isByteWhole 3 (some .boolean), Cond.methodLink RX5 67 yX5_tellsSum, Cond.instanceMethod yX5_tellsSum, Cond.selects RX5 yX5_tellsSum yX5_tellsSum, Cond.code yX5_tellsSum cX5_tellsSum 3 (some .boolean), Cond.methodLink RX0 45 yX0_isWholeTogether, Cond.instanceMethod yX0_isWholeTogether, Cond.selects RX0 yX0_isWholeTogether yX0_isWholeTogether, Cond.code yX0_isWholeTogether cX0_isWholeTogether 5 (some .boolean), Cond.methodLink RX0 56 yX0_byteTogether, Cond.instanceMethod yX0_byteTogether, Cond.selects RX0 yX0_byteTogether yX0_byteTogether, Cond.code yX0_byteTogether cX0_byteTogether 3 (some .int), Cond.instanceMethod yX4_silentCells, Cond.selects RX4 yX4_silentCells yX4_silentCells]
def wsX6_count_r5 : List Cond := [Cond.code yX4_silentCells cX4_silentCells 4 (some .int), Cond.fieldLink RX4 27 "CassetteTones$Tape" "volumes" "[I", Cond.methodLink RX4 46 yX4_cells, Cond.methodLink RX4 78 yX4_setting, Cond.instanceMethod yX4_badCells, Cond.selects RX4 yX4_badCells yX4_badCells, Cond.code yX4_badCells cX4_badCells 4 (some .int)]
def wsX6_count : List Cond := .code yX6_count cX6_count 2 (some .int) :: ((wsX6_count_r1 ++ (wsX6_count_r2 ++ (wsX6_count_r3 ++ (wsX6_count_r4 ++ wsX6_count_r5)))) ++ wsX60 ++ wsX40 ++ wsX20 ++ wsX10 ++ wsX00 ++ wsX50)
def wsX6_holds : List Cond := .code yX6_holds cX6_holds 2 (some .boolean) :: ([])
def wsX6_reached_r1 : List Cond := [Cond.fieldLink RX6 12 "CassetteTones" "tape" "LCassetteTones$Tape;", Cond.methodLink RX6 100 yX6_valueAt, Cond.static yX6_valueAt, Cond.initialized RX6, Cond.code yX6_valueAt cX6_valueAt 2 (some .int), Cond.methodLink RX6 189 yX6_holds, Cond.static yX6_holds, Cond.code yX6_holds cX6_holds 2 (some .boolean), Cond.methodLink RX6 117 yX6_wayOfLoading, Cond.instanceMethod yX6_wayOfLoading, Cond.selects RX6 yX6_wayOfLoading yX6_wayOfLoading, Cond.code yX6_wayOfLoading cX6_wayOfLoading 2 (some .int), Cond.fieldLink RX6 19 "CassetteTones" "reader" "LCassetteTones$BlockReader;", Cond.instanceMethod yX0_readBlock, Cond.initialized RX0, Cond.selects RX0 yX0_readBlock yX0_readBlock, Cond.code yX0_readBlock cX0_readBlock 5 none, Cond.fieldLink RX0 12 "CassetteTones$BlockReader" "first" "LCassetteTones$Telling;", Cond.fieldLink RX0 18 "CassetteTones$BlockReader" "second" "LCassetteTones$Telling;", Cond.instanceMethod yX4_firstOf, Cond.initialized RX4, Cond.selects RX4 yX4_firstOf yX4_firstOf, Cond.code yX4_firstOf cX4_firstOf 2 (some .int), Cond.fieldLink RX4 24 "CassetteTones$Tape" "firsts" "[I"]
def wsX6_reached_r2 : List Cond := [Cond.instanceMethod yX5_readCells, Cond.initialized RX5, Cond.selects RX5 yX5_readCells yX5_readCells, Cond.code yX5_readCells cX5_readCells 5 none, Cond.fieldLink RX5 18 "CassetteTones$Telling" "many" "I", Cond.methodLink RX5 22 yX5_readLeader, Cond.instanceMethod yX5_readLeader, Cond.selects RX5 yX5_readLeader yX5_readLeader, Cond.code yX5_readLeader cX5_readLeader 7 none, Cond.methodLink RX5 39 Lib.Math.min.name, Cond.static Lib.Math.min.name, Cond.initialized "java/lang/Math", Cond.code Lib.Math.min.name Lib.Math.min.code 2 (some .int), Cond.methodLink RX5 45 Lib.Math.max.name, Cond.static Lib.Math.max.name, Cond.code Lib.Math.max.name Lib.Math.max.code 2 (some .int), Cond.fieldLink RX5 48 "CassetteTones$Telling" "leaderHeard" "I", Cond.methodLink RX5 26 yX5_readByte, Cond.instanceMethod yX5_readByte, Cond.selects RX5 yX5_readByte yX5_readByte, Cond.code yX5_readByte cX5_readByte 9 none, Cond.fieldLink RX5 9 "CassetteTones$Telling" "values" "[I", Cond.fieldLink RX5 15 "CassetteTones$Telling" "wholeUpTo" "[I", Cond.instanceMethod yX4_toldAt]
def wsX6_reached_r3 : List Cond := [Cond.selects RX4 yX4_toldAt yX4_toldAt, Cond.code yX4_toldAt cX4_toldAt 2 (some .int), Cond.fieldLink RX4 33 "CassetteTones$Tape" "written" "[I", Cond.fieldLink RX4 30 "CassetteTones$Tape" "bad" "[I", Cond.static yX6_setValue, Cond.code yX6_setValue cX6_setValue 3 none, Cond.instanceMethod yX4_tellingCells, Cond.selects RX4 yX4_tellingCells yX4_tellingCells, Cond.code yX4_tellingCells cX4_tellingCells 2 (some .int), Cond.fieldLink RX4 21 "CassetteTones$Tape" "manys" "[I", Cond.instanceMethod yX4_setting, Cond.selects RX4 yX4_setting yX4_setting, Cond.code yX4_setting cX4_setting 2 (some .int), Cond.fieldLink RX4 9 "CassetteTones$Tape" "settings" "[I", Cond.instanceMethod yX0_wayBy, Cond.selects RX0 yX0_wayBy yX0_wayBy, Cond.code yX0_wayBy cX0_wayBy 2 (some .int), Cond.instanceMethod yX5_stateBy, Cond.selects RX5 yX5_stateBy yX5_stateBy, Cond.code yX5_stateBy cX5_stateBy 4 (some .int), Cond.methodLink RX5 63 yX5_isLost, Cond.instanceMethod yX5_isLost, Cond.selects RX5 yX5_isLost yX5_isLost, Cond.code yX5_isLost cX5_isLost 2 (some .boolean)]
def wsX6_reached_r4 : List Cond := [Cond.methodLink RX5 59 yX5_isByteWhole, Cond.instanceMethod yX5_isByteWhole, Cond.selects RX5 yX5_isByteWhole yX5_isByteWhole, Cond.code yX5_isByteWhole cX5_isByteWhole 3 (some .boolean), Cond.methodLink RX5 67 yX5_tellsSum, Cond.instanceMethod yX5_tellsSum, Cond.selects RX5 yX5_tellsSum yX5_tellsSum, Cond.code yX5_tellsSum cX5_tellsSum 3 (some .boolean), Cond.methodLink RX0 45 yX0_isWholeTogether, Cond.instanceMethod yX0_isWholeTogether, Cond.selects RX0 yX0_isWholeTogether yX0_isWholeTogether, Cond.code yX0_isWholeTogether cX0_isWholeTogether 5 (some .boolean), Cond.methodLink RX0 56 yX0_byteTogether, Cond.instanceMethod yX0_byteTogether, Cond.selects RX0 yX0_byteTogether yX0_byteTogether, Cond.code yX0_byteTogether cX0_byteTogether 3 (some .int)]
def wsX6_reached : List Cond := .code yX6_reached cX6_reached 4 (some .int) :: ((wsX6_reached_r1 ++ (wsX6_reached_r2 ++ (wsX6_reached_r3 ++ wsX6_reached_r4))) ++ wsX60 ++ wsX40 ++ wsX00 ++ wsX50)
def wsX6_near_r1 : List Cond := [Cond.fieldLink RX6 12 "CassetteTones" "tape" "LCassetteTones$Tape;", Cond.instanceMethod yX4_nearerBlocks, Cond.initialized RX4, Cond.selects RX4 yX4_nearerBlocks yX4_nearerBlocks, Cond.code yX4_nearerBlocks cX4_nearerBlocks 7 (some .int), Cond.fieldLink RX4 36 "CassetteTones$Tape" "blocks" "I", Cond.methodLink RX4 112 yX4_distanceOf, Cond.instanceMethod yX4_distanceOf, Cond.selects RX4 yX4_distanceOf yX4_distanceOf, Cond.code yX4_distanceOf cX4_distanceOf 4 (some .int), Cond.methodLink RX4 109 Lib.Math.abs.name, Cond.static Lib.Math.abs.name, Cond.initialized "java/lang/Math", Cond.code Lib.Math.abs.name Lib.Math.abs.code 1 (some .int), Cond.methodLink RX4 50 Lib.Math.min.name, Cond.static Lib.Math.min.name, Cond.code Lib.Math.min.name Lib.Math.min.code 2 (some .int), Cond.methodLink RX4 71 yX4_firstOf, Cond.instanceMethod yX4_firstOf, Cond.selects RX4 yX4_firstOf yX4_firstOf, Cond.code yX4_firstOf cX4_firstOf 2 (some .int), Cond.fieldLink RX4 24 "CassetteTones$Tape" "firsts" "[I", Cond.static yX6_valueAt, Cond.initialized RX6]
def wsX6_near_r2 : List Cond := [Cond.code yX6_valueAt cX6_valueAt 2 (some .int), Cond.methodLink RX4 106 yX4_counterOf, Cond.instanceMethod yX4_counterOf, Cond.selects RX4 yX4_counterOf yX4_counterOf, Cond.code yX4_counterOf cX4_counterOf 2 (some .int), Cond.methodLink RX4 78 yX4_setting, Cond.instanceMethod yX4_setting, Cond.selects RX4 yX4_setting yX4_setting, Cond.code yX4_setting cX4_setting 2 (some .int), Cond.fieldLink RX4 9 "CassetteTones$Tape" "settings" "[I"]
def wsX6_near : List Cond := .code yX6_near cX6_near 4 (some .int) :: ((wsX6_near_r1 ++ wsX6_near_r2) ++ wsX60 ++ wsX40)
def wsX6_mostLeast_r1 : List Cond := [Cond.fieldLink RX6 12 "CassetteTones" "tape" "LCassetteTones$Tape;", Cond.fieldLink RX6 19 "CassetteTones" "reader" "LCassetteTones$BlockReader;", Cond.instanceMethod yX4_hasBlock, Cond.initialized RX4, Cond.selects RX4 yX4_hasBlock yX4_hasBlock, Cond.code yX4_hasBlock cX4_hasBlock 2 (some .boolean), Cond.fieldLink RX4 36 "CassetteTones$Tape" "blocks" "I", Cond.instanceMethod yX0_readBlock, Cond.initialized RX0, Cond.selects RX0 yX0_readBlock yX0_readBlock, Cond.code yX0_readBlock cX0_readBlock 5 none, Cond.fieldLink RX0 12 "CassetteTones$BlockReader" "first" "LCassetteTones$Telling;", Cond.fieldLink RX0 18 "CassetteTones$BlockReader" "second" "LCassetteTones$Telling;", Cond.instanceMethod yX4_firstOf, Cond.selects RX4 yX4_firstOf yX4_firstOf, Cond.code yX4_firstOf cX4_firstOf 2 (some .int), Cond.fieldLink RX4 24 "CassetteTones$Tape" "firsts" "[I", Cond.static yX6_valueAt, Cond.initialized RX6, Cond.code yX6_valueAt cX6_valueAt 2 (some .int), Cond.instanceMethod yX5_readCells, Cond.initialized RX5, Cond.selects RX5 yX5_readCells yX5_readCells, Cond.code yX5_readCells cX5_readCells 5 none]
def wsX6_mostLeast_r2 : List Cond := [Cond.fieldLink RX5 18 "CassetteTones$Telling" "many" "I", Cond.methodLink RX5 22 yX5_readLeader, Cond.instanceMethod yX5_readLeader, Cond.selects RX5 yX5_readLeader yX5_readLeader, Cond.code yX5_readLeader cX5_readLeader 7 none, Cond.methodLink RX5 39 Lib.Math.min.name, Cond.static Lib.Math.min.name, Cond.initialized "java/lang/Math", Cond.code Lib.Math.min.name Lib.Math.min.code 2 (some .int), Cond.methodLink RX5 45 Lib.Math.max.name, Cond.static Lib.Math.max.name, Cond.code Lib.Math.max.name Lib.Math.max.code 2 (some .int), Cond.fieldLink RX5 48 "CassetteTones$Telling" "leaderHeard" "I", Cond.methodLink RX5 26 yX5_readByte, Cond.instanceMethod yX5_readByte, Cond.selects RX5 yX5_readByte yX5_readByte, Cond.code yX5_readByte cX5_readByte 9 none, Cond.fieldLink RX5 9 "CassetteTones$Telling" "values" "[I", Cond.fieldLink RX5 15 "CassetteTones$Telling" "wholeUpTo" "[I", Cond.instanceMethod yX4_toldAt, Cond.selects RX4 yX4_toldAt yX4_toldAt, Cond.code yX4_toldAt cX4_toldAt 2 (some .int), Cond.fieldLink RX4 33 "CassetteTones$Tape" "written" "[I", Cond.fieldLink RX4 30 "CassetteTones$Tape" "bad" "[I"]
def wsX6_mostLeast_r3 : List Cond := [Cond.static yX6_setValue, Cond.code yX6_setValue cX6_setValue 3 none, Cond.instanceMethod yX4_tellingCells, Cond.selects RX4 yX4_tellingCells yX4_tellingCells, Cond.code yX4_tellingCells cX4_tellingCells 2 (some .int), Cond.fieldLink RX4 21 "CassetteTones$Tape" "manys" "[I", Cond.instanceMethod yX0_wayBy, Cond.selects RX0 yX0_wayBy yX0_wayBy, Cond.code yX0_wayBy cX0_wayBy 2 (some .int), Cond.instanceMethod yX5_stateBy, Cond.selects RX5 yX5_stateBy yX5_stateBy, Cond.code yX5_stateBy cX5_stateBy 4 (some .int), Cond.methodLink RX5 63 yX5_isLost, Cond.instanceMethod yX5_isLost, Cond.selects RX5 yX5_isLost yX5_isLost, Cond.code yX5_isLost cX5_isLost 2 (some .boolean), Cond.methodLink RX5 59 yX5_isByteWhole, Cond.instanceMethod yX5_isByteWhole, Cond.selects RX5 yX5_isByteWhole yX5_isByteWhole, Cond.code yX5_isByteWhole cX5_isByteWhole 3 (some .boolean), Cond.methodLink RX5 67 yX5_tellsSum, Cond.instanceMethod yX5_tellsSum, Cond.selects RX5 yX5_tellsSum yX5_tellsSum, Cond.code yX5_tellsSum cX5_tellsSum 3 (some .boolean)]
def wsX6_mostLeast_r4 : List Cond := [Cond.methodLink RX0 45 yX0_isWholeTogether, Cond.instanceMethod yX0_isWholeTogether, Cond.selects RX0 yX0_isWholeTogether yX0_isWholeTogether, Cond.code yX0_isWholeTogether cX0_isWholeTogether 5 (some .boolean), Cond.methodLink RX0 56 yX0_byteTogether, Cond.instanceMethod yX0_byteTogether, Cond.selects RX0 yX0_byteTogether yX0_byteTogether, Cond.code yX0_byteTogether cX0_byteTogether 3 (some .int)]
def wsX6_mostLeast : List Cond := .code yX6_mostLeast cX6_mostLeast 3 (some .int) :: ((wsX6_mostLeast_r1 ++ (wsX6_mostLeast_r2 ++ (wsX6_mostLeast_r3 ++ wsX6_mostLeast_r4))) ++ wsX60 ++ wsX40 ++ wsX00 ++ wsX50)
def wsX6_weak_r1 : List Cond := [Cond.fieldLink RX6 12 "CassetteTones" "tape" "LCassetteTones$Tape;", Cond.instanceMethod yX4_hasBlock, Cond.initialized RX4, Cond.selects RX4 yX4_hasBlock yX4_hasBlock, Cond.code yX4_hasBlock cX4_hasBlock 2 (some .boolean), Cond.fieldLink RX4 36 "CassetteTones$Tape" "blocks" "I", Cond.methodLink RX6 113 yX6_stateOfTelling, Cond.instanceMethod yX6_stateOfTelling, Cond.selects RX6 yX6_stateOfTelling yX6_stateOfTelling, Cond.initialized RX6, Cond.code yX6_stateOfTelling cX6_stateOfTelling 3 (some .int), Cond.fieldLink RX6 19 "CassetteTones" "reader" "LCassetteTones$BlockReader;", Cond.instanceMethod yX0_readBlock, Cond.initialized RX0, Cond.selects RX0 yX0_readBlock yX0_readBlock, Cond.code yX0_readBlock cX0_readBlock 5 none, Cond.fieldLink RX0 12 "CassetteTones$BlockReader" "first" "LCassetteTones$Telling;", Cond.fieldLink RX0 18 "CassetteTones$BlockReader" "second" "LCassetteTones$Telling;", Cond.instanceMethod yX4_firstOf, Cond.selects RX4 yX4_firstOf yX4_firstOf, Cond.code yX4_firstOf cX4_firstOf 2 (some .int), Cond.fieldLink RX4 24 "CassetteTones$Tape" "firsts" "[I", Cond.static yX6_valueAt, Cond.code yX6_valueAt cX6_valueAt 2 (some .int)]
def wsX6_weak_r2 : List Cond := [Cond.instanceMethod yX5_readCells, Cond.initialized RX5, Cond.selects RX5 yX5_readCells yX5_readCells, Cond.code yX5_readCells cX5_readCells 5 none, Cond.fieldLink RX5 18 "CassetteTones$Telling" "many" "I", Cond.methodLink RX5 22 yX5_readLeader, Cond.instanceMethod yX5_readLeader, Cond.selects RX5 yX5_readLeader yX5_readLeader, Cond.code yX5_readLeader cX5_readLeader 7 none, Cond.methodLink RX5 39 Lib.Math.min.name, Cond.static Lib.Math.min.name, Cond.initialized "java/lang/Math", Cond.code Lib.Math.min.name Lib.Math.min.code 2 (some .int), Cond.methodLink RX5 45 Lib.Math.max.name, Cond.static Lib.Math.max.name, Cond.code Lib.Math.max.name Lib.Math.max.code 2 (some .int), Cond.fieldLink RX5 48 "CassetteTones$Telling" "leaderHeard" "I", Cond.methodLink RX5 26 yX5_readByte, Cond.instanceMethod yX5_readByte, Cond.selects RX5 yX5_readByte yX5_readByte, Cond.code yX5_readByte cX5_readByte 9 none, Cond.fieldLink RX5 9 "CassetteTones$Telling" "values" "[I", Cond.fieldLink RX5 15 "CassetteTones$Telling" "wholeUpTo" "[I", Cond.instanceMethod yX4_toldAt]
def wsX6_weak_r3 : List Cond := [Cond.selects RX4 yX4_toldAt yX4_toldAt, Cond.code yX4_toldAt cX4_toldAt 2 (some .int), Cond.fieldLink RX4 33 "CassetteTones$Tape" "written" "[I", Cond.fieldLink RX4 30 "CassetteTones$Tape" "bad" "[I", Cond.static yX6_setValue, Cond.code yX6_setValue cX6_setValue 3 none, Cond.instanceMethod yX4_tellingCells, Cond.selects RX4 yX4_tellingCells yX4_tellingCells, Cond.code yX4_tellingCells cX4_tellingCells 2 (some .int), Cond.fieldLink RX4 21 "CassetteTones$Tape" "manys" "[I", Cond.instanceMethod yX0_telling, Cond.selects RX0 yX0_telling yX0_telling, Cond.code yX0_telling cX0_telling 2 (some (.object "CassetteTones$Telling")), Cond.instanceMethod yX4_setting, Cond.selects RX4 yX4_setting yX4_setting, Cond.code yX4_setting cX4_setting 2 (some .int), Cond.fieldLink RX4 9 "CassetteTones$Tape" "settings" "[I", Cond.instanceMethod yX5_stateBy, Cond.selects RX5 yX5_stateBy yX5_stateBy, Cond.code yX5_stateBy cX5_stateBy 4 (some .int), Cond.methodLink RX5 63 yX5_isLost, Cond.instanceMethod yX5_isLost, Cond.selects RX5 yX5_isLost yX5_isLost, Cond.code yX5_isLost cX5_isLost 2 (some .boolean)]
def wsX6_weak_r4 : List Cond := [Cond.methodLink RX5 59 yX5_isByteWhole, Cond.instanceMethod yX5_isByteWhole, Cond.selects RX5 yX5_isByteWhole yX5_isByteWhole, Cond.code yX5_isByteWhole cX5_isByteWhole 3 (some .boolean), Cond.methodLink RX5 67 yX5_tellsSum, Cond.instanceMethod yX5_tellsSum, Cond.selects RX5 yX5_tellsSum yX5_tellsSum, Cond.code yX5_tellsSum cX5_tellsSum 3 (some .boolean)]
def wsX6_weak : List Cond := .code yX6_weak cX6_weak 3 (some .int) :: ((wsX6_weak_r1 ++ (wsX6_weak_r2 ++ (wsX6_weak_r3 ++ wsX6_weak_r4))) ++ wsX60 ++ wsX40 ++ wsX00 ++ wsX50)
def wsX6_countBelow : List Cond := .code yX6_countBelow cX6_countBelow 4 none :: ([.fieldLink RX6 47 "CassetteTones" "below" "[I", .fieldLink RX6 12 "CassetteTones" "tape" "LCassetteTones$Tape;", .methodLink RX6 65 yX6_setValue, .static yX6_setValue, .initialized RX6, .code yX6_setValue cX6_setValue 3 none, .methodLink RX6 100 yX6_valueAt, .static yX6_valueAt, .code yX6_valueAt cX6_valueAt 2 (some .int), .methodLink RX6 189 yX6_holds, .static yX6_holds, .code yX6_holds cX6_holds 2 (some .boolean)] ++ wsX60 ++ wsX40)
def wsX6_widest_r1 : List Cond := [Cond.fieldLink RX6 12 "CassetteTones" "tape" "LCassetteTones$Tape;", Cond.fieldLink RX6 47 "CassetteTones" "below" "[I", Cond.methodLink RX6 201 yX6_reached, Cond.instanceMethod yX6_reached, Cond.selects RX6 yX6_reached yX6_reached, Cond.initialized RX6, Cond.code yX6_reached cX6_reached 4 (some .int), Cond.methodLink RX6 100 yX6_valueAt, Cond.static yX6_valueAt, Cond.code yX6_valueAt cX6_valueAt 2 (some .int), Cond.methodLink RX6 189 yX6_holds, Cond.static yX6_holds, Cond.code yX6_holds cX6_holds 2 (some .boolean), Cond.methodLink RX6 117 yX6_wayOfLoading, Cond.instanceMethod yX6_wayOfLoading, Cond.selects RX6 yX6_wayOfLoading yX6_wayOfLoading, Cond.code yX6_wayOfLoading cX6_wayOfLoading 2 (some .int), Cond.fieldLink RX6 19 "CassetteTones" "reader" "LCassetteTones$BlockReader;", Cond.instanceMethod yX0_readBlock, Cond.initialized RX0, Cond.selects RX0 yX0_readBlock yX0_readBlock, Cond.code yX0_readBlock cX0_readBlock 5 none, Cond.fieldLink RX0 12 "CassetteTones$BlockReader" "first" "LCassetteTones$Telling;", Cond.fieldLink RX0 18 "CassetteTones$BlockReader" "second" "LCassetteTones$Telling;"]
def wsX6_widest_r2 : List Cond := [Cond.instanceMethod yX4_firstOf, Cond.initialized RX4, Cond.selects RX4 yX4_firstOf yX4_firstOf, Cond.code yX4_firstOf cX4_firstOf 2 (some .int), Cond.fieldLink RX4 24 "CassetteTones$Tape" "firsts" "[I", Cond.instanceMethod yX5_readCells, Cond.initialized RX5, Cond.selects RX5 yX5_readCells yX5_readCells, Cond.code yX5_readCells cX5_readCells 5 none, Cond.fieldLink RX5 18 "CassetteTones$Telling" "many" "I", Cond.methodLink RX5 22 yX5_readLeader, Cond.instanceMethod yX5_readLeader, Cond.selects RX5 yX5_readLeader yX5_readLeader, Cond.code yX5_readLeader cX5_readLeader 7 none, Cond.methodLink RX5 39 Lib.Math.min.name, Cond.static Lib.Math.min.name, Cond.initialized "java/lang/Math", Cond.code Lib.Math.min.name Lib.Math.min.code 2 (some .int), Cond.methodLink RX5 45 Lib.Math.max.name, Cond.static Lib.Math.max.name, Cond.code Lib.Math.max.name Lib.Math.max.code 2 (some .int), Cond.fieldLink RX5 48 "CassetteTones$Telling" "leaderHeard" "I", Cond.methodLink RX5 26 yX5_readByte, Cond.instanceMethod yX5_readByte]
def wsX6_widest_r3 : List Cond := [Cond.selects RX5 yX5_readByte yX5_readByte, Cond.code yX5_readByte cX5_readByte 9 none, Cond.fieldLink RX5 9 "CassetteTones$Telling" "values" "[I", Cond.fieldLink RX5 15 "CassetteTones$Telling" "wholeUpTo" "[I", Cond.instanceMethod yX4_toldAt, Cond.selects RX4 yX4_toldAt yX4_toldAt, Cond.code yX4_toldAt cX4_toldAt 2 (some .int), Cond.fieldLink RX4 33 "CassetteTones$Tape" "written" "[I", Cond.fieldLink RX4 30 "CassetteTones$Tape" "bad" "[I", Cond.static yX6_setValue, Cond.code yX6_setValue cX6_setValue 3 none, Cond.instanceMethod yX4_tellingCells, Cond.selects RX4 yX4_tellingCells yX4_tellingCells, Cond.code yX4_tellingCells cX4_tellingCells 2 (some .int), Cond.fieldLink RX4 21 "CassetteTones$Tape" "manys" "[I", Cond.instanceMethod yX4_setting, Cond.selects RX4 yX4_setting yX4_setting, Cond.code yX4_setting cX4_setting 2 (some .int), Cond.fieldLink RX4 9 "CassetteTones$Tape" "settings" "[I", Cond.instanceMethod yX0_wayBy, Cond.selects RX0 yX0_wayBy yX0_wayBy, Cond.code yX0_wayBy cX0_wayBy 2 (some .int), Cond.instanceMethod yX5_stateBy, Cond.selects RX5 yX5_stateBy yX5_stateBy]
def wsX6_widest_r4 : List Cond := [Cond.code yX5_stateBy cX5_stateBy 4 (some .int), Cond.methodLink RX5 63 yX5_isLost, Cond.instanceMethod yX5_isLost, Cond.selects RX5 yX5_isLost yX5_isLost, Cond.code yX5_isLost cX5_isLost 2 (some .boolean), Cond.methodLink RX5 59 yX5_isByteWhole, Cond.instanceMethod yX5_isByteWhole, Cond.selects RX5 yX5_isByteWhole yX5_isByteWhole, Cond.code yX5_isByteWhole cX5_isByteWhole 3 (some .boolean), Cond.methodLink RX5 67 yX5_tellsSum, Cond.instanceMethod yX5_tellsSum, Cond.selects RX5 yX5_tellsSum yX5_tellsSum, Cond.code yX5_tellsSum cX5_tellsSum 3 (some .boolean), Cond.methodLink RX0 45 yX0_isWholeTogether, Cond.instanceMethod yX0_isWholeTogether, Cond.selects RX0 yX0_isWholeTogether yX0_isWholeTogether, Cond.code yX0_isWholeTogether cX0_isWholeTogether 5 (some .boolean), Cond.methodLink RX0 56 yX0_byteTogether, Cond.instanceMethod yX0_byteTogether, Cond.selects RX0 yX0_byteTogether yX0_byteTogether, Cond.code yX0_byteTogether cX0_byteTogether 3 (some .int), Cond.methodLink RX6 204 yX6_countBelow, Cond.instanceMethod yX6_countBelow, Cond.selects RX6 yX6_countBelow yX6_countBelow]
def wsX6_widest_r5 : List Cond := [Cond.code yX6_countBelow cX6_countBelow 4 none, Cond.methodLink RX6 65 yX6_setValue]
def wsX6_widest : List Cond := .code yX6_widest cX6_widest 5 (some .int) :: ((wsX6_widest_r1 ++ (wsX6_widest_r2 ++ (wsX6_widest_r3 ++ (wsX6_widest_r4 ++ wsX6_widest_r5)))) ++ wsX60 ++ wsX40 ++ wsX00 ++ wsX50)
def wsJ9_abs_0f7a4 : List Cond := .code yJ9_abs_0f7a4 cJ9_abs_0f7a4 1 (some .int) :: ([])
def wsJ9_max_7cf53 : List Cond := .code yJ9_max_7cf53 cJ9_max_7cf53 2 (some .int) :: ([])
def wsJ9_min_7cf53 : List Cond := .code yJ9_min_7cf53 cJ9_min_7cf53 2 (some .int) :: ([])
def wsL_cell : List Cond := .code yL_cell cL_cell 2 (some .int) :: ([.constant RL 7 (1000177493), .constant RL 8 (650699937)])
def wsL_low : List Cond := .code yL_low cL_low 2 (some .int) :: ([.constant RL 9 (2147483647)])
def wsL_mem : List Cond := .code yL_mem cL_mem 2 (some .int) :: ([])
def wsL_lay : List Cond := .code yL_lay cL_lay 3 none :: ([.constantLong RL 10 (255), .constantLong RL 12 (-1)])
def wsL_odd : List Cond := .code yL_odd cL_odd 3 (some .int) :: ([])
def wsL_size : List Cond := .code yL_size cL_size 2 (some .int) :: ([])
def wsL_sum : List Cond := .code yL_sum cL_sum 2 (some .int) :: ([])
def wsL_nine : List Cond := .code yL_nine cL_nine 9 (some .int) :: ([.methodLink RL 14 yL_sum, .static yL_sum, .initialized RL, .code yL_sum cL_sum 2 (some .int), .methodLink RL 20 yL_odd, .static yL_odd, .code yL_odd cL_odd 3 (some .int), .methodLink RL 24 yL_size, .static yL_size, .code yL_size cL_size 2 (some .int), .methodLink RL 27 yL_mem, .static yL_mem, .code yL_mem cL_mem 2 (some .int)])
def wsL_byteOf : List Cond := .code yL_byteOf cL_byteOf 8 (some .int) :: ([.methodLink RL 24 yL_size, .static yL_size, .initialized RL, .code yL_size cL_size 2 (some .int), .methodLink RL 27 yL_mem, .static yL_mem, .code yL_mem cL_mem 2 (some .int), .methodLink RL 31 yL_nine, .static yL_nine, .code yL_nine cL_nine 9 (some .int), .methodLink RL 14 yL_sum, .static yL_sum, .code yL_sum cL_sum 2 (some .int), .methodLink RL 20 yL_odd, .static yL_odd, .code yL_odd cL_odd 3 (some .int)])
def wsL_lost : List Cond := .code yL_lost cL_lost 7 (some .boolean) :: ([.methodLink RL 24 yL_size, .static yL_size, .initialized RL, .code yL_size cL_size 2 (some .int), .methodLink RL 27 yL_mem, .static yL_mem, .code yL_mem cL_mem 2 (some .int)])
def wsL_how : List Cond := .code yL_how cL_how 8 (some .int) :: ([.methodLink RL 35 yL_lost, .static yL_lost, .initialized RL, .code yL_lost cL_lost 7 (some .boolean), .methodLink RL 24 yL_size, .static yL_size, .code yL_size cL_size 2 (some .int), .methodLink RL 27 yL_mem, .static yL_mem, .code yL_mem cL_mem 2 (some .int), .methodLink RL 39 yL_byteOf, .static yL_byteOf, .code yL_byteOf cL_byteOf 8 (some .int), .methodLink RL 31 yL_nine, .static yL_nine, .code yL_nine cL_nine 9 (some .int), .methodLink RL 14 yL_sum, .static yL_sum, .code yL_sum cL_sum 2 (some .int), .methodLink RL 20 yL_odd, .static yL_odd, .code yL_odd cL_odd 3 (some .int)])
def wsL_load_r1 : List Cond := [Cond.constantLong RL 46 (-6), Cond.methodLink RL 43 yL_how, Cond.static yL_how, Cond.initialized RL, Cond.code yL_how cL_how 8 (some .int), Cond.methodLink RL 35 yL_lost, Cond.static yL_lost, Cond.code yL_lost cL_lost 7 (some .boolean), Cond.methodLink RL 24 yL_size, Cond.static yL_size, Cond.code yL_size cL_size 2 (some .int), Cond.methodLink RL 27 yL_mem, Cond.static yL_mem, Cond.code yL_mem cL_mem 2 (some .int), Cond.methodLink RL 39 yL_byteOf, Cond.static yL_byteOf, Cond.code yL_byteOf cL_byteOf 8 (some .int), Cond.methodLink RL 31 yL_nine, Cond.static yL_nine, Cond.code yL_nine cL_nine 9 (some .int), Cond.methodLink RL 14 yL_sum, Cond.static yL_sum, Cond.code yL_sum cL_sum 2 (some .int), Cond.methodLink RL 20 yL_odd]
def wsL_load_r2 : List Cond := [Cond.static yL_odd, Cond.code yL_odd cL_odd 3 (some .int)]
def wsL_load : List Cond := .code yL_load cL_load 11 (some .long) :: ((wsL_load_r1 ++ wsL_load_r2))
def wsL_counter : List Cond := .code yL_counter cL_counter 2 (some .int) :: ([])
def wsL_far : List Cond := .code yL_far cL_far 5 (some .int) :: ([.methodLink RL 48 yL_counter, .static yL_counter, .initialized RL, .code yL_counter cL_counter 2 (some .int)])
def wsL_same_r1 : List Cond := [Cond.constantLong RL 61 (3), Cond.constantLong RL 66 (-5), Cond.constantLong RL 72 (2), Cond.methodLink RL 51 yL_load, Cond.static yL_load, Cond.initialized RL, Cond.code yL_load cL_load 11 (some .long), Cond.constantLong RL 46 (-6), Cond.methodLink RL 43 yL_how, Cond.static yL_how, Cond.code yL_how cL_how 8 (some .int), Cond.methodLink RL 35 yL_lost, Cond.static yL_lost, Cond.code yL_lost cL_lost 7 (some .boolean), Cond.methodLink RL 24 yL_size, Cond.static yL_size, Cond.code yL_size cL_size 2 (some .int), Cond.methodLink RL 27 yL_mem, Cond.static yL_mem, Cond.code yL_mem cL_mem 2 (some .int), Cond.methodLink RL 39 yL_byteOf, Cond.static yL_byteOf, Cond.code yL_byteOf cL_byteOf 8 (some .int), Cond.methodLink RL 31 yL_nine]
def wsL_same_r2 : List Cond := [Cond.static yL_nine, Cond.code yL_nine cL_nine 9 (some .int), Cond.methodLink RL 14 yL_sum, Cond.static yL_sum, Cond.code yL_sum cL_sum 2 (some .int), Cond.methodLink RL 20 yL_odd, Cond.static yL_odd, Cond.code yL_odd cL_odd 3 (some .int), Cond.methodLink RL 55 yX6_of, Cond.instanceMethod yX6_of, Cond.selects RX6 yX6_of yX6_of, Cond.initialized RX6, Cond.code yX6_of cX6_of 3 (some .int), Cond.fieldLink RX6 12 "CassetteTones" "tape" "LCassetteTones$Tape;", Cond.instanceMethod yX4_hasBlock, Cond.initialized RX4, Cond.selects RX4 yX4_hasBlock yX4_hasBlock, Cond.code yX4_hasBlock cX4_hasBlock 2 (some .boolean), Cond.fieldLink RX4 36 "CassetteTones$Tape" "blocks" "I", Cond.methodLink RX6 100 yX6_valueAt, Cond.static yX6_valueAt, Cond.code yX6_valueAt cX6_valueAt 2 (some .int), Cond.instanceMethod yX4_firstOf, Cond.selects RX4 yX4_firstOf yX4_firstOf]
def wsL_same_r3 : List Cond := [Cond.code yX4_firstOf cX4_firstOf 2 (some .int), Cond.fieldLink RX4 24 "CassetteTones$Tape" "firsts" "[I", Cond.methodLink RX6 113 yX6_stateOfTelling, Cond.instanceMethod yX6_stateOfTelling, Cond.selects RX6 yX6_stateOfTelling yX6_stateOfTelling, Cond.code yX6_stateOfTelling cX6_stateOfTelling 3 (some .int), Cond.fieldLink RX6 19 "CassetteTones" "reader" "LCassetteTones$BlockReader;", Cond.instanceMethod yX0_readBlock, Cond.initialized RX0, Cond.selects RX0 yX0_readBlock yX0_readBlock, Cond.code yX0_readBlock cX0_readBlock 5 none, Cond.fieldLink RX0 12 "CassetteTones$BlockReader" "first" "LCassetteTones$Telling;", Cond.fieldLink RX0 18 "CassetteTones$BlockReader" "second" "LCassetteTones$Telling;", Cond.instanceMethod yX5_readCells, Cond.initialized RX5, Cond.selects RX5 yX5_readCells yX5_readCells, Cond.code yX5_readCells cX5_readCells 5 none, Cond.fieldLink RX5 18 "CassetteTones$Telling" "many" "I", Cond.methodLink RX5 22 yX5_readLeader, Cond.instanceMethod yX5_readLeader, Cond.selects RX5 yX5_readLeader yX5_readLeader, Cond.code yX5_readLeader cX5_readLeader 7 none, Cond.methodLink RX5 39 Lib.Math.min.name, Cond.static Lib.Math.min.name]
def wsL_same_r4 : List Cond := [Cond.initialized "java/lang/Math", Cond.code Lib.Math.min.name Lib.Math.min.code 2 (some .int), Cond.methodLink RX5 45 Lib.Math.max.name, Cond.static Lib.Math.max.name, Cond.code Lib.Math.max.name Lib.Math.max.code 2 (some .int), Cond.fieldLink RX5 48 "CassetteTones$Telling" "leaderHeard" "I", Cond.methodLink RX5 26 yX5_readByte, Cond.instanceMethod yX5_readByte, Cond.selects RX5 yX5_readByte yX5_readByte, Cond.code yX5_readByte cX5_readByte 9 none, Cond.fieldLink RX5 9 "CassetteTones$Telling" "values" "[I", Cond.fieldLink RX5 15 "CassetteTones$Telling" "wholeUpTo" "[I", Cond.instanceMethod yX4_toldAt, Cond.selects RX4 yX4_toldAt yX4_toldAt, Cond.code yX4_toldAt cX4_toldAt 2 (some .int), Cond.fieldLink RX4 33 "CassetteTones$Tape" "written" "[I", Cond.fieldLink RX4 30 "CassetteTones$Tape" "bad" "[I", Cond.static yX6_setValue, Cond.code yX6_setValue cX6_setValue 3 none, Cond.instanceMethod yX4_tellingCells, Cond.selects RX4 yX4_tellingCells yX4_tellingCells, Cond.code yX4_tellingCells cX4_tellingCells 2 (some .int), Cond.fieldLink RX4 21 "CassetteTones$Tape" "manys" "[I", Cond.instanceMethod yX0_telling]
def wsL_same_r5 : List Cond := [Cond.selects RX0 yX0_telling yX0_telling, Cond.code yX0_telling cX0_telling 2 (some (.object "CassetteTones$Telling")), Cond.instanceMethod yX4_setting, Cond.selects RX4 yX4_setting yX4_setting, Cond.code yX4_setting cX4_setting 2 (some .int), Cond.fieldLink RX4 9 "CassetteTones$Tape" "settings" "[I", Cond.instanceMethod yX5_stateBy, Cond.selects RX5 yX5_stateBy yX5_stateBy, Cond.code yX5_stateBy cX5_stateBy 4 (some .int), Cond.methodLink RX5 63 yX5_isLost, Cond.instanceMethod yX5_isLost, Cond.selects RX5 yX5_isLost yX5_isLost, Cond.code yX5_isLost cX5_isLost 2 (some .boolean), Cond.methodLink RX5 59 yX5_isByteWhole, Cond.instanceMethod yX5_isByteWhole, Cond.selects RX5 yX5_isByteWhole yX5_isByteWhole, Cond.code yX5_isByteWhole cX5_isByteWhole 3 (some .boolean), Cond.methodLink RX5 67 yX5_tellsSum, Cond.instanceMethod yX5_tellsSum, Cond.selects RX5 yX5_tellsSum yX5_tellsSum, Cond.code yX5_tellsSum cX5_tellsSum 3 (some .boolean), Cond.methodLink RX6 117 yX6_wayOfLoading, Cond.instanceMethod yX6_wayOfLoading, Cond.selects RX6 yX6_wayOfLoading yX6_wayOfLoading]
def wsL_same_r6 : List Cond := [Cond.code yX6_wayOfLoading cX6_wayOfLoading 2 (some .int), Cond.instanceMethod yX0_wayBy, Cond.selects RX0 yX0_wayBy yX0_wayBy, Cond.code yX0_wayBy cX0_wayBy 2 (some .int), Cond.methodLink RX0 45 yX0_isWholeTogether, Cond.instanceMethod yX0_isWholeTogether, Cond.selects RX0 yX0_isWholeTogether yX0_isWholeTogether, Cond.code yX0_isWholeTogether cX0_isWholeTogether 5 (some .boolean), Cond.methodLink RX0 56 yX0_byteTogether, Cond.instanceMethod yX0_byteTogether, Cond.selects RX0 yX0_byteTogether yX0_byteTogether, Cond.code yX0_byteTogether cX0_byteTogether 3 (some .int), Cond.instanceMethod yX4_depthOf, Cond.selects RX4 yX4_depthOf yX4_depthOf, Cond.code yX4_depthOf cX4_depthOf 4 (some .int), Cond.fieldLink RX4 18 "CassetteTones$Tape" "unders" "[I", Cond.instanceMethod yX4_counterOf, Cond.selects RX4 yX4_counterOf yX4_counterOf, Cond.code yX4_counterOf cX4_counterOf 2 (some .int), Cond.methodLink RX4 78 yX4_setting, Cond.methodLink RL 48 yL_counter, Cond.static yL_counter, Cond.code yL_counter cL_counter 2 (some .int), Cond.methodLink RL 63 yX6_load]
def wsL_same_r7 : List Cond := [Cond.instanceMethod yX6_load, Cond.selects RX6 yX6_load yX6_load, Cond.code yX6_load cX6_load 3 (some .long), Cond.constantLong RX6 126 (-1), Cond.constantLong RX6 128 (-5), Cond.instanceMethod yX0_bytesBy, Cond.selects RX0 yX0_bytesBy yX0_bytesBy, Cond.code yX0_bytesBy cX0_bytesBy 6 (some .long), Cond.methodLink RX0 70 yX0_byteBy, Cond.instanceMethod yX0_byteBy, Cond.selects RX0 yX0_byteBy yX0_byteBy, Cond.code yX0_byteBy cX0_byteBy 4 (some .int), Cond.methodLink RL 68 yX6_read, Cond.instanceMethod yX6_read, Cond.selects RX6 yX6_read yX6_read, Cond.code yX6_read cX6_read 6 (some .int), Cond.methodLink RL 74 yL_low, Cond.static yL_low, Cond.code yL_low cL_low 2 (some .int), Cond.constant RL 9 (2147483647), Cond.methodLink RL 77 yX6_cell, Cond.instanceMethod yX6_cell, Cond.selects RX6 yX6_cell yX6_cell, Cond.code yX6_cell cX6_cell 3 (some .int)]
def wsL_same_r8 : List Cond := [Cond.instanceMethod yX4_hasCell, Cond.selects RX4 yX4_hasCell yX4_hasCell, Cond.code yX4_hasCell cX4_hasCell 2 (some .boolean), Cond.methodLink RX4 46 yX4_cells, Cond.instanceMethod yX4_cells, Cond.selects RX4 yX4_cells yX4_cells, Cond.code yX4_cells cX4_cells 1 (some .int), Cond.instanceMethod yX4_bitAt, Cond.selects RX4 yX4_bitAt yX4_bitAt, Cond.code yX4_bitAt cX4_bitAt 5 (some .int), Cond.methodLink RX4 97 yX4_blockAt, Cond.instanceMethod yX4_blockAt, Cond.selects RX4 yX4_blockAt yX4_blockAt, Cond.code yX4_blockAt cX4_blockAt 3 (some .int), Cond.methodLink RX4 71 yX4_firstOf, Cond.methodLink RX4 100 yX4_partAt, Cond.instanceMethod yX4_partAt, Cond.selects RX4 yX4_partAt yX4_partAt, Cond.code yX4_partAt cX4_partAt 5 (some .int), Cond.methodLink RX4 75 yX4_tellingCells, Cond.methodLink RX4 103 yX4_toldAt, Cond.methodLink RL 80 yL_far, Cond.static yL_far, Cond.code yL_far cL_far 5 (some .int)]
def wsL_same_r9 : List Cond := [Cond.methodLink RL 84 yX6_near, Cond.instanceMethod yX6_near, Cond.selects RX6 yX6_near yX6_near, Cond.code yX6_near cX6_near 4 (some .int), Cond.instanceMethod yX4_nearerBlocks, Cond.selects RX4 yX4_nearerBlocks yX4_nearerBlocks, Cond.code yX4_nearerBlocks cX4_nearerBlocks 7 (some .int), Cond.methodLink RX4 112 yX4_distanceOf, Cond.instanceMethod yX4_distanceOf, Cond.selects RX4 yX4_distanceOf yX4_distanceOf, Cond.code yX4_distanceOf cX4_distanceOf 4 (some .int), Cond.methodLink RX4 109 Lib.Math.abs.name, Cond.static Lib.Math.abs.name, Cond.code Lib.Math.abs.name Lib.Math.abs.code 1 (some .int), Cond.methodLink RX4 50 Lib.Math.min.name, Cond.methodLink RX4 106 yX4_counterOf, Cond.methodLink RL 87 yX6_mostLeast, Cond.instanceMethod yX6_mostLeast, Cond.selects RX6 yX6_mostLeast yX6_mostLeast, Cond.code yX6_mostLeast cX6_mostLeast 3 (some .int), Cond.methodLink RL 90 yX6_weak, Cond.instanceMethod yX6_weak, Cond.selects RX6 yX6_weak yX6_weak, Cond.code yX6_weak cX6_weak 3 (some .int)]
def wsL_same_r10 : List Cond := [Cond.methodLink RL 93 yX6_widest, Cond.instanceMethod yX6_widest, Cond.selects RX6 yX6_widest yX6_widest, Cond.code yX6_widest cX6_widest 5 (some .int), Cond.fieldLink RX6 47 "CassetteTones" "below" "[I", Cond.methodLink RX6 201 yX6_reached, Cond.instanceMethod yX6_reached, Cond.selects RX6 yX6_reached yX6_reached, Cond.code yX6_reached cX6_reached 4 (some .int), Cond.methodLink RX6 189 yX6_holds, Cond.static yX6_holds, Cond.code yX6_holds cX6_holds 2 (some .boolean), Cond.methodLink RX6 204 yX6_countBelow, Cond.instanceMethod yX6_countBelow, Cond.selects RX6 yX6_countBelow yX6_countBelow, Cond.code yX6_countBelow cX6_countBelow 4 none, Cond.methodLink RX6 65 yX6_setValue, Cond.methodLink RL 96 yX6_reached, Cond.methodLink RL 100 yX6_count, Cond.instanceMethod yX6_count, Cond.selects RX6 yX6_count yX6_count, Cond.code yX6_count cX6_count 2 (some .int), Cond.fieldLink RX6 26 "CassetteTones" "pad" "LCassetteTones$Pad;", Cond.fieldLink RX6 33 "CassetteTones" "history" "LCassetteTones$History;"]
def wsL_same_r11 : List Cond := [Cond.methodLink RX6 173 yX6_loadedBlocks, Cond.instanceMethod yX6_loadedBlocks, Cond.selects RX6 yX6_loadedBlocks yX6_loadedBlocks, Cond.code yX6_loadedBlocks cX6_loadedBlocks 5 (some .int), Cond.instanceMethod yX4_silentCells, Cond.selects RX4 yX4_silentCells yX4_silentCells, Cond.code yX4_silentCells cX4_silentCells 4 (some .int), Cond.fieldLink RX4 27 "CassetteTones$Tape" "volumes" "[I", Cond.instanceMethod yX4_badCells, Cond.selects RX4 yX4_badCells yX4_badCells, Cond.code yX4_badCells cX4_badCells 4 (some .int)]
def wsL_same : List Cond := .code yL_same cL_same 21 (some .boolean) :: ((wsL_same_r1 ++ (wsL_same_r2 ++ (wsL_same_r3 ++ (wsL_same_r4 ++ (wsL_same_r5 ++ (wsL_same_r6 ++ (wsL_same_r7 ++ (wsL_same_r8 ++ (wsL_same_r9 ++ (wsL_same_r10 ++ wsL_same_r11)))))))))) ++ wsX60 ++ wsX40 ++ wsX00 ++ wsX50 ++ wsX20 ++ wsX10)
def wsL_law_r1 : List Cond := [Cond.classLink RL 56 RX6, Cond.instantiable RX6 7, Cond.initialized RX6, Cond.arrayClass .int, Cond.arrayClass .long, Cond.methodLink RL 103 yX6_init, Cond.instanceMethod yX6_init, Cond.code yX6_init cX6_init 1 none, Cond.methodLink RX6 3 objectInit, Cond.instanceMethod objectInit, Cond.code objectInit ⟨#[0xb1]⟩ 1 none, Cond.classLink RX6 9 RX4, Cond.instantiable RX4 9, Cond.initialized RX4, Cond.fieldLink RX6 12 "CassetteTones" "tape" "LCassetteTones$Tape;", Cond.classLink RX6 16 RX0, Cond.instantiable RX0 2, Cond.initialized RX0, Cond.fieldLink RX6 19 "CassetteTones" "reader" "LCassetteTones$BlockReader;", Cond.classLink RX6 23 RX2, Cond.instantiable RX2 11, Cond.initialized RX2, Cond.fieldLink RX6 26 "CassetteTones" "pad" "LCassetteTones$Pad;", Cond.classLink RX6 30 RX1]
def wsL_law_r2 : List Cond := [Cond.instantiable RX1 3, Cond.initialized RX1, Cond.fieldLink RX6 33 "CassetteTones" "history" "LCassetteTones$History;", Cond.classLink RX6 37 RX3, Cond.instantiable RX3 2, Cond.initialized RX3, Cond.fieldLink RX6 40 "CassetteTones" "firstSlot" "LCassetteTones$Slot;", Cond.fieldLink RX6 44 "CassetteTones" "secondSlot" "LCassetteTones$Slot;", Cond.fieldLink RX6 47 "CassetteTones" "below" "[I", Cond.instanceMethod yX4_init, Cond.code yX4_init cX4_init 1 none, Cond.methodLink RX4 3 objectInit, Cond.fieldLink RX4 9 "CassetteTones$Tape" "settings" "[I", Cond.fieldLink RX4 15 "CassetteTones$Tape" "names" "[I", Cond.fieldLink RX4 18 "CassetteTones$Tape" "unders" "[I", Cond.fieldLink RX4 21 "CassetteTones$Tape" "manys" "[I", Cond.fieldLink RX4 24 "CassetteTones$Tape" "firsts" "[I", Cond.fieldLink RX4 27 "CassetteTones$Tape" "volumes" "[I", Cond.fieldLink RX4 30 "CassetteTones$Tape" "bad" "[I", Cond.fieldLink RX4 33 "CassetteTones$Tape" "written" "[I", Cond.instanceMethod yX0_init, Cond.code yX0_init cX0_init 1 none, Cond.methodLink RX0 3 objectInit, Cond.classLink RX0 9 RX5]
def wsL_law_r3 : List Cond := [Cond.instantiable RX5 4, Cond.initialized RX5, Cond.fieldLink RX0 12 "CassetteTones$BlockReader" "first" "LCassetteTones$Telling;", Cond.fieldLink RX0 18 "CassetteTones$BlockReader" "second" "LCassetteTones$Telling;", Cond.instanceMethod yX5_init, Cond.code yX5_init cX5_init 1 none, Cond.methodLink RX5 3 objectInit, Cond.fieldLink RX5 9 "CassetteTones$Telling" "values" "[I", Cond.fieldLink RX5 15 "CassetteTones$Telling" "wholeUpTo" "[I", Cond.instanceMethod yX2_init, Cond.code yX2_init cX2_init 1 none, Cond.methodLink RX2 3 objectInit, Cond.arrayClass .char, Cond.fieldLink RX2 9 "CassetteTones$Pad" "characters" "[C", Cond.instanceMethod yX1_init, Cond.code yX1_init cX1_init 2 none, Cond.methodLink RX1 3 objectInit, Cond.classLink RX1 9 RX4, Cond.fieldLink RX1 11 "CassetteTones$History" "states" "[LCassetteTones$Tape;", Cond.instanceMethod yX3_init, Cond.code yX3_init cX3_init 1 none, Cond.methodLink RX3 1 objectInit, Cond.classLink RX3 7 RX4, Cond.fieldLink RX3 10 "CassetteTones$Slot" "saved" "LCassetteTones$Tape;"]
def wsL_law_r4 : List Cond := [Cond.methodLink RL 104 yL_cell, Cond.static yL_cell, Cond.initialized RL, Cond.code yL_cell cL_cell 2 (some .int), Cond.constant RL 7 (1000177493), Cond.constant RL 8 (650699937), Cond.methodLink RL 74 yL_low, Cond.static yL_low, Cond.code yL_low cL_low 2 (some .int), Cond.constant RL 9 (2147483647), Cond.methodLink RL 24 yL_size, Cond.static yL_size, Cond.code yL_size cL_size 2 (some .int), Cond.methodLink RL 107 yL_lay, Cond.static yL_lay, Cond.code yL_lay cL_lay 3 none, Cond.constantLong RL 10 (255), Cond.constantLong RL 12 (-1), Cond.methodLink RL 111 yX6_write, Cond.instanceMethod yX6_write, Cond.selects RX6 yX6_write yX6_write, Cond.code yX6_write cX6_write 7 (some .int), Cond.instanceMethod yX4_errorOfBlock, Cond.selects RX4 yX4_errorOfBlock yX4_errorOfBlock]
def wsL_law_r5 : List Cond := [Cond.code yX4_errorOfBlock cX4_errorOfBlock 4 (some .int), Cond.fieldLink RX4 36 "CassetteTones$Tape" "blocks" "I", Cond.methodLink RX4 63 yX4_hasBlock, Cond.instanceMethod yX4_hasBlock, Cond.selects RX4 yX4_hasBlock yX4_hasBlock, Cond.code yX4_hasBlock cX4_hasBlock 2 (some .boolean), Cond.instanceMethod yX1_keep, Cond.selects RX1 yX1_keep yX1_keep, Cond.code yX1_keep cX1_keep 3 none, Cond.fieldLink RX1 18 "CassetteTones$History" "oldest" "I", Cond.fieldLink RX1 22 "CassetteTones$History" "size" "I", Cond.methodLink RX1 25 yX1_stateAt, Cond.instanceMethod yX1_stateAt, Cond.selects RX1 yX1_stateAt yX1_stateAt, Cond.code yX1_stateAt cX1_stateAt 3 (some (.object "CassetteTones$Tape")), Cond.methodLink RX1 33 yJ9_floorMod_7cf53, Cond.static yJ9_floorMod_7cf53, Cond.initialized RJ9, Cond.code yJ9_floorMod_7cf53 cJ9_floorMod_7cf53 3 (some .int), Cond.instanceMethod yX4_copyFrom, Cond.selects RX4 yX4_copyFrom yX4_copyFrom, Cond.code yX4_copyFrom cX4_copyFrom 3 none, Cond.methodLink RX4 40 arraycopyName, Cond.native arraycopyName]
def wsL_law_r6 : List Cond := [Cond.static arraycopyName, Cond.initialized "java/lang/System", Cond.methodLink RX4 50 Lib.Math.min.name, Cond.static Lib.Math.min.name, Cond.initialized "java/lang/Math", Cond.code Lib.Math.min.name Lib.Math.min.code 2 (some .int), Cond.methodLink RX4 56 Lib.Math.max.name, Cond.static Lib.Math.max.name, Cond.code Lib.Math.max.name Lib.Math.max.code 2 (some .int), Cond.methodLink RX4 46 yX4_cells, Cond.instanceMethod yX4_cells, Cond.selects RX4 yX4_cells yX4_cells, Cond.code yX4_cells cX4_cells 1 (some .int), Cond.static yX6_valueAt, Cond.code yX6_valueAt cX6_valueAt 2 (some .int), Cond.instanceMethod yX4_appendBlock, Cond.selects RX4 yX4_appendBlock yX4_appendBlock, Cond.code yX4_appendBlock cX4_appendBlock 11 (some .int), Cond.static yX6_setValue, Cond.code yX6_setValue cX6_setValue 3 none, Cond.methodLink RX4 71 yX4_firstOf, Cond.instanceMethod yX4_firstOf, Cond.selects RX4 yX4_firstOf yX4_firstOf, Cond.code yX4_firstOf cX4_firstOf 2 (some .int)]
def wsL_law_r7 : List Cond := [Cond.methodLink RX4 75 yX4_tellingCells, Cond.instanceMethod yX4_tellingCells, Cond.selects RX4 yX4_tellingCells yX4_tellingCells, Cond.code yX4_tellingCells cX4_tellingCells 2 (some .int), Cond.methodLink RX4 78 yX4_setting, Cond.instanceMethod yX4_setting, Cond.selects RX4 yX4_setting yX4_setting, Cond.code yX4_setting cX4_setting 2 (some .int), Cond.methodLink RX4 81 yX4_writeTelling, Cond.instanceMethod yX4_writeTelling, Cond.selects RX4 yX4_writeTelling yX4_writeTelling, Cond.code yX4_writeTelling cX4_writeTelling 8 none, Cond.methodLink RX4 85 yX4_writeByte, Cond.instanceMethod yX4_writeByte, Cond.selects RX4 yX4_writeByte yX4_writeByte, Cond.code yX4_writeByte cX4_writeByte 4 none, Cond.methodLink RX4 89 yJ6_bitCount_0f7a4, Cond.static yJ6_bitCount_0f7a4, Cond.initialized RJ6, Cond.code yJ6_bitCount_0f7a4 cJ6_bitCount_0f7a4 1 (some .int), Cond.constant RJ6 265 (1431655765), Cond.constant RJ6 266 (858993459), Cond.constant RJ6 267 (252645135), Cond.methodLink RL 115 yX6_wipeLast]
def wsL_law_r8 : List Cond := [Cond.instanceMethod yX6_wipeLast, Cond.selects RX6 yX6_wipeLast yX6_wipeLast, Cond.code yX6_wipeLast cX6_wipeLast 1 (some .int), Cond.methodLink RL 118 yX6_spoil, Cond.instanceMethod yX6_spoil, Cond.selects RX6 yX6_spoil yX6_spoil, Cond.code yX6_spoil cX6_spoil 2 (some .int), Cond.instanceMethod yX4_hasCell, Cond.selects RX4 yX4_hasCell yX4_hasCell, Cond.code yX4_hasCell cX4_hasCell 2 (some .boolean), Cond.instanceMethod yX4_spoilCell, Cond.selects RX4 yX4_spoilCell yX4_spoilCell, Cond.code yX4_spoilCell cX4_spoilCell 3 (some .int), Cond.methodLink RL 27 yL_mem, Cond.static yL_mem, Cond.code yL_mem cL_mem 2 (some .int), Cond.methodLink RL 121 yX6_fade, Cond.instanceMethod yX6_fade, Cond.selects RX6 yX6_fade yX6_fade, Cond.code yX6_fade cX6_fade 5 (some .int), Cond.instanceMethod yX4_errorOfFading, Cond.selects RX4 yX4_errorOfFading yX4_errorOfFading, Cond.code yX4_errorOfFading cX4_errorOfFading 4 (some .int), Cond.methodLink RX4 94 yX4_hasCell]
def wsL_law_r9 : List Cond := [Cond.instanceMethod yX4_fadeCells, Cond.selects RX4 yX4_fadeCells yX4_fadeCells, Cond.code yX4_fadeCells cX4_fadeCells 6 (some .int), Cond.methodLink RL 124 yX6_set, Cond.instanceMethod yX6_set, Cond.selects RX6 yX6_set yX6_set, Cond.code yX6_set cX6_set 4 (some .int), Cond.methodLink RX6 51 yX6_mostOf, Cond.static yX6_mostOf, Cond.code yX6_mostOf cX6_mostOf 1 (some .int), Cond.methodLink RX6 65 yX6_setValue, Cond.methodLink RL 127 yL_same, Cond.static yL_same, Cond.code yL_same cL_same 21 (some .boolean), Cond.constantLong RL 61 (3), Cond.constantLong RL 66 (-5), Cond.constantLong RL 72 (2), Cond.methodLink RL 51 yL_load, Cond.static yL_load, Cond.code yL_load cL_load 11 (some .long), Cond.constantLong RL 46 (-6), Cond.methodLink RL 43 yL_how, Cond.static yL_how, Cond.code yL_how cL_how 8 (some .int)]
def wsL_law_r10 : List Cond := [Cond.methodLink RL 35 yL_lost, Cond.static yL_lost, Cond.code yL_lost cL_lost 7 (some .boolean), Cond.methodLink RL 39 yL_byteOf, Cond.static yL_byteOf, Cond.code yL_byteOf cL_byteOf 8 (some .int), Cond.methodLink RL 31 yL_nine, Cond.static yL_nine, Cond.code yL_nine cL_nine 9 (some .int), Cond.methodLink RL 14 yL_sum, Cond.static yL_sum, Cond.code yL_sum cL_sum 2 (some .int), Cond.methodLink RL 20 yL_odd, Cond.static yL_odd, Cond.code yL_odd cL_odd 3 (some .int), Cond.methodLink RL 55 yX6_of, Cond.instanceMethod yX6_of, Cond.selects RX6 yX6_of yX6_of, Cond.code yX6_of cX6_of 3 (some .int), Cond.methodLink RX6 100 yX6_valueAt, Cond.methodLink RX6 113 yX6_stateOfTelling, Cond.instanceMethod yX6_stateOfTelling, Cond.selects RX6 yX6_stateOfTelling yX6_stateOfTelling, Cond.code yX6_stateOfTelling cX6_stateOfTelling 3 (some .int)]
def wsL_law_r11 : List Cond := [Cond.instanceMethod yX0_readBlock, Cond.selects RX0 yX0_readBlock yX0_readBlock, Cond.code yX0_readBlock cX0_readBlock 5 none, Cond.instanceMethod yX5_readCells, Cond.selects RX5 yX5_readCells yX5_readCells, Cond.code yX5_readCells cX5_readCells 5 none, Cond.fieldLink RX5 18 "CassetteTones$Telling" "many" "I", Cond.methodLink RX5 22 yX5_readLeader, Cond.instanceMethod yX5_readLeader, Cond.selects RX5 yX5_readLeader yX5_readLeader, Cond.code yX5_readLeader cX5_readLeader 7 none, Cond.methodLink RX5 39 Lib.Math.min.name, Cond.methodLink RX5 45 Lib.Math.max.name, Cond.fieldLink RX5 48 "CassetteTones$Telling" "leaderHeard" "I", Cond.methodLink RX5 26 yX5_readByte, Cond.instanceMethod yX5_readByte, Cond.selects RX5 yX5_readByte yX5_readByte, Cond.code yX5_readByte cX5_readByte 9 none, Cond.instanceMethod yX4_toldAt, Cond.selects RX4 yX4_toldAt yX4_toldAt, Cond.code yX4_toldAt cX4_toldAt 2 (some .int), Cond.instanceMethod yX0_telling, Cond.selects RX0 yX0_telling yX0_telling, Cond.code yX0_telling cX0_telling 2 (some (.object "CassetteTones$Telling"))]
def wsL_law_r12 : List Cond := [Cond.instanceMethod yX5_stateBy, Cond.selects RX5 yX5_stateBy yX5_stateBy, Cond.code yX5_stateBy cX5_stateBy 4 (some .int), Cond.methodLink RX5 63 yX5_isLost, Cond.instanceMethod yX5_isLost, Cond.selects RX5 yX5_isLost yX5_isLost, Cond.code yX5_isLost cX5_isLost 2 (some .boolean), Cond.methodLink RX5 59 yX5_isByteWhole, Cond.instanceMethod yX5_isByteWhole, Cond.selects RX5 yX5_isByteWhole yX5_isByteWhole, Cond.code yX5_isByteWhole cX5_isByteWhole 3 (some .boolean), Cond.methodLink RX5 67 yX5_tellsSum, Cond.instanceMethod yX5_tellsSum, Cond.selects RX5 yX5_tellsSum yX5_tellsSum, Cond.code yX5_tellsSum cX5_tellsSum 3 (some .boolean), Cond.methodLink RX6 117 yX6_wayOfLoading, Cond.instanceMethod yX6_wayOfLoading, Cond.selects RX6 yX6_wayOfLoading yX6_wayOfLoading, Cond.code yX6_wayOfLoading cX6_wayOfLoading 2 (some .int), Cond.instanceMethod yX0_wayBy, Cond.selects RX0 yX0_wayBy yX0_wayBy, Cond.code yX0_wayBy cX0_wayBy 2 (some .int), Cond.methodLink RX0 45 yX0_isWholeTogether, Cond.instanceMethod yX0_isWholeTogether]
def wsL_law_r13 : List Cond := [Cond.selects RX0 yX0_isWholeTogether yX0_isWholeTogether, Cond.code yX0_isWholeTogether cX0_isWholeTogether 5 (some .boolean), Cond.methodLink RX0 56 yX0_byteTogether, Cond.instanceMethod yX0_byteTogether, Cond.selects RX0 yX0_byteTogether yX0_byteTogether, Cond.code yX0_byteTogether cX0_byteTogether 3 (some .int), Cond.instanceMethod yX4_depthOf, Cond.selects RX4 yX4_depthOf yX4_depthOf, Cond.code yX4_depthOf cX4_depthOf 4 (some .int), Cond.instanceMethod yX4_counterOf, Cond.selects RX4 yX4_counterOf yX4_counterOf, Cond.code yX4_counterOf cX4_counterOf 2 (some .int), Cond.methodLink RL 48 yL_counter, Cond.static yL_counter, Cond.code yL_counter cL_counter 2 (some .int), Cond.methodLink RL 63 yX6_load, Cond.instanceMethod yX6_load, Cond.selects RX6 yX6_load yX6_load, Cond.code yX6_load cX6_load 3 (some .long), Cond.constantLong RX6 126 (-1), Cond.constantLong RX6 128 (-5), Cond.instanceMethod yX0_bytesBy, Cond.selects RX0 yX0_bytesBy yX0_bytesBy, Cond.code yX0_bytesBy cX0_bytesBy 6 (some .long)]
def wsL_law_r14 : List Cond := [Cond.methodLink RX0 70 yX0_byteBy, Cond.instanceMethod yX0_byteBy, Cond.selects RX0 yX0_byteBy yX0_byteBy, Cond.code yX0_byteBy cX0_byteBy 4 (some .int), Cond.methodLink RL 68 yX6_read, Cond.instanceMethod yX6_read, Cond.selects RX6 yX6_read yX6_read, Cond.code yX6_read cX6_read 6 (some .int), Cond.methodLink RL 77 yX6_cell, Cond.instanceMethod yX6_cell, Cond.selects RX6 yX6_cell yX6_cell, Cond.code yX6_cell cX6_cell 3 (some .int), Cond.instanceMethod yX4_bitAt, Cond.selects RX4 yX4_bitAt yX4_bitAt, Cond.code yX4_bitAt cX4_bitAt 5 (some .int), Cond.methodLink RX4 97 yX4_blockAt, Cond.instanceMethod yX4_blockAt, Cond.selects RX4 yX4_blockAt yX4_blockAt, Cond.code yX4_blockAt cX4_blockAt 3 (some .int), Cond.methodLink RX4 100 yX4_partAt, Cond.instanceMethod yX4_partAt, Cond.selects RX4 yX4_partAt yX4_partAt, Cond.code yX4_partAt cX4_partAt 5 (some .int), Cond.methodLink RX4 103 yX4_toldAt]
def wsL_law_r15 : List Cond := [Cond.methodLink RL 80 yL_far, Cond.static yL_far, Cond.code yL_far cL_far 5 (some .int), Cond.methodLink RL 84 yX6_near, Cond.instanceMethod yX6_near, Cond.selects RX6 yX6_near yX6_near, Cond.code yX6_near cX6_near 4 (some .int), Cond.instanceMethod yX4_nearerBlocks, Cond.selects RX4 yX4_nearerBlocks yX4_nearerBlocks, Cond.code yX4_nearerBlocks cX4_nearerBlocks 7 (some .int), Cond.methodLink RX4 112 yX4_distanceOf, Cond.instanceMethod yX4_distanceOf, Cond.selects RX4 yX4_distanceOf yX4_distanceOf, Cond.code yX4_distanceOf cX4_distanceOf 4 (some .int), Cond.methodLink RX4 109 Lib.Math.abs.name, Cond.static Lib.Math.abs.name, Cond.code Lib.Math.abs.name Lib.Math.abs.code 1 (some .int), Cond.methodLink RX4 106 yX4_counterOf, Cond.methodLink RL 87 yX6_mostLeast, Cond.instanceMethod yX6_mostLeast, Cond.selects RX6 yX6_mostLeast yX6_mostLeast, Cond.code yX6_mostLeast cX6_mostLeast 3 (some .int), Cond.methodLink RL 90 yX6_weak, Cond.instanceMethod yX6_weak]
def wsL_law_r16 : List Cond := [Cond.selects RX6 yX6_weak yX6_weak, Cond.code yX6_weak cX6_weak 3 (some .int), Cond.methodLink RL 93 yX6_widest, Cond.instanceMethod yX6_widest, Cond.selects RX6 yX6_widest yX6_widest, Cond.code yX6_widest cX6_widest 5 (some .int), Cond.methodLink RX6 201 yX6_reached, Cond.instanceMethod yX6_reached, Cond.selects RX6 yX6_reached yX6_reached, Cond.code yX6_reached cX6_reached 4 (some .int), Cond.methodLink RX6 189 yX6_holds, Cond.static yX6_holds, Cond.code yX6_holds cX6_holds 2 (some .boolean), Cond.methodLink RX6 204 yX6_countBelow, Cond.instanceMethod yX6_countBelow, Cond.selects RX6 yX6_countBelow yX6_countBelow, Cond.code yX6_countBelow cX6_countBelow 4 none, Cond.methodLink RL 96 yX6_reached, Cond.methodLink RL 100 yX6_count, Cond.instanceMethod yX6_count, Cond.selects RX6 yX6_count yX6_count, Cond.code yX6_count cX6_count 2 (some .int), Cond.methodLink RX6 173 yX6_loadedBlocks, Cond.instanceMethod yX6_loadedBlocks]
def wsL_law_r17 : List Cond := [Cond.selects RX6 yX6_loadedBlocks yX6_loadedBlocks, Cond.code yX6_loadedBlocks cX6_loadedBlocks 5 (some .int), Cond.instanceMethod yX4_silentCells, Cond.selects RX4 yX4_silentCells yX4_silentCells, Cond.code yX4_silentCells cX4_silentCells 4 (some .int), Cond.instanceMethod yX4_badCells, Cond.selects RX4 yX4_badCells yX4_badCells, Cond.code yX4_badCells cX4_badCells 4 (some .int)]
def wsL_law : List Cond := (wsL_law_r1 ++ (wsL_law_r2 ++ (wsL_law_r3 ++ (wsL_law_r4 ++ (wsL_law_r5 ++ (wsL_law_r6 ++ (wsL_law_r7 ++ (wsL_law_r8 ++ (wsL_law_r9 ++ (wsL_law_r10 ++ (wsL_law_r11 ++ (wsL_law_r12 ++ (wsL_law_r13 ++ (wsL_law_r14 ++ (wsL_law_r15 ++ (wsL_law_r16 ++ wsL_law_r17)))))))))))))))) ++ wsX60 ++ wsX40 ++ wsX00 ++ wsX20 ++ wsX10 ++ wsX30 ++ wsX50 ++ ([] : List Cond)
theorem inJ6 : ∀ w ∈ wsJ60, w ∈ lw_tbl := by decide +kernel
theorem inJ9 : ∀ w ∈ wsJ90, w ∈ lw_tbl := by decide +kernel
theorem inJ10 : ∀ w ∈ wsJ100, w ∈ lw_tbl := by decide +kernel
set_option maxRecDepth 20000 in
theorem ggX0_init_X5_init : GoodIn wsX0_init wsX5_init := goodIn_r _ [10, 11, 2, 3, 12, 13, 14, 15, 16, 17, 18] (by decide +kernel) (by decide +kernel)
set_option maxRecDepth 20000 in
theorem gX0_init_X5_init_n11 : GoodIn wsX0_init (wsX5_init) := ggX0_init_X5_init
theorem dX0_init_0 : decode cX0_init 0 = .ok (.aload_n 0, 1) := by decide +kernel
theorem dX0_init_1 : decode cX0_init 1 = .ok (.invokespecial 3, 3) := by decide +kernel
theorem dX0_init_4 : decode cX0_init 4 = .ok (.aload_n 0, 1) := by decide +kernel
theorem dX0_init_5 : decode cX0_init 5 = .ok (.new 9, 3) := by decide +kernel
theorem dX0_init_8 : decode cX0_init 8 = .ok (.dup, 1) := by decide +kernel
theorem dX0_init_9 : decode cX0_init 9 = .ok (.invokespecial 11, 3) := by decide +kernel
theorem dX0_init_12 : decode cX0_init 12 = .ok (.putfield 12, 3) := by decide +kernel
theorem dX0_init_15 : decode cX0_init 15 = .ok (.aload_n 0, 1) := by decide +kernel
theorem dX0_init_16 : decode cX0_init 16 = .ok (.new 9, 3) := by decide +kernel
theorem dX0_init_19 : decode cX0_init 19 = .ok (.dup, 1) := by decide +kernel
theorem dX0_init_20 : decode cX0_init 20 = .ok (.invokespecial 11, 3) := by decide +kernel
theorem dX0_init_23 : decode cX0_init 23 = .ok (.putfield 18, 3) := by decide +kernel
theorem dX0_init_26 : decode cX0_init 26 = .ok (.return_, 1) := by decide +kernel
theorem dX0_telling_0 : decode cX0_telling 0 = .ok (.iload_n 1, 1) := by decide +kernel
theorem dX0_telling_1 : decode cX0_telling 1 = .ok (.ifCond .ne 10, 3) := by decide +kernel
theorem dX0_telling_4 : decode cX0_telling 4 = .ok (.aload_n 0, 1) := by decide +kernel
theorem dX0_telling_5 : decode cX0_telling 5 = .ok (.getfield 12, 3) := by decide +kernel
theorem dX0_telling_8 : decode cX0_telling 8 = .ok (.goto 7, 3) := by decide +kernel
theorem dX0_telling_11 : decode cX0_telling 11 = .ok (.aload_n 0, 1) := by decide +kernel
theorem dX0_telling_12 : decode cX0_telling 12 = .ok (.getfield 18, 3) := by decide +kernel
theorem dX0_telling_15 : decode cX0_telling 15 = .ok (.areturn, 1) := by decide +kernel
set_option maxRecDepth 20000 in
theorem ggX0_readBlock_X4_firstOf : GoodIn wsX0_readBlock wsX4_firstOf := goodIn_r _ [6, 7, 8, 9, 10, 45, 46, 47, 48, 49, 50, 51, 52, 53] (by decide +kernel) (by decide +kernel)
set_option maxRecDepth 20000 in
theorem gX0_readBlock_X4_firstOf_n21 : GoodIn wsX0_readBlock (wsX4_firstOf) := ggX0_readBlock_X4_firstOf
set_option maxRecDepth 20000 in
theorem ggX0_readBlock_X6_valueAt : GoodIn wsX0_readBlock wsX6_valueAt := goodIn_r _ [10] (by decide +kernel) (by decide +kernel)
set_option maxRecDepth 20000 in
theorem gX0_readBlock_X6_valueAt_n31 : GoodIn wsX0_readBlock (wsX6_valueAt) := ggX0_readBlock_X6_valueAt
set_option maxRecDepth 20000 in
theorem ggX0_readBlock_X5_readCells : GoodIn wsX0_readBlock wsX5_readCells := goodIn_r _ [14, 15, 16, 17, 18, 12, 19, 20, 21, 22, 23, 24, 25, 26, 27, 8, 9, 10, 28, 29, 30, 31, 32, 33, 34, 4, 35, 36, 37, 38, 39, 40, 56, 57, 58, 59, 45, 46, 47, 48, 49, 50, 51, 52, 53] (by decide +kernel) (by decide +kernel)
set_option maxRecDepth 20000 in
theorem gX0_readBlock_X5_readCells_n35 : GoodIn wsX0_readBlock (wsX5_readCells) := ggX0_readBlock_X5_readCells
set_option maxRecDepth 20000 in
theorem ggX0_readBlock_X4_tellingCells : GoodIn wsX0_readBlock wsX4_tellingCells := goodIn_r _ [43, 44, 8, 9, 10, 45, 46, 47, 48, 49, 50, 51, 52, 53] (by decide +kernel) (by decide +kernel)
set_option maxRecDepth 20000 in
theorem gX0_readBlock_X4_tellingCells_n39 : GoodIn wsX0_readBlock (wsX4_tellingCells) := ggX0_readBlock_X4_tellingCells
theorem dX0_readBlock_0 : decode cX0_readBlock 0 = .ok (.aload_n 1, 1) := by decide +kernel
theorem dX0_readBlock_1 : decode cX0_readBlock 1 = .ok (.iload_n 2, 1) := by decide +kernel
theorem dX0_readBlock_2 : decode cX0_readBlock 2 = .ok (.invokevirtual 21, 3) := by decide +kernel
theorem dX0_readBlock_5 : decode cX0_readBlock 5 = .ok (.istore_n 3, 1) := by decide +kernel
theorem dX0_readBlock_6 : decode cX0_readBlock 6 = .ok (.aload_n 1, 1) := by decide +kernel
theorem dX0_readBlock_7 : decode cX0_readBlock 7 = .ok (.getfield 27, 3) := by decide +kernel
theorem dX0_readBlock_10 : decode cX0_readBlock 10 = .ok (.iload_n 2, 1) := by decide +kernel
theorem dX0_readBlock_11 : decode cX0_readBlock 11 = .ok (.invokestatic 31, 3) := by decide +kernel
theorem dX0_readBlock_14 : decode cX0_readBlock 14 = .ok (.istore 4, 2) := by decide +kernel
theorem dX0_readBlock_16 : decode cX0_readBlock 16 = .ok (.aload_n 0, 1) := by decide +kernel
theorem dX0_readBlock_17 : decode cX0_readBlock 17 = .ok (.getfield 12, 3) := by decide +kernel
theorem dX0_readBlock_20 : decode cX0_readBlock 20 = .ok (.aload_n 1, 1) := by decide +kernel
theorem dX0_readBlock_21 : decode cX0_readBlock 21 = .ok (.iload_n 3, 1) := by decide +kernel
theorem dX0_readBlock_22 : decode cX0_readBlock 22 = .ok (.iload 4, 2) := by decide +kernel
theorem dX0_readBlock_24 : decode cX0_readBlock 24 = .ok (.invokevirtual 35, 3) := by decide +kernel
theorem dX0_readBlock_27 : decode cX0_readBlock 27 = .ok (.aload_n 0, 1) := by decide +kernel
theorem dX0_readBlock_28 : decode cX0_readBlock 28 = .ok (.getfield 18, 3) := by decide +kernel
theorem dX0_readBlock_31 : decode cX0_readBlock 31 = .ok (.aload_n 1, 1) := by decide +kernel
theorem dX0_readBlock_32 : decode cX0_readBlock 32 = .ok (.iload_n 3, 1) := by decide +kernel
theorem dX0_readBlock_33 : decode cX0_readBlock 33 = .ok (.aload_n 1, 1) := by decide +kernel
theorem dX0_readBlock_34 : decode cX0_readBlock 34 = .ok (.iload_n 2, 1) := by decide +kernel
theorem dX0_readBlock_35 : decode cX0_readBlock 35 = .ok (.invokevirtual 39, 3) := by decide +kernel
theorem dX0_readBlock_38 : decode cX0_readBlock 38 = .ok (.iadd, 1) := by decide +kernel
theorem dX0_readBlock_39 : decode cX0_readBlock 39 = .ok (.iload 4, 2) := by decide +kernel
theorem dX0_readBlock_41 : decode cX0_readBlock 41 = .ok (.invokevirtual 35, 3) := by decide +kernel
theorem dX0_readBlock_44 : decode cX0_readBlock 44 = .ok (.return_, 1) := by decide +kernel
set_option maxRecDepth 20000 in
theorem ggX0_wayBy_X5_stateBy : GoodIn wsX0_wayBy wsX5_stateBy := goodIn_r _ [6, 7, 8, 9, 10, 11, 4, 12, 13, 14, 15, 16, 17, 18, 19, 20, 21, 22, 23, 24, 25, 37, 38, 39, 40] (by decide +kernel) (by decide +kernel)
set_option maxRecDepth 20000 in
theorem gX0_wayBy_X5_stateBy_n42 : GoodIn wsX0_wayBy (wsX5_stateBy) := ggX0_wayBy_X5_stateBy
set_option maxRecDepth 20000 in
theorem ggX0_wayBy_X0_isWholeTogether : GoodIn wsX0_wayBy wsX0_isWholeTogether := goodIn_r _ [30, 1, 2, 10, 4, 11, 12, 13, 31, 32, 33, 29, 34, 15, 16, 17, 18, 19, 20, 21, 23, 24, 25, 7, 8, 14, 35, 36, 37, 38, 39, 40] (by decide +kernel) (by decide +kernel)
set_option maxRecDepth 20000 in
theorem gX0_wayBy_X0_isWholeTogether : GoodIn wsX0_wayBy (wsV RX0 45 RX0 yX0_isWholeTogether wsX0_isWholeTogether) := goodIn_app (goodIn_of _ (by decide +kernel)) ggX0_wayBy_X0_isWholeTogether
theorem dX0_wayBy_0 : decode cX0_wayBy 0 = .ok (.aload_n 0, 1) := by decide +kernel
theorem dX0_wayBy_1 : decode cX0_wayBy 1 = .ok (.getfield 12, 3) := by decide +kernel
theorem dX0_wayBy_4 : decode cX0_wayBy 4 = .ok (.iload_n 1, 1) := by decide +kernel
theorem dX0_wayBy_5 : decode cX0_wayBy 5 = .ok (.invokevirtual 42, 3) := by decide +kernel
theorem dX0_wayBy_8 : decode cX0_wayBy 8 = .ok (.ifCond .ne 5, 3) := by decide +kernel
theorem dX0_wayBy_11 : decode cX0_wayBy 11 = .ok (.iconst 0, 1) := by decide +kernel
theorem dX0_wayBy_12 : decode cX0_wayBy 12 = .ok (.ireturn, 1) := by decide +kernel
theorem dX0_wayBy_13 : decode cX0_wayBy 13 = .ok (.aload_n 0, 1) := by decide +kernel
theorem dX0_wayBy_14 : decode cX0_wayBy 14 = .ok (.getfield 18, 3) := by decide +kernel
theorem dX0_wayBy_17 : decode cX0_wayBy 17 = .ok (.iload_n 1, 1) := by decide +kernel
theorem dX0_wayBy_18 : decode cX0_wayBy 18 = .ok (.invokevirtual 42, 3) := by decide +kernel
theorem dX0_wayBy_21 : decode cX0_wayBy 21 = .ok (.ifCond .ne 5, 3) := by decide +kernel
theorem dX0_wayBy_24 : decode cX0_wayBy 24 = .ok (.iconst 1, 1) := by decide +kernel
theorem dX0_wayBy_25 : decode cX0_wayBy 25 = .ok (.ireturn, 1) := by decide +kernel
theorem dX0_wayBy_26 : decode cX0_wayBy 26 = .ok (.aload_n 0, 1) := by decide +kernel
theorem dX0_wayBy_27 : decode cX0_wayBy 27 = .ok (.iload_n 1, 1) := by decide +kernel
theorem dX0_wayBy_28 : decode cX0_wayBy 28 = .ok (.invokevirtual 45, 3) := by decide +kernel
theorem dX0_wayBy_31 : decode cX0_wayBy 31 = .ok (.ifCond .eq 7, 3) := by decide +kernel
theorem dX0_wayBy_34 : decode cX0_wayBy 34 = .ok (.iconst 2, 1) := by decide +kernel
theorem dX0_wayBy_35 : decode cX0_wayBy 35 = .ok (.goto 5, 3) := by decide +kernel
theorem dX0_wayBy_38 : decode cX0_wayBy 38 = .ok (.bipush (-6), 2) := by decide +kernel
theorem dX0_wayBy_40 : decode cX0_wayBy 40 = .ok (.ireturn, 1) := by decide +kernel
set_option maxRecDepth 20000 in
theorem ggX0_isWholeTogether_X5_isLost : GoodIn wsX0_isWholeTogether wsX5_isLost := goodIn_r _ [6, 7, 28, 29, 30, 31] (by decide +kernel) (by decide +kernel)
set_option maxRecDepth 20000 in
theorem gX0_isWholeTogether_X5_isLost_n49 : GoodIn wsX0_isWholeTogether (wsX5_isLost) := ggX0_isWholeTogether_X5_isLost
set_option maxRecDepth 20000 in
theorem ggX0_isWholeTogether_X0_byteTogether : GoodIn wsX0_isWholeTogether wsX0_byteTogether := goodIn_r _ [12, 1, 2, 13, 4, 14, 15, 16, 17, 18, 19, 26, 27, 28, 29, 30, 31] (by decide +kernel) (by decide +kernel)
set_option maxRecDepth 20000 in
theorem gX0_isWholeTogether_X0_byteTogether : GoodIn wsX0_isWholeTogether (wsV RX0 56 RX0 yX0_byteTogether wsX0_byteTogether) := goodIn_app (goodIn_of _ (by decide +kernel)) ggX0_isWholeTogether_X0_byteTogether
set_option maxRecDepth 20000 in
theorem ggX0_isWholeTogether_X5_tellsSum : GoodIn wsX0_isWholeTogether wsX5_tellsSum := goodIn_r _ [22, 23, 24, 25, 13, 14, 4, 15, 16, 17, 18, 19, 28, 29, 30, 31] (by decide +kernel) (by decide +kernel)
set_option maxRecDepth 20000 in
theorem gX0_isWholeTogether_X5_tellsSum_n60 : GoodIn wsX0_isWholeTogether (wsX5_tellsSum) := ggX0_isWholeTogether_X5_tellsSum
theorem dX0_isWholeTogether_0 : decode cX0_isWholeTogether 0 = .ok (.aload_n 0, 1) := by decide +kernel
theorem dX0_isWholeTogether_1 : decode cX0_isWholeTogether 1 = .ok (.getfield 12, 3) := by decide +kernel
theorem dX0_isWholeTogether_4 : decode cX0_isWholeTogether 4 = .ok (.iload_n 1, 1) := by decide +kernel
theorem dX0_isWholeTogether_5 : decode cX0_isWholeTogether 5 = .ok (.invokevirtual 49, 3) := by decide +kernel
theorem dX0_isWholeTogether_8 : decode cX0_isWholeTogether 8 = .ok (.ifCond .ne 14, 3) := by decide +kernel
theorem dX0_isWholeTogether_11 : decode cX0_isWholeTogether 11 = .ok (.aload_n 0, 1) := by decide +kernel
theorem dX0_isWholeTogether_12 : decode cX0_isWholeTogether 12 = .ok (.getfield 18, 3) := by decide +kernel
theorem dX0_isWholeTogether_15 : decode cX0_isWholeTogether 15 = .ok (.iload_n 1, 1) := by decide +kernel
theorem dX0_isWholeTogether_16 : decode cX0_isWholeTogether 16 = .ok (.invokevirtual 49, 3) := by decide +kernel
theorem dX0_isWholeTogether_19 : decode cX0_isWholeTogether 19 = .ok (.ifCond .eq 5, 3) := by decide +kernel
theorem dX0_isWholeTogether_22 : decode cX0_isWholeTogether 22 = .ok (.iconst 0, 1) := by decide +kernel
theorem dX0_isWholeTogether_23 : decode cX0_isWholeTogether 23 = .ok (.ireturn, 1) := by decide +kernel
theorem dX0_isWholeTogether_24 : decode cX0_isWholeTogether 24 = .ok (.iconst 0, 1) := by decide +kernel
theorem dX0_isWholeTogether_25 : decode cX0_isWholeTogether 25 = .ok (.istore_n 2, 1) := by decide +kernel
theorem dX0_isWholeTogether_26 : decode cX0_isWholeTogether 26 = .ok (.iconst 0, 1) := by decide +kernel
theorem dX0_isWholeTogether_27 : decode cX0_isWholeTogether 27 = .ok (.istore_n 3, 1) := by decide +kernel
theorem dX0_isWholeTogether_28 : decode cX0_isWholeTogether 28 = .ok (.iload_n 3, 1) := by decide +kernel
theorem dX0_isWholeTogether_29 : decode cX0_isWholeTogether 29 = .ok (.aload_n 0, 1) := by decide +kernel
theorem dX0_isWholeTogether_30 : decode cX0_isWholeTogether 30 = .ok (.getfield 12, 3) := by decide +kernel
theorem dX0_isWholeTogether_33 : decode cX0_isWholeTogether 33 = .ok (.getfield 52, 3) := by decide +kernel
theorem dX0_isWholeTogether_36 : decode cX0_isWholeTogether 36 = .ok (.if_icmp .ge 31, 3) := by decide +kernel
theorem dX0_isWholeTogether_39 : decode cX0_isWholeTogether 39 = .ok (.aload_n 0, 1) := by decide +kernel
theorem dX0_isWholeTogether_40 : decode cX0_isWholeTogether 40 = .ok (.iload_n 3, 1) := by decide +kernel
theorem dX0_isWholeTogether_41 : decode cX0_isWholeTogether 41 = .ok (.iload_n 1, 1) := by decide +kernel
theorem dX0_isWholeTogether_42 : decode cX0_isWholeTogether 42 = .ok (.invokevirtual 56, 3) := by decide +kernel
theorem dX0_isWholeTogether_45 : decode cX0_isWholeTogether 45 = .ok (.istore 4, 2) := by decide +kernel
theorem dX0_isWholeTogether_47 : decode cX0_isWholeTogether 47 = .ok (.iload 4, 2) := by decide +kernel
theorem dX0_isWholeTogether_49 : decode cX0_isWholeTogether 49 = .ok (.bipush (-6), 2) := by decide +kernel
theorem dX0_isWholeTogether_51 : decode cX0_isWholeTogether 51 = .ok (.if_icmp .ne 5, 3) := by decide +kernel
theorem dX0_isWholeTogether_54 : decode cX0_isWholeTogether 54 = .ok (.iconst 0, 1) := by decide +kernel
theorem dX0_isWholeTogether_55 : decode cX0_isWholeTogether 55 = .ok (.ireturn, 1) := by decide +kernel
theorem dX0_isWholeTogether_56 : decode cX0_isWholeTogether 56 = .ok (.iload_n 2, 1) := by decide +kernel
theorem dX0_isWholeTogether_57 : decode cX0_isWholeTogether 57 = .ok (.iload 4, 2) := by decide +kernel
theorem dX0_isWholeTogether_59 : decode cX0_isWholeTogether 59 = .ok (.iadd, 1) := by decide +kernel
theorem dX0_isWholeTogether_60 : decode cX0_isWholeTogether 60 = .ok (.istore_n 2, 1) := by decide +kernel
theorem dX0_isWholeTogether_61 : decode cX0_isWholeTogether 61 = .ok (.iinc 3 1, 3) := by decide +kernel
theorem dX0_isWholeTogether_64 : decode cX0_isWholeTogether 64 = .ok (.goto (-36), 3) := by decide +kernel
theorem dX0_isWholeTogether_67 : decode cX0_isWholeTogether 67 = .ok (.aload_n 0, 1) := by decide +kernel
theorem dX0_isWholeTogether_68 : decode cX0_isWholeTogether 68 = .ok (.getfield 12, 3) := by decide +kernel
theorem dX0_isWholeTogether_71 : decode cX0_isWholeTogether 71 = .ok (.iload_n 2, 1) := by decide +kernel
theorem dX0_isWholeTogether_72 : decode cX0_isWholeTogether 72 = .ok (.iload_n 1, 1) := by decide +kernel
theorem dX0_isWholeTogether_73 : decode cX0_isWholeTogether 73 = .ok (.invokevirtual 60, 3) := by decide +kernel
theorem dX0_isWholeTogether_76 : decode cX0_isWholeTogether 76 = .ok (.ifCond .ne 15, 3) := by decide +kernel
theorem dX0_isWholeTogether_79 : decode cX0_isWholeTogether 79 = .ok (.aload_n 0, 1) := by decide +kernel
theorem dX0_isWholeTogether_80 : decode cX0_isWholeTogether 80 = .ok (.getfield 18, 3) := by decide +kernel
theorem dX0_isWholeTogether_83 : decode cX0_isWholeTogether 83 = .ok (.iload_n 2, 1) := by decide +kernel
theorem dX0_isWholeTogether_84 : decode cX0_isWholeTogether 84 = .ok (.iload_n 1, 1) := by decide +kernel
theorem dX0_isWholeTogether_85 : decode cX0_isWholeTogether 85 = .ok (.invokevirtual 60, 3) := by decide +kernel
theorem dX0_isWholeTogether_88 : decode cX0_isWholeTogether 88 = .ok (.ifCond .eq 7, 3) := by decide +kernel
theorem dX0_isWholeTogether_91 : decode cX0_isWholeTogether 91 = .ok (.iconst 1, 1) := by decide +kernel
theorem dX0_isWholeTogether_92 : decode cX0_isWholeTogether 92 = .ok (.goto 4, 3) := by decide +kernel
theorem dX0_isWholeTogether_95 : decode cX0_isWholeTogether 95 = .ok (.iconst 0, 1) := by decide +kernel
theorem dX0_isWholeTogether_96 : decode cX0_isWholeTogether 96 = .ok (.ireturn, 1) := by decide +kernel
set_option maxRecDepth 20000 in
theorem ggX0_byteTogether_X5_isByteWhole : GoodIn wsX0_byteTogether wsX5_isByteWhole := goodIn_r _ [6, 7, 8, 9, 10, 13, 14, 15, 16] (by decide +kernel) (by decide +kernel)
set_option maxRecDepth 20000 in
theorem gX0_byteTogether_X5_isByteWhole_n64 : GoodIn wsX0_byteTogether (wsX5_isByteWhole) := ggX0_byteTogether_X5_isByteWhole
set_option maxRecDepth 20000 in
theorem ggX0_byteTogether_X6_valueAt : GoodIn wsX0_byteTogether wsX6_valueAt := goodIn_r _ [10] (by decide +kernel) (by decide +kernel)
set_option maxRecDepth 20000 in
theorem gX0_byteTogether_X6_valueAt_n31 : GoodIn wsX0_byteTogether (wsX6_valueAt) := ggX0_byteTogether_X6_valueAt
theorem dX0_byteTogether_0 : decode cX0_byteTogether 0 = .ok (.aload_n 0, 1) := by decide +kernel
theorem dX0_byteTogether_1 : decode cX0_byteTogether 1 = .ok (.getfield 12, 3) := by decide +kernel
theorem dX0_byteTogether_4 : decode cX0_byteTogether 4 = .ok (.iload_n 1, 1) := by decide +kernel
theorem dX0_byteTogether_5 : decode cX0_byteTogether 5 = .ok (.iload_n 2, 1) := by decide +kernel
theorem dX0_byteTogether_6 : decode cX0_byteTogether 6 = .ok (.invokevirtual 64, 3) := by decide +kernel
theorem dX0_byteTogether_9 : decode cX0_byteTogether 9 = .ok (.ifCond .eq 15, 3) := by decide +kernel
theorem dX0_byteTogether_12 : decode cX0_byteTogether 12 = .ok (.aload_n 0, 1) := by decide +kernel
theorem dX0_byteTogether_13 : decode cX0_byteTogether 13 = .ok (.getfield 12, 3) := by decide +kernel
theorem dX0_byteTogether_16 : decode cX0_byteTogether 16 = .ok (.getfield 67, 3) := by decide +kernel
theorem dX0_byteTogether_19 : decode cX0_byteTogether 19 = .ok (.iload_n 1, 1) := by decide +kernel
theorem dX0_byteTogether_20 : decode cX0_byteTogether 20 = .ok (.invokestatic 31, 3) := by decide +kernel
theorem dX0_byteTogether_23 : decode cX0_byteTogether 23 = .ok (.ireturn, 1) := by decide +kernel
theorem dX0_byteTogether_24 : decode cX0_byteTogether 24 = .ok (.aload_n 0, 1) := by decide +kernel
theorem dX0_byteTogether_25 : decode cX0_byteTogether 25 = .ok (.getfield 18, 3) := by decide +kernel
theorem dX0_byteTogether_28 : decode cX0_byteTogether 28 = .ok (.iload_n 1, 1) := by decide +kernel
theorem dX0_byteTogether_29 : decode cX0_byteTogether 29 = .ok (.iload_n 2, 1) := by decide +kernel
theorem dX0_byteTogether_30 : decode cX0_byteTogether 30 = .ok (.invokevirtual 64, 3) := by decide +kernel
theorem dX0_byteTogether_33 : decode cX0_byteTogether 33 = .ok (.ifCond .eq 17, 3) := by decide +kernel
theorem dX0_byteTogether_36 : decode cX0_byteTogether 36 = .ok (.aload_n 0, 1) := by decide +kernel
theorem dX0_byteTogether_37 : decode cX0_byteTogether 37 = .ok (.getfield 18, 3) := by decide +kernel
theorem dX0_byteTogether_40 : decode cX0_byteTogether 40 = .ok (.getfield 67, 3) := by decide +kernel
theorem dX0_byteTogether_43 : decode cX0_byteTogether 43 = .ok (.iload_n 1, 1) := by decide +kernel
theorem dX0_byteTogether_44 : decode cX0_byteTogether 44 = .ok (.invokestatic 31, 3) := by decide +kernel
theorem dX0_byteTogether_47 : decode cX0_byteTogether 47 = .ok (.goto 5, 3) := by decide +kernel
theorem dX0_byteTogether_50 : decode cX0_byteTogether 50 = .ok (.bipush (-6), 2) := by decide +kernel
theorem dX0_byteTogether_52 : decode cX0_byteTogether 52 = .ok (.ireturn, 1) := by decide +kernel
set_option maxRecDepth 20000 in
theorem ggX0_bytesBy_X0_byteBy : GoodIn wsX0_bytesBy wsX0_byteBy := goodIn_r _ [6, 7, 1, 8, 9, 10, 11, 12, 13, 5, 14, 15, 16, 17, 18, 19, 20, 21, 22, 23, 24, 25] (by decide +kernel) (by decide +kernel)
set_option maxRecDepth 20000 in
theorem gX0_bytesBy_X0_byteBy : GoodIn wsX0_bytesBy (wsV RX0 70 RX0 yX0_byteBy wsX0_byteBy) := goodIn_app (goodIn_of _ (by decide +kernel)) ggX0_bytesBy_X0_byteBy
theorem dX0_bytesBy_0 : decode cX0_bytesBy 0 = .ok (.lconst 0, 1) := by decide +kernel
theorem dX0_bytesBy_1 : decode cX0_bytesBy 1 = .ok (.lstore_n 3, 1) := by decide +kernel
theorem dX0_bytesBy_2 : decode cX0_bytesBy 2 = .ok (.aload_n 0, 1) := by decide +kernel
theorem dX0_bytesBy_3 : decode cX0_bytesBy 3 = .ok (.getfield 12, 3) := by decide +kernel
theorem dX0_bytesBy_6 : decode cX0_bytesBy 6 = .ok (.getfield 52, 3) := by decide +kernel
theorem dX0_bytesBy_9 : decode cX0_bytesBy 9 = .ok (.iconst 1, 1) := by decide +kernel
theorem dX0_bytesBy_10 : decode cX0_bytesBy 10 = .ok (.isub, 1) := by decide +kernel
theorem dX0_bytesBy_11 : decode cX0_bytesBy 11 = .ok (.istore 5, 2) := by decide +kernel
theorem dX0_bytesBy_13 : decode cX0_bytesBy 13 = .ok (.iload 5, 2) := by decide +kernel
theorem dX0_bytesBy_15 : decode cX0_bytesBy 15 = .ok (.ifCond .lt 24, 3) := by decide +kernel
theorem dX0_bytesBy_18 : decode cX0_bytesBy 18 = .ok (.lload_n 3, 1) := by decide +kernel
theorem dX0_bytesBy_19 : decode cX0_bytesBy 19 = .ok (.bipush 8, 2) := by decide +kernel
theorem dX0_bytesBy_21 : decode cX0_bytesBy 21 = .ok (.lshl, 1) := by decide +kernel
theorem dX0_bytesBy_22 : decode cX0_bytesBy 22 = .ok (.aload_n 0, 1) := by decide +kernel
theorem dX0_bytesBy_23 : decode cX0_bytesBy 23 = .ok (.iload_n 1, 1) := by decide +kernel
theorem dX0_bytesBy_24 : decode cX0_bytesBy 24 = .ok (.iload 5, 2) := by decide +kernel
theorem dX0_bytesBy_26 : decode cX0_bytesBy 26 = .ok (.iload_n 2, 1) := by decide +kernel
theorem dX0_bytesBy_27 : decode cX0_bytesBy 27 = .ok (.invokevirtual 70, 3) := by decide +kernel
theorem dX0_bytesBy_30 : decode cX0_bytesBy 30 = .ok (.i2l, 1) := by decide +kernel
theorem dX0_bytesBy_31 : decode cX0_bytesBy 31 = .ok (.lor, 1) := by decide +kernel
theorem dX0_bytesBy_32 : decode cX0_bytesBy 32 = .ok (.lstore_n 3, 1) := by decide +kernel
theorem dX0_bytesBy_33 : decode cX0_bytesBy 33 = .ok (.iinc 5 (-1), 3) := by decide +kernel
theorem dX0_bytesBy_36 : decode cX0_bytesBy 36 = .ok (.goto (-23), 3) := by decide +kernel
theorem dX0_bytesBy_39 : decode cX0_bytesBy 39 = .ok (.lload_n 3, 1) := by decide +kernel
theorem dX0_bytesBy_40 : decode cX0_bytesBy 40 = .ok (.lreturn, 1) := by decide +kernel
set_option maxRecDepth 20000 in
theorem ggX0_byteBy_X6_valueAt : GoodIn wsX0_byteBy wsX6_valueAt := goodIn_r _ [5] (by decide +kernel) (by decide +kernel)
set_option maxRecDepth 20000 in
theorem gX0_byteBy_X6_valueAt_n31 : GoodIn wsX0_byteBy (wsX6_valueAt) := ggX0_byteBy_X6_valueAt
set_option maxRecDepth 20000 in
theorem ggX0_byteBy_X0_byteTogether : GoodIn wsX0_byteBy wsX0_byteTogether := goodIn_r _ [10, 2, 1, 11, 12, 13, 14, 15, 3, 4, 5, 16, 17, 18, 19, 20, 21] (by decide +kernel) (by decide +kernel)
set_option maxRecDepth 20000 in
theorem gX0_byteBy_X0_byteTogether : GoodIn wsX0_byteBy (wsV RX0 56 RX0 yX0_byteTogether wsX0_byteTogether) := goodIn_app (goodIn_of _ (by decide +kernel)) ggX0_byteBy_X0_byteTogether
theorem dX0_byteBy_0 : decode cX0_byteBy 0 = .ok (.iload_n 1, 1) := by decide +kernel
theorem dX0_byteBy_1 : decode cX0_byteBy 1 = .ok (.iconst 1, 1) := by decide +kernel
theorem dX0_byteBy_2 : decode cX0_byteBy 2 = .ok (.if_icmp .ne 15, 3) := by decide +kernel
theorem dX0_byteBy_5 : decode cX0_byteBy 5 = .ok (.aload_n 0, 1) := by decide +kernel
theorem dX0_byteBy_6 : decode cX0_byteBy 6 = .ok (.getfield 18, 3) := by decide +kernel
theorem dX0_byteBy_9 : decode cX0_byteBy 9 = .ok (.getfield 67, 3) := by decide +kernel
theorem dX0_byteBy_12 : decode cX0_byteBy 12 = .ok (.iload_n 2, 1) := by decide +kernel
theorem dX0_byteBy_13 : decode cX0_byteBy 13 = .ok (.invokestatic 31, 3) := by decide +kernel
theorem dX0_byteBy_16 : decode cX0_byteBy 16 = .ok (.ireturn, 1) := by decide +kernel
theorem dX0_byteBy_17 : decode cX0_byteBy 17 = .ok (.iload_n 1, 1) := by decide +kernel
theorem dX0_byteBy_18 : decode cX0_byteBy 18 = .ok (.ifCond .ne 17, 3) := by decide +kernel
theorem dX0_byteBy_21 : decode cX0_byteBy 21 = .ok (.aload_n 0, 1) := by decide +kernel
theorem dX0_byteBy_22 : decode cX0_byteBy 22 = .ok (.getfield 12, 3) := by decide +kernel
theorem dX0_byteBy_25 : decode cX0_byteBy 25 = .ok (.getfield 67, 3) := by decide +kernel
theorem dX0_byteBy_28 : decode cX0_byteBy 28 = .ok (.iload_n 2, 1) := by decide +kernel
theorem dX0_byteBy_29 : decode cX0_byteBy 29 = .ok (.invokestatic 31, 3) := by decide +kernel
theorem dX0_byteBy_32 : decode cX0_byteBy 32 = .ok (.goto 9, 3) := by decide +kernel
theorem dX0_byteBy_35 : decode cX0_byteBy 35 = .ok (.aload_n 0, 1) := by decide +kernel
theorem dX0_byteBy_36 : decode cX0_byteBy 36 = .ok (.iload_n 2, 1) := by decide +kernel
theorem dX0_byteBy_37 : decode cX0_byteBy 37 = .ok (.iload_n 3, 1) := by decide +kernel
theorem dX0_byteBy_38 : decode cX0_byteBy 38 = .ok (.invokevirtual 56, 3) := by decide +kernel
theorem dX0_byteBy_41 : decode cX0_byteBy 41 = .ok (.ireturn, 1) := by decide +kernel
set_option maxRecDepth 20000 in
theorem ggX1_init_X4_init : GoodIn wsX1_init wsX4_init := goodIn_r _ [9, 10, 2, 3, 11, 12, 13, 14, 15, 16, 17, 18, 19, 23, 24, 25, 26, 27, 28, 29, 30, 31] (by decide +kernel) (by decide +kernel)
set_option maxRecDepth 20000 in
theorem gX1_init_X4_init_n17 : GoodIn wsX1_init (wsX4_init) := ggX1_init_X4_init
theorem dX1_init_0 : decode cX1_init 0 = .ok (.aload_n 0, 1) := by decide +kernel
theorem dX1_init_1 : decode cX1_init 1 = .ok (.invokespecial 3, 3) := by decide +kernel
theorem dX1_init_4 : decode cX1_init 4 = .ok (.aload_n 0, 1) := by decide +kernel
theorem dX1_init_5 : decode cX1_init 5 = .ok (.bipush 6, 2) := by decide +kernel
theorem dX1_init_7 : decode cX1_init 7 = .ok (.anewarray 9, 3) := by decide +kernel
theorem dX1_init_10 : decode cX1_init 10 = .ok (.putfield 11, 3) := by decide +kernel
theorem dX1_init_13 : decode cX1_init 13 = .ok (.iconst 0, 1) := by decide +kernel
theorem dX1_init_14 : decode cX1_init 14 = .ok (.istore_n 1, 1) := by decide +kernel
theorem dX1_init_15 : decode cX1_init 15 = .ok (.iload_n 1, 1) := by decide +kernel
theorem dX1_init_16 : decode cX1_init 16 = .ok (.bipush 6, 2) := by decide +kernel
theorem dX1_init_18 : decode cX1_init 18 = .ok (.if_icmp .ge 22, 3) := by decide +kernel
theorem dX1_init_21 : decode cX1_init 21 = .ok (.aload_n 0, 1) := by decide +kernel
theorem dX1_init_22 : decode cX1_init 22 = .ok (.getfield 11, 3) := by decide +kernel
theorem dX1_init_25 : decode cX1_init 25 = .ok (.iload_n 1, 1) := by decide +kernel
theorem dX1_init_26 : decode cX1_init 26 = .ok (.new 9, 3) := by decide +kernel
theorem dX1_init_29 : decode cX1_init 29 = .ok (.dup, 1) := by decide +kernel
theorem dX1_init_30 : decode cX1_init 30 = .ok (.invokespecial 17, 3) := by decide +kernel
theorem dX1_init_33 : decode cX1_init 33 = .ok (.aastore, 1) := by decide +kernel
theorem dX1_init_34 : decode cX1_init 34 = .ok (.iinc 1 1, 3) := by decide +kernel
theorem dX1_init_37 : decode cX1_init 37 = .ok (.goto (-22), 3) := by decide +kernel
theorem dX1_init_40 : decode cX1_init 40 = .ok (.return_, 1) := by decide +kernel
set_option maxRecDepth 20000 in
theorem ggX1_keep_X1_stateAt : GoodIn wsX1_keep wsX1_stateAt := goodIn_r _ [7, 8, 9, 10, 11, 12, 44, 45, 46] (by decide +kernel) (by decide +kernel)
set_option maxRecDepth 20000 in
theorem gX1_keep_X1_stateAt : GoodIn wsX1_keep (wsV RX1 25 RX1 yX1_stateAt wsX1_stateAt) := goodIn_app (goodIn_of _ (by decide +kernel)) ggX1_keep_X1_stateAt
set_option maxRecDepth 20000 in
theorem ggX1_keep_X4_copyFrom : GoodIn wsX1_keep wsX4_copyFrom := goodIn_r _ [16, 17, 18, 19, 20, 21, 22, 23, 24, 25, 26, 27, 28, 29, 30, 31, 32, 33, 34, 35, 36, 37, 38, 39, 14, 40, 41, 42, 43, 47, 48, 49, 50, 51, 52, 53, 54, 55] (by decide +kernel) (by decide +kernel)
set_option maxRecDepth 20000 in
theorem gX1_keep_X4_copyFrom_n29 : GoodIn wsX1_keep (wsX4_copyFrom) := ggX1_keep_X4_copyFrom
theorem dX1_keep_0 : decode cX1_keep 0 = .ok (.aload_n 0, 1) := by decide +kernel
theorem dX1_keep_1 : decode cX1_keep 1 = .ok (.aload_n 0, 1) := by decide +kernel
theorem dX1_keep_2 : decode cX1_keep 2 = .ok (.getfield 18, 3) := by decide +kernel
theorem dX1_keep_5 : decode cX1_keep 5 = .ok (.aload_n 0, 1) := by decide +kernel
theorem dX1_keep_6 : decode cX1_keep 6 = .ok (.getfield 22, 3) := by decide +kernel
theorem dX1_keep_9 : decode cX1_keep 9 = .ok (.iadd, 1) := by decide +kernel
theorem dX1_keep_10 : decode cX1_keep 10 = .ok (.invokevirtual 25, 3) := by decide +kernel
theorem dX1_keep_13 : decode cX1_keep 13 = .ok (.astore_n 2, 1) := by decide +kernel
theorem dX1_keep_14 : decode cX1_keep 14 = .ok (.aload_n 2, 1) := by decide +kernel
theorem dX1_keep_15 : decode cX1_keep 15 = .ok (.ifnonnull 4, 3) := by decide +kernel
theorem dX1_keep_18 : decode cX1_keep 18 = .ok (.return_, 1) := by decide +kernel
theorem dX1_keep_19 : decode cX1_keep 19 = .ok (.aload_n 2, 1) := by decide +kernel
theorem dX1_keep_20 : decode cX1_keep 20 = .ok (.aload_n 1, 1) := by decide +kernel
theorem dX1_keep_21 : decode cX1_keep 21 = .ok (.invokevirtual 29, 3) := by decide +kernel
theorem dX1_keep_24 : decode cX1_keep 24 = .ok (.aload_n 0, 1) := by decide +kernel
theorem dX1_keep_25 : decode cX1_keep 25 = .ok (.getfield 22, 3) := by decide +kernel
theorem dX1_keep_28 : decode cX1_keep 28 = .ok (.bipush 6, 2) := by decide +kernel
theorem dX1_keep_30 : decode cX1_keep 30 = .ok (.if_icmp .ge 16, 3) := by decide +kernel
theorem dX1_keep_33 : decode cX1_keep 33 = .ok (.aload_n 0, 1) := by decide +kernel
theorem dX1_keep_34 : decode cX1_keep 34 = .ok (.dup, 1) := by decide +kernel
theorem dX1_keep_35 : decode cX1_keep 35 = .ok (.getfield 22, 3) := by decide +kernel
theorem dX1_keep_38 : decode cX1_keep 38 = .ok (.iconst 1, 1) := by decide +kernel
theorem dX1_keep_39 : decode cX1_keep 39 = .ok (.iadd, 1) := by decide +kernel
theorem dX1_keep_40 : decode cX1_keep 40 = .ok (.putfield 22, 3) := by decide +kernel
theorem dX1_keep_43 : decode cX1_keep 43 = .ok (.goto 16, 3) := by decide +kernel
theorem dX1_keep_46 : decode cX1_keep 46 = .ok (.aload_n 0, 1) := by decide +kernel
theorem dX1_keep_47 : decode cX1_keep 47 = .ok (.aload_n 0, 1) := by decide +kernel
theorem dX1_keep_48 : decode cX1_keep 48 = .ok (.getfield 18, 3) := by decide +kernel
theorem dX1_keep_51 : decode cX1_keep 51 = .ok (.iconst 1, 1) := by decide +kernel
theorem dX1_keep_52 : decode cX1_keep 52 = .ok (.iadd, 1) := by decide +kernel
theorem dX1_keep_53 : decode cX1_keep 53 = .ok (.bipush 6, 2) := by decide +kernel
theorem dX1_keep_55 : decode cX1_keep 55 = .ok (.irem, 1) := by decide +kernel
theorem dX1_keep_56 : decode cX1_keep 56 = .ok (.putfield 18, 3) := by decide +kernel
theorem dX1_keep_59 : decode cX1_keep 59 = .ok (.return_, 1) := by decide +kernel
set_option maxRecDepth 20000 in
theorem ggX1_stateAt_J9_floorMod_7cf53 : GoodIn wsX1_stateAt wsJ9_floorMod_7cf53 := goodIn_r _ [5] (by decide +kernel) (by decide +kernel)
set_option maxRecDepth 20000 in
theorem gX1_stateAt_J9_floorMod_7cf53 : GoodIn wsX1_stateAt (va_wsS RX1 33 yJ9_floorMod_7cf53 wsJ9_floorMod_7cf53) := goodIn_app (goodIn_of _ (by decide +kernel)) ggX1_stateAt_J9_floorMod_7cf53
theorem dX1_stateAt_0 : decode cX1_stateAt 0 = .ok (.iload_n 1, 1) := by decide +kernel
theorem dX1_stateAt_1 : decode cX1_stateAt 1 = .ok (.bipush 6, 2) := by decide +kernel
theorem dX1_stateAt_3 : decode cX1_stateAt 3 = .ok (.invokestatic 33, 3) := by decide +kernel
theorem dX1_stateAt_6 : decode cX1_stateAt 6 = .ok (.istore_n 2, 1) := by decide +kernel
theorem dX1_stateAt_7 : decode cX1_stateAt 7 = .ok (.iload_n 2, 1) := by decide +kernel
theorem dX1_stateAt_8 : decode cX1_stateAt 8 = .ok (.ifCond .lt 21, 3) := by decide +kernel
theorem dX1_stateAt_11 : decode cX1_stateAt 11 = .ok (.iload_n 2, 1) := by decide +kernel
theorem dX1_stateAt_12 : decode cX1_stateAt 12 = .ok (.aload_n 0, 1) := by decide +kernel
theorem dX1_stateAt_13 : decode cX1_stateAt 13 = .ok (.getfield 11, 3) := by decide +kernel
theorem dX1_stateAt_16 : decode cX1_stateAt 16 = .ok (.arraylength, 1) := by decide +kernel
theorem dX1_stateAt_17 : decode cX1_stateAt 17 = .ok (.if_icmp .ge 12, 3) := by decide +kernel
theorem dX1_stateAt_20 : decode cX1_stateAt 20 = .ok (.aload_n 0, 1) := by decide +kernel
theorem dX1_stateAt_21 : decode cX1_stateAt 21 = .ok (.getfield 11, 3) := by decide +kernel
theorem dX1_stateAt_24 : decode cX1_stateAt 24 = .ok (.iload_n 2, 1) := by decide +kernel
theorem dX1_stateAt_25 : decode cX1_stateAt 25 = .ok (.aaload, 1) := by decide +kernel
theorem dX1_stateAt_26 : decode cX1_stateAt 26 = .ok (.goto 4, 3) := by decide +kernel
theorem dX1_stateAt_29 : decode cX1_stateAt 29 = .ok (.aconst_null, 1) := by decide +kernel
theorem dX1_stateAt_30 : decode cX1_stateAt 30 = .ok (.areturn, 1) := by decide +kernel
theorem dX2_init_0 : decode cX2_init 0 = .ok (.aload_n 0, 1) := by decide +kernel
theorem dX2_init_1 : decode cX2_init 1 = .ok (.invokespecial 3, 3) := by decide +kernel
theorem dX2_init_4 : decode cX2_init 4 = .ok (.aload_n 0, 1) := by decide +kernel
theorem dX2_init_5 : decode cX2_init 5 = .ok (.bipush 80, 2) := by decide +kernel
theorem dX2_init_7 : decode cX2_init 7 = .ok (.newarray .char, 2) := by decide +kernel
theorem dX2_init_9 : decode cX2_init 9 = .ok (.putfield 9, 3) := by decide +kernel
theorem dX2_init_12 : decode cX2_init 12 = .ok (.return_, 1) := by decide +kernel
set_option maxRecDepth 20000 in
theorem ggX3_init_X4_init : GoodIn wsX3_init wsX4_init := goodIn_r _ [9, 10, 2, 3, 11, 12, 13, 14, 15, 16, 17, 18, 19, 20, 21, 22, 23, 24, 25, 26, 27, 28] (by decide +kernel) (by decide +kernel)
set_option maxRecDepth 20000 in
theorem gX3_init_X4_init_n9 : GoodIn wsX3_init (wsX4_init) := ggX3_init_X4_init
theorem dX3_init_0 : decode cX3_init 0 = .ok (.aload_n 0, 1) := by decide +kernel
theorem dX3_init_1 : decode cX3_init 1 = .ok (.invokespecial 1, 3) := by decide +kernel
theorem dX3_init_4 : decode cX3_init 4 = .ok (.aload_n 0, 1) := by decide +kernel
theorem dX3_init_5 : decode cX3_init 5 = .ok (.new 7, 3) := by decide +kernel
theorem dX3_init_8 : decode cX3_init 8 = .ok (.dup, 1) := by decide +kernel
theorem dX3_init_9 : decode cX3_init 9 = .ok (.invokespecial 9, 3) := by decide +kernel
theorem dX3_init_12 : decode cX3_init 12 = .ok (.putfield 10, 3) := by decide +kernel
theorem dX3_init_15 : decode cX3_init 15 = .ok (.return_, 1) := by decide +kernel
theorem dX4_init_0 : decode cX4_init 0 = .ok (.aload_n 0, 1) := by decide +kernel
theorem dX4_init_1 : decode cX4_init 1 = .ok (.invokespecial 3, 3) := by decide +kernel
theorem dX4_init_4 : decode cX4_init 4 = .ok (.aload_n 0, 1) := by decide +kernel
theorem dX4_init_5 : decode cX4_init 5 = .ok (.iconst 3, 1) := by decide +kernel
theorem dX4_init_6 : decode cX4_init 6 = .ok (.newarray .int, 2) := by decide +kernel
theorem dX4_init_8 : decode cX4_init 8 = .ok (.dup, 1) := by decide +kernel
theorem dX4_init_9 : decode cX4_init 9 = .ok (.iconst 0, 1) := by decide +kernel
theorem dX4_init_10 : decode cX4_init 10 = .ok (.bipush 60, 2) := by decide +kernel
theorem dX4_init_12 : decode cX4_init 12 = .ok (.iastore, 1) := by decide +kernel
theorem dX4_init_13 : decode cX4_init 13 = .ok (.dup, 1) := by decide +kernel
theorem dX4_init_14 : decode cX4_init 14 = .ok (.iconst 1, 1) := by decide +kernel
theorem dX4_init_15 : decode cX4_init 15 = .ok (.bipush 30, 2) := by decide +kernel
theorem dX4_init_17 : decode cX4_init 17 = .ok (.iastore, 1) := by decide +kernel
theorem dX4_init_18 : decode cX4_init 18 = .ok (.dup, 1) := by decide +kernel
theorem dX4_init_19 : decode cX4_init 19 = .ok (.iconst 2, 1) := by decide +kernel
theorem dX4_init_20 : decode cX4_init 20 = .ok (.iconst 3, 1) := by decide +kernel
theorem dX4_init_21 : decode cX4_init 21 = .ok (.iastore, 1) := by decide +kernel
theorem dX4_init_22 : decode cX4_init 22 = .ok (.putfield 9, 3) := by decide +kernel
theorem dX4_init_25 : decode cX4_init 25 = .ok (.aload_n 0, 1) := by decide +kernel
theorem dX4_init_26 : decode cX4_init 26 = .ok (.bipush 16, 2) := by decide +kernel
theorem dX4_init_28 : decode cX4_init 28 = .ok (.newarray .int, 2) := by decide +kernel
theorem dX4_init_30 : decode cX4_init 30 = .ok (.putfield 15, 3) := by decide +kernel
theorem dX4_init_33 : decode cX4_init 33 = .ok (.aload_n 0, 1) := by decide +kernel
theorem dX4_init_34 : decode cX4_init 34 = .ok (.bipush 16, 2) := by decide +kernel
theorem dX4_init_36 : decode cX4_init 36 = .ok (.newarray .int, 2) := by decide +kernel
theorem dX4_init_38 : decode cX4_init 38 = .ok (.putfield 18, 3) := by decide +kernel
theorem dX4_init_41 : decode cX4_init 41 = .ok (.aload_n 0, 1) := by decide +kernel
theorem dX4_init_42 : decode cX4_init 42 = .ok (.bipush 16, 2) := by decide +kernel
theorem dX4_init_44 : decode cX4_init 44 = .ok (.newarray .int, 2) := by decide +kernel
theorem dX4_init_46 : decode cX4_init 46 = .ok (.putfield 21, 3) := by decide +kernel
theorem dX4_init_49 : decode cX4_init 49 = .ok (.aload_n 0, 1) := by decide +kernel
theorem dX4_init_50 : decode cX4_init 50 = .ok (.bipush 17, 2) := by decide +kernel
theorem dX4_init_52 : decode cX4_init 52 = .ok (.newarray .int, 2) := by decide +kernel
theorem dX4_init_54 : decode cX4_init 54 = .ok (.putfield 24, 3) := by decide +kernel
theorem dX4_init_57 : decode cX4_init 57 = .ok (.aload_n 0, 1) := by decide +kernel
theorem dX4_init_58 : decode cX4_init 58 = .ok (.sipush 2464, 3) := by decide +kernel
theorem dX4_init_61 : decode cX4_init 61 = .ok (.newarray .int, 2) := by decide +kernel
theorem dX4_init_63 : decode cX4_init 63 = .ok (.putfield 27, 3) := by decide +kernel
theorem dX4_init_66 : decode cX4_init 66 = .ok (.aload_n 0, 1) := by decide +kernel
theorem dX4_init_67 : decode cX4_init 67 = .ok (.sipush 2464, 3) := by decide +kernel
theorem dX4_init_70 : decode cX4_init 70 = .ok (.newarray .int, 2) := by decide +kernel
theorem dX4_init_72 : decode cX4_init 72 = .ok (.putfield 30, 3) := by decide +kernel
theorem dX4_init_75 : decode cX4_init 75 = .ok (.aload_n 0, 1) := by decide +kernel
theorem dX4_init_76 : decode cX4_init 76 = .ok (.sipush 2464, 3) := by decide +kernel
theorem dX4_init_79 : decode cX4_init 79 = .ok (.newarray .int, 2) := by decide +kernel
theorem dX4_init_81 : decode cX4_init 81 = .ok (.putfield 33, 3) := by decide +kernel
theorem dX4_init_84 : decode cX4_init 84 = .ok (.return_, 1) := by decide +kernel
set_option maxRecDepth 20000 in
theorem ggX4_copyFrom_X4_cells : GoodIn wsX4_copyFrom wsX4_cells := goodIn_r _ [25, 10, 1, 26, 27, 28, 29, 30, 31, 32, 33, 34, 35, 36, 37] (by decide +kernel) (by decide +kernel)
set_option maxRecDepth 20000 in
theorem gX4_copyFrom_X4_cells : GoodIn wsX4_copyFrom (wsV RX4 46 RX4 yX4_cells wsX4_cells) := goodIn_app (goodIn_of _ (by decide +kernel)) ggX4_copyFrom_X4_cells
theorem dX4_copyFrom_0 : decode cX4_copyFrom 0 = .ok (.aload_n 0, 1) := by decide +kernel
theorem dX4_copyFrom_1 : decode cX4_copyFrom 1 = .ok (.aload_n 1, 1) := by decide +kernel
theorem dX4_copyFrom_2 : decode cX4_copyFrom 2 = .ok (.getfield 36, 3) := by decide +kernel
theorem dX4_copyFrom_5 : decode cX4_copyFrom 5 = .ok (.putfield 36, 3) := by decide +kernel
theorem dX4_copyFrom_8 : decode cX4_copyFrom 8 = .ok (.aload_n 1, 1) := by decide +kernel
theorem dX4_copyFrom_9 : decode cX4_copyFrom 9 = .ok (.getfield 9, 3) := by decide +kernel
theorem dX4_copyFrom_12 : decode cX4_copyFrom 12 = .ok (.iconst 0, 1) := by decide +kernel
theorem dX4_copyFrom_13 : decode cX4_copyFrom 13 = .ok (.aload_n 0, 1) := by decide +kernel
theorem dX4_copyFrom_14 : decode cX4_copyFrom 14 = .ok (.getfield 9, 3) := by decide +kernel
theorem dX4_copyFrom_17 : decode cX4_copyFrom 17 = .ok (.iconst 0, 1) := by decide +kernel
theorem dX4_copyFrom_18 : decode cX4_copyFrom 18 = .ok (.iconst 3, 1) := by decide +kernel
theorem dX4_copyFrom_19 : decode cX4_copyFrom 19 = .ok (.invokestatic 40, 3) := by decide +kernel
theorem dX4_copyFrom_22 : decode cX4_copyFrom 22 = .ok (.aload_n 1, 1) := by decide +kernel
theorem dX4_copyFrom_23 : decode cX4_copyFrom 23 = .ok (.getfield 15, 3) := by decide +kernel
theorem dX4_copyFrom_26 : decode cX4_copyFrom 26 = .ok (.iconst 0, 1) := by decide +kernel
theorem dX4_copyFrom_27 : decode cX4_copyFrom 27 = .ok (.aload_n 0, 1) := by decide +kernel
theorem dX4_copyFrom_28 : decode cX4_copyFrom 28 = .ok (.getfield 15, 3) := by decide +kernel
theorem dX4_copyFrom_31 : decode cX4_copyFrom 31 = .ok (.iconst 0, 1) := by decide +kernel
theorem dX4_copyFrom_32 : decode cX4_copyFrom 32 = .ok (.bipush 16, 2) := by decide +kernel
theorem dX4_copyFrom_34 : decode cX4_copyFrom 34 = .ok (.invokestatic 40, 3) := by decide +kernel
theorem dX4_copyFrom_37 : decode cX4_copyFrom 37 = .ok (.aload_n 1, 1) := by decide +kernel
theorem dX4_copyFrom_38 : decode cX4_copyFrom 38 = .ok (.getfield 18, 3) := by decide +kernel
theorem dX4_copyFrom_41 : decode cX4_copyFrom 41 = .ok (.iconst 0, 1) := by decide +kernel
theorem dX4_copyFrom_42 : decode cX4_copyFrom 42 = .ok (.aload_n 0, 1) := by decide +kernel
theorem dX4_copyFrom_43 : decode cX4_copyFrom 43 = .ok (.getfield 18, 3) := by decide +kernel
theorem dX4_copyFrom_46 : decode cX4_copyFrom 46 = .ok (.iconst 0, 1) := by decide +kernel
theorem dX4_copyFrom_47 : decode cX4_copyFrom 47 = .ok (.bipush 16, 2) := by decide +kernel
theorem dX4_copyFrom_49 : decode cX4_copyFrom 49 = .ok (.invokestatic 40, 3) := by decide +kernel
theorem dX4_copyFrom_52 : decode cX4_copyFrom 52 = .ok (.aload_n 1, 1) := by decide +kernel
theorem dX4_copyFrom_53 : decode cX4_copyFrom 53 = .ok (.getfield 21, 3) := by decide +kernel
theorem dX4_copyFrom_56 : decode cX4_copyFrom 56 = .ok (.iconst 0, 1) := by decide +kernel
theorem dX4_copyFrom_57 : decode cX4_copyFrom 57 = .ok (.aload_n 0, 1) := by decide +kernel
theorem dX4_copyFrom_58 : decode cX4_copyFrom 58 = .ok (.getfield 21, 3) := by decide +kernel
theorem dX4_copyFrom_61 : decode cX4_copyFrom 61 = .ok (.iconst 0, 1) := by decide +kernel
theorem dX4_copyFrom_62 : decode cX4_copyFrom 62 = .ok (.bipush 16, 2) := by decide +kernel
theorem dX4_copyFrom_64 : decode cX4_copyFrom 64 = .ok (.invokestatic 40, 3) := by decide +kernel
theorem dX4_copyFrom_67 : decode cX4_copyFrom 67 = .ok (.aload_n 1, 1) := by decide +kernel
theorem dX4_copyFrom_68 : decode cX4_copyFrom 68 = .ok (.getfield 24, 3) := by decide +kernel
theorem dX4_copyFrom_71 : decode cX4_copyFrom 71 = .ok (.iconst 0, 1) := by decide +kernel
theorem dX4_copyFrom_72 : decode cX4_copyFrom 72 = .ok (.aload_n 0, 1) := by decide +kernel
theorem dX4_copyFrom_73 : decode cX4_copyFrom 73 = .ok (.getfield 24, 3) := by decide +kernel
theorem dX4_copyFrom_76 : decode cX4_copyFrom 76 = .ok (.iconst 0, 1) := by decide +kernel
theorem dX4_copyFrom_77 : decode cX4_copyFrom 77 = .ok (.bipush 17, 2) := by decide +kernel
theorem dX4_copyFrom_79 : decode cX4_copyFrom 79 = .ok (.invokestatic 40, 3) := by decide +kernel
theorem dX4_copyFrom_82 : decode cX4_copyFrom 82 = .ok (.iconst 0, 1) := by decide +kernel
theorem dX4_copyFrom_83 : decode cX4_copyFrom 83 = .ok (.aload_n 0, 1) := by decide +kernel
theorem dX4_copyFrom_84 : decode cX4_copyFrom 84 = .ok (.invokevirtual 46, 3) := by decide +kernel
theorem dX4_copyFrom_87 : decode cX4_copyFrom 87 = .ok (.sipush 2464, 3) := by decide +kernel
theorem dX4_copyFrom_90 : decode cX4_copyFrom 90 = .ok (.invokestatic 50, 3) := by decide +kernel
theorem dX4_copyFrom_93 : decode cX4_copyFrom 93 = .ok (.invokestatic 56, 3) := by decide +kernel
theorem dX4_copyFrom_96 : decode cX4_copyFrom 96 = .ok (.istore_n 2, 1) := by decide +kernel
theorem dX4_copyFrom_97 : decode cX4_copyFrom 97 = .ok (.aload_n 1, 1) := by decide +kernel
theorem dX4_copyFrom_98 : decode cX4_copyFrom 98 = .ok (.getfield 27, 3) := by decide +kernel
theorem dX4_copyFrom_101 : decode cX4_copyFrom 101 = .ok (.iconst 0, 1) := by decide +kernel
theorem dX4_copyFrom_102 : decode cX4_copyFrom 102 = .ok (.aload_n 0, 1) := by decide +kernel
theorem dX4_copyFrom_103 : decode cX4_copyFrom 103 = .ok (.getfield 27, 3) := by decide +kernel
theorem dX4_copyFrom_106 : decode cX4_copyFrom 106 = .ok (.iconst 0, 1) := by decide +kernel
theorem dX4_copyFrom_107 : decode cX4_copyFrom 107 = .ok (.iload_n 2, 1) := by decide +kernel
theorem dX4_copyFrom_108 : decode cX4_copyFrom 108 = .ok (.invokestatic 40, 3) := by decide +kernel
theorem dX4_copyFrom_111 : decode cX4_copyFrom 111 = .ok (.aload_n 1, 1) := by decide +kernel
theorem dX4_copyFrom_112 : decode cX4_copyFrom 112 = .ok (.getfield 30, 3) := by decide +kernel
theorem dX4_copyFrom_115 : decode cX4_copyFrom 115 = .ok (.iconst 0, 1) := by decide +kernel
theorem dX4_copyFrom_116 : decode cX4_copyFrom 116 = .ok (.aload_n 0, 1) := by decide +kernel
theorem dX4_copyFrom_117 : decode cX4_copyFrom 117 = .ok (.getfield 30, 3) := by decide +kernel
theorem dX4_copyFrom_120 : decode cX4_copyFrom 120 = .ok (.iconst 0, 1) := by decide +kernel
theorem dX4_copyFrom_121 : decode cX4_copyFrom 121 = .ok (.iload_n 2, 1) := by decide +kernel
theorem dX4_copyFrom_122 : decode cX4_copyFrom 122 = .ok (.invokestatic 40, 3) := by decide +kernel
theorem dX4_copyFrom_125 : decode cX4_copyFrom 125 = .ok (.aload_n 1, 1) := by decide +kernel
theorem dX4_copyFrom_126 : decode cX4_copyFrom 126 = .ok (.getfield 33, 3) := by decide +kernel
theorem dX4_copyFrom_129 : decode cX4_copyFrom 129 = .ok (.iconst 0, 1) := by decide +kernel
theorem dX4_copyFrom_130 : decode cX4_copyFrom 130 = .ok (.aload_n 0, 1) := by decide +kernel
theorem dX4_copyFrom_131 : decode cX4_copyFrom 131 = .ok (.getfield 33, 3) := by decide +kernel
theorem dX4_copyFrom_134 : decode cX4_copyFrom 134 = .ok (.iconst 0, 1) := by decide +kernel
theorem dX4_copyFrom_135 : decode cX4_copyFrom 135 = .ok (.iload_n 2, 1) := by decide +kernel
theorem dX4_copyFrom_136 : decode cX4_copyFrom 136 = .ok (.invokestatic 40, 3) := by decide +kernel
theorem dX4_copyFrom_139 : decode cX4_copyFrom 139 = .ok (.return_, 1) := by decide +kernel
theorem dX4_hasBlock_0 : decode cX4_hasBlock 0 = .ok (.iload_n 1, 1) := by decide +kernel
theorem dX4_hasBlock_1 : decode cX4_hasBlock 1 = .ok (.ifCond .lt 15, 3) := by decide +kernel
theorem dX4_hasBlock_4 : decode cX4_hasBlock 4 = .ok (.iload_n 1, 1) := by decide +kernel
theorem dX4_hasBlock_5 : decode cX4_hasBlock 5 = .ok (.aload_n 0, 1) := by decide +kernel
theorem dX4_hasBlock_6 : decode cX4_hasBlock 6 = .ok (.getfield 36, 3) := by decide +kernel
theorem dX4_hasBlock_9 : decode cX4_hasBlock 9 = .ok (.if_icmp .ge 7, 3) := by decide +kernel
theorem dX4_hasBlock_12 : decode cX4_hasBlock 12 = .ok (.iconst 1, 1) := by decide +kernel
theorem dX4_hasBlock_13 : decode cX4_hasBlock 13 = .ok (.goto 4, 3) := by decide +kernel
theorem dX4_hasBlock_16 : decode cX4_hasBlock 16 = .ok (.iconst 0, 1) := by decide +kernel
theorem dX4_hasBlock_17 : decode cX4_hasBlock 17 = .ok (.ireturn, 1) := by decide +kernel
set_option maxRecDepth 20000 in
theorem ggX4_setting_X6_valueAt : GoodIn wsX4_setting wsX6_valueAt := goodIn_r _ [4] (by decide +kernel) (by decide +kernel)
set_option maxRecDepth 20000 in
theorem gX4_setting_X6_valueAt_n59 : GoodIn wsX4_setting (wsX6_valueAt) := ggX4_setting_X6_valueAt
theorem dX4_setting_0 : decode cX4_setting 0 = .ok (.aload_n 0, 1) := by decide +kernel
theorem dX4_setting_1 : decode cX4_setting 1 = .ok (.getfield 9, 3) := by decide +kernel
theorem dX4_setting_4 : decode cX4_setting 4 = .ok (.iload_n 1, 1) := by decide +kernel
theorem dX4_setting_5 : decode cX4_setting 5 = .ok (.invokestatic 59, 3) := by decide +kernel
theorem dX4_setting_8 : decode cX4_setting 8 = .ok (.ireturn, 1) := by decide +kernel
set_option maxRecDepth 20000 in
theorem ggX4_firstOf_X6_valueAt : GoodIn wsX4_firstOf wsX6_valueAt := goodIn_r _ [4] (by decide +kernel) (by decide +kernel)
set_option maxRecDepth 20000 in
theorem gX4_firstOf_X6_valueAt_n59 : GoodIn wsX4_firstOf (wsX6_valueAt) := ggX4_firstOf_X6_valueAt
theorem dX4_firstOf_0 : decode cX4_firstOf 0 = .ok (.aload_n 0, 1) := by decide +kernel
theorem dX4_firstOf_1 : decode cX4_firstOf 1 = .ok (.getfield 24, 3) := by decide +kernel
theorem dX4_firstOf_4 : decode cX4_firstOf 4 = .ok (.iload_n 1, 1) := by decide +kernel
theorem dX4_firstOf_5 : decode cX4_firstOf 5 = .ok (.invokestatic 59, 3) := by decide +kernel
theorem dX4_firstOf_8 : decode cX4_firstOf 8 = .ok (.ireturn, 1) := by decide +kernel
set_option maxRecDepth 20000 in
theorem ggX4_cells_X6_valueAt : GoodIn wsX4_cells wsX6_valueAt := goodIn_r _ [5] (by decide +kernel) (by decide +kernel)
set_option maxRecDepth 20000 in
theorem gX4_cells_X6_valueAt_n59 : GoodIn wsX4_cells (wsX6_valueAt) := ggX4_cells_X6_valueAt
theorem dX4_cells_0 : decode cX4_cells 0 = .ok (.aload_n 0, 1) := by decide +kernel
theorem dX4_cells_1 : decode cX4_cells 1 = .ok (.getfield 24, 3) := by decide +kernel
theorem dX4_cells_4 : decode cX4_cells 4 = .ok (.aload_n 0, 1) := by decide +kernel
theorem dX4_cells_5 : decode cX4_cells 5 = .ok (.getfield 36, 3) := by decide +kernel
theorem dX4_cells_8 : decode cX4_cells 8 = .ok (.invokestatic 59, 3) := by decide +kernel
theorem dX4_cells_11 : decode cX4_cells 11 = .ok (.ireturn, 1) := by decide +kernel
set_option maxRecDepth 20000 in
theorem ggX4_hasCell_X4_cells : GoodIn wsX4_hasCell wsX4_cells := goodIn_r _ [5, 6, 7, 8, 9, 10, 11, 12, 13, 14, 15, 16, 17, 18, 19] (by decide +kernel) (by decide +kernel)
set_option maxRecDepth 20000 in
theorem gX4_hasCell_X4_cells : GoodIn wsX4_hasCell (wsV RX4 46 RX4 yX4_cells wsX4_cells) := goodIn_app (goodIn_of _ (by decide +kernel)) ggX4_hasCell_X4_cells
theorem dX4_hasCell_0 : decode cX4_hasCell 0 = .ok (.iload_n 1, 1) := by decide +kernel
theorem dX4_hasCell_1 : decode cX4_hasCell 1 = .ok (.ifCond .lt 15, 3) := by decide +kernel
theorem dX4_hasCell_4 : decode cX4_hasCell 4 = .ok (.iload_n 1, 1) := by decide +kernel
theorem dX4_hasCell_5 : decode cX4_hasCell 5 = .ok (.aload_n 0, 1) := by decide +kernel
theorem dX4_hasCell_6 : decode cX4_hasCell 6 = .ok (.invokevirtual 46, 3) := by decide +kernel
theorem dX4_hasCell_9 : decode cX4_hasCell 9 = .ok (.if_icmp .ge 7, 3) := by decide +kernel
theorem dX4_hasCell_12 : decode cX4_hasCell 12 = .ok (.iconst 1, 1) := by decide +kernel
theorem dX4_hasCell_13 : decode cX4_hasCell 13 = .ok (.goto 4, 3) := by decide +kernel
theorem dX4_hasCell_16 : decode cX4_hasCell 16 = .ok (.iconst 0, 1) := by decide +kernel
theorem dX4_hasCell_17 : decode cX4_hasCell 17 = .ok (.ireturn, 1) := by decide +kernel
set_option maxRecDepth 20000 in
theorem ggX4_tellingCells_X6_valueAt : GoodIn wsX4_tellingCells wsX6_valueAt := goodIn_r _ [4] (by decide +kernel) (by decide +kernel)
set_option maxRecDepth 20000 in
theorem gX4_tellingCells_X6_valueAt_n59 : GoodIn wsX4_tellingCells (wsX6_valueAt) := ggX4_tellingCells_X6_valueAt
theorem dX4_tellingCells_0 : decode cX4_tellingCells 0 = .ok (.iconst 4, 1) := by decide +kernel
theorem dX4_tellingCells_1 : decode cX4_tellingCells 1 = .ok (.aload_n 0, 1) := by decide +kernel
theorem dX4_tellingCells_2 : decode cX4_tellingCells 2 = .ok (.getfield 21, 3) := by decide +kernel
theorem dX4_tellingCells_5 : decode cX4_tellingCells 5 = .ok (.iload_n 1, 1) := by decide +kernel
theorem dX4_tellingCells_6 : decode cX4_tellingCells 6 = .ok (.invokestatic 59, 3) := by decide +kernel
theorem dX4_tellingCells_9 : decode cX4_tellingCells 9 = .ok (.iconst 1, 1) := by decide +kernel
theorem dX4_tellingCells_10 : decode cX4_tellingCells 10 = .ok (.iadd, 1) := by decide +kernel
theorem dX4_tellingCells_11 : decode cX4_tellingCells 11 = .ok (.bipush 9, 2) := by decide +kernel
theorem dX4_tellingCells_13 : decode cX4_tellingCells 13 = .ok (.imul, 1) := by decide +kernel
theorem dX4_tellingCells_14 : decode cX4_tellingCells 14 = .ok (.iadd, 1) := by decide +kernel
theorem dX4_tellingCells_15 : decode cX4_tellingCells 15 = .ok (.ireturn, 1) := by decide +kernel
set_option maxRecDepth 20000 in
theorem ggX4_errorOfBlock_X4_hasBlock : GoodIn wsX4_errorOfBlock wsX4_hasBlock := goodIn_r _ [6, 1, 7, 8, 9, 10, 11, 12, 13, 14, 15] (by decide +kernel) (by decide +kernel)
set_option maxRecDepth 20000 in
theorem gX4_errorOfBlock_X4_hasBlock : GoodIn wsX4_errorOfBlock (wsV RX4 63 RX4 yX4_hasBlock wsX4_hasBlock) := goodIn_app (goodIn_of _ (by decide +kernel)) ggX4_errorOfBlock_X4_hasBlock
theorem dX4_errorOfBlock_0 : decode cX4_errorOfBlock 0 = .ok (.iload_n 2, 1) := by decide +kernel
theorem dX4_errorOfBlock_1 : decode cX4_errorOfBlock 1 = .ok (.bipush (-6), 2) := by decide +kernel
theorem dX4_errorOfBlock_3 : decode cX4_errorOfBlock 3 = .ok (.if_icmp .eq 13, 3) := by decide +kernel
theorem dX4_errorOfBlock_6 : decode cX4_errorOfBlock 6 = .ok (.aload_n 0, 1) := by decide +kernel
theorem dX4_errorOfBlock_7 : decode cX4_errorOfBlock 7 = .ok (.iload_n 2, 1) := by decide +kernel
theorem dX4_errorOfBlock_8 : decode cX4_errorOfBlock 8 = .ok (.invokevirtual 63, 3) := by decide +kernel
theorem dX4_errorOfBlock_11 : decode cX4_errorOfBlock 11 = .ok (.ifCond .ne 5, 3) := by decide +kernel
theorem dX4_errorOfBlock_14 : decode cX4_errorOfBlock 14 = .ok (.iconst (-1), 1) := by decide +kernel
theorem dX4_errorOfBlock_15 : decode cX4_errorOfBlock 15 = .ok (.ireturn, 1) := by decide +kernel
theorem dX4_errorOfBlock_16 : decode cX4_errorOfBlock 16 = .ok (.iload_n 1, 1) := by decide +kernel
theorem dX4_errorOfBlock_17 : decode cX4_errorOfBlock 17 = .ok (.ifCond .lt 20, 3) := by decide +kernel
theorem dX4_errorOfBlock_20 : decode cX4_errorOfBlock 20 = .ok (.iload_n 1, 1) := by decide +kernel
theorem dX4_errorOfBlock_21 : decode cX4_errorOfBlock 21 = .ok (.bipush 99, 2) := by decide +kernel
theorem dX4_errorOfBlock_23 : decode cX4_errorOfBlock 23 = .ok (.if_icmp .gt 14, 3) := by decide +kernel
theorem dX4_errorOfBlock_26 : decode cX4_errorOfBlock 26 = .ok (.iload_n 3, 1) := by decide +kernel
theorem dX4_errorOfBlock_27 : decode cX4_errorOfBlock 27 = .ok (.iconst 1, 1) := by decide +kernel
theorem dX4_errorOfBlock_28 : decode cX4_errorOfBlock 28 = .ok (.if_icmp .lt 9, 3) := by decide +kernel
theorem dX4_errorOfBlock_31 : decode cX4_errorOfBlock 31 = .ok (.iload_n 3, 1) := by decide +kernel
theorem dX4_errorOfBlock_32 : decode cX4_errorOfBlock 32 = .ok (.bipush 7, 2) := by decide +kernel
theorem dX4_errorOfBlock_34 : decode cX4_errorOfBlock 34 = .ok (.if_icmp .le 6, 3) := by decide +kernel
theorem dX4_errorOfBlock_37 : decode cX4_errorOfBlock 37 = .ok (.bipush (-2), 2) := by decide +kernel
theorem dX4_errorOfBlock_39 : decode cX4_errorOfBlock 39 = .ok (.ireturn, 1) := by decide +kernel
theorem dX4_errorOfBlock_40 : decode cX4_errorOfBlock 40 = .ok (.aload_n 0, 1) := by decide +kernel
theorem dX4_errorOfBlock_41 : decode cX4_errorOfBlock 41 = .ok (.getfield 36, 3) := by decide +kernel
theorem dX4_errorOfBlock_44 : decode cX4_errorOfBlock 44 = .ok (.bipush 16, 2) := by decide +kernel
theorem dX4_errorOfBlock_46 : decode cX4_errorOfBlock 46 = .ok (.if_icmp .lt 8, 3) := by decide +kernel
theorem dX4_errorOfBlock_49 : decode cX4_errorOfBlock 49 = .ok (.bipush (-4), 2) := by decide +kernel
theorem dX4_errorOfBlock_51 : decode cX4_errorOfBlock 51 = .ok (.goto 4, 3) := by decide +kernel
theorem dX4_errorOfBlock_54 : decode cX4_errorOfBlock 54 = .ok (.iconst 0, 1) := by decide +kernel
theorem dX4_errorOfBlock_55 : decode cX4_errorOfBlock 55 = .ok (.ireturn, 1) := by decide +kernel
set_option maxRecDepth 20000 in
theorem ggX4_appendBlock_X6_setValue : GoodIn wsX4_appendBlock wsX6_setValue := goodIn_r _ [10] (by decide +kernel) (by decide +kernel)
set_option maxRecDepth 20000 in
theorem gX4_appendBlock_X6_setValue_n67 : GoodIn wsX4_appendBlock (wsX6_setValue) := ggX4_appendBlock_X6_setValue
set_option maxRecDepth 20000 in
theorem ggX4_appendBlock_X4_firstOf : GoodIn wsX4_appendBlock wsX4_firstOf := goodIn_r _ [15, 7, 16, 9, 17, 43, 44, 45, 46, 47, 48, 49, 50, 51] (by decide +kernel) (by decide +kernel)
set_option maxRecDepth 20000 in
theorem gX4_appendBlock_X4_firstOf : GoodIn wsX4_appendBlock (wsV RX4 71 RX4 yX4_firstOf wsX4_firstOf) := goodIn_app (goodIn_of _ (by decide +kernel)) ggX4_appendBlock_X4_firstOf
set_option maxRecDepth 20000 in
theorem ggX4_appendBlock_X4_tellingCells : GoodIn wsX4_appendBlock wsX4_tellingCells := goodIn_r _ [21, 4, 16, 9, 17, 43, 44, 45, 46, 47, 48, 49, 50, 51] (by decide +kernel) (by decide +kernel)
set_option maxRecDepth 20000 in
theorem gX4_appendBlock_X4_tellingCells : GoodIn wsX4_appendBlock (wsV RX4 75 RX4 yX4_tellingCells wsX4_tellingCells) := goodIn_app (goodIn_of _ (by decide +kernel)) ggX4_appendBlock_X4_tellingCells
set_option maxRecDepth 20000 in
theorem ggX4_appendBlock_X4_setting : GoodIn wsX4_appendBlock wsX4_setting := goodIn_r _ [25, 26, 16, 9, 17, 43, 44, 45, 46, 47, 48, 49, 50, 51] (by decide +kernel) (by decide +kernel)
set_option maxRecDepth 20000 in
theorem gX4_appendBlock_X4_setting : GoodIn wsX4_appendBlock (wsV RX4 78 RX4 yX4_setting wsX4_setting) := goodIn_app (goodIn_of _ (by decide +kernel)) ggX4_appendBlock_X4_setting
set_option maxRecDepth 20000 in
theorem ggX4_appendBlock_X4_writeTelling : GoodIn wsX4_appendBlock wsX4_writeTelling := goodIn_r _ [30, 31, 32, 33, 14, 34, 35, 8, 9, 10, 36, 37, 38, 39, 40, 41, 42, 43, 44, 45, 46, 47, 48, 49, 50, 51] (by decide +kernel) (by decide +kernel)
set_option maxRecDepth 20000 in
theorem gX4_appendBlock_X4_writeTelling : GoodIn wsX4_appendBlock (wsV RX4 81 RX4 yX4_writeTelling wsX4_writeTelling) := goodIn_app (goodIn_of _ (by decide +kernel)) ggX4_appendBlock_X4_writeTelling
theorem dX4_appendBlock_0 : decode cX4_appendBlock 0 = .ok (.aload_n 0, 1) := by decide +kernel
theorem dX4_appendBlock_1 : decode cX4_appendBlock 1 = .ok (.getfield 36, 3) := by decide +kernel
theorem dX4_appendBlock_4 : decode cX4_appendBlock 4 = .ok (.istore 6, 2) := by decide +kernel
theorem dX4_appendBlock_6 : decode cX4_appendBlock 6 = .ok (.aload_n 0, 1) := by decide +kernel
theorem dX4_appendBlock_7 : decode cX4_appendBlock 7 = .ok (.getfield 15, 3) := by decide +kernel
theorem dX4_appendBlock_10 : decode cX4_appendBlock 10 = .ok (.iload 6, 2) := by decide +kernel
theorem dX4_appendBlock_12 : decode cX4_appendBlock 12 = .ok (.iload_n 1, 1) := by decide +kernel
theorem dX4_appendBlock_13 : decode cX4_appendBlock 13 = .ok (.invokestatic 67, 3) := by decide +kernel
theorem dX4_appendBlock_16 : decode cX4_appendBlock 16 = .ok (.aload_n 0, 1) := by decide +kernel
theorem dX4_appendBlock_17 : decode cX4_appendBlock 17 = .ok (.getfield 18, 3) := by decide +kernel
theorem dX4_appendBlock_20 : decode cX4_appendBlock 20 = .ok (.iload 6, 2) := by decide +kernel
theorem dX4_appendBlock_22 : decode cX4_appendBlock 22 = .ok (.iload_n 2, 1) := by decide +kernel
theorem dX4_appendBlock_23 : decode cX4_appendBlock 23 = .ok (.invokestatic 67, 3) := by decide +kernel
theorem dX4_appendBlock_26 : decode cX4_appendBlock 26 = .ok (.aload_n 0, 1) := by decide +kernel
theorem dX4_appendBlock_27 : decode cX4_appendBlock 27 = .ok (.getfield 21, 3) := by decide +kernel
theorem dX4_appendBlock_30 : decode cX4_appendBlock 30 = .ok (.iload 6, 2) := by decide +kernel
theorem dX4_appendBlock_32 : decode cX4_appendBlock 32 = .ok (.iload_n 3, 1) := by decide +kernel
theorem dX4_appendBlock_33 : decode cX4_appendBlock 33 = .ok (.invokestatic 67, 3) := by decide +kernel
theorem dX4_appendBlock_36 : decode cX4_appendBlock 36 = .ok (.aload_n 0, 1) := by decide +kernel
theorem dX4_appendBlock_37 : decode cX4_appendBlock 37 = .ok (.iload 6, 2) := by decide +kernel
theorem dX4_appendBlock_39 : decode cX4_appendBlock 39 = .ok (.invokevirtual 71, 3) := by decide +kernel
theorem dX4_appendBlock_42 : decode cX4_appendBlock 42 = .ok (.istore 7, 2) := by decide +kernel
theorem dX4_appendBlock_44 : decode cX4_appendBlock 44 = .ok (.aload_n 0, 1) := by decide +kernel
theorem dX4_appendBlock_45 : decode cX4_appendBlock 45 = .ok (.iload 6, 2) := by decide +kernel
theorem dX4_appendBlock_47 : decode cX4_appendBlock 47 = .ok (.invokevirtual 75, 3) := by decide +kernel
theorem dX4_appendBlock_50 : decode cX4_appendBlock 50 = .ok (.istore 8, 2) := by decide +kernel
theorem dX4_appendBlock_52 : decode cX4_appendBlock 52 = .ok (.iload 7, 2) := by decide +kernel
theorem dX4_appendBlock_54 : decode cX4_appendBlock 54 = .ok (.iconst 2, 1) := by decide +kernel
theorem dX4_appendBlock_55 : decode cX4_appendBlock 55 = .ok (.iload 8, 2) := by decide +kernel
theorem dX4_appendBlock_57 : decode cX4_appendBlock 57 = .ok (.imul, 1) := by decide +kernel
theorem dX4_appendBlock_58 : decode cX4_appendBlock 58 = .ok (.iadd, 1) := by decide +kernel
theorem dX4_appendBlock_59 : decode cX4_appendBlock 59 = .ok (.iconst 2, 1) := by decide +kernel
theorem dX4_appendBlock_60 : decode cX4_appendBlock 60 = .ok (.iadd, 1) := by decide +kernel
theorem dX4_appendBlock_61 : decode cX4_appendBlock 61 = .ok (.istore 9, 2) := by decide +kernel
theorem dX4_appendBlock_63 : decode cX4_appendBlock 63 = .ok (.iload 7, 2) := by decide +kernel
theorem dX4_appendBlock_65 : decode cX4_appendBlock 65 = .ok (.istore 10, 2) := by decide +kernel
theorem dX4_appendBlock_67 : decode cX4_appendBlock 67 = .ok (.iload 10, 2) := by decide +kernel
theorem dX4_appendBlock_69 : decode cX4_appendBlock 69 = .ok (.iload 9, 2) := by decide +kernel
theorem dX4_appendBlock_71 : decode cX4_appendBlock 71 = .ok (.if_icmp .ge 33, 3) := by decide +kernel
theorem dX4_appendBlock_74 : decode cX4_appendBlock 74 = .ok (.aload_n 0, 1) := by decide +kernel
theorem dX4_appendBlock_75 : decode cX4_appendBlock 75 = .ok (.getfield 27, 3) := by decide +kernel
theorem dX4_appendBlock_78 : decode cX4_appendBlock 78 = .ok (.iload 10, 2) := by decide +kernel
theorem dX4_appendBlock_80 : decode cX4_appendBlock 80 = .ok (.aload_n 0, 1) := by decide +kernel
theorem dX4_appendBlock_81 : decode cX4_appendBlock 81 = .ok (.iconst 0, 1) := by decide +kernel
theorem dX4_appendBlock_82 : decode cX4_appendBlock 82 = .ok (.invokevirtual 78, 3) := by decide +kernel
theorem dX4_appendBlock_85 : decode cX4_appendBlock 85 = .ok (.invokestatic 67, 3) := by decide +kernel
theorem dX4_appendBlock_88 : decode cX4_appendBlock 88 = .ok (.aload_n 0, 1) := by decide +kernel
theorem dX4_appendBlock_89 : decode cX4_appendBlock 89 = .ok (.getfield 30, 3) := by decide +kernel
theorem dX4_appendBlock_92 : decode cX4_appendBlock 92 = .ok (.iload 10, 2) := by decide +kernel
theorem dX4_appendBlock_94 : decode cX4_appendBlock 94 = .ok (.iconst 0, 1) := by decide +kernel
theorem dX4_appendBlock_95 : decode cX4_appendBlock 95 = .ok (.invokestatic 67, 3) := by decide +kernel
theorem dX4_appendBlock_98 : decode cX4_appendBlock 98 = .ok (.iinc 10 1, 3) := by decide +kernel
theorem dX4_appendBlock_101 : decode cX4_appendBlock 101 = .ok (.goto (-34), 3) := by decide +kernel
theorem dX4_appendBlock_104 : decode cX4_appendBlock 104 = .ok (.iconst 0, 1) := by decide +kernel
theorem dX4_appendBlock_105 : decode cX4_appendBlock 105 = .ok (.istore 10, 2) := by decide +kernel
theorem dX4_appendBlock_107 : decode cX4_appendBlock 107 = .ok (.iload 10, 2) := by decide +kernel
theorem dX4_appendBlock_109 : decode cX4_appendBlock 109 = .ok (.iconst 2, 1) := by decide +kernel
theorem dX4_appendBlock_110 : decode cX4_appendBlock 110 = .ok (.if_icmp .ge 26, 3) := by decide +kernel
theorem dX4_appendBlock_113 : decode cX4_appendBlock 113 = .ok (.aload_n 0, 1) := by decide +kernel
theorem dX4_appendBlock_114 : decode cX4_appendBlock 114 = .ok (.iload 7, 2) := by decide +kernel
theorem dX4_appendBlock_116 : decode cX4_appendBlock 116 = .ok (.iload 10, 2) := by decide +kernel
theorem dX4_appendBlock_118 : decode cX4_appendBlock 118 = .ok (.iload 8, 2) := by decide +kernel
theorem dX4_appendBlock_120 : decode cX4_appendBlock 120 = .ok (.imul, 1) := by decide +kernel
theorem dX4_appendBlock_121 : decode cX4_appendBlock 121 = .ok (.iadd, 1) := by decide +kernel
theorem dX4_appendBlock_122 : decode cX4_appendBlock 122 = .ok (.iconst 4, 1) := by decide +kernel
theorem dX4_appendBlock_123 : decode cX4_appendBlock 123 = .ok (.iadd, 1) := by decide +kernel
theorem dX4_appendBlock_124 : decode cX4_appendBlock 124 = .ok (.iload_n 3, 1) := by decide +kernel
theorem dX4_appendBlock_125 : decode cX4_appendBlock 125 = .ok (.lload 4, 2) := by decide +kernel
theorem dX4_appendBlock_127 : decode cX4_appendBlock 127 = .ok (.invokevirtual 81, 3) := by decide +kernel
theorem dX4_appendBlock_130 : decode cX4_appendBlock 130 = .ok (.iinc 10 1, 3) := by decide +kernel
theorem dX4_appendBlock_133 : decode cX4_appendBlock 133 = .ok (.goto (-26), 3) := by decide +kernel
theorem dX4_appendBlock_136 : decode cX4_appendBlock 136 = .ok (.aload_n 0, 1) := by decide +kernel
theorem dX4_appendBlock_137 : decode cX4_appendBlock 137 = .ok (.getfield 24, 3) := by decide +kernel
theorem dX4_appendBlock_140 : decode cX4_appendBlock 140 = .ok (.iload 6, 2) := by decide +kernel
theorem dX4_appendBlock_142 : decode cX4_appendBlock 142 = .ok (.iconst 1, 1) := by decide +kernel
theorem dX4_appendBlock_143 : decode cX4_appendBlock 143 = .ok (.iadd, 1) := by decide +kernel
theorem dX4_appendBlock_144 : decode cX4_appendBlock 144 = .ok (.iload 9, 2) := by decide +kernel
theorem dX4_appendBlock_146 : decode cX4_appendBlock 146 = .ok (.invokestatic 67, 3) := by decide +kernel
theorem dX4_appendBlock_149 : decode cX4_appendBlock 149 = .ok (.aload_n 0, 1) := by decide +kernel
theorem dX4_appendBlock_150 : decode cX4_appendBlock 150 = .ok (.dup, 1) := by decide +kernel
theorem dX4_appendBlock_151 : decode cX4_appendBlock 151 = .ok (.getfield 36, 3) := by decide +kernel
theorem dX4_appendBlock_154 : decode cX4_appendBlock 154 = .ok (.iconst 1, 1) := by decide +kernel
theorem dX4_appendBlock_155 : decode cX4_appendBlock 155 = .ok (.iadd, 1) := by decide +kernel
theorem dX4_appendBlock_156 : decode cX4_appendBlock 156 = .ok (.putfield 36, 3) := by decide +kernel
theorem dX4_appendBlock_159 : decode cX4_appendBlock 159 = .ok (.iload 6, 2) := by decide +kernel
theorem dX4_appendBlock_161 : decode cX4_appendBlock 161 = .ok (.ireturn, 1) := by decide +kernel
set_option maxRecDepth 20000 in
theorem ggX4_writeTelling_X4_writeByte : GoodIn wsX4_writeTelling wsX4_writeByte := goodIn_r _ [5, 6, 7, 8, 9, 10, 11, 12, 13, 14, 15, 16, 17, 18, 19, 20, 21, 22, 23, 24, 25] (by decide +kernel) (by decide +kernel)
set_option maxRecDepth 20000 in
theorem gX4_writeTelling_X4_writeByte : GoodIn wsX4_writeTelling (wsV RX4 85 RX4 yX4_writeByte wsX4_writeByte) := goodIn_app (goodIn_of _ (by decide +kernel)) ggX4_writeTelling_X4_writeByte
theorem dX4_writeTelling_0 : decode cX4_writeTelling 0 = .ok (.iconst 0, 1) := by decide +kernel
theorem dX4_writeTelling_1 : decode cX4_writeTelling 1 = .ok (.istore 5, 2) := by decide +kernel
theorem dX4_writeTelling_3 : decode cX4_writeTelling 3 = .ok (.iconst 0, 1) := by decide +kernel
theorem dX4_writeTelling_4 : decode cX4_writeTelling 4 = .ok (.istore 6, 2) := by decide +kernel
theorem dX4_writeTelling_6 : decode cX4_writeTelling 6 = .ok (.iload 6, 2) := by decide +kernel
theorem dX4_writeTelling_8 : decode cX4_writeTelling 8 = .ok (.iload_n 2, 1) := by decide +kernel
theorem dX4_writeTelling_9 : decode cX4_writeTelling 9 = .ok (.if_icmp .ge 43, 3) := by decide +kernel
theorem dX4_writeTelling_12 : decode cX4_writeTelling 12 = .ok (.lload_n 3, 1) := by decide +kernel
theorem dX4_writeTelling_13 : decode cX4_writeTelling 13 = .ok (.iload 6, 2) := by decide +kernel
theorem dX4_writeTelling_15 : decode cX4_writeTelling 15 = .ok (.bipush 8, 2) := by decide +kernel
theorem dX4_writeTelling_17 : decode cX4_writeTelling 17 = .ok (.imul, 1) := by decide +kernel
theorem dX4_writeTelling_18 : decode cX4_writeTelling 18 = .ok (.lushr, 1) := by decide +kernel
theorem dX4_writeTelling_19 : decode cX4_writeTelling 19 = .ok (.l2i, 1) := by decide +kernel
theorem dX4_writeTelling_20 : decode cX4_writeTelling 20 = .ok (.sipush 255, 3) := by decide +kernel
theorem dX4_writeTelling_23 : decode cX4_writeTelling 23 = .ok (.iand, 1) := by decide +kernel
theorem dX4_writeTelling_24 : decode cX4_writeTelling 24 = .ok (.istore 7, 2) := by decide +kernel
theorem dX4_writeTelling_26 : decode cX4_writeTelling 26 = .ok (.iload 5, 2) := by decide +kernel
theorem dX4_writeTelling_28 : decode cX4_writeTelling 28 = .ok (.iload 7, 2) := by decide +kernel
theorem dX4_writeTelling_30 : decode cX4_writeTelling 30 = .ok (.iadd, 1) := by decide +kernel
theorem dX4_writeTelling_31 : decode cX4_writeTelling 31 = .ok (.istore 5, 2) := by decide +kernel
theorem dX4_writeTelling_33 : decode cX4_writeTelling 33 = .ok (.aload_n 0, 1) := by decide +kernel
theorem dX4_writeTelling_34 : decode cX4_writeTelling 34 = .ok (.iload_n 1, 1) := by decide +kernel
theorem dX4_writeTelling_35 : decode cX4_writeTelling 35 = .ok (.iload 6, 2) := by decide +kernel
theorem dX4_writeTelling_37 : decode cX4_writeTelling 37 = .ok (.bipush 9, 2) := by decide +kernel
theorem dX4_writeTelling_39 : decode cX4_writeTelling 39 = .ok (.imul, 1) := by decide +kernel
theorem dX4_writeTelling_40 : decode cX4_writeTelling 40 = .ok (.iadd, 1) := by decide +kernel
theorem dX4_writeTelling_41 : decode cX4_writeTelling 41 = .ok (.iload 7, 2) := by decide +kernel
theorem dX4_writeTelling_43 : decode cX4_writeTelling 43 = .ok (.invokevirtual 85, 3) := by decide +kernel
theorem dX4_writeTelling_46 : decode cX4_writeTelling 46 = .ok (.iinc 6 1, 3) := by decide +kernel
theorem dX4_writeTelling_49 : decode cX4_writeTelling 49 = .ok (.goto (-43), 3) := by decide +kernel
theorem dX4_writeTelling_52 : decode cX4_writeTelling 52 = .ok (.aload_n 0, 1) := by decide +kernel
theorem dX4_writeTelling_53 : decode cX4_writeTelling 53 = .ok (.iload_n 1, 1) := by decide +kernel
theorem dX4_writeTelling_54 : decode cX4_writeTelling 54 = .ok (.iload_n 2, 1) := by decide +kernel
theorem dX4_writeTelling_55 : decode cX4_writeTelling 55 = .ok (.bipush 9, 2) := by decide +kernel
theorem dX4_writeTelling_57 : decode cX4_writeTelling 57 = .ok (.imul, 1) := by decide +kernel
theorem dX4_writeTelling_58 : decode cX4_writeTelling 58 = .ok (.iadd, 1) := by decide +kernel
theorem dX4_writeTelling_59 : decode cX4_writeTelling 59 = .ok (.iload 5, 2) := by decide +kernel
theorem dX4_writeTelling_61 : decode cX4_writeTelling 61 = .ok (.sipush 255, 3) := by decide +kernel
theorem dX4_writeTelling_64 : decode cX4_writeTelling 64 = .ok (.iand, 1) := by decide +kernel
theorem dX4_writeTelling_65 : decode cX4_writeTelling 65 = .ok (.invokevirtual 85, 3) := by decide +kernel
theorem dX4_writeTelling_68 : decode cX4_writeTelling 68 = .ok (.return_, 1) := by decide +kernel
set_option maxRecDepth 20000 in
theorem ggX4_writeByte_X6_setValue : GoodIn wsX4_writeByte wsX6_setValue := goodIn_r _ [4] (by decide +kernel) (by decide +kernel)
set_option maxRecDepth 20000 in
theorem gX4_writeByte_X6_setValue_n67 : GoodIn wsX4_writeByte (wsX6_setValue) := ggX4_writeByte_X6_setValue
set_option maxRecDepth 20000 in
theorem ggX4_writeByte_J6_bitCount_0f7a4 : GoodIn wsX4_writeByte wsJ6_bitCount_0f7a4 := goodIn_r _ [8, 9, 10, 11] (by decide +kernel) (by decide +kernel)
set_option maxRecDepth 20000 in
theorem gX4_writeByte_J6_bitCount_0f7a4 : GoodIn wsX4_writeByte (va_wsS RX4 89 yJ6_bitCount_0f7a4 wsJ6_bitCount_0f7a4) := goodIn_app (goodIn_of _ (by decide +kernel)) ggX4_writeByte_J6_bitCount_0f7a4
theorem dX4_writeByte_0 : decode cX4_writeByte 0 = .ok (.iconst 0, 1) := by decide +kernel
theorem dX4_writeByte_1 : decode cX4_writeByte 1 = .ok (.istore_n 3, 1) := by decide +kernel
theorem dX4_writeByte_2 : decode cX4_writeByte 2 = .ok (.iload_n 3, 1) := by decide +kernel
theorem dX4_writeByte_3 : decode cX4_writeByte 3 = .ok (.bipush 8, 2) := by decide +kernel
theorem dX4_writeByte_5 : decode cX4_writeByte 5 = .ok (.if_icmp .ge 24, 3) := by decide +kernel
theorem dX4_writeByte_8 : decode cX4_writeByte 8 = .ok (.aload_n 0, 1) := by decide +kernel
theorem dX4_writeByte_9 : decode cX4_writeByte 9 = .ok (.getfield 33, 3) := by decide +kernel
theorem dX4_writeByte_12 : decode cX4_writeByte 12 = .ok (.iload_n 1, 1) := by decide +kernel
theorem dX4_writeByte_13 : decode cX4_writeByte 13 = .ok (.iload_n 3, 1) := by decide +kernel
theorem dX4_writeByte_14 : decode cX4_writeByte 14 = .ok (.iadd, 1) := by decide +kernel
theorem dX4_writeByte_15 : decode cX4_writeByte 15 = .ok (.iload_n 2, 1) := by decide +kernel
theorem dX4_writeByte_16 : decode cX4_writeByte 16 = .ok (.iload_n 3, 1) := by decide +kernel
theorem dX4_writeByte_17 : decode cX4_writeByte 17 = .ok (.iushr, 1) := by decide +kernel
theorem dX4_writeByte_18 : decode cX4_writeByte 18 = .ok (.iconst 1, 1) := by decide +kernel
theorem dX4_writeByte_19 : decode cX4_writeByte 19 = .ok (.iand, 1) := by decide +kernel
theorem dX4_writeByte_20 : decode cX4_writeByte 20 = .ok (.invokestatic 67, 3) := by decide +kernel
theorem dX4_writeByte_23 : decode cX4_writeByte 23 = .ok (.iinc 3 1, 3) := by decide +kernel
theorem dX4_writeByte_26 : decode cX4_writeByte 26 = .ok (.goto (-24), 3) := by decide +kernel
theorem dX4_writeByte_29 : decode cX4_writeByte 29 = .ok (.aload_n 0, 1) := by decide +kernel
theorem dX4_writeByte_30 : decode cX4_writeByte 30 = .ok (.getfield 33, 3) := by decide +kernel
theorem dX4_writeByte_33 : decode cX4_writeByte 33 = .ok (.iload_n 1, 1) := by decide +kernel
theorem dX4_writeByte_34 : decode cX4_writeByte 34 = .ok (.bipush 8, 2) := by decide +kernel
theorem dX4_writeByte_36 : decode cX4_writeByte 36 = .ok (.iadd, 1) := by decide +kernel
theorem dX4_writeByte_37 : decode cX4_writeByte 37 = .ok (.iload_n 2, 1) := by decide +kernel
theorem dX4_writeByte_38 : decode cX4_writeByte 38 = .ok (.invokestatic 89, 3) := by decide +kernel
theorem dX4_writeByte_41 : decode cX4_writeByte 41 = .ok (.iconst 1, 1) := by decide +kernel
theorem dX4_writeByte_42 : decode cX4_writeByte 42 = .ok (.iand, 1) := by decide +kernel
theorem dX4_writeByte_43 : decode cX4_writeByte 43 = .ok (.invokestatic 67, 3) := by decide +kernel
theorem dX4_writeByte_46 : decode cX4_writeByte 46 = .ok (.return_, 1) := by decide +kernel
set_option maxRecDepth 20000 in
theorem ggX4_errorOfFading_X4_hasCell : GoodIn wsX4_errorOfFading wsX4_hasCell := goodIn_r _ [5, 6, 7, 8, 4, 9, 10, 11, 12, 13, 14, 15, 16, 17, 18, 19, 20, 21, 22, 23] (by decide +kernel) (by decide +kernel)
set_option maxRecDepth 20000 in
theorem gX4_errorOfFading_X4_hasCell : GoodIn wsX4_errorOfFading (wsV RX4 94 RX4 yX4_hasCell wsX4_hasCell) := goodIn_app (goodIn_of _ (by decide +kernel)) ggX4_errorOfFading_X4_hasCell
