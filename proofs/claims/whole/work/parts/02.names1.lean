/-! ===== BEGIN words of one list among another's, by their places ===== -/
theorem goodIn_r {big : List Cond} (ws : List Cond) (ps : List Nat) (hp : ws = ps.filterMap (fun i => big[i]?)) (h : ws.all goodWord = true) : GoodIn big ws := by
  intro w hw
  have h1 := List.all_eq_true.mp h w hw
  rw [hp] at hw
  obtain ⟨i, -, hi⟩ := List.mem_filterMap.mp hw
  have hm : w ∈ big := by first | exact List.mem_of_getElem? hi | exact List.getElem?_mem hi
  exact ⟨hm, good_of_word h1⟩
theorem goodIn_app {big a b : List Cond} (ha : GoodIn big a) (hb : GoodIn big b) : GoodIn big (a ++ b) := fun w h => (List.mem_append.mp h).elim (ha w) (hb w)
theorem goodIn_ca {big a b : List Cond} {c : Cond} (ha : GoodIn big (c :: a)) (hb : GoodIn big b) : GoodIn big (c :: (a ++ b)) := fun w h => (List.mem_cons.mp h).elim (fun e => ha w (List.mem_cons.mpr (Or.inl e))) (fun h => (List.mem_append.mp h).elim (fun h => ha w (List.mem_cons.mpr (Or.inr h))) (hb w))
theorem goodIn_sub {big ws : List Cond} (hm : ∀ w ∈ ws, w ∈ big) (h : ws.all goodWord = true) : GoodIn big ws := fun w hw => ⟨hm w hw, good_of_word (List.all_eq_true.mp h w hw)⟩
/-! ===== END ===== -/

/-! ===== BEGIN printed: names, fields, word lists, decode rows ===== -/
def RX0 : String := "CassetteTones$BlockReader"
def TX0 : u_T := fun k => match k with
  | 0 => ("CassetteTones$BlockReader", "first", "LCassetteTones$Telling;", true)
  | 1 => ("CassetteTones$BlockReader", "second", "LCassetteTones$Telling;", true)
  | _ => ("CassetteTones$BlockReader", "tellings", "[LCassetteTones$Telling;", true)
def tyX0 : Nat → FieldType := fun k => match k with
  | 0 => .object "CassetteTones$Telling"
  | 1 => .object "CassetteTones$Telling"
  | _ => .array (.object "CassetteTones$Telling")
abbrev wsX00 : List Cond := u_ws RX0 TX0 3
theorem nmX0 : ∀ a, a < 3 → ∀ b, b < 3 → a ≠ b → (TX0 a).2.1 ≠ (TX0 b).2.1 := by decide +kernel
theorem tyX0_ok : ∀ k, k < 3 → parseFieldDescriptor (TX0 k).2.2.1 = some (tyX0 k) := by decide +kernel
abbrev cX0_init : ByteArray := prog_2_method_1_code
def yX0_init : MethodName := ⟨RX0, "<init>", "()V"⟩
abbrev cX0_readBlock : ByteArray := prog_2_method_2_code
def yX0_readBlock : MethodName := ⟨RX0, "readBlock", "(LCassetteTones$Tape;I)V"⟩
abbrev cX0_wayBy : ByteArray := prog_2_method_3_code
def yX0_wayBy : MethodName := ⟨RX0, "wayBy", "(I)I"⟩
abbrev cX0_isWholeTogether : ByteArray := prog_2_method_4_code
def yX0_isWholeTogether : MethodName := ⟨RX0, "isWholeTogether", "(I)Z"⟩
abbrev cX0_byteTogether : ByteArray := prog_2_method_5_code
def yX0_byteTogether : MethodName := ⟨RX0, "byteTogether", "(II)I"⟩
abbrev cX0_bytesBy : ByteArray := prog_2_method_6_code
def yX0_bytesBy : MethodName := ⟨RX0, "bytesBy", "(II)J"⟩
abbrev cX0_byteBy : ByteArray := prog_2_method_7_code
def yX0_byteBy : MethodName := ⟨RX0, "byteBy", "(III)I"⟩
def RX1 : String := "CassetteTones$History"
def TX1 : u_T := fun k => match k with
  | 0 => ("CassetteTones$History", "states", "[LCassetteTones$Tape;", true)
  | 1 => ("CassetteTones$History", "oldest", "I", false)
  | _ => ("CassetteTones$History", "size", "I", false)
def tyX1 : Nat → FieldType := fun k => match k with
  | 0 => .array (.object "CassetteTones$Tape")
  | 1 => .int
  | _ => .int
abbrev wsX10 : List Cond := u_ws RX1 TX1 3
theorem nmX1 : ∀ a, a < 3 → ∀ b, b < 3 → a ≠ b → (TX1 a).2.1 ≠ (TX1 b).2.1 := by decide +kernel
theorem tyX1_ok : ∀ k, k < 3 → parseFieldDescriptor (TX1 k).2.2.1 = some (tyX1 k) := by decide +kernel
abbrev cX1_init : ByteArray := prog_3_method_1_code
def yX1_init : MethodName := ⟨RX1, "<init>", "()V"⟩
abbrev cX1_record : ByteArray := prog_3_method_2_code
def yX1_record : MethodName := ⟨RX1, "record", "(LCassetteTones$Tape;)V"⟩
abbrev cX1_takeBack : ByteArray := prog_3_method_3_code
def yX1_takeBack : MethodName := ⟨RX1, "takeBack", "(LCassetteTones$Tape;)V"⟩
def RX2 : String := "CassetteTones$Pad"
def TX2 : u_T := fun k => match k with
  | 0 => ("CassetteTones$Pad", "characters", "[C", true)
  | 1 => ("CassetteTones$Pad", "length", "I", false)
  | 2 => ("CassetteTones$Pad", "at", "I", false)
  | 3 => ("CassetteTones$Pad", "kind", "C", false)
  | 4 => ("CassetteTones$Pad", "number", "I", false)
  | 5 => ("CassetteTones$Pad", "to", "I", false)
  | 6 => ("CassetteTones$Pad", "volume", "I", false)
  | 7 => ("CassetteTones$Pad", "under", "I", false)
  | 8 => ("CassetteTones$Pad", "many", "I", false)
  | 9 => ("CassetteTones$Pad", "bytes", "J", false)
  | _ => ("CassetteTones$Pad", "byteTooGreat", "Z", false)
def tyX2 : Nat → FieldType := fun k => match k with
  | 0 => .array .char
  | 1 => .int
  | 2 => .int
  | 3 => .char
  | 4 => .int
  | 5 => .int
  | 6 => .int
  | 7 => .int
  | 8 => .int
  | 9 => .long
  | _ => .boolean
abbrev wsX20 : List Cond := u_ws RX2 TX2 11
theorem nmX2 : ∀ a, a < 11 → ∀ b, b < 11 → a ≠ b → (TX2 a).2.1 ≠ (TX2 b).2.1 := by decide +kernel
theorem tyX2_ok : ∀ k, k < 11 → parseFieldDescriptor (TX2 k).2.2.1 = some (tyX2 k) := by decide +kernel
abbrev cX2_init : ByteArray := prog_4_method_1_code
def yX2_init : MethodName := ⟨RX2, "<init>", "()V"⟩
abbrev cX2_charactersIn : ByteArray := prog_4_method_2_code
def yX2_charactersIn : MethodName := ⟨RX2, "charactersIn", "(J)I"⟩
abbrev cX2_append : ByteArray := prog_4_method_3_code
def yX2_append : MethodName := ⟨RX2, "append", "(JI)V"⟩
abbrev cX2_findFault : ByteArray := prog_4_method_4_code
def yX2_findFault : MethodName := ⟨RX2, "findFault", "()I"⟩
abbrev cX2_takeOrder : ByteArray := prog_4_method_5_code
def yX2_takeOrder : MethodName := ⟨RX2, "takeOrder", "()Z"⟩
abbrev cX2_takeUnder : ByteArray := prog_4_method_6_code
def yX2_takeUnder : MethodName := ⟨RX2, "takeUnder", "()Z"⟩
abbrev cX2_takeBytes : ByteArray := prog_4_method_7_code
def yX2_takeBytes : MethodName := ⟨RX2, "takeBytes", "()Z"⟩
abbrev cX2_addByte : ByteArray := prog_4_method_8_code
def yX2_addByte : MethodName := ⟨RX2, "addByte", "(I)V"⟩
abbrev cX2_takeFading : ByteArray := prog_4_method_9_code
def yX2_takeFading : MethodName := ⟨RX2, "takeFading", "()Z"⟩
abbrev cX2_takeNumber : ByteArray := prog_4_method_10_code
def yX2_takeNumber : MethodName := ⟨RX2, "takeNumber", "()I"⟩
abbrev cX2_nextDigit : ByteArray := prog_4_method_11_code
def yX2_nextDigit : MethodName := ⟨RX2, "nextDigit", "()I"⟩
abbrev cX2_takeSign : ByteArray := prog_4_method_12_code
def yX2_takeSign : MethodName := ⟨RX2, "takeSign", "(C)Z"⟩
abbrev cX2_nextCharacter : ByteArray := prog_4_method_13_code
def yX2_nextCharacter : MethodName := ⟨RX2, "nextCharacter", "()C"⟩
def RX3 : String := "CassetteTones$Tape"
def TX3 : u_T := fun k => match k with
  | 0 => ("CassetteTones$Tape", "settings", "[I", true)
  | 1 => ("CassetteTones$Tape", "blocks", "I", false)
  | 2 => ("CassetteTones$Tape", "names", "[I", true)
  | 3 => ("CassetteTones$Tape", "unders", "[I", true)
  | 4 => ("CassetteTones$Tape", "manys", "[I", true)
  | 5 => ("CassetteTones$Tape", "firsts", "[I", true)
  | 6 => ("CassetteTones$Tape", "volumes", "[I", true)
  | 7 => ("CassetteTones$Tape", "bad", "[I", true)
  | _ => ("CassetteTones$Tape", "written", "[I", true)
def tyX3 : Nat → FieldType := fun k => match k with
  | 0 => .array .int
  | 1 => .int
  | 2 => .array .int
  | 3 => .array .int
  | 4 => .array .int
  | 5 => .array .int
  | 6 => .array .int
  | 7 => .array .int
  | _ => .array .int
abbrev wsX30 : List Cond := u_ws RX3 TX3 9
theorem nmX3 : ∀ a, a < 9 → ∀ b, b < 9 → a ≠ b → (TX3 a).2.1 ≠ (TX3 b).2.1 := by decide +kernel
theorem tyX3_ok : ∀ k, k < 9 → parseFieldDescriptor (TX3 k).2.2.1 = some (tyX3 k) := by decide +kernel
abbrev cX3_init : ByteArray := prog_5_method_1_code
def yX3_init : MethodName := ⟨RX3, "<init>", "()V"⟩
abbrev cX3_copyFrom : ByteArray := prog_5_method_2_code
def yX3_copyFrom : MethodName := ⟨RX3, "copyFrom", "(LCassetteTones$Tape;)V"⟩
abbrev cX3_hasBlock : ByteArray := prog_5_method_3_code
def yX3_hasBlock : MethodName := ⟨RX3, "hasBlock", "(I)Z"⟩
abbrev cX3_cells : ByteArray := prog_5_method_4_code
def yX3_cells : MethodName := ⟨RX3, "cells", "()I"⟩
abbrev cX3_hasCell : ByteArray := prog_5_method_5_code
def yX3_hasCell : MethodName := ⟨RX3, "hasCell", "(I)Z"⟩
abbrev cX3_tellingCells : ByteArray := prog_5_method_6_code
def yX3_tellingCells : MethodName := ⟨RX3, "tellingCells", "(I)I"⟩
abbrev cX3_errorOfBlock : ByteArray := prog_5_method_7_code
def yX3_errorOfBlock : MethodName := ⟨RX3, "errorOfBlock", "(III)I"⟩
abbrev cX3_appendBlock : ByteArray := prog_5_method_8_code
def yX3_appendBlock : MethodName := ⟨RX3, "appendBlock", "(IIIJ)I"⟩
abbrev cX3_writeTelling : ByteArray := prog_5_method_9_code
def yX3_writeTelling : MethodName := ⟨RX3, "writeTelling", "(IIJ)V"⟩
abbrev cX3_writeByte : ByteArray := prog_5_method_10_code
def yX3_writeByte : MethodName := ⟨RX3, "writeByte", "(II)V"⟩
abbrev cX3_errorOfFading : ByteArray := prog_5_method_11_code
def yX3_errorOfFading : MethodName := ⟨RX3, "errorOfFading", "(III)I"⟩
abbrev cX3_fadeCells : ByteArray := prog_5_method_12_code
def yX3_fadeCells : MethodName := ⟨RX3, "fadeCells", "(III)I"⟩
abbrev cX3_spoilCell : ByteArray := prog_5_method_13_code
def yX3_spoilCell : MethodName := ⟨RX3, "spoilCell", "(I)I"⟩
abbrev cX3_silentCells : ByteArray := prog_5_method_14_code
def yX3_silentCells : MethodName := ⟨RX3, "silentCells", "()I"⟩
abbrev cX3_badCells : ByteArray := prog_5_method_15_code
def yX3_badCells : MethodName := ⟨RX3, "badCells", "()I"⟩
abbrev cX3_blockAt : ByteArray := prog_5_method_16_code
def yX3_blockAt : MethodName := ⟨RX3, "blockAt", "(I)I"⟩
abbrev cX3_partAt : ByteArray := prog_5_method_17_code
def yX3_partAt : MethodName := ⟨RX3, "partAt", "(I)I"⟩
abbrev cX3_bitAt : ByteArray := prog_5_method_18_code
def yX3_bitAt : MethodName := ⟨RX3, "bitAt", "(I)I"⟩
abbrev cX3_counterOf : ByteArray := prog_5_method_19_code
def yX3_counterOf : MethodName := ⟨RX3, "counterOf", "(I)I"⟩
abbrev cX3_distanceOf : ByteArray := prog_5_method_20_code
def yX3_distanceOf : MethodName := ⟨RX3, "distanceOf", "(II)I"⟩
abbrev cX3_nearerBlocks : ByteArray := prog_5_method_21_code
def yX3_nearerBlocks : MethodName := ⟨RX3, "nearerBlocks", "(II)I"⟩
abbrev cX3_depthOf : ByteArray := prog_5_method_22_code
def yX3_depthOf : MethodName := ⟨RX3, "depthOf", "(I)I"⟩
def RX4 : String := "CassetteTones$Telling"
def TX4 : u_T := fun k => match k with
  | 0 => ("CassetteTones$Telling", "many", "I", false)
  | 1 => ("CassetteTones$Telling", "leaderHeard", "I", false)
  | 2 => ("CassetteTones$Telling", "values", "[I", true)
  | _ => ("CassetteTones$Telling", "wholeUpTo", "[I", true)
def tyX4 : Nat → FieldType := fun k => match k with
  | 0 => .int
  | 1 => .int
  | 2 => .array .int
  | _ => .array .int
abbrev wsX40 : List Cond := u_ws RX4 TX4 4
theorem nmX4 : ∀ a, a < 4 → ∀ b, b < 4 → a ≠ b → (TX4 a).2.1 ≠ (TX4 b).2.1 := by decide +kernel
theorem tyX4_ok : ∀ k, k < 4 → parseFieldDescriptor (TX4 k).2.2.1 = some (tyX4 k) := by decide +kernel
abbrev cX4_init : ByteArray := prog_6_method_1_code
def yX4_init : MethodName := ⟨RX4, "<init>", "()V"⟩
abbrev cX4_readCells : ByteArray := prog_6_method_2_code
def yX4_readCells : MethodName := ⟨RX4, "readCells", "(LCassetteTones$Tape;II)V"⟩
abbrev cX4_readLeader : ByteArray := prog_6_method_3_code
def yX4_readLeader : MethodName := ⟨RX4, "readLeader", "(LCassetteTones$Tape;I)V"⟩
abbrev cX4_readByte : ByteArray := prog_6_method_4_code
def yX4_readByte : MethodName := ⟨RX4, "readByte", "(LCassetteTones$Tape;II)V"⟩
abbrev cX4_isLost : ByteArray := prog_6_method_5_code
def yX4_isLost : MethodName := ⟨RX4, "isLost", "(I)Z"⟩
abbrev cX4_isByteWhole : ByteArray := prog_6_method_6_code
def yX4_isByteWhole : MethodName := ⟨RX4, "isByteWhole", "(II)Z"⟩
abbrev cX4_tellsSum : ByteArray := prog_6_method_7_code
def yX4_tellsSum : MethodName := ⟨RX4, "tellsSum", "(II)Z"⟩
abbrev cX4_stateBy : ByteArray := prog_6_method_8_code
def yX4_stateBy : MethodName := ⟨RX4, "stateBy", "(I)I"⟩
def RX5 : String := "CassetteTones"
def TX5 : u_T := fun k => match k with
  | 0 => ("CassetteTones", "tape", "LCassetteTones$Tape;", true)
  | 1 => ("CassetteTones", "reader", "LCassetteTones$BlockReader;", true)
  | 2 => ("CassetteTones", "pad", "LCassetteTones$Pad;", true)
  | 3 => ("CassetteTones", "history", "LCassetteTones$History;", true)
  | 4 => ("CassetteTones", "slots", "[LCassetteTones$Tape;", true)
  | 5 => ("CassetteTones", "saved", "[Z", true)
  | _ => ("CassetteTones", "below", "[I", true)
def tyX5 : Nat → FieldType := fun k => match k with
  | 0 => .object "CassetteTones$Tape"
  | 1 => .object "CassetteTones$BlockReader"
  | 2 => .object "CassetteTones$Pad"
  | 3 => .object "CassetteTones$History"
  | 4 => .array (.object "CassetteTones$Tape")
  | 5 => .array .boolean
  | _ => .array .int
abbrev wsX50 : List Cond := u_ws RX5 TX5 7
theorem nmX5 : ∀ a, a < 7 → ∀ b, b < 7 → a ≠ b → (TX5 a).2.1 ≠ (TX5 b).2.1 := by decide +kernel
theorem tyX5_ok : ∀ k, k < 7 → parseFieldDescriptor (TX5 k).2.2.1 = some (tyX5 k) := by decide +kernel
abbrev cX5_init : ByteArray := prog_1_method_1_code
def yX5_init : MethodName := ⟨RX5, "<init>", "()V"⟩
abbrev cX5_set : ByteArray := prog_1_method_2_code
def yX5_set : MethodName := ⟨RX5, "set", "(II)I"⟩
abbrev cX5_write : ByteArray := prog_1_method_3_code
def yX5_write : MethodName := ⟨RX5, "write", "(IIIJ)I"⟩
abbrev cX5_wipeLast : ByteArray := prog_1_method_4_code
def yX5_wipeLast : MethodName := ⟨RX5, "wipeLast", "()I"⟩
abbrev cX5_fade : ByteArray := prog_1_method_5_code
def yX5_fade : MethodName := ⟨RX5, "fade", "(III)I"⟩
abbrev cX5_spoil : ByteArray := prog_1_method_6_code
def yX5_spoil : MethodName := ⟨RX5, "spoil", "(I)I"⟩
abbrev cX5_of : ByteArray := prog_1_method_7_code
def yX5_of : MethodName := ⟨RX5, "of", "(II)I"⟩
abbrev cX5_load : ByteArray := prog_1_method_8_code
def yX5_load : MethodName := ⟨RX5, "load", "(I)J"⟩
abbrev cX5_read : ByteArray := prog_1_method_9_code
def yX5_read : MethodName := ⟨RX5, "read", "(III)I"⟩
abbrev cX5_cell : ByteArray := prog_1_method_10_code
def yX5_cell : MethodName := ⟨RX5, "cell", "(II)I"⟩
abbrev cX5_count : ByteArray := prog_1_method_11_code
def yX5_count : MethodName := ⟨RX5, "count", "(I)I"⟩
abbrev cX5_reached : ByteArray := prog_1_method_12_code
def yX5_reached : MethodName := ⟨RX5, "reached", "()I"⟩
abbrev cX5_near : ByteArray := prog_1_method_13_code
def yX5_near : MethodName := ⟨RX5, "near", "(II)I"⟩
abbrev cX5_mostLeast : ByteArray := prog_1_method_14_code
def yX5_mostLeast : MethodName := ⟨RX5, "mostLeast", "(I)I"⟩
abbrev cX5_weak : ByteArray := prog_1_method_15_code
def yX5_weak : MethodName := ⟨RX5, "weak", "(II)I"⟩
abbrev cX5_widest : ByteArray := prog_1_method_16_code
def yX5_widest : MethodName := ⟨RX5, "widest", "(I)I"⟩
abbrev cX5_put : ByteArray := prog_1_method_17_code
def yX5_put : MethodName := ⟨RX5, "put", "(J)I"⟩
abbrev cX5_wipe : ByteArray := prog_1_method_18_code
def yX5_wipe : MethodName := ⟨RX5, "wipe", "()I"⟩
abbrev cX5_fault : ByteArray := prog_1_method_19_code
def yX5_fault : MethodName := ⟨RX5, "fault", "()I"⟩
abbrev cX5_carryOut : ByteArray := prog_1_method_20_code
def yX5_carryOut : MethodName := ⟨RX5, "carryOut", "()I"⟩
abbrev cX5_undo : ByteArray := prog_1_method_21_code
def yX5_undo : MethodName := ⟨RX5, "undo", "()I"⟩
abbrev cX5_save : ByteArray := prog_1_method_22_code
def yX5_save : MethodName := ⟨RX5, "save", "(I)I"⟩
abbrev cX5_restore : ByteArray := prog_1_method_23_code
def yX5_restore : MethodName := ⟨RX5, "restore", "(I)I"⟩
abbrev cX5_mostOf : ByteArray := prog_1_method_24_code
def yX5_mostOf : MethodName := ⟨RX5, "mostOf", "(I)I"⟩
abbrev cX5_holds : ByteArray := prog_1_method_25_code
def yX5_holds : MethodName := ⟨RX5, "holds", "(II)Z"⟩
abbrev cX5_stateOfTelling : ByteArray := prog_1_method_26_code
def yX5_stateOfTelling : MethodName := ⟨RX5, "stateOfTelling", "(II)I"⟩
abbrev cX5_wayOfLoading : ByteArray := prog_1_method_27_code
def yX5_wayOfLoading : MethodName := ⟨RX5, "wayOfLoading", "(I)I"⟩
abbrev cX5_loadedBlocks : ByteArray := prog_1_method_28_code
def yX5_loadedBlocks : MethodName := ⟨RX5, "loadedBlocks", "(Z)I"⟩
abbrev cX5_countBelow : ByteArray := prog_1_method_29_code
def yX5_countBelow : MethodName := ⟨RX5, "countBelow", "(I)V"⟩
abbrev cX5_carryOrderOut : ByteArray := prog_1_method_30_code
def yX5_carryOrderOut : MethodName := ⟨RX5, "carryOrderOut", "()I"⟩
abbrev cX5_carryFadingOut : ByteArray := prog_1_method_31_code
def yX5_carryFadingOut : MethodName := ⟨RX5, "carryFadingOut", "()I"⟩
abbrev cX5_carryBlockOut : ByteArray := prog_1_method_32_code
def yX5_carryBlockOut : MethodName := ⟨RX5, "carryBlockOut", "()I"⟩
def RX6 : String := "CassetteTonesModel"
def TX6 : u_T := fun k => match k with
  | 0 => ("CassetteTonesModel", "state", "[I", true)
  | 1 => ("CassetteTonesModel", "history", "[I", true)
  | 2 => ("CassetteTonesModel", "recorded", "I", false)
  | 3 => ("CassetteTonesModel", "slots", "[I", true)
  | 4 => ("CassetteTonesModel", "isSaved", "[I", true)
  | 5 => ("CassetteTonesModel", "pad", "[I", true)
  | 6 => ("CassetteTonesModel", "padLength", "I", false)
  | 7 => ("CassetteTonesModel", "found", "[I", true)
  | 8 => ("CassetteTonesModel", "at", "I", false)
  | 9 => ("CassetteTonesModel", "letter", "I", false)
  | 10 => ("CassetteTonesModel", "hasUnder", "Z", false)
  | 11 => ("CassetteTonesModel", "numbers", "[I", true)
  | _ => ("CassetteTonesModel", "numbersMany", "I", false)
def tyX6 : Nat → FieldType := fun k => match k with
  | 0 => .array .int
  | 1 => .array .int
  | 2 => .int
  | 3 => .array .int
  | 4 => .array .int
  | 5 => .array .int
  | 6 => .int
  | 7 => .array .int
  | 8 => .int
  | 9 => .int
  | 10 => .boolean
  | 11 => .array .int
  | _ => .int
abbrev wsX60 : List Cond := u_ws RX6 TX6 13
theorem nmX6 : ∀ a, a < 13 → ∀ b, b < 13 → a ≠ b → (TX6 a).2.1 ≠ (TX6 b).2.1 := by decide +kernel
theorem tyX6_ok : ∀ k, k < 13 → parseFieldDescriptor (TX6 k).2.2.1 = some (tyX6 k) := by decide +kernel
abbrev cX6_init : ByteArray := prog_8_method_1_code
def yX6_init : MethodName := ⟨RX6, "<init>", "()V"⟩
abbrev cX6_moves : ByteArray := prog_8_method_3_code
def yX6_moves : MethodName := ⟨RX6, "moves", "([II[II)V"⟩
abbrev cX6_within : ByteArray := prog_8_method_4_code
def yX6_within : MethodName := ⟨RX6, "within", "(III)Z"⟩
abbrev cX6_size : ByteArray := prog_8_method_5_code
def yX6_size : MethodName := ⟨RX6, "size", "(I)I"⟩
abbrev cX6_record : ByteArray := prog_8_method_6_code
def yX6_record : MethodName := ⟨RX6, "record", "()V"⟩
abbrev cX6_isBlock : ByteArray := prog_8_method_7_code
def yX6_isBlock : MethodName := ⟨RX6, "isBlock", "(I)Z"⟩
abbrev cX6_part : ByteArray := prog_8_method_8_code
def yX6_part : MethodName := ⟨RX6, "part", "(II)I"⟩
abbrev cX6_tellingSize : ByteArray := prog_8_method_9_code
def yX6_tellingSize : MethodName := ⟨RX6, "tellingSize", "(I)I"⟩
abbrev cX6_cellsOf : ByteArray := prog_8_method_10_code
def yX6_cellsOf : MethodName := ⟨RX6, "cellsOf", "(I)I"⟩
abbrev cX6_firstOf : ByteArray := prog_8_method_11_code
def yX6_firstOf : MethodName := ⟨RX6, "firstOf", "(I)I"⟩
abbrev cX6_allCells : ByteArray := prog_8_method_12_code
def yX6_allCells : MethodName := ⟨RX6, "allCells", "()I"⟩
abbrev cX6_isCell : ByteArray := prog_8_method_13_code
def yX6_isCell : MethodName := ⟨RX6, "isCell", "(I)Z"⟩
abbrev cX6_blockOf : ByteArray := prog_8_method_14_code
def yX6_blockOf : MethodName := ⟨RX6, "blockOf", "(I)I"⟩
abbrev cX6_volumeOf : ByteArray := prog_8_method_15_code
def yX6_volumeOf : MethodName := ⟨RX6, "volumeOf", "(I)I"⟩
abbrev cX6_badness : ByteArray := prog_8_method_16_code
def yX6_badness : MethodName := ⟨RX6, "badness", "(I)I"⟩
abbrev cX6_isOdd : ByteArray := prog_8_method_17_code
def yX6_isOdd : MethodName := ⟨RX6, "isOdd", "(I)I"⟩
abbrev cX6_sumOf : ByteArray := prog_8_method_18_code
def yX6_sumOf : MethodName := ⟨RX6, "sumOf", "(I)I"⟩
abbrev cX6_byteAt : ByteArray := prog_8_method_19_code
def yX6_byteAt : MethodName := ⟨RX6, "byteAt", "(II)I"⟩
abbrev cX6_bitAt : ByteArray := prog_8_method_20_code
def yX6_bitAt : MethodName := ⟨RX6, "bitAt", "(III)I"⟩
abbrev cX6_counterOf : ByteArray := prog_8_method_21_code
def yX6_counterOf : MethodName := ⟨RX6, "counterOf", "(I)I"⟩
abbrev cX6_isHeard : ByteArray := prog_8_method_22_code
def yX6_isHeard : MethodName := ⟨RX6, "isHeard", "(I)Z"⟩
abbrev cX6_isLeaderLost : ByteArray := prog_8_method_23_code
def yX6_isLeaderLost : MethodName := ⟨RX6, "isLeaderLost", "(II)Z"⟩
abbrev cX6_readAt : ByteArray := prog_8_method_24_code
def yX6_readAt : MethodName := ⟨RX6, "readAt", "(III)I"⟩
abbrev cX6_howIs : ByteArray := prog_8_method_25_code
def yX6_howIs : MethodName := ⟨RX6, "howIs", "(II)I"⟩
abbrev cX6_findBy : ByteArray := prog_8_method_26_code
def yX6_findBy : MethodName := ⟨RX6, "findBy", "(II)V"⟩
abbrev cX6_findByBoth : ByteArray := prog_8_method_27_code
def yX6_findByBoth : MethodName := ⟨RX6, "findByBoth", "(I)Z"⟩
abbrev cX6_loadedBy : ByteArray := prog_8_method_28_code
def yX6_loadedBy : MethodName := ⟨RX6, "loadedBy", "(I)I"⟩
abbrev cX6_isValue : ByteArray := prog_8_method_29_code
def yX6_isValue : MethodName := ⟨RX6, "isValue", "(II)Z"⟩
abbrev cX6_set : ByteArray := prog_8_method_30_code
def yX6_set : MethodName := ⟨RX6, "set", "(II)I"⟩
abbrev cX6_whyNotWritten : ByteArray := prog_8_method_31_code
def yX6_whyNotWritten : MethodName := ⟨RX6, "whyNotWritten", "(III)I"⟩
abbrev cX6_writes : ByteArray := prog_8_method_32_code
def yX6_writes : MethodName := ⟨RX6, "writes", "(III)I"⟩
abbrev cX6_write : ByteArray := prog_8_method_33_code
def yX6_write : MethodName := ⟨RX6, "write", "(IIIJ)I"⟩
abbrev cX6_wipeLast : ByteArray := prog_8_method_34_code
def yX6_wipeLast : MethodName := ⟨RX6, "wipeLast", "()I"⟩
abbrev cX6_whyNotFaded : ByteArray := prog_8_method_35_code
def yX6_whyNotFaded : MethodName := ⟨RX6, "whyNotFaded", "(III)I"⟩
abbrev cX6_fades : ByteArray := prog_8_method_36_code
def yX6_fades : MethodName := ⟨RX6, "fades", "(III)I"⟩
abbrev cX6_fade : ByteArray := prog_8_method_37_code
def yX6_fade : MethodName := ⟨RX6, "fade", "(III)I"⟩
abbrev cX6_turns : ByteArray := prog_8_method_38_code
def yX6_turns : MethodName := ⟨RX6, "turns", "(I)I"⟩
abbrev cX6_spoil : ByteArray := prog_8_method_39_code
def yX6_spoil : MethodName := ⟨RX6, "spoil", "(I)I"⟩
abbrev cX6_depthOf : ByteArray := prog_8_method_40_code
def yX6_depthOf : MethodName := ⟨RX6, "depthOf", "(I)I"⟩
abbrev cX6_of : ByteArray := prog_8_method_41_code
def yX6_of : MethodName := ⟨RX6, "of", "(II)I"⟩
abbrev cX6_load : ByteArray := prog_8_method_42_code
def yX6_load : MethodName := ⟨RX6, "load", "(I)J"⟩
abbrev cX6_read : ByteArray := prog_8_method_43_code
def yX6_read : MethodName := ⟨RX6, "read", "(III)I"⟩
abbrev cX6_whereIn : ByteArray := prog_8_method_44_code
def yX6_whereIn : MethodName := ⟨RX6, "whereIn", "(I)I"⟩
abbrev cX6_bitOf : ByteArray := prog_8_method_45_code
def yX6_bitOf : MethodName := ⟨RX6, "bitOf", "(I)I"⟩
abbrev cX6_cell : ByteArray := prog_8_method_46_code
def yX6_cell : MethodName := ⟨RX6, "cell", "(II)I"⟩
abbrev cX6_loadedSet : ByteArray := prog_8_method_47_code
def yX6_loadedSet : MethodName := ⟨RX6, "loadedSet", "(Z)I"⟩
abbrev cX6_silentMany : ByteArray := prog_8_method_48_code
def yX6_silentMany : MethodName := ⟨RX6, "silentMany", "()I"⟩
abbrev cX6_badMany : ByteArray := prog_8_method_49_code
def yX6_badMany : MethodName := ⟨RX6, "badMany", "()I"⟩
abbrev cX6_count : ByteArray := prog_8_method_50_code
def yX6_count : MethodName := ⟨RX6, "count", "(I)I"⟩
abbrev cX6_reachedSet : ByteArray := prog_8_method_51_code
def yX6_reachedSet : MethodName := ⟨RX6, "reachedSet", "()I"⟩
abbrev cX6_reached : ByteArray := prog_8_method_52_code
def yX6_reached : MethodName := ⟨RX6, "reached", "()I"⟩
abbrev cX6_farFrom : ByteArray := prog_8_method_53_code
def yX6_farFrom : MethodName := ⟨RX6, "farFrom", "(II)I"⟩
abbrev cX6_near : ByteArray := prog_8_method_54_code
def yX6_near : MethodName := ⟨RX6, "near", "(II)I"⟩
abbrev cX6_mostLeast : ByteArray := prog_8_method_55_code
def yX6_mostLeast : MethodName := ⟨RX6, "mostLeast", "(I)I"⟩
abbrev cX6_weak : ByteArray := prog_8_method_56_code
def yX6_weak : MethodName := ⟨RX6, "weak", "(II)I"⟩
abbrev cX6_isUnder : ByteArray := prog_8_method_57_code
def yX6_isUnder : MethodName := ⟨RX6, "isUnder", "(II)Z"⟩
abbrev cX6_widest : ByteArray := prog_8_method_58_code
def yX6_widest : MethodName := ⟨RX6, "widest", "(I)I"⟩
abbrev cX6_put : ByteArray := prog_8_method_59_code
def yX6_put : MethodName := ⟨RX6, "put", "(J)I"⟩
abbrev cX6_wipe : ByteArray := prog_8_method_60_code
def yX6_wipe : MethodName := ⟨RX6, "wipe", "()I"⟩
abbrev cX6_character : ByteArray := prog_8_method_61_code
def yX6_character : MethodName := ⟨RX6, "character", "(I)I"⟩
abbrev cX6_isNext : ByteArray := prog_8_method_62_code
def yX6_isNext : MethodName := ⟨RX6, "isNext", "(I)Z"⟩
abbrev cX6_isDigit : ByteArray := prog_8_method_63_code
def yX6_isDigit : MethodName := ⟨RX6, "isDigit", "()Z"⟩
abbrev cX6_takesNumber : ByteArray := prog_8_method_64_code
def yX6_takesNumber : MethodName := ⟨RX6, "takesNumber", "()Z"⟩
abbrev cX6_takesBytes : ByteArray := prog_8_method_65_code
def yX6_takesBytes : MethodName := ⟨RX6, "takesBytes", "()Z"⟩
abbrev cX6_takesBlock : ByteArray := prog_8_method_66_code
def yX6_takesBlock : MethodName := ⟨RX6, "takesBlock", "()Z"⟩
abbrev cX6_readsOrder : ByteArray := prog_8_method_67_code
def yX6_readsOrder : MethodName := ⟨RX6, "readsOrder", "()Z"⟩
abbrev cX6_findFault : ByteArray := prog_8_method_68_code
def yX6_findFault : MethodName := ⟨RX6, "findFault", "()I"⟩
abbrev cX6_fault : ByteArray := prog_8_method_69_code
def yX6_fault : MethodName := ⟨RX6, "fault", "()I"⟩
abbrev cX6_doesBlock : ByteArray := prog_8_method_70_code
def yX6_doesBlock : MethodName := ⟨RX6, "doesBlock", "()Z"⟩
abbrev cX6_doesFade : ByteArray := prog_8_method_71_code
def yX6_doesFade : MethodName := ⟨RX6, "doesFade", "()Z"⟩
abbrev cX6_doesOrder : ByteArray := prog_8_method_72_code
def yX6_doesOrder : MethodName := ⟨RX6, "doesOrder", "()Z"⟩
abbrev cX6_carryOut : ByteArray := prog_8_method_73_code
def yX6_carryOut : MethodName := ⟨RX6, "carryOut", "()I"⟩
abbrev cX6_undo : ByteArray := prog_8_method_74_code
def yX6_undo : MethodName := ⟨RX6, "undo", "()I"⟩
abbrev cX6_save : ByteArray := prog_8_method_75_code
def yX6_save : MethodName := ⟨RX6, "save", "(I)I"⟩
abbrev cX6_restore : ByteArray := prog_8_method_76_code
def yX6_restore : MethodName := ⟨RX6, "restore", "(I)I"⟩
def RJ6 : String := "java/lang/Integer"
def TJ6 : u_T := fun k => match k with
  | _ => ("", "", "", false)
def tyJ6 : Nat → FieldType := fun k => match k with
  | _ => .int
abbrev wsJ60 : List Cond := u_ws RJ6 TJ6 0
theorem nmJ6 : ∀ a, a < 0 → ∀ b, b < 0 → a ≠ b → (TJ6 a).2.1 ≠ (TJ6 b).2.1 := by decide +kernel
theorem tyJ6_ok : ∀ k, k < 0 → parseFieldDescriptor (TJ6 k).2.2.1 = some (tyJ6 k) := by decide +kernel
abbrev cJ6_bitCount_0f7a4 : ByteArray := prog_9_method_49_code
def yJ6_bitCount_0f7a4 : MethodName := ⟨RJ6, "bitCount", "(I)I"⟩
def RJ9 : String := "java/lang/Math"
def TJ9 : u_T := fun k => match k with
  | _ => ("", "", "", false)
def tyJ9 : Nat → FieldType := fun k => match k with
  | _ => .int
abbrev wsJ90 : List Cond := u_ws RJ9 TJ9 0
theorem nmJ9 : ∀ a, a < 0 → ∀ b, b < 0 → a ≠ b → (TJ9 a).2.1 ≠ (TJ9 b).2.1 := by decide +kernel
theorem tyJ9_ok : ∀ k, k < 0 → parseFieldDescriptor (TJ9 k).2.2.1 = some (tyJ9 k) := by decide +kernel
abbrev cJ9_abs_0f7a4 : ByteArray := prog_10_method_59_code
def yJ9_abs_0f7a4 : MethodName := ⟨RJ9, "abs", "(I)I"⟩
abbrev cJ9_max_7cf53 : ByteArray := prog_10_method_65_code
def yJ9_max_7cf53 : MethodName := ⟨RJ9, "max", "(II)I"⟩
abbrev cJ9_min_7cf53 : ByteArray := prog_10_method_69_code
def yJ9_min_7cf53 : MethodName := ⟨RJ9, "min", "(II)I"⟩
def RJ10 : String := "java/lang/System"
def TJ10 : u_T := fun k => match k with
  | _ => ("", "", "", false)
def tyJ10 : Nat → FieldType := fun k => match k with
  | _ => .int
abbrev wsJ100 : List Cond := u_ws RJ10 TJ10 0
theorem nmJ10 : ∀ a, a < 0 → ∀ b, b < 0 → a ≠ b → (TJ10 a).2.1 ≠ (TJ10 b).2.1 := by decide +kernel
theorem tyJ10_ok : ∀ k, k < 0 → parseFieldDescriptor (TJ10 k).2.2.1 = some (tyJ10 k) := by decide +kernel
def RL : String := "CassetteTonesLaw"
abbrev cL_law : ByteArray := code
def yL_law : MethodName := ⟨RL, "law", "([I)Z"⟩
def wsX4_init : List Cond := .code yX4_init cX4_init 1 none :: ([.methodLink RX4 3 objectInit, .instanceMethod objectInit, .code objectInit ⟨#[0xb1]⟩ 1 none, .arrayClass .int, .fieldLink RX4 9 "CassetteTones$Telling" "values" "[I", .fieldLink RX4 15 "CassetteTones$Telling" "wholeUpTo" "[I"] ++ wsX40)
def wsX0_init : List Cond := .code yX0_init cX0_init 1 none :: ([.methodLink RX0 3 objectInit, .instanceMethod objectInit, .code objectInit ⟨#[0xb1]⟩ 1 none, .classLink RX0 9 RX4, .instantiable RX4 4, .initialized RX4, .fieldLink RX0 12 "CassetteTones$BlockReader" "first" "LCassetteTones$Telling;", .fieldLink RX0 18 "CassetteTones$BlockReader" "second" "LCassetteTones$Telling;", .fieldLink RX0 21 "CassetteTones$BlockReader" "tellings" "[LCassetteTones$Telling;", .instanceMethod yX4_init, .code yX4_init cX4_init 1 none, .methodLink RX4 3 objectInit, .arrayClass .int, .fieldLink RX4 9 "CassetteTones$Telling" "values" "[I", .fieldLink RX4 15 "CassetteTones$Telling" "wholeUpTo" "[I"] ++ wsX40 ++ wsX00)
def wsX4_readLeader : List Cond := .code yX4_readLeader cX4_readLeader 7 none :: ([.methodLink RX4 35 Lib.Math.min.name, .static Lib.Math.min.name, .initialized "java/lang/Math", .code Lib.Math.min.name Lib.Math.min.code 2 (some .int), .methodLink RX4 41 Lib.Math.max.name, .static Lib.Math.max.name, .code Lib.Math.max.name Lib.Math.max.code 2 (some .int), .fieldLink RX4 44 "CassetteTones$Telling" "leaderHeard" "I"] ++ wsX30 ++ wsX40)
def wsX4_readByte : List Cond := .code yX4_readByte cX4_readByte 9 none :: ([.methodLink RX4 35 Lib.Math.min.name, .static Lib.Math.min.name, .initialized "java/lang/Math", .code Lib.Math.min.name Lib.Math.min.code 2 (some .int), .fieldLink RX4 9 "CassetteTones$Telling" "values" "[I", .fieldLink RX4 15 "CassetteTones$Telling" "wholeUpTo" "[I"] ++ wsX30 ++ wsX40)
def wsX4_readCells : List Cond := .code yX4_readCells cX4_readCells 5 none :: ([.fieldLink RX4 18 "CassetteTones$Telling" "many" "I", .methodLink RX4 22 yX4_readLeader, .instanceMethod yX4_readLeader, .selects RX4 yX4_readLeader yX4_readLeader, .initialized RX4, .code yX4_readLeader cX4_readLeader 7 none, .methodLink RX4 35 Lib.Math.min.name, .static Lib.Math.min.name, .initialized "java/lang/Math", .code Lib.Math.min.name Lib.Math.min.code 2 (some .int), .methodLink RX4 41 Lib.Math.max.name, .static Lib.Math.max.name, .code Lib.Math.max.name Lib.Math.max.code 2 (some .int), .fieldLink RX4 44 "CassetteTones$Telling" "leaderHeard" "I", .methodLink RX4 26 yX4_readByte, .instanceMethod yX4_readByte, .selects RX4 yX4_readByte yX4_readByte, .code yX4_readByte cX4_readByte 9 none, .fieldLink RX4 9 "CassetteTones$Telling" "values" "[I", .fieldLink RX4 15 "CassetteTones$Telling" "wholeUpTo" "[I"] ++ wsX40 ++ wsX30)
def wsX3_tellingCells : List Cond := .code yX3_tellingCells cX3_tellingCells 2 (some .int) :: ([.fieldLink RX3 21 "CassetteTones$Tape" "manys" "[I"] ++ wsX30)
def wsX0_readBlock_r1 : List Cond := [Cond.fieldLink RX0 12 "CassetteTones$BlockReader" "first" "LCassetteTones$Telling;", Cond.fieldLink RX0 18 "CassetteTones$BlockReader" "second" "LCassetteTones$Telling;", Cond.instanceMethod yX4_readCells, Cond.initialized RX4, Cond.selects RX4 yX4_readCells yX4_readCells, Cond.code yX4_readCells cX4_readCells 5 none, Cond.fieldLink RX4 18 "CassetteTones$Telling" "many" "I", Cond.methodLink RX4 22 yX4_readLeader, Cond.instanceMethod yX4_readLeader, Cond.selects RX4 yX4_readLeader yX4_readLeader, Cond.code yX4_readLeader cX4_readLeader 7 none, Cond.methodLink RX4 35 Lib.Math.min.name, Cond.static Lib.Math.min.name, Cond.initialized "java/lang/Math", Cond.code Lib.Math.min.name Lib.Math.min.code 2 (some .int), Cond.methodLink RX4 41 Lib.Math.max.name, Cond.static Lib.Math.max.name, Cond.code Lib.Math.max.name Lib.Math.max.code 2 (some .int), Cond.fieldLink RX4 44 "CassetteTones$Telling" "leaderHeard" "I", Cond.methodLink RX4 26 yX4_readByte, Cond.instanceMethod yX4_readByte, Cond.selects RX4 yX4_readByte yX4_readByte, Cond.code yX4_readByte cX4_readByte 9 none, Cond.fieldLink RX4 9 "CassetteTones$Telling" "values" "[I"]
def wsX0_readBlock_r2 : List Cond := [Cond.fieldLink RX4 15 "CassetteTones$Telling" "wholeUpTo" "[I", Cond.instanceMethod yX3_tellingCells, Cond.initialized RX3, Cond.selects RX3 yX3_tellingCells yX3_tellingCells, Cond.code yX3_tellingCells cX3_tellingCells 2 (some .int), Cond.fieldLink RX3 21 "CassetteTones$Tape" "manys" "[I"]
def wsX0_readBlock : List Cond := .code yX0_readBlock cX0_readBlock 4 none :: ((wsX0_readBlock_r1 ++ wsX0_readBlock_r2) ++ wsX30 ++ wsX00 ++ wsX40)
def wsX4_isLost : List Cond := .code yX4_isLost cX4_isLost 2 (some .boolean) :: ([.fieldLink RX4 44 "CassetteTones$Telling" "leaderHeard" "I"] ++ wsX40)
def wsX4_isByteWhole : List Cond := .code yX4_isByteWhole cX4_isByteWhole 3 (some .boolean) :: ([.fieldLink RX4 15 "CassetteTones$Telling" "wholeUpTo" "[I"] ++ wsX40)
def wsX4_tellsSum : List Cond := .code yX4_tellsSum cX4_tellsSum 3 (some .boolean) :: ([.fieldLink RX4 18 "CassetteTones$Telling" "many" "I", .fieldLink RX4 9 "CassetteTones$Telling" "values" "[I", .methodLink RX4 53 yX4_isByteWhole, .instanceMethod yX4_isByteWhole, .selects RX4 yX4_isByteWhole yX4_isByteWhole, .initialized RX4, .code yX4_isByteWhole cX4_isByteWhole 3 (some .boolean), .fieldLink RX4 15 "CassetteTones$Telling" "wholeUpTo" "[I"] ++ wsX40)
def wsX4_stateBy : List Cond := .code yX4_stateBy cX4_stateBy 4 (some .int) :: ([.fieldLink RX4 18 "CassetteTones$Telling" "many" "I", .fieldLink RX4 9 "CassetteTones$Telling" "values" "[I", .methodLink RX4 57 yX4_isLost, .instanceMethod yX4_isLost, .selects RX4 yX4_isLost yX4_isLost, .initialized RX4, .code yX4_isLost cX4_isLost 2 (some .boolean), .fieldLink RX4 44 "CassetteTones$Telling" "leaderHeard" "I", .methodLink RX4 53 yX4_isByteWhole, .instanceMethod yX4_isByteWhole, .selects RX4 yX4_isByteWhole yX4_isByteWhole, .code yX4_isByteWhole cX4_isByteWhole 3 (some .boolean), .fieldLink RX4 15 "CassetteTones$Telling" "wholeUpTo" "[I", .methodLink RX4 61 yX4_tellsSum, .instanceMethod yX4_tellsSum, .selects RX4 yX4_tellsSum yX4_tellsSum, .code yX4_tellsSum cX4_tellsSum 3 (some .boolean)] ++ wsX40)
def wsX0_byteTogether : List Cond := .code yX0_byteTogether cX0_byteTogether 3 (some .int) :: ([.fieldLink RX0 12 "CassetteTones$BlockReader" "first" "LCassetteTones$Telling;", .fieldLink RX0 18 "CassetteTones$BlockReader" "second" "LCassetteTones$Telling;", .instanceMethod yX4_isByteWhole, .initialized RX4, .selects RX4 yX4_isByteWhole yX4_isByteWhole, .code yX4_isByteWhole cX4_isByteWhole 3 (some .boolean), .fieldLink RX4 15 "CassetteTones$Telling" "wholeUpTo" "[I"] ++ wsX00 ++ wsX40)
def wsX0_isWholeTogether : List Cond := .code yX0_isWholeTogether cX0_isWholeTogether 5 (some .boolean) :: ([.fieldLink RX0 12 "CassetteTones$BlockReader" "first" "LCassetteTones$Telling;", .fieldLink RX0 18 "CassetteTones$BlockReader" "second" "LCassetteTones$Telling;", .instanceMethod yX4_isLost, .initialized RX4, .selects RX4 yX4_isLost yX4_isLost, .code yX4_isLost cX4_isLost 2 (some .boolean), .fieldLink RX4 44 "CassetteTones$Telling" "leaderHeard" "I", .methodLink RX0 56 yX0_byteTogether, .instanceMethod yX0_byteTogether, .selects RX0 yX0_byteTogether yX0_byteTogether, .initialized RX0, .code yX0_byteTogether cX0_byteTogether 3 (some .int), .instanceMethod yX4_isByteWhole, .selects RX4 yX4_isByteWhole yX4_isByteWhole, .code yX4_isByteWhole cX4_isByteWhole 3 (some .boolean), .fieldLink RX4 15 "CassetteTones$Telling" "wholeUpTo" "[I", .instanceMethod yX4_tellsSum, .selects RX4 yX4_tellsSum yX4_tellsSum, .code yX4_tellsSum cX4_tellsSum 3 (some .boolean), .fieldLink RX4 18 "CassetteTones$Telling" "many" "I", .fieldLink RX4 9 "CassetteTones$Telling" "values" "[I", .methodLink RX4 53 yX4_isByteWhole] ++ wsX00 ++ wsX40)
def wsX0_wayBy_r1 : List Cond := [Cond.fieldLink RX0 12 "CassetteTones$BlockReader" "first" "LCassetteTones$Telling;", Cond.fieldLink RX0 18 "CassetteTones$BlockReader" "second" "LCassetteTones$Telling;", Cond.instanceMethod yX4_stateBy, Cond.initialized RX4, Cond.selects RX4 yX4_stateBy yX4_stateBy, Cond.code yX4_stateBy cX4_stateBy 4 (some .int), Cond.fieldLink RX4 18 "CassetteTones$Telling" "many" "I", Cond.fieldLink RX4 9 "CassetteTones$Telling" "values" "[I", Cond.methodLink RX4 57 yX4_isLost, Cond.instanceMethod yX4_isLost, Cond.selects RX4 yX4_isLost yX4_isLost, Cond.code yX4_isLost cX4_isLost 2 (some .boolean), Cond.fieldLink RX4 44 "CassetteTones$Telling" "leaderHeard" "I", Cond.methodLink RX4 53 yX4_isByteWhole, Cond.instanceMethod yX4_isByteWhole, Cond.selects RX4 yX4_isByteWhole yX4_isByteWhole, Cond.code yX4_isByteWhole cX4_isByteWhole 3 (some .boolean), Cond.fieldLink RX4 15 "CassetteTones$Telling" "wholeUpTo" "[I", Cond.methodLink RX4 61 yX4_tellsSum, Cond.instanceMethod yX4_tellsSum, Cond.selects RX4 yX4_tellsSum yX4_tellsSum, Cond.code yX4_tellsSum cX4_tellsSum 3 (some .boolean), Cond.methodLink RX0 45 yX0_isWholeTogether, Cond.instanceMethod yX0_isWholeTogether]
def wsX0_wayBy_r2 : List Cond := [Cond.selects RX0 yX0_isWholeTogether yX0_isWholeTogether, Cond.initialized RX0, Cond.code yX0_isWholeTogether cX0_isWholeTogether 5 (some .boolean), Cond.methodLink RX0 56 yX0_byteTogether, Cond.instanceMethod yX0_byteTogether, Cond.selects RX0 yX0_byteTogether yX0_byteTogether, Cond.code yX0_byteTogether cX0_byteTogether 3 (some .int)]
def wsX0_wayBy : List Cond := .code yX0_wayBy cX0_wayBy 2 (some .int) :: ((wsX0_wayBy_r1 ++ wsX0_wayBy_r2) ++ wsX00 ++ wsX40)
def wsX0_byteBy : List Cond := .code yX0_byteBy cX0_byteBy 4 (some .int) :: ([.fieldLink RX0 18 "CassetteTones$BlockReader" "second" "LCassetteTones$Telling;", .fieldLink RX0 12 "CassetteTones$BlockReader" "first" "LCassetteTones$Telling;", .methodLink RX0 56 yX0_byteTogether, .instanceMethod yX0_byteTogether, .selects RX0 yX0_byteTogether yX0_byteTogether, .initialized RX0, .code yX0_byteTogether cX0_byteTogether 3 (some .int), .instanceMethod yX4_isByteWhole, .initialized RX4, .selects RX4 yX4_isByteWhole yX4_isByteWhole, .code yX4_isByteWhole cX4_isByteWhole 3 (some .boolean), .fieldLink RX4 15 "CassetteTones$Telling" "wholeUpTo" "[I"] ++ wsX00 ++ wsX40)
def wsX0_bytesBy : List Cond := .code yX0_bytesBy cX0_bytesBy 6 (some .long) :: ([.fieldLink RX0 12 "CassetteTones$BlockReader" "first" "LCassetteTones$Telling;", .methodLink RX0 70 yX0_byteBy, .instanceMethod yX0_byteBy, .selects RX0 yX0_byteBy yX0_byteBy, .initialized RX0, .code yX0_byteBy cX0_byteBy 4 (some .int), .fieldLink RX0 18 "CassetteTones$BlockReader" "second" "LCassetteTones$Telling;", .methodLink RX0 56 yX0_byteTogether, .instanceMethod yX0_byteTogether, .selects RX0 yX0_byteTogether yX0_byteTogether, .code yX0_byteTogether cX0_byteTogether 3 (some .int), .instanceMethod yX4_isByteWhole, .initialized RX4, .selects RX4 yX4_isByteWhole yX4_isByteWhole, .code yX4_isByteWhole cX4_isByteWhole 3 (some .boolean), .fieldLink RX4 15 "CassetteTones$Telling" "wholeUpTo" "[I"] ++ wsX00 ++ wsX40)
def wsX3_init : List Cond := .code yX3_init cX3_init 1 none :: ([.methodLink RX3 3 objectInit, .instanceMethod objectInit, .code objectInit ⟨#[0xb1]⟩ 1 none, .arrayClass .int, .fieldLink RX3 9 "CassetteTones$Tape" "settings" "[I", .fieldLink RX3 15 "CassetteTones$Tape" "names" "[I", .fieldLink RX3 18 "CassetteTones$Tape" "unders" "[I", .fieldLink RX3 21 "CassetteTones$Tape" "manys" "[I", .fieldLink RX3 24 "CassetteTones$Tape" "firsts" "[I", .fieldLink RX3 27 "CassetteTones$Tape" "volumes" "[I", .fieldLink RX3 30 "CassetteTones$Tape" "bad" "[I", .fieldLink RX3 33 "CassetteTones$Tape" "written" "[I"] ++ wsX30)
def wsX1_init : List Cond := .code yX1_init cX1_init 2 none :: ([.methodLink RX1 3 objectInit, .instanceMethod objectInit, .code objectInit ⟨#[0xb1]⟩ 1 none, .classLink RX1 9 RX3, .fieldLink RX1 11 "CassetteTones$History" "states" "[LCassetteTones$Tape;", .instantiable RX3 9, .initialized RX3, .instanceMethod yX3_init, .code yX3_init cX3_init 1 none, .methodLink RX3 3 objectInit, .arrayClass .int, .fieldLink RX3 9 "CassetteTones$Tape" "settings" "[I", .fieldLink RX3 15 "CassetteTones$Tape" "names" "[I", .fieldLink RX3 18 "CassetteTones$Tape" "unders" "[I", .fieldLink RX3 21 "CassetteTones$Tape" "manys" "[I", .fieldLink RX3 24 "CassetteTones$Tape" "firsts" "[I", .fieldLink RX3 27 "CassetteTones$Tape" "volumes" "[I", .fieldLink RX3 30 "CassetteTones$Tape" "bad" "[I", .fieldLink RX3 33 "CassetteTones$Tape" "written" "[I"] ++ wsX10 ++ wsX30)
def wsX3_cells : List Cond := .code yX3_cells cX3_cells 1 (some .int) :: ([.fieldLink RX3 24 "CassetteTones$Tape" "firsts" "[I", .fieldLink RX3 36 "CassetteTones$Tape" "blocks" "I"] ++ wsX30)
def wsX3_copyFrom : List Cond := .code yX3_copyFrom cX3_copyFrom 3 none :: ([.fieldLink RX3 36 "CassetteTones$Tape" "blocks" "I", .fieldLink RX3 9 "CassetteTones$Tape" "settings" "[I", .methodLink RX3 40 arraycopyName, .native arraycopyName, .static arraycopyName, .initialized "java/lang/System", .fieldLink RX3 15 "CassetteTones$Tape" "names" "[I", .fieldLink RX3 18 "CassetteTones$Tape" "unders" "[I", .fieldLink RX3 21 "CassetteTones$Tape" "manys" "[I", .fieldLink RX3 24 "CassetteTones$Tape" "firsts" "[I", .fieldLink RX3 27 "CassetteTones$Tape" "volumes" "[I", .fieldLink RX3 30 "CassetteTones$Tape" "bad" "[I", .fieldLink RX3 33 "CassetteTones$Tape" "written" "[I", .methodLink RX3 46 yX3_cells, .instanceMethod yX3_cells, .selects RX3 yX3_cells yX3_cells, .initialized RX3, .code yX3_cells cX3_cells 1 (some .int)] ++ wsX30)
def wsX1_record : List Cond := .code yX1_record cX1_record 2 none :: ([.fieldLink RX1 11 "CassetteTones$History" "states" "[LCassetteTones$Tape;", .fieldLink RX1 18 "CassetteTones$History" "oldest" "I", .fieldLink RX1 22 "CassetteTones$History" "size" "I", .instanceMethod yX3_copyFrom, .initialized RX3, .selects RX3 yX3_copyFrom yX3_copyFrom, .code yX3_copyFrom cX3_copyFrom 3 none, .fieldLink RX3 36 "CassetteTones$Tape" "blocks" "I", .fieldLink RX3 9 "CassetteTones$Tape" "settings" "[I", .methodLink RX3 40 arraycopyName, .native arraycopyName, .static arraycopyName, .initialized "java/lang/System", .fieldLink RX3 15 "CassetteTones$Tape" "names" "[I", .fieldLink RX3 18 "CassetteTones$Tape" "unders" "[I", .fieldLink RX3 21 "CassetteTones$Tape" "manys" "[I", .fieldLink RX3 24 "CassetteTones$Tape" "firsts" "[I", .fieldLink RX3 27 "CassetteTones$Tape" "volumes" "[I", .fieldLink RX3 30 "CassetteTones$Tape" "bad" "[I", .fieldLink RX3 33 "CassetteTones$Tape" "written" "[I", .methodLink RX3 46 yX3_cells, .instanceMethod yX3_cells, .selects RX3 yX3_cells yX3_cells, .code yX3_cells cX3_cells 1 (some .int)] ++ wsX10 ++ wsX30)
def wsX1_takeBack : List Cond := .code yX1_takeBack cX1_takeBack 2 none :: ([.fieldLink RX1 22 "CassetteTones$History" "size" "I", .fieldLink RX1 11 "CassetteTones$History" "states" "[LCassetteTones$Tape;", .fieldLink RX1 18 "CassetteTones$History" "oldest" "I", .instanceMethod yX3_copyFrom, .initialized RX3, .selects RX3 yX3_copyFrom yX3_copyFrom, .code yX3_copyFrom cX3_copyFrom 3 none, .fieldLink RX3 36 "CassetteTones$Tape" "blocks" "I", .fieldLink RX3 9 "CassetteTones$Tape" "settings" "[I", .methodLink RX3 40 arraycopyName, .native arraycopyName, .static arraycopyName, .initialized "java/lang/System", .fieldLink RX3 15 "CassetteTones$Tape" "names" "[I", .fieldLink RX3 18 "CassetteTones$Tape" "unders" "[I", .fieldLink RX3 21 "CassetteTones$Tape" "manys" "[I", .fieldLink RX3 24 "CassetteTones$Tape" "firsts" "[I", .fieldLink RX3 27 "CassetteTones$Tape" "volumes" "[I", .fieldLink RX3 30 "CassetteTones$Tape" "bad" "[I", .fieldLink RX3 33 "CassetteTones$Tape" "written" "[I", .methodLink RX3 46 yX3_cells, .instanceMethod yX3_cells, .selects RX3 yX3_cells yX3_cells, .code yX3_cells cX3_cells 1 (some .int)] ++ wsX10 ++ wsX30)
def wsX2_init : List Cond := .code yX2_init cX2_init 1 none :: ([.methodLink RX2 3 objectInit, .instanceMethod objectInit, .code objectInit ⟨#[0xb1]⟩ 1 none, .arrayClass .char, .fieldLink RX2 9 "CassetteTones$Pad" "characters" "[C"] ++ wsX20)
def wsX2_charactersIn : List Cond := .code yX2_charactersIn cX2_charactersIn 7 (some .int) :: ([])
def wsX2_append : List Cond := .code yX2_append cX2_append 6 none :: ([.fieldLink RX2 15 "CassetteTones$Pad" "length" "I", .fieldLink RX2 9 "CassetteTones$Pad" "characters" "[C"] ++ wsX20)
def wsX2_nextCharacter : List Cond := .code yX2_nextCharacter cX2_nextCharacter 1 (some .char) :: ([.fieldLink RX2 19 "CassetteTones$Pad" "at" "I", .fieldLink RX2 15 "CassetteTones$Pad" "length" "I", .fieldLink RX2 9 "CassetteTones$Pad" "characters" "[C"] ++ wsX20)
def wsX2_nextDigit : List Cond := .code yX2_nextDigit cX2_nextDigit 2 (some .int) :: ([.methodLink RX2 30 yX2_nextCharacter, .instanceMethod yX2_nextCharacter, .selects RX2 yX2_nextCharacter yX2_nextCharacter, .initialized RX2, .code yX2_nextCharacter cX2_nextCharacter 1 (some .char), .fieldLink RX2 19 "CassetteTones$Pad" "at" "I", .fieldLink RX2 15 "CassetteTones$Pad" "length" "I", .fieldLink RX2 9 "CassetteTones$Pad" "characters" "[C"] ++ wsX20)
def wsX2_takeNumber : List Cond := .code yX2_takeNumber cX2_takeNumber 4 (some .int) :: ([.fieldLink RX2 19 "CassetteTones$Pad" "at" "I", .methodLink RX2 78 yX2_nextDigit, .instanceMethod yX2_nextDigit, .selects RX2 yX2_nextDigit yX2_nextDigit, .initialized RX2, .code yX2_nextDigit cX2_nextDigit 2 (some .int), .methodLink RX2 30 yX2_nextCharacter, .instanceMethod yX2_nextCharacter, .selects RX2 yX2_nextCharacter yX2_nextCharacter, .code yX2_nextCharacter cX2_nextCharacter 1 (some .char), .fieldLink RX2 15 "CassetteTones$Pad" "length" "I", .fieldLink RX2 9 "CassetteTones$Pad" "characters" "[C"] ++ wsX20)
def wsX2_takeSign : List Cond := .code yX2_takeSign cX2_takeSign 2 (some .boolean) :: ([.fieldLink RX2 19 "CassetteTones$Pad" "at" "I", .methodLink RX2 30 yX2_nextCharacter, .instanceMethod yX2_nextCharacter, .selects RX2 yX2_nextCharacter yX2_nextCharacter, .initialized RX2, .code yX2_nextCharacter cX2_nextCharacter 1 (some .char), .fieldLink RX2 15 "CassetteTones$Pad" "length" "I", .fieldLink RX2 9 "CassetteTones$Pad" "characters" "[C"] ++ wsX20)
def wsX2_takeUnder : List Cond := .code yX2_takeUnder cX2_takeUnder 1 (some .boolean) :: ([.fieldLink RX2 54 "CassetteTones$Pad" "under" "I", .methodLink RX2 26 yX2_takeSign, .instanceMethod yX2_takeSign, .selects RX2 yX2_takeSign yX2_takeSign, .initialized RX2, .code yX2_takeSign cX2_takeSign 2 (some .boolean), .fieldLink RX2 19 "CassetteTones$Pad" "at" "I", .methodLink RX2 30 yX2_nextCharacter, .instanceMethod yX2_nextCharacter, .selects RX2 yX2_nextCharacter yX2_nextCharacter, .code yX2_nextCharacter cX2_nextCharacter 1 (some .char), .fieldLink RX2 15 "CassetteTones$Pad" "length" "I", .fieldLink RX2 9 "CassetteTones$Pad" "characters" "[C", .methodLink RX2 38 yX2_takeNumber, .instanceMethod yX2_takeNumber, .selects RX2 yX2_takeNumber yX2_takeNumber, .code yX2_takeNumber cX2_takeNumber 4 (some .int), .methodLink RX2 78 yX2_nextDigit, .instanceMethod yX2_nextDigit, .selects RX2 yX2_nextDigit yX2_nextDigit, .code yX2_nextDigit cX2_nextDigit 2 (some .int)] ++ wsX20)
def wsX2_addByte : List Cond := .code yX2_addByte cX2_addByte 2 none :: ([.fieldLink RX2 64 "CassetteTones$Pad" "byteTooGreat" "Z", .fieldLink RX2 57 "CassetteTones$Pad" "many" "I", .fieldLink RX2 60 "CassetteTones$Pad" "bytes" "J"] ++ wsX20)
def wsX2_takeBytes_r1 : List Cond := [Cond.fieldLink RX2 57 "CassetteTones$Pad" "many" "I", Cond.fieldLink RX2 60 "CassetteTones$Pad" "bytes" "J", Cond.fieldLink RX2 64 "CassetteTones$Pad" "byteTooGreat" "Z", Cond.methodLink RX2 38 yX2_takeNumber, Cond.instanceMethod yX2_takeNumber, Cond.selects RX2 yX2_takeNumber yX2_takeNumber, Cond.initialized RX2, Cond.code yX2_takeNumber cX2_takeNumber 4 (some .int), Cond.fieldLink RX2 19 "CassetteTones$Pad" "at" "I", Cond.methodLink RX2 78 yX2_nextDigit, Cond.instanceMethod yX2_nextDigit, Cond.selects RX2 yX2_nextDigit yX2_nextDigit, Cond.code yX2_nextDigit cX2_nextDigit 2 (some .int), Cond.methodLink RX2 30 yX2_nextCharacter, Cond.instanceMethod yX2_nextCharacter, Cond.selects RX2 yX2_nextCharacter yX2_nextCharacter, Cond.code yX2_nextCharacter cX2_nextCharacter 1 (some .char), Cond.fieldLink RX2 15 "CassetteTones$Pad" "length" "I", Cond.fieldLink RX2 9 "CassetteTones$Pad" "characters" "[C", Cond.methodLink RX2 68 yX2_addByte, Cond.instanceMethod yX2_addByte, Cond.selects RX2 yX2_addByte yX2_addByte, Cond.code yX2_addByte cX2_addByte 2 none, Cond.methodLink RX2 26 yX2_takeSign]
def wsX2_takeBytes_r2 : List Cond := [Cond.instanceMethod yX2_takeSign, Cond.selects RX2 yX2_takeSign yX2_takeSign, Cond.code yX2_takeSign cX2_takeSign 2 (some .boolean)]
def wsX2_takeBytes : List Cond := .code yX2_takeBytes cX2_takeBytes 3 (some .boolean) :: ((wsX2_takeBytes_r1 ++ wsX2_takeBytes_r2) ++ wsX20)
def wsX2_takeFading : List Cond := .code yX2_takeFading cX2_takeFading 1 (some .boolean) :: ([.fieldLink RX2 72 "CassetteTones$Pad" "to" "I", .fieldLink RX2 75 "CassetteTones$Pad" "volume" "I", .methodLink RX2 26 yX2_takeSign, .instanceMethod yX2_takeSign, .selects RX2 yX2_takeSign yX2_takeSign, .initialized RX2, .code yX2_takeSign cX2_takeSign 2 (some .boolean), .fieldLink RX2 19 "CassetteTones$Pad" "at" "I", .methodLink RX2 30 yX2_nextCharacter, .instanceMethod yX2_nextCharacter, .selects RX2 yX2_nextCharacter yX2_nextCharacter, .code yX2_nextCharacter cX2_nextCharacter 1 (some .char), .fieldLink RX2 15 "CassetteTones$Pad" "length" "I", .fieldLink RX2 9 "CassetteTones$Pad" "characters" "[C", .methodLink RX2 38 yX2_takeNumber, .instanceMethod yX2_takeNumber, .selects RX2 yX2_takeNumber yX2_takeNumber, .code yX2_takeNumber cX2_takeNumber 4 (some .int), .methodLink RX2 78 yX2_nextDigit, .instanceMethod yX2_nextDigit, .selects RX2 yX2_nextDigit yX2_nextDigit, .code yX2_nextDigit cX2_nextDigit 2 (some .int)] ++ wsX20)
def wsX2_takeOrder_r1 : List Cond := [Cond.fieldLink RX2 34 "CassetteTones$Pad" "kind" "C", Cond.fieldLink RX2 19 "CassetteTones$Pad" "at" "I", Cond.fieldLink RX2 42 "CassetteTones$Pad" "number" "I", Cond.methodLink RX2 30 yX2_nextCharacter, Cond.instanceMethod yX2_nextCharacter, Cond.selects RX2 yX2_nextCharacter yX2_nextCharacter, Cond.initialized RX2, Cond.code yX2_nextCharacter cX2_nextCharacter 1 (some .char), Cond.fieldLink RX2 15 "CassetteTones$Pad" "length" "I", Cond.fieldLink RX2 9 "CassetteTones$Pad" "characters" "[C", Cond.methodLink RX2 38 yX2_takeNumber, Cond.instanceMethod yX2_takeNumber, Cond.selects RX2 yX2_takeNumber yX2_takeNumber, Cond.code yX2_takeNumber cX2_takeNumber 4 (some .int), Cond.methodLink RX2 78 yX2_nextDigit, Cond.instanceMethod yX2_nextDigit, Cond.selects RX2 yX2_nextDigit yX2_nextDigit, Cond.code yX2_nextDigit cX2_nextDigit 2 (some .int), Cond.methodLink RX2 45 yX2_takeUnder, Cond.instanceMethod yX2_takeUnder, Cond.selects RX2 yX2_takeUnder yX2_takeUnder, Cond.code yX2_takeUnder cX2_takeUnder 1 (some .boolean), Cond.fieldLink RX2 54 "CassetteTones$Pad" "under" "I", Cond.methodLink RX2 26 yX2_takeSign]
def wsX2_takeOrder_r2 : List Cond := [Cond.instanceMethod yX2_takeSign, Cond.selects RX2 yX2_takeSign yX2_takeSign, Cond.code yX2_takeSign cX2_takeSign 2 (some .boolean), Cond.methodLink RX2 48 yX2_takeBytes, Cond.instanceMethod yX2_takeBytes, Cond.selects RX2 yX2_takeBytes yX2_takeBytes, Cond.code yX2_takeBytes cX2_takeBytes 3 (some .boolean), Cond.fieldLink RX2 57 "CassetteTones$Pad" "many" "I", Cond.fieldLink RX2 60 "CassetteTones$Pad" "bytes" "J", Cond.fieldLink RX2 64 "CassetteTones$Pad" "byteTooGreat" "Z", Cond.methodLink RX2 68 yX2_addByte, Cond.instanceMethod yX2_addByte, Cond.selects RX2 yX2_addByte yX2_addByte, Cond.code yX2_addByte cX2_addByte 2 none, Cond.methodLink RX2 51 yX2_takeFading, Cond.instanceMethod yX2_takeFading, Cond.selects RX2 yX2_takeFading yX2_takeFading, Cond.code yX2_takeFading cX2_takeFading 1 (some .boolean), Cond.fieldLink RX2 72 "CassetteTones$Pad" "to" "I", Cond.fieldLink RX2 75 "CassetteTones$Pad" "volume" "I"]
def wsX2_takeOrder : List Cond := .code yX2_takeOrder cX2_takeOrder 1 (some .boolean) :: ((wsX2_takeOrder_r1 ++ wsX2_takeOrder_r2) ++ wsX20)
def wsX2_findFault_r1 : List Cond := [Cond.fieldLink RX2 19 "CassetteTones$Pad" "at" "I", Cond.fieldLink RX2 15 "CassetteTones$Pad" "length" "I", Cond.methodLink RX2 22 yX2_takeOrder, Cond.instanceMethod yX2_takeOrder, Cond.selects RX2 yX2_takeOrder yX2_takeOrder, Cond.initialized RX2, Cond.code yX2_takeOrder cX2_takeOrder 1 (some .boolean), Cond.fieldLink RX2 34 "CassetteTones$Pad" "kind" "C", Cond.fieldLink RX2 42 "CassetteTones$Pad" "number" "I", Cond.methodLink RX2 30 yX2_nextCharacter, Cond.instanceMethod yX2_nextCharacter, Cond.selects RX2 yX2_nextCharacter yX2_nextCharacter, Cond.code yX2_nextCharacter cX2_nextCharacter 1 (some .char), Cond.fieldLink RX2 9 "CassetteTones$Pad" "characters" "[C", Cond.methodLink RX2 38 yX2_takeNumber, Cond.instanceMethod yX2_takeNumber, Cond.selects RX2 yX2_takeNumber yX2_takeNumber, Cond.code yX2_takeNumber cX2_takeNumber 4 (some .int), Cond.methodLink RX2 78 yX2_nextDigit, Cond.instanceMethod yX2_nextDigit, Cond.selects RX2 yX2_nextDigit yX2_nextDigit, Cond.code yX2_nextDigit cX2_nextDigit 2 (some .int), Cond.methodLink RX2 45 yX2_takeUnder, Cond.instanceMethod yX2_takeUnder]
def wsX2_findFault_r2 : List Cond := [Cond.selects RX2 yX2_takeUnder yX2_takeUnder, Cond.code yX2_takeUnder cX2_takeUnder 1 (some .boolean), Cond.fieldLink RX2 54 "CassetteTones$Pad" "under" "I", Cond.methodLink RX2 26 yX2_takeSign, Cond.instanceMethod yX2_takeSign, Cond.selects RX2 yX2_takeSign yX2_takeSign, Cond.code yX2_takeSign cX2_takeSign 2 (some .boolean), Cond.methodLink RX2 48 yX2_takeBytes, Cond.instanceMethod yX2_takeBytes, Cond.selects RX2 yX2_takeBytes yX2_takeBytes, Cond.code yX2_takeBytes cX2_takeBytes 3 (some .boolean), Cond.fieldLink RX2 57 "CassetteTones$Pad" "many" "I", Cond.fieldLink RX2 60 "CassetteTones$Pad" "bytes" "J", Cond.fieldLink RX2 64 "CassetteTones$Pad" "byteTooGreat" "Z", Cond.methodLink RX2 68 yX2_addByte, Cond.instanceMethod yX2_addByte, Cond.selects RX2 yX2_addByte yX2_addByte, Cond.code yX2_addByte cX2_addByte 2 none, Cond.methodLink RX2 51 yX2_takeFading, Cond.instanceMethod yX2_takeFading, Cond.selects RX2 yX2_takeFading yX2_takeFading, Cond.code yX2_takeFading cX2_takeFading 1 (some .boolean), Cond.fieldLink RX2 72 "CassetteTones$Pad" "to" "I", Cond.fieldLink RX2 75 "CassetteTones$Pad" "volume" "I"]
def wsX2_findFault : List Cond := .code yX2_findFault cX2_findFault 2 (some .int) :: ((wsX2_findFault_r1 ++ wsX2_findFault_r2) ++ wsX20)
def wsX3_hasBlock : List Cond := .code yX3_hasBlock cX3_hasBlock 2 (some .boolean) :: ([.fieldLink RX3 36 "CassetteTones$Tape" "blocks" "I"] ++ wsX30)
def wsX3_hasCell : List Cond := .code yX3_hasCell cX3_hasCell 2 (some .boolean) :: ([.methodLink RX3 46 yX3_cells, .instanceMethod yX3_cells, .selects RX3 yX3_cells yX3_cells, .initialized RX3, .code yX3_cells cX3_cells 1 (some .int), .fieldLink RX3 24 "CassetteTones$Tape" "firsts" "[I", .fieldLink RX3 36 "CassetteTones$Tape" "blocks" "I"] ++ wsX30)
def wsX3_errorOfBlock : List Cond := .code yX3_errorOfBlock cX3_errorOfBlock 4 (some .int) :: ([.fieldLink RX3 36 "CassetteTones$Tape" "blocks" "I", .methodLink RX3 50 yX3_hasBlock, .instanceMethod yX3_hasBlock, .selects RX3 yX3_hasBlock yX3_hasBlock, .initialized RX3, .code yX3_hasBlock cX3_hasBlock 2 (some .boolean)] ++ wsX30)
def wsJ6_bitCount_0f7a4 : List Cond := .code yJ6_bitCount_0f7a4 cJ6_bitCount_0f7a4 1 (some .int) :: ([.constant RJ6 265 (1431655765), .constant RJ6 266 (858993459), .constant RJ6 267 (252645135)])
def wsX3_writeByte : List Cond := .code yX3_writeByte cX3_writeByte 4 none :: ([.fieldLink RX3 33 "CassetteTones$Tape" "written" "[I", .methodLink RX3 66 yJ6_bitCount_0f7a4, .static yJ6_bitCount_0f7a4, .initialized RJ6, .code yJ6_bitCount_0f7a4 cJ6_bitCount_0f7a4 1 (some .int), .constant RJ6 265 (1431655765), .constant RJ6 266 (858993459), .constant RJ6 267 (252645135)] ++ wsX30)
def wsX3_writeTelling : List Cond := .code yX3_writeTelling cX3_writeTelling 8 none :: ([.methodLink RX3 62 yX3_writeByte, .instanceMethod yX3_writeByte, .selects RX3 yX3_writeByte yX3_writeByte, .initialized RX3, .code yX3_writeByte cX3_writeByte 4 none, .fieldLink RX3 33 "CassetteTones$Tape" "written" "[I", .methodLink RX3 66 yJ6_bitCount_0f7a4, .static yJ6_bitCount_0f7a4, .initialized RJ6, .code yJ6_bitCount_0f7a4 cJ6_bitCount_0f7a4 1 (some .int), .constant RJ6 265 (1431655765), .constant RJ6 266 (858993459), .constant RJ6 267 (252645135)] ++ wsX30)
def wsX3_appendBlock_r1 : List Cond := [Cond.fieldLink RX3 36 "CassetteTones$Tape" "blocks" "I", Cond.fieldLink RX3 15 "CassetteTones$Tape" "names" "[I", Cond.fieldLink RX3 18 "CassetteTones$Tape" "unders" "[I", Cond.fieldLink RX3 21 "CassetteTones$Tape" "manys" "[I", Cond.fieldLink RX3 24 "CassetteTones$Tape" "firsts" "[I", Cond.fieldLink RX3 27 "CassetteTones$Tape" "volumes" "[I", Cond.fieldLink RX3 9 "CassetteTones$Tape" "settings" "[I", Cond.fieldLink RX3 30 "CassetteTones$Tape" "bad" "[I", Cond.methodLink RX3 54 yX3_tellingCells, Cond.instanceMethod yX3_tellingCells, Cond.selects RX3 yX3_tellingCells yX3_tellingCells, Cond.initialized RX3, Cond.code yX3_tellingCells cX3_tellingCells 2 (some .int), Cond.methodLink RX3 58 yX3_writeTelling, Cond.instanceMethod yX3_writeTelling, Cond.selects RX3 yX3_writeTelling yX3_writeTelling, Cond.code yX3_writeTelling cX3_writeTelling 8 none, Cond.methodLink RX3 62 yX3_writeByte, Cond.instanceMethod yX3_writeByte, Cond.selects RX3 yX3_writeByte yX3_writeByte, Cond.code yX3_writeByte cX3_writeByte 4 none, Cond.fieldLink RX3 33 "CassetteTones$Tape" "written" "[I", Cond.methodLink RX3 66 yJ6_bitCount_0f7a4, Cond.static yJ6_bitCount_0f7a4]
def wsX3_appendBlock_r2 : List Cond := [Cond.initialized RJ6, Cond.code yJ6_bitCount_0f7a4 cJ6_bitCount_0f7a4 1 (some .int), Cond.constant RJ6 265 (1431655765), Cond.constant RJ6 266 (858993459), Cond.constant RJ6 267 (252645135)]
def wsX3_appendBlock : List Cond := .code yX3_appendBlock cX3_appendBlock 11 (some .int) :: ((wsX3_appendBlock_r1 ++ wsX3_appendBlock_r2) ++ wsX30)
def wsX3_errorOfFading : List Cond := .code yX3_errorOfFading cX3_errorOfFading 4 (some .int) :: ([.methodLink RX3 71 yX3_hasCell, .instanceMethod yX3_hasCell, .selects RX3 yX3_hasCell yX3_hasCell, .initialized RX3, .code yX3_hasCell cX3_hasCell 2 (some .boolean), .methodLink RX3 46 yX3_cells, .instanceMethod yX3_cells, .selects RX3 yX3_cells yX3_cells, .code yX3_cells cX3_cells 1 (some .int), .fieldLink RX3 24 "CassetteTones$Tape" "firsts" "[I", .fieldLink RX3 36 "CassetteTones$Tape" "blocks" "I"] ++ wsX30)
def wsX3_fadeCells : List Cond := .code yX3_fadeCells cX3_fadeCells 6 (some .int) :: ([.fieldLink RX3 27 "CassetteTones$Tape" "volumes" "[I"] ++ wsX30)
def wsX3_spoilCell : List Cond := .code yX3_spoilCell cX3_spoilCell 2 (some .int) :: ([.fieldLink RX3 30 "CassetteTones$Tape" "bad" "[I"] ++ wsX30)
def wsX3_silentCells : List Cond := .code yX3_silentCells cX3_silentCells 4 (some .int) :: ([.fieldLink RX3 27 "CassetteTones$Tape" "volumes" "[I", .fieldLink RX3 9 "CassetteTones$Tape" "settings" "[I", .methodLink RX3 46 yX3_cells, .instanceMethod yX3_cells, .selects RX3 yX3_cells yX3_cells, .initialized RX3, .code yX3_cells cX3_cells 1 (some .int), .fieldLink RX3 24 "CassetteTones$Tape" "firsts" "[I", .fieldLink RX3 36 "CassetteTones$Tape" "blocks" "I"] ++ wsX30)
def wsX3_badCells : List Cond := .code yX3_badCells cX3_badCells 4 (some .int) :: ([.fieldLink RX3 30 "CassetteTones$Tape" "bad" "[I", .methodLink RX3 46 yX3_cells, .instanceMethod yX3_cells, .selects RX3 yX3_cells yX3_cells, .initialized RX3, .code yX3_cells cX3_cells 1 (some .int), .fieldLink RX3 24 "CassetteTones$Tape" "firsts" "[I", .fieldLink RX3 36 "CassetteTones$Tape" "blocks" "I"] ++ wsX30)
def wsX3_blockAt : List Cond := .code yX3_blockAt cX3_blockAt 3 (some .int) :: ([.fieldLink RX3 36 "CassetteTones$Tape" "blocks" "I", .fieldLink RX3 24 "CassetteTones$Tape" "firsts" "[I"] ++ wsX30)
def wsX3_partAt : List Cond := .code yX3_partAt cX3_partAt 5 (some .int) :: ([.fieldLink RX3 24 "CassetteTones$Tape" "firsts" "[I", .methodLink RX3 74 yX3_blockAt, .instanceMethod yX3_blockAt, .selects RX3 yX3_blockAt yX3_blockAt, .initialized RX3, .code yX3_blockAt cX3_blockAt 3 (some .int), .fieldLink RX3 36 "CassetteTones$Tape" "blocks" "I", .methodLink RX3 54 yX3_tellingCells, .instanceMethod yX3_tellingCells, .selects RX3 yX3_tellingCells yX3_tellingCells, .code yX3_tellingCells cX3_tellingCells 2 (some .int), .fieldLink RX3 21 "CassetteTones$Tape" "manys" "[I"] ++ wsX30)
def wsX3_bitAt : List Cond := .code yX3_bitAt cX3_bitAt 5 (some .int) :: ([.fieldLink RX3 24 "CassetteTones$Tape" "firsts" "[I", .fieldLink RX3 33 "CassetteTones$Tape" "written" "[I", .fieldLink RX3 30 "CassetteTones$Tape" "bad" "[I", .methodLink RX3 74 yX3_blockAt, .instanceMethod yX3_blockAt, .selects RX3 yX3_blockAt yX3_blockAt, .initialized RX3, .code yX3_blockAt cX3_blockAt 3 (some .int), .fieldLink RX3 36 "CassetteTones$Tape" "blocks" "I", .methodLink RX3 77 yX3_partAt, .instanceMethod yX3_partAt, .selects RX3 yX3_partAt yX3_partAt, .code yX3_partAt cX3_partAt 5 (some .int), .methodLink RX3 54 yX3_tellingCells, .instanceMethod yX3_tellingCells, .selects RX3 yX3_tellingCells yX3_tellingCells, .code yX3_tellingCells cX3_tellingCells 2 (some .int), .fieldLink RX3 21 "CassetteTones$Tape" "manys" "[I"] ++ wsX30)
def wsX3_counterOf : List Cond := .code yX3_counterOf cX3_counterOf 2 (some .int) :: ([.fieldLink RX3 9 "CassetteTones$Tape" "settings" "[I"] ++ wsX30)
def wsX3_distanceOf : List Cond := .code yX3_distanceOf cX3_distanceOf 4 (some .int) :: ([.fieldLink RX3 24 "CassetteTones$Tape" "firsts" "[I", .methodLink RX3 83 Lib.Math.abs.name, .static Lib.Math.abs.name, .initialized "java/lang/Math", .code Lib.Math.abs.name Lib.Math.abs.code 1 (some .int), .methodLink RX3 88 Lib.Math.min.name, .static Lib.Math.min.name, .code Lib.Math.min.name Lib.Math.min.code 2 (some .int), .methodLink RX3 80 yX3_counterOf, .instanceMethod yX3_counterOf, .selects RX3 yX3_counterOf yX3_counterOf, .initialized RX3, .code yX3_counterOf cX3_counterOf 2 (some .int), .fieldLink RX3 9 "CassetteTones$Tape" "settings" "[I"] ++ wsX30)
def wsX3_nearerBlocks : List Cond := .code yX3_nearerBlocks cX3_nearerBlocks 7 (some .int) :: ([.fieldLink RX3 36 "CassetteTones$Tape" "blocks" "I", .methodLink RX3 92 yX3_distanceOf, .instanceMethod yX3_distanceOf, .selects RX3 yX3_distanceOf yX3_distanceOf, .initialized RX3, .code yX3_distanceOf cX3_distanceOf 4 (some .int), .fieldLink RX3 24 "CassetteTones$Tape" "firsts" "[I", .methodLink RX3 83 Lib.Math.abs.name, .static Lib.Math.abs.name, .initialized "java/lang/Math", .code Lib.Math.abs.name Lib.Math.abs.code 1 (some .int), .methodLink RX3 88 Lib.Math.min.name, .static Lib.Math.min.name, .code Lib.Math.min.name Lib.Math.min.code 2 (some .int), .methodLink RX3 80 yX3_counterOf, .instanceMethod yX3_counterOf, .selects RX3 yX3_counterOf yX3_counterOf, .code yX3_counterOf cX3_counterOf 2 (some .int), .fieldLink RX3 9 "CassetteTones$Tape" "settings" "[I"] ++ wsX30)
def wsX3_depthOf : List Cond := .code yX3_depthOf cX3_depthOf 4 (some .int) :: ([.fieldLink RX3 18 "CassetteTones$Tape" "unders" "[I"] ++ wsX30)
def wsX5_init_r1 : List Cond := [Cond.methodLink RX5 3 objectInit, Cond.instanceMethod objectInit, Cond.code objectInit ⟨#[0xb1]⟩ 1 none, Cond.classLink RX5 9 RX3, Cond.instantiable RX3 9, Cond.initialized RX3, Cond.fieldLink RX5 12 "CassetteTones" "tape" "LCassetteTones$Tape;", Cond.classLink RX5 16 RX0, Cond.instantiable RX0 3, Cond.initialized RX0, Cond.fieldLink RX5 19 "CassetteTones" "reader" "LCassetteTones$BlockReader;", Cond.classLink RX5 23 RX2, Cond.instantiable RX2 11, Cond.initialized RX2, Cond.fieldLink RX5 26 "CassetteTones" "pad" "LCassetteTones$Pad;", Cond.classLink RX5 30 RX1, Cond.instantiable RX1 3, Cond.initialized RX1, Cond.fieldLink RX5 33 "CassetteTones" "history" "LCassetteTones$History;", Cond.fieldLink RX5 37 "CassetteTones" "slots" "[LCassetteTones$Tape;", Cond.arrayClass .boolean, Cond.fieldLink RX5 41 "CassetteTones" "saved" "[Z", Cond.arrayClass .int, Cond.fieldLink RX5 45 "CassetteTones" "below" "[I"]
def wsX5_init_r2 : List Cond := [Cond.instanceMethod yX3_init, Cond.code yX3_init cX3_init 1 none, Cond.methodLink RX3 3 objectInit, Cond.fieldLink RX3 9 "CassetteTones$Tape" "settings" "[I", Cond.fieldLink RX3 15 "CassetteTones$Tape" "names" "[I", Cond.fieldLink RX3 18 "CassetteTones$Tape" "unders" "[I", Cond.fieldLink RX3 21 "CassetteTones$Tape" "manys" "[I", Cond.fieldLink RX3 24 "CassetteTones$Tape" "firsts" "[I", Cond.fieldLink RX3 27 "CassetteTones$Tape" "volumes" "[I", Cond.fieldLink RX3 30 "CassetteTones$Tape" "bad" "[I", Cond.fieldLink RX3 33 "CassetteTones$Tape" "written" "[I", Cond.instanceMethod yX0_init, Cond.code yX0_init cX0_init 1 none, Cond.methodLink RX0 3 objectInit, Cond.classLink RX0 9 RX4, Cond.instantiable RX4 4, Cond.initialized RX4, Cond.fieldLink RX0 12 "CassetteTones$BlockReader" "first" "LCassetteTones$Telling;", Cond.fieldLink RX0 18 "CassetteTones$BlockReader" "second" "LCassetteTones$Telling;", Cond.fieldLink RX0 21 "CassetteTones$BlockReader" "tellings" "[LCassetteTones$Telling;", Cond.instanceMethod yX4_init, Cond.code yX4_init cX4_init 1 none, Cond.methodLink RX4 3 objectInit, Cond.fieldLink RX4 9 "CassetteTones$Telling" "values" "[I"]
def wsX5_init_r3 : List Cond := [Cond.fieldLink RX4 15 "CassetteTones$Telling" "wholeUpTo" "[I", Cond.instanceMethod yX2_init, Cond.code yX2_init cX2_init 1 none, Cond.methodLink RX2 3 objectInit, Cond.arrayClass .char, Cond.fieldLink RX2 9 "CassetteTones$Pad" "characters" "[C", Cond.instanceMethod yX1_init, Cond.code yX1_init cX1_init 2 none, Cond.methodLink RX1 3 objectInit, Cond.classLink RX1 9 RX3, Cond.fieldLink RX1 11 "CassetteTones$History" "states" "[LCassetteTones$Tape;"]
def wsX5_init : List Cond := .code yX5_init cX5_init 2 none :: ((wsX5_init_r1 ++ (wsX5_init_r2 ++ wsX5_init_r3)) ++ wsX30 ++ wsX50 ++ wsX00 ++ wsX20 ++ wsX10 ++ wsX40)
def wsX5_mostOf : List Cond := .code yX5_mostOf cX5_mostOf 1 (some .int) :: ([])
def wsX5_set_r1 : List Cond := [Cond.fieldLink RX5 33 "CassetteTones" "history" "LCassetteTones$History;", Cond.fieldLink RX5 12 "CassetteTones" "tape" "LCassetteTones$Tape;", Cond.methodLink RX5 49 yX5_mostOf, Cond.static yX5_mostOf, Cond.initialized RX5, Cond.code yX5_mostOf cX5_mostOf 1 (some .int), Cond.instanceMethod yX1_record, Cond.initialized RX1, Cond.selects RX1 yX1_record yX1_record, Cond.code yX1_record cX1_record 2 none, Cond.fieldLink RX1 11 "CassetteTones$History" "states" "[LCassetteTones$Tape;", Cond.fieldLink RX1 18 "CassetteTones$History" "oldest" "I", Cond.fieldLink RX1 22 "CassetteTones$History" "size" "I", Cond.instanceMethod yX3_copyFrom, Cond.initialized RX3, Cond.selects RX3 yX3_copyFrom yX3_copyFrom, Cond.code yX3_copyFrom cX3_copyFrom 3 none, Cond.fieldLink RX3 36 "CassetteTones$Tape" "blocks" "I", Cond.fieldLink RX3 9 "CassetteTones$Tape" "settings" "[I", Cond.methodLink RX3 40 arraycopyName, Cond.native arraycopyName, Cond.static arraycopyName, Cond.initialized "java/lang/System", Cond.fieldLink RX3 15 "CassetteTones$Tape" "names" "[I"]
def wsX5_set_r2 : List Cond := [Cond.fieldLink RX3 18 "CassetteTones$Tape" "unders" "[I", Cond.fieldLink RX3 21 "CassetteTones$Tape" "manys" "[I", Cond.fieldLink RX3 24 "CassetteTones$Tape" "firsts" "[I", Cond.fieldLink RX3 27 "CassetteTones$Tape" "volumes" "[I", Cond.fieldLink RX3 30 "CassetteTones$Tape" "bad" "[I", Cond.fieldLink RX3 33 "CassetteTones$Tape" "written" "[I", Cond.methodLink RX3 46 yX3_cells, Cond.instanceMethod yX3_cells, Cond.selects RX3 yX3_cells yX3_cells, Cond.code yX3_cells cX3_cells 1 (some .int)]
def wsX5_set : List Cond := .code yX5_set cX5_set 4 (some .int) :: ((wsX5_set_r1 ++ wsX5_set_r2) ++ wsX50 ++ wsX30 ++ wsX10)
def wsX5_write_r1 : List Cond := [Cond.fieldLink RX5 12 "CassetteTones" "tape" "LCassetteTones$Tape;", Cond.fieldLink RX5 33 "CassetteTones" "history" "LCassetteTones$History;", Cond.instanceMethod yX3_errorOfBlock, Cond.initialized RX3, Cond.selects RX3 yX3_errorOfBlock yX3_errorOfBlock, Cond.code yX3_errorOfBlock cX3_errorOfBlock 4 (some .int), Cond.fieldLink RX3 36 "CassetteTones$Tape" "blocks" "I", Cond.methodLink RX3 50 yX3_hasBlock, Cond.instanceMethod yX3_hasBlock, Cond.selects RX3 yX3_hasBlock yX3_hasBlock, Cond.code yX3_hasBlock cX3_hasBlock 2 (some .boolean), Cond.instanceMethod yX1_record, Cond.initialized RX1, Cond.selects RX1 yX1_record yX1_record, Cond.code yX1_record cX1_record 2 none, Cond.fieldLink RX1 11 "CassetteTones$History" "states" "[LCassetteTones$Tape;", Cond.fieldLink RX1 18 "CassetteTones$History" "oldest" "I", Cond.fieldLink RX1 22 "CassetteTones$History" "size" "I", Cond.instanceMethod yX3_copyFrom, Cond.selects RX3 yX3_copyFrom yX3_copyFrom, Cond.code yX3_copyFrom cX3_copyFrom 3 none, Cond.fieldLink RX3 9 "CassetteTones$Tape" "settings" "[I", Cond.methodLink RX3 40 arraycopyName, Cond.native arraycopyName]
def wsX5_write_r2 : List Cond := [Cond.static arraycopyName, Cond.initialized "java/lang/System", Cond.fieldLink RX3 15 "CassetteTones$Tape" "names" "[I", Cond.fieldLink RX3 18 "CassetteTones$Tape" "unders" "[I", Cond.fieldLink RX3 21 "CassetteTones$Tape" "manys" "[I", Cond.fieldLink RX3 24 "CassetteTones$Tape" "firsts" "[I", Cond.fieldLink RX3 27 "CassetteTones$Tape" "volumes" "[I", Cond.fieldLink RX3 30 "CassetteTones$Tape" "bad" "[I", Cond.fieldLink RX3 33 "CassetteTones$Tape" "written" "[I", Cond.methodLink RX3 46 yX3_cells, Cond.instanceMethod yX3_cells, Cond.selects RX3 yX3_cells yX3_cells, Cond.code yX3_cells cX3_cells 1 (some .int), Cond.instanceMethod yX3_appendBlock, Cond.selects RX3 yX3_appendBlock yX3_appendBlock, Cond.code yX3_appendBlock cX3_appendBlock 11 (some .int), Cond.methodLink RX3 54 yX3_tellingCells, Cond.instanceMethod yX3_tellingCells, Cond.selects RX3 yX3_tellingCells yX3_tellingCells, Cond.code yX3_tellingCells cX3_tellingCells 2 (some .int), Cond.methodLink RX3 58 yX3_writeTelling, Cond.instanceMethod yX3_writeTelling, Cond.selects RX3 yX3_writeTelling yX3_writeTelling, Cond.code yX3_writeTelling cX3_writeTelling 8 none]
def wsX5_write_r3 : List Cond := [Cond.methodLink RX3 62 yX3_writeByte, Cond.instanceMethod yX3_writeByte, Cond.selects RX3 yX3_writeByte yX3_writeByte, Cond.code yX3_writeByte cX3_writeByte 4 none, Cond.methodLink RX3 66 yJ6_bitCount_0f7a4, Cond.static yJ6_bitCount_0f7a4, Cond.initialized RJ6, Cond.code yJ6_bitCount_0f7a4 cJ6_bitCount_0f7a4 1 (some .int), Cond.constant RJ6 265 (1431655765), Cond.constant RJ6 266 (858993459), Cond.constant RJ6 267 (252645135)]
def wsX5_write : List Cond := .code yX5_write cX5_write 7 (some .int) :: ((wsX5_write_r1 ++ (wsX5_write_r2 ++ wsX5_write_r3)) ++ wsX50 ++ wsX30 ++ wsX10)
def wsX5_wipeLast_r1 : List Cond := [Cond.fieldLink RX5 12 "CassetteTones" "tape" "LCassetteTones$Tape;", Cond.fieldLink RX5 33 "CassetteTones" "history" "LCassetteTones$History;", Cond.instanceMethod yX1_record, Cond.initialized RX1, Cond.selects RX1 yX1_record yX1_record, Cond.code yX1_record cX1_record 2 none, Cond.fieldLink RX1 11 "CassetteTones$History" "states" "[LCassetteTones$Tape;", Cond.fieldLink RX1 18 "CassetteTones$History" "oldest" "I", Cond.fieldLink RX1 22 "CassetteTones$History" "size" "I", Cond.instanceMethod yX3_copyFrom, Cond.initialized RX3, Cond.selects RX3 yX3_copyFrom yX3_copyFrom, Cond.code yX3_copyFrom cX3_copyFrom 3 none, Cond.fieldLink RX3 36 "CassetteTones$Tape" "blocks" "I", Cond.fieldLink RX3 9 "CassetteTones$Tape" "settings" "[I", Cond.methodLink RX3 40 arraycopyName, Cond.native arraycopyName, Cond.static arraycopyName, Cond.initialized "java/lang/System", Cond.fieldLink RX3 15 "CassetteTones$Tape" "names" "[I", Cond.fieldLink RX3 18 "CassetteTones$Tape" "unders" "[I", Cond.fieldLink RX3 21 "CassetteTones$Tape" "manys" "[I", Cond.fieldLink RX3 24 "CassetteTones$Tape" "firsts" "[I", Cond.fieldLink RX3 27 "CassetteTones$Tape" "volumes" "[I"]
def wsX5_wipeLast_r2 : List Cond := [Cond.fieldLink RX3 30 "CassetteTones$Tape" "bad" "[I", Cond.fieldLink RX3 33 "CassetteTones$Tape" "written" "[I", Cond.methodLink RX3 46 yX3_cells, Cond.instanceMethod yX3_cells, Cond.selects RX3 yX3_cells yX3_cells, Cond.code yX3_cells cX3_cells 1 (some .int)]
def wsX5_wipeLast : List Cond := .code yX5_wipeLast cX5_wipeLast 1 (some .int) :: ((wsX5_wipeLast_r1 ++ wsX5_wipeLast_r2) ++ wsX50 ++ wsX30 ++ wsX10)
def wsX5_fade_r1 : List Cond := [Cond.fieldLink RX5 12 "CassetteTones" "tape" "LCassetteTones$Tape;", Cond.fieldLink RX5 33 "CassetteTones" "history" "LCassetteTones$History;", Cond.instanceMethod yX3_errorOfFading, Cond.initialized RX3, Cond.selects RX3 yX3_errorOfFading yX3_errorOfFading, Cond.code yX3_errorOfFading cX3_errorOfFading 4 (some .int), Cond.methodLink RX3 71 yX3_hasCell, Cond.instanceMethod yX3_hasCell, Cond.selects RX3 yX3_hasCell yX3_hasCell, Cond.code yX3_hasCell cX3_hasCell 2 (some .boolean), Cond.methodLink RX3 46 yX3_cells, Cond.instanceMethod yX3_cells, Cond.selects RX3 yX3_cells yX3_cells, Cond.code yX3_cells cX3_cells 1 (some .int), Cond.fieldLink RX3 24 "CassetteTones$Tape" "firsts" "[I", Cond.fieldLink RX3 36 "CassetteTones$Tape" "blocks" "I", Cond.instanceMethod yX1_record, Cond.initialized RX1, Cond.selects RX1 yX1_record yX1_record, Cond.code yX1_record cX1_record 2 none, Cond.fieldLink RX1 11 "CassetteTones$History" "states" "[LCassetteTones$Tape;", Cond.fieldLink RX1 18 "CassetteTones$History" "oldest" "I", Cond.fieldLink RX1 22 "CassetteTones$History" "size" "I", Cond.instanceMethod yX3_copyFrom]
def wsX5_fade_r2 : List Cond := [Cond.selects RX3 yX3_copyFrom yX3_copyFrom, Cond.code yX3_copyFrom cX3_copyFrom 3 none, Cond.fieldLink RX3 9 "CassetteTones$Tape" "settings" "[I", Cond.methodLink RX3 40 arraycopyName, Cond.native arraycopyName, Cond.static arraycopyName, Cond.initialized "java/lang/System", Cond.fieldLink RX3 15 "CassetteTones$Tape" "names" "[I", Cond.fieldLink RX3 18 "CassetteTones$Tape" "unders" "[I", Cond.fieldLink RX3 21 "CassetteTones$Tape" "manys" "[I", Cond.fieldLink RX3 27 "CassetteTones$Tape" "volumes" "[I", Cond.fieldLink RX3 30 "CassetteTones$Tape" "bad" "[I", Cond.fieldLink RX3 33 "CassetteTones$Tape" "written" "[I", Cond.instanceMethod yX3_fadeCells, Cond.selects RX3 yX3_fadeCells yX3_fadeCells, Cond.code yX3_fadeCells cX3_fadeCells 6 (some .int)]
def wsX5_fade : List Cond := .code yX5_fade cX5_fade 5 (some .int) :: ((wsX5_fade_r1 ++ wsX5_fade_r2) ++ wsX50 ++ wsX30 ++ wsX10)
def wsX5_spoil_r1 : List Cond := [Cond.fieldLink RX5 12 "CassetteTones" "tape" "LCassetteTones$Tape;", Cond.fieldLink RX5 33 "CassetteTones" "history" "LCassetteTones$History;", Cond.instanceMethod yX3_hasCell, Cond.initialized RX3, Cond.selects RX3 yX3_hasCell yX3_hasCell, Cond.code yX3_hasCell cX3_hasCell 2 (some .boolean), Cond.methodLink RX3 46 yX3_cells, Cond.instanceMethod yX3_cells, Cond.selects RX3 yX3_cells yX3_cells, Cond.code yX3_cells cX3_cells 1 (some .int), Cond.fieldLink RX3 24 "CassetteTones$Tape" "firsts" "[I", Cond.fieldLink RX3 36 "CassetteTones$Tape" "blocks" "I", Cond.instanceMethod yX1_record, Cond.initialized RX1, Cond.selects RX1 yX1_record yX1_record, Cond.code yX1_record cX1_record 2 none, Cond.fieldLink RX1 11 "CassetteTones$History" "states" "[LCassetteTones$Tape;", Cond.fieldLink RX1 18 "CassetteTones$History" "oldest" "I", Cond.fieldLink RX1 22 "CassetteTones$History" "size" "I", Cond.instanceMethod yX3_copyFrom, Cond.selects RX3 yX3_copyFrom yX3_copyFrom, Cond.code yX3_copyFrom cX3_copyFrom 3 none, Cond.fieldLink RX3 9 "CassetteTones$Tape" "settings" "[I", Cond.methodLink RX3 40 arraycopyName]
def wsX5_spoil_r2 : List Cond := [Cond.native arraycopyName, Cond.static arraycopyName, Cond.initialized "java/lang/System", Cond.fieldLink RX3 15 "CassetteTones$Tape" "names" "[I", Cond.fieldLink RX3 18 "CassetteTones$Tape" "unders" "[I", Cond.fieldLink RX3 21 "CassetteTones$Tape" "manys" "[I", Cond.fieldLink RX3 27 "CassetteTones$Tape" "volumes" "[I", Cond.fieldLink RX3 30 "CassetteTones$Tape" "bad" "[I", Cond.fieldLink RX3 33 "CassetteTones$Tape" "written" "[I", Cond.instanceMethod yX3_spoilCell, Cond.selects RX3 yX3_spoilCell yX3_spoilCell, Cond.code yX3_spoilCell cX3_spoilCell 2 (some .int)]
def wsX5_spoil : List Cond := .code yX5_spoil cX5_spoil 2 (some .int) :: ((wsX5_spoil_r1 ++ wsX5_spoil_r2) ++ wsX50 ++ wsX30 ++ wsX10)
def wsX5_stateOfTelling_r1 : List Cond := [Cond.fieldLink RX5 19 "CassetteTones" "reader" "LCassetteTones$BlockReader;", Cond.fieldLink RX5 12 "CassetteTones" "tape" "LCassetteTones$Tape;", Cond.instanceMethod yX0_readBlock, Cond.initialized RX0, Cond.selects RX0 yX0_readBlock yX0_readBlock, Cond.code yX0_readBlock cX0_readBlock 4 none, Cond.fieldLink RX0 12 "CassetteTones$BlockReader" "first" "LCassetteTones$Telling;", Cond.fieldLink RX0 18 "CassetteTones$BlockReader" "second" "LCassetteTones$Telling;", Cond.instanceMethod yX4_readCells, Cond.initialized RX4, Cond.selects RX4 yX4_readCells yX4_readCells, Cond.code yX4_readCells cX4_readCells 5 none, Cond.fieldLink RX4 18 "CassetteTones$Telling" "many" "I", Cond.methodLink RX4 22 yX4_readLeader, Cond.instanceMethod yX4_readLeader, Cond.selects RX4 yX4_readLeader yX4_readLeader, Cond.code yX4_readLeader cX4_readLeader 7 none, Cond.methodLink RX4 35 Lib.Math.min.name, Cond.static Lib.Math.min.name, Cond.initialized "java/lang/Math", Cond.code Lib.Math.min.name Lib.Math.min.code 2 (some .int), Cond.methodLink RX4 41 Lib.Math.max.name, Cond.static Lib.Math.max.name, Cond.code Lib.Math.max.name Lib.Math.max.code 2 (some .int)]
def wsX5_stateOfTelling_r2 : List Cond := [Cond.fieldLink RX4 44 "CassetteTones$Telling" "leaderHeard" "I", Cond.methodLink RX4 26 yX4_readByte, Cond.instanceMethod yX4_readByte, Cond.selects RX4 yX4_readByte yX4_readByte, Cond.code yX4_readByte cX4_readByte 9 none, Cond.fieldLink RX4 9 "CassetteTones$Telling" "values" "[I", Cond.fieldLink RX4 15 "CassetteTones$Telling" "wholeUpTo" "[I", Cond.instanceMethod yX3_tellingCells, Cond.initialized RX3, Cond.selects RX3 yX3_tellingCells yX3_tellingCells, Cond.code yX3_tellingCells cX3_tellingCells 2 (some .int), Cond.fieldLink RX3 21 "CassetteTones$Tape" "manys" "[I", Cond.instanceMethod yX4_stateBy, Cond.selects RX4 yX4_stateBy yX4_stateBy, Cond.code yX4_stateBy cX4_stateBy 4 (some .int), Cond.methodLink RX4 57 yX4_isLost, Cond.instanceMethod yX4_isLost, Cond.selects RX4 yX4_isLost yX4_isLost, Cond.code yX4_isLost cX4_isLost 2 (some .boolean), Cond.methodLink RX4 53 yX4_isByteWhole, Cond.instanceMethod yX4_isByteWhole, Cond.selects RX4 yX4_isByteWhole yX4_isByteWhole, Cond.code yX4_isByteWhole cX4_isByteWhole 3 (some .boolean), Cond.methodLink RX4 61 yX4_tellsSum]
def wsX5_stateOfTelling_r3 : List Cond := [Cond.instanceMethod yX4_tellsSum, Cond.selects RX4 yX4_tellsSum yX4_tellsSum, Cond.code yX4_tellsSum cX4_tellsSum 3 (some .boolean)]
def wsX5_stateOfTelling : List Cond := .code yX5_stateOfTelling cX5_stateOfTelling 3 (some .int) :: ((wsX5_stateOfTelling_r1 ++ (wsX5_stateOfTelling_r2 ++ wsX5_stateOfTelling_r3)) ++ wsX50 ++ wsX00 ++ wsX30 ++ wsX40)
def wsX5_wayOfLoading_r1 : List Cond := [Cond.fieldLink RX5 19 "CassetteTones" "reader" "LCassetteTones$BlockReader;", Cond.fieldLink RX5 12 "CassetteTones" "tape" "LCassetteTones$Tape;", Cond.instanceMethod yX0_readBlock, Cond.initialized RX0, Cond.selects RX0 yX0_readBlock yX0_readBlock, Cond.code yX0_readBlock cX0_readBlock 4 none, Cond.fieldLink RX0 12 "CassetteTones$BlockReader" "first" "LCassetteTones$Telling;", Cond.fieldLink RX0 18 "CassetteTones$BlockReader" "second" "LCassetteTones$Telling;", Cond.instanceMethod yX4_readCells, Cond.initialized RX4, Cond.selects RX4 yX4_readCells yX4_readCells, Cond.code yX4_readCells cX4_readCells 5 none, Cond.fieldLink RX4 18 "CassetteTones$Telling" "many" "I", Cond.methodLink RX4 22 yX4_readLeader, Cond.instanceMethod yX4_readLeader, Cond.selects RX4 yX4_readLeader yX4_readLeader, Cond.code yX4_readLeader cX4_readLeader 7 none, Cond.methodLink RX4 35 Lib.Math.min.name, Cond.static Lib.Math.min.name, Cond.initialized "java/lang/Math", Cond.code Lib.Math.min.name Lib.Math.min.code 2 (some .int), Cond.methodLink RX4 41 Lib.Math.max.name, Cond.static Lib.Math.max.name, Cond.code Lib.Math.max.name Lib.Math.max.code 2 (some .int)]
def wsX5_wayOfLoading_r2 : List Cond := [Cond.fieldLink RX4 44 "CassetteTones$Telling" "leaderHeard" "I", Cond.methodLink RX4 26 yX4_readByte, Cond.instanceMethod yX4_readByte, Cond.selects RX4 yX4_readByte yX4_readByte, Cond.code yX4_readByte cX4_readByte 9 none, Cond.fieldLink RX4 9 "CassetteTones$Telling" "values" "[I", Cond.fieldLink RX4 15 "CassetteTones$Telling" "wholeUpTo" "[I", Cond.instanceMethod yX3_tellingCells, Cond.initialized RX3, Cond.selects RX3 yX3_tellingCells yX3_tellingCells, Cond.code yX3_tellingCells cX3_tellingCells 2 (some .int), Cond.fieldLink RX3 21 "CassetteTones$Tape" "manys" "[I", Cond.instanceMethod yX0_wayBy, Cond.selects RX0 yX0_wayBy yX0_wayBy, Cond.code yX0_wayBy cX0_wayBy 2 (some .int), Cond.instanceMethod yX4_stateBy, Cond.selects RX4 yX4_stateBy yX4_stateBy, Cond.code yX4_stateBy cX4_stateBy 4 (some .int), Cond.methodLink RX4 57 yX4_isLost, Cond.instanceMethod yX4_isLost, Cond.selects RX4 yX4_isLost yX4_isLost, Cond.code yX4_isLost cX4_isLost 2 (some .boolean), Cond.methodLink RX4 53 yX4_isByteWhole, Cond.instanceMethod yX4_isByteWhole]
def wsX5_wayOfLoading_r3 : List Cond := [Cond.selects RX4 yX4_isByteWhole yX4_isByteWhole, Cond.code yX4_isByteWhole cX4_isByteWhole 3 (some .boolean), Cond.methodLink RX4 61 yX4_tellsSum, Cond.instanceMethod yX4_tellsSum, Cond.selects RX4 yX4_tellsSum yX4_tellsSum, Cond.code yX4_tellsSum cX4_tellsSum 3 (some .boolean), Cond.methodLink RX0 45 yX0_isWholeTogether, Cond.instanceMethod yX0_isWholeTogether, Cond.selects RX0 yX0_isWholeTogether yX0_isWholeTogether, Cond.code yX0_isWholeTogether cX0_isWholeTogether 5 (some .boolean), Cond.methodLink RX0 56 yX0_byteTogether, Cond.instanceMethod yX0_byteTogether, Cond.selects RX0 yX0_byteTogether yX0_byteTogether, Cond.code yX0_byteTogether cX0_byteTogether 3 (some .int)]
def wsX5_wayOfLoading : List Cond := .code yX5_wayOfLoading cX5_wayOfLoading 2 (some .int) :: ((wsX5_wayOfLoading_r1 ++ (wsX5_wayOfLoading_r2 ++ wsX5_wayOfLoading_r3)) ++ wsX50 ++ wsX30 ++ wsX00 ++ wsX40)
def wsX5_of_r1 : List Cond := [Cond.fieldLink RX5 12 "CassetteTones" "tape" "LCassetteTones$Tape;", Cond.instanceMethod yX3_hasBlock, Cond.initialized RX3, Cond.selects RX3 yX3_hasBlock yX3_hasBlock, Cond.code yX3_hasBlock cX3_hasBlock 2 (some .boolean), Cond.fieldLink RX3 36 "CassetteTones$Tape" "blocks" "I", Cond.methodLink RX5 100 yX5_stateOfTelling, Cond.instanceMethod yX5_stateOfTelling, Cond.selects RX5 yX5_stateOfTelling yX5_stateOfTelling, Cond.initialized RX5, Cond.code yX5_stateOfTelling cX5_stateOfTelling 3 (some .int), Cond.fieldLink RX5 19 "CassetteTones" "reader" "LCassetteTones$BlockReader;", Cond.instanceMethod yX0_readBlock, Cond.initialized RX0, Cond.selects RX0 yX0_readBlock yX0_readBlock, Cond.code yX0_readBlock cX0_readBlock 4 none, Cond.fieldLink RX0 12 "CassetteTones$BlockReader" "first" "LCassetteTones$Telling;", Cond.fieldLink RX0 18 "CassetteTones$BlockReader" "second" "LCassetteTones$Telling;", Cond.instanceMethod yX4_readCells, Cond.initialized RX4, Cond.selects RX4 yX4_readCells yX4_readCells, Cond.code yX4_readCells cX4_readCells 5 none, Cond.fieldLink RX4 18 "CassetteTones$Telling" "many" "I", Cond.methodLink RX4 22 yX4_readLeader]
def wsX5_of_r2 : List Cond := [Cond.instanceMethod yX4_readLeader, Cond.selects RX4 yX4_readLeader yX4_readLeader, Cond.code yX4_readLeader cX4_readLeader 7 none, Cond.methodLink RX4 35 Lib.Math.min.name, Cond.static Lib.Math.min.name, Cond.initialized "java/lang/Math", Cond.code Lib.Math.min.name Lib.Math.min.code 2 (some .int), Cond.methodLink RX4 41 Lib.Math.max.name, Cond.static Lib.Math.max.name, Cond.code Lib.Math.max.name Lib.Math.max.code 2 (some .int), Cond.fieldLink RX4 44 "CassetteTones$Telling" "leaderHeard" "I", Cond.methodLink RX4 26 yX4_readByte, Cond.instanceMethod yX4_readByte, Cond.selects RX4 yX4_readByte yX4_readByte, Cond.code yX4_readByte cX4_readByte 9 none, Cond.fieldLink RX4 9 "CassetteTones$Telling" "values" "[I", Cond.fieldLink RX4 15 "CassetteTones$Telling" "wholeUpTo" "[I", Cond.instanceMethod yX3_tellingCells, Cond.selects RX3 yX3_tellingCells yX3_tellingCells, Cond.code yX3_tellingCells cX3_tellingCells 2 (some .int), Cond.fieldLink RX3 21 "CassetteTones$Tape" "manys" "[I", Cond.instanceMethod yX4_stateBy, Cond.selects RX4 yX4_stateBy yX4_stateBy, Cond.code yX4_stateBy cX4_stateBy 4 (some .int)]
def wsX5_of_r3 : List Cond := [Cond.methodLink RX4 57 yX4_isLost, Cond.instanceMethod yX4_isLost, Cond.selects RX4 yX4_isLost yX4_isLost, Cond.code yX4_isLost cX4_isLost 2 (some .boolean), Cond.methodLink RX4 53 yX4_isByteWhole, Cond.instanceMethod yX4_isByteWhole, Cond.selects RX4 yX4_isByteWhole yX4_isByteWhole, Cond.code yX4_isByteWhole cX4_isByteWhole 3 (some .boolean), Cond.methodLink RX4 61 yX4_tellsSum, Cond.instanceMethod yX4_tellsSum, Cond.selects RX4 yX4_tellsSum yX4_tellsSum, Cond.code yX4_tellsSum cX4_tellsSum 3 (some .boolean), Cond.methodLink RX5 104 yX5_wayOfLoading, Cond.instanceMethod yX5_wayOfLoading, Cond.selects RX5 yX5_wayOfLoading yX5_wayOfLoading, Cond.code yX5_wayOfLoading cX5_wayOfLoading 2 (some .int), Cond.instanceMethod yX0_wayBy, Cond.selects RX0 yX0_wayBy yX0_wayBy, Cond.code yX0_wayBy cX0_wayBy 2 (some .int), Cond.methodLink RX0 45 yX0_isWholeTogether, Cond.instanceMethod yX0_isWholeTogether, Cond.selects RX0 yX0_isWholeTogether yX0_isWholeTogether, Cond.code yX0_isWholeTogether cX0_isWholeTogether 5 (some .boolean), Cond.methodLink RX0 56 yX0_byteTogether]
def wsX5_of_r4 : List Cond := [Cond.instanceMethod yX0_byteTogether, Cond.selects RX0 yX0_byteTogether yX0_byteTogether, Cond.code yX0_byteTogether cX0_byteTogether 3 (some .int), Cond.instanceMethod yX3_depthOf, Cond.selects RX3 yX3_depthOf yX3_depthOf, Cond.code yX3_depthOf cX3_depthOf 4 (some .int), Cond.fieldLink RX3 18 "CassetteTones$Tape" "unders" "[I", Cond.instanceMethod yX3_counterOf, Cond.selects RX3 yX3_counterOf yX3_counterOf, Cond.code yX3_counterOf cX3_counterOf 2 (some .int), Cond.fieldLink RX3 9 "CassetteTones$Tape" "settings" "[I"]
def wsX5_of : List Cond := .code yX5_of cX5_of 3 (some .int) :: ((wsX5_of_r1 ++ (wsX5_of_r2 ++ (wsX5_of_r3 ++ wsX5_of_r4))) ++ wsX50 ++ wsX30 ++ wsX00 ++ wsX40)
def wsX5_load_r1 : List Cond := [Cond.fieldLink RX5 12 "CassetteTones" "tape" "LCassetteTones$Tape;", Cond.constantLong RX5 113 (-1), Cond.constantLong RX5 115 (-5), Cond.fieldLink RX5 19 "CassetteTones" "reader" "LCassetteTones$BlockReader;", Cond.instanceMethod yX3_hasBlock, Cond.initialized RX3, Cond.selects RX3 yX3_hasBlock yX3_hasBlock, Cond.code yX3_hasBlock cX3_hasBlock 2 (some .boolean), Cond.fieldLink RX3 36 "CassetteTones$Tape" "blocks" "I", Cond.methodLink RX5 104 yX5_wayOfLoading, Cond.instanceMethod yX5_wayOfLoading, Cond.selects RX5 yX5_wayOfLoading yX5_wayOfLoading, Cond.initialized RX5, Cond.code yX5_wayOfLoading cX5_wayOfLoading 2 (some .int), Cond.instanceMethod yX0_readBlock, Cond.initialized RX0, Cond.selects RX0 yX0_readBlock yX0_readBlock, Cond.code yX0_readBlock cX0_readBlock 4 none, Cond.fieldLink RX0 12 "CassetteTones$BlockReader" "first" "LCassetteTones$Telling;", Cond.fieldLink RX0 18 "CassetteTones$BlockReader" "second" "LCassetteTones$Telling;", Cond.instanceMethod yX4_readCells, Cond.initialized RX4, Cond.selects RX4 yX4_readCells yX4_readCells, Cond.code yX4_readCells cX4_readCells 5 none]
def wsX5_load_r2 : List Cond := [Cond.fieldLink RX4 18 "CassetteTones$Telling" "many" "I", Cond.methodLink RX4 22 yX4_readLeader, Cond.instanceMethod yX4_readLeader, Cond.selects RX4 yX4_readLeader yX4_readLeader, Cond.code yX4_readLeader cX4_readLeader 7 none, Cond.methodLink RX4 35 Lib.Math.min.name, Cond.static Lib.Math.min.name, Cond.initialized "java/lang/Math", Cond.code Lib.Math.min.name Lib.Math.min.code 2 (some .int), Cond.methodLink RX4 41 Lib.Math.max.name, Cond.static Lib.Math.max.name, Cond.code Lib.Math.max.name Lib.Math.max.code 2 (some .int), Cond.fieldLink RX4 44 "CassetteTones$Telling" "leaderHeard" "I", Cond.methodLink RX4 26 yX4_readByte, Cond.instanceMethod yX4_readByte, Cond.selects RX4 yX4_readByte yX4_readByte, Cond.code yX4_readByte cX4_readByte 9 none, Cond.fieldLink RX4 9 "CassetteTones$Telling" "values" "[I", Cond.fieldLink RX4 15 "CassetteTones$Telling" "wholeUpTo" "[I", Cond.instanceMethod yX3_tellingCells, Cond.selects RX3 yX3_tellingCells yX3_tellingCells, Cond.code yX3_tellingCells cX3_tellingCells 2 (some .int), Cond.fieldLink RX3 21 "CassetteTones$Tape" "manys" "[I", Cond.instanceMethod yX0_wayBy]
def wsX5_load_r3 : List Cond := [Cond.selects RX0 yX0_wayBy yX0_wayBy, Cond.code yX0_wayBy cX0_wayBy 2 (some .int), Cond.instanceMethod yX4_stateBy, Cond.selects RX4 yX4_stateBy yX4_stateBy, Cond.code yX4_stateBy cX4_stateBy 4 (some .int), Cond.methodLink RX4 57 yX4_isLost, Cond.instanceMethod yX4_isLost, Cond.selects RX4 yX4_isLost yX4_isLost, Cond.code yX4_isLost cX4_isLost 2 (some .boolean), Cond.methodLink RX4 53 yX4_isByteWhole, Cond.instanceMethod yX4_isByteWhole, Cond.selects RX4 yX4_isByteWhole yX4_isByteWhole, Cond.code yX4_isByteWhole cX4_isByteWhole 3 (some .boolean), Cond.methodLink RX4 61 yX4_tellsSum, Cond.instanceMethod yX4_tellsSum, Cond.selects RX4 yX4_tellsSum yX4_tellsSum, Cond.code yX4_tellsSum cX4_tellsSum 3 (some .boolean), Cond.methodLink RX0 45 yX0_isWholeTogether, Cond.instanceMethod yX0_isWholeTogether, Cond.selects RX0 yX0_isWholeTogether yX0_isWholeTogether, Cond.code yX0_isWholeTogether cX0_isWholeTogether 5 (some .boolean), Cond.methodLink RX0 56 yX0_byteTogether, Cond.instanceMethod yX0_byteTogether, Cond.selects RX0 yX0_byteTogether yX0_byteTogether]
def wsX5_load_r4 : List Cond := [Cond.code yX0_byteTogether cX0_byteTogether 3 (some .int), Cond.instanceMethod yX0_bytesBy, Cond.selects RX0 yX0_bytesBy yX0_bytesBy, Cond.code yX0_bytesBy cX0_bytesBy 6 (some .long), Cond.methodLink RX0 70 yX0_byteBy, Cond.instanceMethod yX0_byteBy, Cond.selects RX0 yX0_byteBy yX0_byteBy, Cond.code yX0_byteBy cX0_byteBy 4 (some .int)]
def wsX5_load : List Cond := .code yX5_load cX5_load 3 (some .long) :: ((wsX5_load_r1 ++ (wsX5_load_r2 ++ (wsX5_load_r3 ++ wsX5_load_r4))) ++ wsX50 ++ wsX30 ++ wsX00 ++ wsX40)
def wsX5_read_r1 : List Cond := [Cond.fieldLink RX5 12 "CassetteTones" "tape" "LCassetteTones$Tape;", Cond.fieldLink RX5 19 "CassetteTones" "reader" "LCassetteTones$BlockReader;", Cond.instanceMethod yX3_hasBlock, Cond.initialized RX3, Cond.selects RX3 yX3_hasBlock yX3_hasBlock, Cond.code yX3_hasBlock cX3_hasBlock 2 (some .boolean), Cond.fieldLink RX3 36 "CassetteTones$Tape" "blocks" "I", Cond.instanceMethod yX0_readBlock, Cond.initialized RX0, Cond.selects RX0 yX0_readBlock yX0_readBlock, Cond.code yX0_readBlock cX0_readBlock 4 none, Cond.fieldLink RX0 12 "CassetteTones$BlockReader" "first" "LCassetteTones$Telling;", Cond.fieldLink RX0 18 "CassetteTones$BlockReader" "second" "LCassetteTones$Telling;", Cond.instanceMethod yX4_readCells, Cond.initialized RX4, Cond.selects RX4 yX4_readCells yX4_readCells, Cond.code yX4_readCells cX4_readCells 5 none, Cond.fieldLink RX4 18 "CassetteTones$Telling" "many" "I", Cond.methodLink RX4 22 yX4_readLeader, Cond.instanceMethod yX4_readLeader, Cond.selects RX4 yX4_readLeader yX4_readLeader, Cond.code yX4_readLeader cX4_readLeader 7 none, Cond.methodLink RX4 35 Lib.Math.min.name, Cond.static Lib.Math.min.name]
def wsX5_read_r2 : List Cond := [Cond.initialized "java/lang/Math", Cond.code Lib.Math.min.name Lib.Math.min.code 2 (some .int), Cond.methodLink RX4 41 Lib.Math.max.name, Cond.static Lib.Math.max.name, Cond.code Lib.Math.max.name Lib.Math.max.code 2 (some .int), Cond.fieldLink RX4 44 "CassetteTones$Telling" "leaderHeard" "I", Cond.methodLink RX4 26 yX4_readByte, Cond.instanceMethod yX4_readByte, Cond.selects RX4 yX4_readByte yX4_readByte, Cond.code yX4_readByte cX4_readByte 9 none, Cond.fieldLink RX4 9 "CassetteTones$Telling" "values" "[I", Cond.fieldLink RX4 15 "CassetteTones$Telling" "wholeUpTo" "[I", Cond.instanceMethod yX3_tellingCells, Cond.selects RX3 yX3_tellingCells yX3_tellingCells, Cond.code yX3_tellingCells cX3_tellingCells 2 (some .int), Cond.fieldLink RX3 21 "CassetteTones$Tape" "manys" "[I", Cond.instanceMethod yX4_isLost, Cond.selects RX4 yX4_isLost yX4_isLost, Cond.code yX4_isLost cX4_isLost 2 (some .boolean), Cond.instanceMethod yX4_isByteWhole, Cond.selects RX4 yX4_isByteWhole yX4_isByteWhole, Cond.code yX4_isByteWhole cX4_isByteWhole 3 (some .boolean)]
def wsX5_read : List Cond := .code yX5_read cX5_read 6 (some .int) :: ((wsX5_read_r1 ++ wsX5_read_r2) ++ wsX50 ++ wsX30 ++ wsX00 ++ wsX40)
def wsX5_cell_r1 : List Cond := [Cond.fieldLink RX5 12 "CassetteTones" "tape" "LCassetteTones$Tape;", Cond.instanceMethod yX3_hasCell, Cond.initialized RX3, Cond.selects RX3 yX3_hasCell yX3_hasCell, Cond.code yX3_hasCell cX3_hasCell 2 (some .boolean), Cond.methodLink RX3 46 yX3_cells, Cond.instanceMethod yX3_cells, Cond.selects RX3 yX3_cells yX3_cells, Cond.code yX3_cells cX3_cells 1 (some .int), Cond.fieldLink RX3 24 "CassetteTones$Tape" "firsts" "[I", Cond.fieldLink RX3 36 "CassetteTones$Tape" "blocks" "I", Cond.instanceMethod yX3_bitAt, Cond.selects RX3 yX3_bitAt yX3_bitAt, Cond.code yX3_bitAt cX3_bitAt 5 (some .int), Cond.fieldLink RX3 33 "CassetteTones$Tape" "written" "[I", Cond.fieldLink RX3 30 "CassetteTones$Tape" "bad" "[I", Cond.methodLink RX3 74 yX3_blockAt, Cond.instanceMethod yX3_blockAt, Cond.selects RX3 yX3_blockAt yX3_blockAt, Cond.code yX3_blockAt cX3_blockAt 3 (some .int), Cond.methodLink RX3 77 yX3_partAt, Cond.instanceMethod yX3_partAt, Cond.selects RX3 yX3_partAt yX3_partAt, Cond.code yX3_partAt cX3_partAt 5 (some .int)]
def wsX5_cell_r2 : List Cond := [Cond.methodLink RX3 54 yX3_tellingCells, Cond.instanceMethod yX3_tellingCells, Cond.selects RX3 yX3_tellingCells yX3_tellingCells, Cond.code yX3_tellingCells cX3_tellingCells 2 (some .int), Cond.fieldLink RX3 21 "CassetteTones$Tape" "manys" "[I", Cond.instanceMethod yX3_counterOf, Cond.selects RX3 yX3_counterOf yX3_counterOf, Cond.code yX3_counterOf cX3_counterOf 2 (some .int), Cond.fieldLink RX3 9 "CassetteTones$Tape" "settings" "[I"]
def wsX5_cell : List Cond := .code yX5_cell cX5_cell 3 (some .int) :: ((wsX5_cell_r1 ++ wsX5_cell_r2) ++ wsX50 ++ wsX30)
def wsX5_loadedBlocks_r1 : List Cond := [Cond.fieldLink RX5 12 "CassetteTones" "tape" "LCassetteTones$Tape;", Cond.methodLink RX5 104 yX5_wayOfLoading, Cond.instanceMethod yX5_wayOfLoading, Cond.selects RX5 yX5_wayOfLoading yX5_wayOfLoading, Cond.initialized RX5, Cond.code yX5_wayOfLoading cX5_wayOfLoading 2 (some .int), Cond.fieldLink RX5 19 "CassetteTones" "reader" "LCassetteTones$BlockReader;", Cond.instanceMethod yX0_readBlock, Cond.initialized RX0, Cond.selects RX0 yX0_readBlock yX0_readBlock, Cond.code yX0_readBlock cX0_readBlock 4 none, Cond.fieldLink RX0 12 "CassetteTones$BlockReader" "first" "LCassetteTones$Telling;", Cond.fieldLink RX0 18 "CassetteTones$BlockReader" "second" "LCassetteTones$Telling;", Cond.instanceMethod yX4_readCells, Cond.initialized RX4, Cond.selects RX4 yX4_readCells yX4_readCells, Cond.code yX4_readCells cX4_readCells 5 none, Cond.fieldLink RX4 18 "CassetteTones$Telling" "many" "I", Cond.methodLink RX4 22 yX4_readLeader, Cond.instanceMethod yX4_readLeader, Cond.selects RX4 yX4_readLeader yX4_readLeader, Cond.code yX4_readLeader cX4_readLeader 7 none, Cond.methodLink RX4 35 Lib.Math.min.name, Cond.static Lib.Math.min.name]
def wsX5_loadedBlocks_r2 : List Cond := [Cond.initialized "java/lang/Math", Cond.code Lib.Math.min.name Lib.Math.min.code 2 (some .int), Cond.methodLink RX4 41 Lib.Math.max.name, Cond.static Lib.Math.max.name, Cond.code Lib.Math.max.name Lib.Math.max.code 2 (some .int), Cond.fieldLink RX4 44 "CassetteTones$Telling" "leaderHeard" "I", Cond.methodLink RX4 26 yX4_readByte, Cond.instanceMethod yX4_readByte, Cond.selects RX4 yX4_readByte yX4_readByte, Cond.code yX4_readByte cX4_readByte 9 none, Cond.fieldLink RX4 9 "CassetteTones$Telling" "values" "[I", Cond.fieldLink RX4 15 "CassetteTones$Telling" "wholeUpTo" "[I", Cond.instanceMethod yX3_tellingCells, Cond.initialized RX3, Cond.selects RX3 yX3_tellingCells yX3_tellingCells, Cond.code yX3_tellingCells cX3_tellingCells 2 (some .int), Cond.fieldLink RX3 21 "CassetteTones$Tape" "manys" "[I", Cond.instanceMethod yX0_wayBy, Cond.selects RX0 yX0_wayBy yX0_wayBy, Cond.code yX0_wayBy cX0_wayBy 2 (some .int), Cond.instanceMethod yX4_stateBy, Cond.selects RX4 yX4_stateBy yX4_stateBy, Cond.code yX4_stateBy cX4_stateBy 4 (some .int), Cond.methodLink RX4 57 yX4_isLost]
def wsX5_loadedBlocks_r3 : List Cond := [Cond.instanceMethod yX4_isLost, Cond.selects RX4 yX4_isLost yX4_isLost, Cond.code yX4_isLost cX4_isLost 2 (some .boolean), Cond.methodLink RX4 53 yX4_isByteWhole, Cond.instanceMethod yX4_isByteWhole, Cond.selects RX4 yX4_isByteWhole yX4_isByteWhole, Cond.code yX4_isByteWhole cX4_isByteWhole 3 (some .boolean), Cond.methodLink RX4 61 yX4_tellsSum, Cond.instanceMethod yX4_tellsSum, Cond.selects RX4 yX4_tellsSum yX4_tellsSum, Cond.code yX4_tellsSum cX4_tellsSum 3 (some .boolean), Cond.methodLink RX0 45 yX0_isWholeTogether, Cond.instanceMethod yX0_isWholeTogether, Cond.selects RX0 yX0_isWholeTogether yX0_isWholeTogether, Cond.code yX0_isWholeTogether cX0_isWholeTogether 5 (some .boolean), Cond.methodLink RX0 56 yX0_byteTogether, Cond.instanceMethod yX0_byteTogether, Cond.selects RX0 yX0_byteTogether yX0_byteTogether, Cond.code yX0_byteTogether cX0_byteTogether 3 (some .int)]
def wsX5_loadedBlocks : List Cond := .code yX5_loadedBlocks cX5_loadedBlocks 5 (some .int) :: ((wsX5_loadedBlocks_r1 ++ (wsX5_loadedBlocks_r2 ++ wsX5_loadedBlocks_r3)) ++ wsX50 ++ wsX30 ++ wsX00 ++ wsX40)
def wsX5_count_r1 : List Cond := [Cond.fieldLink RX5 12 "CassetteTones" "tape" "LCassetteTones$Tape;", Cond.fieldLink RX5 26 "CassetteTones" "pad" "LCassetteTones$Pad;", Cond.fieldLink RX5 33 "CassetteTones" "history" "LCassetteTones$History;", Cond.instanceMethod yX3_cells, Cond.initialized RX3, Cond.selects RX3 yX3_cells yX3_cells, Cond.code yX3_cells cX3_cells 1 (some .int), Cond.fieldLink RX3 24 "CassetteTones$Tape" "firsts" "[I", Cond.fieldLink RX3 36 "CassetteTones$Tape" "blocks" "I", Cond.methodLink RX5 160 yX5_loadedBlocks, Cond.instanceMethod yX5_loadedBlocks, Cond.selects RX5 yX5_loadedBlocks yX5_loadedBlocks, Cond.initialized RX5, Cond.code yX5_loadedBlocks cX5_loadedBlocks 5 (some .int), Cond.methodLink RX5 104 yX5_wayOfLoading, Cond.instanceMethod yX5_wayOfLoading, Cond.selects RX5 yX5_wayOfLoading yX5_wayOfLoading, Cond.code yX5_wayOfLoading cX5_wayOfLoading 2 (some .int), Cond.fieldLink RX5 19 "CassetteTones" "reader" "LCassetteTones$BlockReader;", Cond.instanceMethod yX0_readBlock, Cond.initialized RX0, Cond.selects RX0 yX0_readBlock yX0_readBlock, Cond.code yX0_readBlock cX0_readBlock 4 none, Cond.fieldLink RX0 12 "CassetteTones$BlockReader" "first" "LCassetteTones$Telling;"]
def wsX5_count_r2 : List Cond := [Cond.fieldLink RX0 18 "CassetteTones$BlockReader" "second" "LCassetteTones$Telling;", Cond.instanceMethod yX4_readCells, Cond.initialized RX4, Cond.selects RX4 yX4_readCells yX4_readCells, Cond.code yX4_readCells cX4_readCells 5 none, Cond.fieldLink RX4 18 "CassetteTones$Telling" "many" "I", Cond.methodLink RX4 22 yX4_readLeader, Cond.instanceMethod yX4_readLeader, Cond.selects RX4 yX4_readLeader yX4_readLeader, Cond.code yX4_readLeader cX4_readLeader 7 none, Cond.methodLink RX4 35 Lib.Math.min.name, Cond.static Lib.Math.min.name, Cond.initialized "java/lang/Math", Cond.code Lib.Math.min.name Lib.Math.min.code 2 (some .int), Cond.methodLink RX4 41 Lib.Math.max.name, Cond.static Lib.Math.max.name, Cond.code Lib.Math.max.name Lib.Math.max.code 2 (some .int), Cond.fieldLink RX4 44 "CassetteTones$Telling" "leaderHeard" "I", Cond.methodLink RX4 26 yX4_readByte, Cond.instanceMethod yX4_readByte, Cond.selects RX4 yX4_readByte yX4_readByte, Cond.code yX4_readByte cX4_readByte 9 none, Cond.fieldLink RX4 9 "CassetteTones$Telling" "values" "[I", Cond.fieldLink RX4 15 "CassetteTones$Telling" "wholeUpTo" "[I"]
def wsX5_count_r3 : List Cond := [Cond.instanceMethod yX3_tellingCells, Cond.selects RX3 yX3_tellingCells yX3_tellingCells, Cond.code yX3_tellingCells cX3_tellingCells 2 (some .int), Cond.fieldLink RX3 21 "CassetteTones$Tape" "manys" "[I", Cond.instanceMethod yX0_wayBy, Cond.selects RX0 yX0_wayBy yX0_wayBy, Cond.code yX0_wayBy cX0_wayBy 2 (some .int), Cond.instanceMethod yX4_stateBy, Cond.selects RX4 yX4_stateBy yX4_stateBy, Cond.code yX4_stateBy cX4_stateBy 4 (some .int), Cond.methodLink RX4 57 yX4_isLost, Cond.instanceMethod yX4_isLost, Cond.selects RX4 yX4_isLost yX4_isLost, Cond.code yX4_isLost cX4_isLost 2 (some .boolean), Cond.methodLink RX4 53 yX4_isByteWhole, Cond.instanceMethod yX4_isByteWhole, Cond.selects RX4 yX4_isByteWhole yX4_isByteWhole, Cond.code yX4_isByteWhole cX4_isByteWhole 3 (some .boolean), Cond.methodLink RX4 61 yX4_tellsSum, Cond.instanceMethod yX4_tellsSum, Cond.selects RX4 yX4_tellsSum yX4_tellsSum, Cond.code yX4_tellsSum cX4_tellsSum 3 (some .boolean), Cond.methodLink RX0 45 yX0_isWholeTogether, Cond.instanceMethod yX0_isWholeTogether]
def wsX5_count_r4 : List Cond := [Cond.selects RX0 yX0_isWholeTogether yX0_isWholeTogether, Cond.code yX0_isWholeTogether cX0_isWholeTogether 5 (some .boolean), Cond.methodLink RX0 56 yX0_byteTogether, Cond.instanceMethod yX0_byteTogether, Cond.selects RX0 yX0_byteTogether yX0_byteTogether, Cond.code yX0_byteTogether cX0_byteTogether 3 (some .int), Cond.instanceMethod yX3_silentCells, Cond.selects RX3 yX3_silentCells yX3_silentCells, Cond.code yX3_silentCells cX3_silentCells 4 (some .int), Cond.fieldLink RX3 27 "CassetteTones$Tape" "volumes" "[I", Cond.fieldLink RX3 9 "CassetteTones$Tape" "settings" "[I", Cond.methodLink RX3 46 yX3_cells, Cond.instanceMethod yX3_badCells, Cond.selects RX3 yX3_badCells yX3_badCells, Cond.code yX3_badCells cX3_badCells 4 (some .int), Cond.fieldLink RX3 30 "CassetteTones$Tape" "bad" "[I"]
def wsX5_count : List Cond := .code yX5_count cX5_count 2 (some .int) :: ((wsX5_count_r1 ++ (wsX5_count_r2 ++ (wsX5_count_r3 ++ wsX5_count_r4))) ++ wsX50 ++ wsX30 ++ wsX20 ++ wsX10 ++ wsX00 ++ wsX40)
def wsX5_holds : List Cond := .code yX5_holds cX5_holds 2 (some .boolean) :: ([])
def wsX5_reached_r1 : List Cond := [Cond.fieldLink RX5 12 "CassetteTones" "tape" "LCassetteTones$Tape;", Cond.methodLink RX5 176 yX5_holds, Cond.static yX5_holds, Cond.initialized RX5, Cond.code yX5_holds cX5_holds 2 (some .boolean), Cond.methodLink RX5 104 yX5_wayOfLoading, Cond.instanceMethod yX5_wayOfLoading, Cond.selects RX5 yX5_wayOfLoading yX5_wayOfLoading, Cond.code yX5_wayOfLoading cX5_wayOfLoading 2 (some .int), Cond.fieldLink RX5 19 "CassetteTones" "reader" "LCassetteTones$BlockReader;", Cond.instanceMethod yX0_readBlock, Cond.initialized RX0, Cond.selects RX0 yX0_readBlock yX0_readBlock, Cond.code yX0_readBlock cX0_readBlock 4 none, Cond.fieldLink RX0 12 "CassetteTones$BlockReader" "first" "LCassetteTones$Telling;", Cond.fieldLink RX0 18 "CassetteTones$BlockReader" "second" "LCassetteTones$Telling;", Cond.instanceMethod yX4_readCells, Cond.initialized RX4, Cond.selects RX4 yX4_readCells yX4_readCells, Cond.code yX4_readCells cX4_readCells 5 none, Cond.fieldLink RX4 18 "CassetteTones$Telling" "many" "I", Cond.methodLink RX4 22 yX4_readLeader, Cond.instanceMethod yX4_readLeader, Cond.selects RX4 yX4_readLeader yX4_readLeader]
def wsX5_reached_r2 : List Cond := [Cond.code yX4_readLeader cX4_readLeader 7 none, Cond.methodLink RX4 35 Lib.Math.min.name, Cond.static Lib.Math.min.name, Cond.initialized "java/lang/Math", Cond.code Lib.Math.min.name Lib.Math.min.code 2 (some .int), Cond.methodLink RX4 41 Lib.Math.max.name, Cond.static Lib.Math.max.name, Cond.code Lib.Math.max.name Lib.Math.max.code 2 (some .int), Cond.fieldLink RX4 44 "CassetteTones$Telling" "leaderHeard" "I", Cond.methodLink RX4 26 yX4_readByte, Cond.instanceMethod yX4_readByte, Cond.selects RX4 yX4_readByte yX4_readByte, Cond.code yX4_readByte cX4_readByte 9 none, Cond.fieldLink RX4 9 "CassetteTones$Telling" "values" "[I", Cond.fieldLink RX4 15 "CassetteTones$Telling" "wholeUpTo" "[I", Cond.instanceMethod yX3_tellingCells, Cond.initialized RX3, Cond.selects RX3 yX3_tellingCells yX3_tellingCells, Cond.code yX3_tellingCells cX3_tellingCells 2 (some .int), Cond.fieldLink RX3 21 "CassetteTones$Tape" "manys" "[I", Cond.instanceMethod yX0_wayBy, Cond.selects RX0 yX0_wayBy yX0_wayBy, Cond.code yX0_wayBy cX0_wayBy 2 (some .int), Cond.instanceMethod yX4_stateBy]
def wsX5_reached_r3 : List Cond := [Cond.selects RX4 yX4_stateBy yX4_stateBy, Cond.code yX4_stateBy cX4_stateBy 4 (some .int), Cond.methodLink RX4 57 yX4_isLost, Cond.instanceMethod yX4_isLost, Cond.selects RX4 yX4_isLost yX4_isLost, Cond.code yX4_isLost cX4_isLost 2 (some .boolean), Cond.methodLink RX4 53 yX4_isByteWhole, Cond.instanceMethod yX4_isByteWhole, Cond.selects RX4 yX4_isByteWhole yX4_isByteWhole, Cond.code yX4_isByteWhole cX4_isByteWhole 3 (some .boolean), Cond.methodLink RX4 61 yX4_tellsSum, Cond.instanceMethod yX4_tellsSum, Cond.selects RX4 yX4_tellsSum yX4_tellsSum, Cond.code yX4_tellsSum cX4_tellsSum 3 (some .boolean), Cond.methodLink RX0 45 yX0_isWholeTogether, Cond.instanceMethod yX0_isWholeTogether, Cond.selects RX0 yX0_isWholeTogether yX0_isWholeTogether, Cond.code yX0_isWholeTogether cX0_isWholeTogether 5 (some .boolean), Cond.methodLink RX0 56 yX0_byteTogether, Cond.instanceMethod yX0_byteTogether, Cond.selects RX0 yX0_byteTogether yX0_byteTogether, Cond.code yX0_byteTogether cX0_byteTogether 3 (some .int)]
def wsX5_reached : List Cond := .code yX5_reached cX5_reached 4 (some .int) :: ((wsX5_reached_r1 ++ (wsX5_reached_r2 ++ wsX5_reached_r3)) ++ wsX50 ++ wsX30 ++ wsX00 ++ wsX40)
def wsX5_near : List Cond := .code yX5_near cX5_near 4 (some .int) :: ([.fieldLink RX5 12 "CassetteTones" "tape" "LCassetteTones$Tape;", .instanceMethod yX3_nearerBlocks, .initialized RX3, .selects RX3 yX3_nearerBlocks yX3_nearerBlocks, .code yX3_nearerBlocks cX3_nearerBlocks 7 (some .int), .fieldLink RX3 36 "CassetteTones$Tape" "blocks" "I", .methodLink RX3 92 yX3_distanceOf, .instanceMethod yX3_distanceOf, .selects RX3 yX3_distanceOf yX3_distanceOf, .code yX3_distanceOf cX3_distanceOf 4 (some .int), .fieldLink RX3 24 "CassetteTones$Tape" "firsts" "[I", .methodLink RX3 83 Lib.Math.abs.name, .static Lib.Math.abs.name, .initialized "java/lang/Math", .code Lib.Math.abs.name Lib.Math.abs.code 1 (some .int), .methodLink RX3 88 Lib.Math.min.name, .static Lib.Math.min.name, .code Lib.Math.min.name Lib.Math.min.code 2 (some .int), .methodLink RX3 80 yX3_counterOf, .instanceMethod yX3_counterOf, .selects RX3 yX3_counterOf yX3_counterOf, .code yX3_counterOf cX3_counterOf 2 (some .int), .fieldLink RX3 9 "CassetteTones$Tape" "settings" "[I"] ++ wsX50 ++ wsX30)
def wsX5_mostLeast_r1 : List Cond := [Cond.fieldLink RX5 12 "CassetteTones" "tape" "LCassetteTones$Tape;", Cond.fieldLink RX5 19 "CassetteTones" "reader" "LCassetteTones$BlockReader;", Cond.instanceMethod yX3_hasBlock, Cond.initialized RX3, Cond.selects RX3 yX3_hasBlock yX3_hasBlock, Cond.code yX3_hasBlock cX3_hasBlock 2 (some .boolean), Cond.fieldLink RX3 36 "CassetteTones$Tape" "blocks" "I", Cond.instanceMethod yX0_readBlock, Cond.initialized RX0, Cond.selects RX0 yX0_readBlock yX0_readBlock, Cond.code yX0_readBlock cX0_readBlock 4 none, Cond.fieldLink RX0 12 "CassetteTones$BlockReader" "first" "LCassetteTones$Telling;", Cond.fieldLink RX0 18 "CassetteTones$BlockReader" "second" "LCassetteTones$Telling;", Cond.instanceMethod yX4_readCells, Cond.initialized RX4, Cond.selects RX4 yX4_readCells yX4_readCells, Cond.code yX4_readCells cX4_readCells 5 none, Cond.fieldLink RX4 18 "CassetteTones$Telling" "many" "I", Cond.methodLink RX4 22 yX4_readLeader, Cond.instanceMethod yX4_readLeader, Cond.selects RX4 yX4_readLeader yX4_readLeader, Cond.code yX4_readLeader cX4_readLeader 7 none, Cond.methodLink RX4 35 Lib.Math.min.name, Cond.static Lib.Math.min.name]
def wsX5_mostLeast_r2 : List Cond := [Cond.initialized "java/lang/Math", Cond.code Lib.Math.min.name Lib.Math.min.code 2 (some .int), Cond.methodLink RX4 41 Lib.Math.max.name, Cond.static Lib.Math.max.name, Cond.code Lib.Math.max.name Lib.Math.max.code 2 (some .int), Cond.fieldLink RX4 44 "CassetteTones$Telling" "leaderHeard" "I", Cond.methodLink RX4 26 yX4_readByte, Cond.instanceMethod yX4_readByte, Cond.selects RX4 yX4_readByte yX4_readByte, Cond.code yX4_readByte cX4_readByte 9 none, Cond.fieldLink RX4 9 "CassetteTones$Telling" "values" "[I", Cond.fieldLink RX4 15 "CassetteTones$Telling" "wholeUpTo" "[I", Cond.instanceMethod yX3_tellingCells, Cond.selects RX3 yX3_tellingCells yX3_tellingCells, Cond.code yX3_tellingCells cX3_tellingCells 2 (some .int), Cond.fieldLink RX3 21 "CassetteTones$Tape" "manys" "[I", Cond.instanceMethod yX0_wayBy, Cond.selects RX0 yX0_wayBy yX0_wayBy, Cond.code yX0_wayBy cX0_wayBy 2 (some .int), Cond.instanceMethod yX4_stateBy, Cond.selects RX4 yX4_stateBy yX4_stateBy, Cond.code yX4_stateBy cX4_stateBy 4 (some .int), Cond.methodLink RX4 57 yX4_isLost, Cond.instanceMethod yX4_isLost]
def wsX5_mostLeast_r3 : List Cond := [Cond.selects RX4 yX4_isLost yX4_isLost, Cond.code yX4_isLost cX4_isLost 2 (some .boolean), Cond.methodLink RX4 53 yX4_isByteWhole, Cond.instanceMethod yX4_isByteWhole, Cond.selects RX4 yX4_isByteWhole yX4_isByteWhole, Cond.code yX4_isByteWhole cX4_isByteWhole 3 (some .boolean), Cond.methodLink RX4 61 yX4_tellsSum, Cond.instanceMethod yX4_tellsSum, Cond.selects RX4 yX4_tellsSum yX4_tellsSum, Cond.code yX4_tellsSum cX4_tellsSum 3 (some .boolean), Cond.methodLink RX0 45 yX0_isWholeTogether, Cond.instanceMethod yX0_isWholeTogether, Cond.selects RX0 yX0_isWholeTogether yX0_isWholeTogether, Cond.code yX0_isWholeTogether cX0_isWholeTogether 5 (some .boolean), Cond.methodLink RX0 56 yX0_byteTogether, Cond.instanceMethod yX0_byteTogether, Cond.selects RX0 yX0_byteTogether yX0_byteTogether, Cond.code yX0_byteTogether cX0_byteTogether 3 (some .int)]
def wsX5_mostLeast : List Cond := .code yX5_mostLeast cX5_mostLeast 3 (some .int) :: ((wsX5_mostLeast_r1 ++ (wsX5_mostLeast_r2 ++ wsX5_mostLeast_r3)) ++ wsX50 ++ wsX30 ++ wsX00 ++ wsX40)
def wsX5_weak_r1 : List Cond := [Cond.fieldLink RX5 12 "CassetteTones" "tape" "LCassetteTones$Tape;", Cond.instanceMethod yX3_hasBlock, Cond.initialized RX3, Cond.selects RX3 yX3_hasBlock yX3_hasBlock, Cond.code yX3_hasBlock cX3_hasBlock 2 (some .boolean), Cond.fieldLink RX3 36 "CassetteTones$Tape" "blocks" "I", Cond.methodLink RX5 100 yX5_stateOfTelling, Cond.instanceMethod yX5_stateOfTelling, Cond.selects RX5 yX5_stateOfTelling yX5_stateOfTelling, Cond.initialized RX5, Cond.code yX5_stateOfTelling cX5_stateOfTelling 3 (some .int), Cond.fieldLink RX5 19 "CassetteTones" "reader" "LCassetteTones$BlockReader;", Cond.instanceMethod yX0_readBlock, Cond.initialized RX0, Cond.selects RX0 yX0_readBlock yX0_readBlock, Cond.code yX0_readBlock cX0_readBlock 4 none, Cond.fieldLink RX0 12 "CassetteTones$BlockReader" "first" "LCassetteTones$Telling;", Cond.fieldLink RX0 18 "CassetteTones$BlockReader" "second" "LCassetteTones$Telling;", Cond.instanceMethod yX4_readCells, Cond.initialized RX4, Cond.selects RX4 yX4_readCells yX4_readCells, Cond.code yX4_readCells cX4_readCells 5 none, Cond.fieldLink RX4 18 "CassetteTones$Telling" "many" "I", Cond.methodLink RX4 22 yX4_readLeader]
def wsX5_weak_r2 : List Cond := [Cond.instanceMethod yX4_readLeader, Cond.selects RX4 yX4_readLeader yX4_readLeader, Cond.code yX4_readLeader cX4_readLeader 7 none, Cond.methodLink RX4 35 Lib.Math.min.name, Cond.static Lib.Math.min.name, Cond.initialized "java/lang/Math", Cond.code Lib.Math.min.name Lib.Math.min.code 2 (some .int), Cond.methodLink RX4 41 Lib.Math.max.name, Cond.static Lib.Math.max.name, Cond.code Lib.Math.max.name Lib.Math.max.code 2 (some .int), Cond.fieldLink RX4 44 "CassetteTones$Telling" "leaderHeard" "I", Cond.methodLink RX4 26 yX4_readByte, Cond.instanceMethod yX4_readByte, Cond.selects RX4 yX4_readByte yX4_readByte, Cond.code yX4_readByte cX4_readByte 9 none, Cond.fieldLink RX4 9 "CassetteTones$Telling" "values" "[I", Cond.fieldLink RX4 15 "CassetteTones$Telling" "wholeUpTo" "[I", Cond.instanceMethod yX3_tellingCells, Cond.selects RX3 yX3_tellingCells yX3_tellingCells, Cond.code yX3_tellingCells cX3_tellingCells 2 (some .int), Cond.fieldLink RX3 21 "CassetteTones$Tape" "manys" "[I", Cond.instanceMethod yX4_stateBy, Cond.selects RX4 yX4_stateBy yX4_stateBy, Cond.code yX4_stateBy cX4_stateBy 4 (some .int)]
def wsX5_weak_r3 : List Cond := [Cond.methodLink RX4 57 yX4_isLost, Cond.instanceMethod yX4_isLost, Cond.selects RX4 yX4_isLost yX4_isLost, Cond.code yX4_isLost cX4_isLost 2 (some .boolean), Cond.methodLink RX4 53 yX4_isByteWhole, Cond.instanceMethod yX4_isByteWhole, Cond.selects RX4 yX4_isByteWhole yX4_isByteWhole, Cond.code yX4_isByteWhole cX4_isByteWhole 3 (some .boolean), Cond.methodLink RX4 61 yX4_tellsSum, Cond.instanceMethod yX4_tellsSum, Cond.selects RX4 yX4_tellsSum yX4_tellsSum, Cond.code yX4_tellsSum cX4_tellsSum 3 (some .boolean)]
def wsX5_weak : List Cond := .code yX5_weak cX5_weak 3 (some .int) :: ((wsX5_weak_r1 ++ (wsX5_weak_r2 ++ wsX5_weak_r3)) ++ wsX50 ++ wsX30 ++ wsX00 ++ wsX40)
def wsX5_countBelow : List Cond := .code yX5_countBelow cX5_countBelow 4 none :: ([.fieldLink RX5 45 "CassetteTones" "below" "[I", .fieldLink RX5 12 "CassetteTones" "tape" "LCassetteTones$Tape;", .methodLink RX5 176 yX5_holds, .static yX5_holds, .initialized RX5, .code yX5_holds cX5_holds 2 (some .boolean)] ++ wsX50 ++ wsX30)
def wsX5_widest_r1 : List Cond := [Cond.fieldLink RX5 12 "CassetteTones" "tape" "LCassetteTones$Tape;", Cond.fieldLink RX5 45 "CassetteTones" "below" "[I", Cond.methodLink RX5 188 yX5_reached, Cond.instanceMethod yX5_reached, Cond.selects RX5 yX5_reached yX5_reached, Cond.initialized RX5, Cond.code yX5_reached cX5_reached 4 (some .int), Cond.methodLink RX5 176 yX5_holds, Cond.static yX5_holds, Cond.code yX5_holds cX5_holds 2 (some .boolean), Cond.methodLink RX5 104 yX5_wayOfLoading, Cond.instanceMethod yX5_wayOfLoading, Cond.selects RX5 yX5_wayOfLoading yX5_wayOfLoading, Cond.code yX5_wayOfLoading cX5_wayOfLoading 2 (some .int), Cond.fieldLink RX5 19 "CassetteTones" "reader" "LCassetteTones$BlockReader;", Cond.instanceMethod yX0_readBlock, Cond.initialized RX0, Cond.selects RX0 yX0_readBlock yX0_readBlock, Cond.code yX0_readBlock cX0_readBlock 4 none, Cond.fieldLink RX0 12 "CassetteTones$BlockReader" "first" "LCassetteTones$Telling;", Cond.fieldLink RX0 18 "CassetteTones$BlockReader" "second" "LCassetteTones$Telling;", Cond.instanceMethod yX4_readCells, Cond.initialized RX4, Cond.selects RX4 yX4_readCells yX4_readCells]
def wsX5_widest_r2 : List Cond := [Cond.code yX4_readCells cX4_readCells 5 none, Cond.fieldLink RX4 18 "CassetteTones$Telling" "many" "I", Cond.methodLink RX4 22 yX4_readLeader, Cond.instanceMethod yX4_readLeader, Cond.selects RX4 yX4_readLeader yX4_readLeader, Cond.code yX4_readLeader cX4_readLeader 7 none, Cond.methodLink RX4 35 Lib.Math.min.name, Cond.static Lib.Math.min.name, Cond.initialized "java/lang/Math", Cond.code Lib.Math.min.name Lib.Math.min.code 2 (some .int), Cond.methodLink RX4 41 Lib.Math.max.name, Cond.static Lib.Math.max.name, Cond.code Lib.Math.max.name Lib.Math.max.code 2 (some .int), Cond.fieldLink RX4 44 "CassetteTones$Telling" "leaderHeard" "I", Cond.methodLink RX4 26 yX4_readByte, Cond.instanceMethod yX4_readByte, Cond.selects RX4 yX4_readByte yX4_readByte, Cond.code yX4_readByte cX4_readByte 9 none, Cond.fieldLink RX4 9 "CassetteTones$Telling" "values" "[I", Cond.fieldLink RX4 15 "CassetteTones$Telling" "wholeUpTo" "[I", Cond.instanceMethod yX3_tellingCells, Cond.initialized RX3, Cond.selects RX3 yX3_tellingCells yX3_tellingCells, Cond.code yX3_tellingCells cX3_tellingCells 2 (some .int)]
def wsX5_widest_r3 : List Cond := [Cond.fieldLink RX3 21 "CassetteTones$Tape" "manys" "[I", Cond.instanceMethod yX0_wayBy, Cond.selects RX0 yX0_wayBy yX0_wayBy, Cond.code yX0_wayBy cX0_wayBy 2 (some .int), Cond.instanceMethod yX4_stateBy, Cond.selects RX4 yX4_stateBy yX4_stateBy, Cond.code yX4_stateBy cX4_stateBy 4 (some .int), Cond.methodLink RX4 57 yX4_isLost, Cond.instanceMethod yX4_isLost, Cond.selects RX4 yX4_isLost yX4_isLost, Cond.code yX4_isLost cX4_isLost 2 (some .boolean), Cond.methodLink RX4 53 yX4_isByteWhole, Cond.instanceMethod yX4_isByteWhole, Cond.selects RX4 yX4_isByteWhole yX4_isByteWhole, Cond.code yX4_isByteWhole cX4_isByteWhole 3 (some .boolean), Cond.methodLink RX4 61 yX4_tellsSum, Cond.instanceMethod yX4_tellsSum, Cond.selects RX4 yX4_tellsSum yX4_tellsSum, Cond.code yX4_tellsSum cX4_tellsSum 3 (some .boolean), Cond.methodLink RX0 45 yX0_isWholeTogether, Cond.instanceMethod yX0_isWholeTogether, Cond.selects RX0 yX0_isWholeTogether yX0_isWholeTogether, Cond.code yX0_isWholeTogether cX0_isWholeTogether 5 (some .boolean), Cond.methodLink RX0 56 yX0_byteTogether]
def wsX5_widest_r4 : List Cond := [Cond.instanceMethod yX0_byteTogether, Cond.selects RX0 yX0_byteTogether yX0_byteTogether, Cond.code yX0_byteTogether cX0_byteTogether 3 (some .int), Cond.methodLink RX5 191 yX5_countBelow, Cond.instanceMethod yX5_countBelow, Cond.selects RX5 yX5_countBelow yX5_countBelow, Cond.code yX5_countBelow cX5_countBelow 4 none]
def wsX5_widest : List Cond := .code yX5_widest cX5_widest 5 (some .int) :: ((wsX5_widest_r1 ++ (wsX5_widest_r2 ++ (wsX5_widest_r3 ++ wsX5_widest_r4))) ++ wsX50 ++ wsX30 ++ wsX00 ++ wsX40)
def wsX5_put : List Cond := .code yX5_put cX5_put 4 (some .int) :: ([.fieldLink RX5 26 "CassetteTones" "pad" "LCassetteTones$Pad;", .instanceMethod yX2_charactersIn, .initialized RX2, .selects RX2 yX2_charactersIn yX2_charactersIn, .code yX2_charactersIn cX2_charactersIn 7 (some .int), .instanceMethod yX2_append, .selects RX2 yX2_append yX2_append, .code yX2_append cX2_append 6 none, .fieldLink RX2 15 "CassetteTones$Pad" "length" "I", .fieldLink RX2 9 "CassetteTones$Pad" "characters" "[C"] ++ wsX50 ++ wsX20)
def wsX5_wipe : List Cond := .code yX5_wipe cX5_wipe 2 (some .int) :: ([.fieldLink RX5 26 "CassetteTones" "pad" "LCassetteTones$Pad;"] ++ wsX50 ++ wsX20)
def wsX5_fault_r1 : List Cond := [Cond.fieldLink RX5 26 "CassetteTones" "pad" "LCassetteTones$Pad;", Cond.instanceMethod yX2_findFault, Cond.initialized RX2, Cond.selects RX2 yX2_findFault yX2_findFault, Cond.code yX2_findFault cX2_findFault 2 (some .int), Cond.fieldLink RX2 19 "CassetteTones$Pad" "at" "I", Cond.fieldLink RX2 15 "CassetteTones$Pad" "length" "I", Cond.methodLink RX2 22 yX2_takeOrder, Cond.instanceMethod yX2_takeOrder, Cond.selects RX2 yX2_takeOrder yX2_takeOrder, Cond.code yX2_takeOrder cX2_takeOrder 1 (some .boolean), Cond.fieldLink RX2 34 "CassetteTones$Pad" "kind" "C", Cond.fieldLink RX2 42 "CassetteTones$Pad" "number" "I", Cond.methodLink RX2 30 yX2_nextCharacter, Cond.instanceMethod yX2_nextCharacter, Cond.selects RX2 yX2_nextCharacter yX2_nextCharacter, Cond.code yX2_nextCharacter cX2_nextCharacter 1 (some .char), Cond.fieldLink RX2 9 "CassetteTones$Pad" "characters" "[C", Cond.methodLink RX2 38 yX2_takeNumber, Cond.instanceMethod yX2_takeNumber, Cond.selects RX2 yX2_takeNumber yX2_takeNumber, Cond.code yX2_takeNumber cX2_takeNumber 4 (some .int), Cond.methodLink RX2 78 yX2_nextDigit, Cond.instanceMethod yX2_nextDigit]
def wsX5_fault_r2 : List Cond := [Cond.selects RX2 yX2_nextDigit yX2_nextDigit, Cond.code yX2_nextDigit cX2_nextDigit 2 (some .int), Cond.methodLink RX2 45 yX2_takeUnder, Cond.instanceMethod yX2_takeUnder, Cond.selects RX2 yX2_takeUnder yX2_takeUnder, Cond.code yX2_takeUnder cX2_takeUnder 1 (some .boolean), Cond.fieldLink RX2 54 "CassetteTones$Pad" "under" "I", Cond.methodLink RX2 26 yX2_takeSign, Cond.instanceMethod yX2_takeSign, Cond.selects RX2 yX2_takeSign yX2_takeSign, Cond.code yX2_takeSign cX2_takeSign 2 (some .boolean), Cond.methodLink RX2 48 yX2_takeBytes, Cond.instanceMethod yX2_takeBytes, Cond.selects RX2 yX2_takeBytes yX2_takeBytes, Cond.code yX2_takeBytes cX2_takeBytes 3 (some .boolean), Cond.fieldLink RX2 57 "CassetteTones$Pad" "many" "I", Cond.fieldLink RX2 60 "CassetteTones$Pad" "bytes" "J", Cond.fieldLink RX2 64 "CassetteTones$Pad" "byteTooGreat" "Z", Cond.methodLink RX2 68 yX2_addByte, Cond.instanceMethod yX2_addByte, Cond.selects RX2 yX2_addByte yX2_addByte, Cond.code yX2_addByte cX2_addByte 2 none, Cond.methodLink RX2 51 yX2_takeFading, Cond.instanceMethod yX2_takeFading]
def wsX5_fault_r3 : List Cond := [Cond.selects RX2 yX2_takeFading yX2_takeFading, Cond.code yX2_takeFading cX2_takeFading 1 (some .boolean), Cond.fieldLink RX2 72 "CassetteTones$Pad" "to" "I", Cond.fieldLink RX2 75 "CassetteTones$Pad" "volume" "I"]
def wsX5_fault : List Cond := .code yX5_fault cX5_fault 1 (some .int) :: ((wsX5_fault_r1 ++ (wsX5_fault_r2 ++ wsX5_fault_r3)) ++ wsX50 ++ wsX20)
def wsX5_carryBlockOut_r1 : List Cond := [Cond.fieldLink RX5 12 "CassetteTones" "tape" "LCassetteTones$Tape;", Cond.fieldLink RX5 26 "CassetteTones" "pad" "LCassetteTones$Pad;", Cond.instanceMethod yX3_errorOfBlock, Cond.initialized RX3, Cond.selects RX3 yX3_errorOfBlock yX3_errorOfBlock, Cond.code yX3_errorOfBlock cX3_errorOfBlock 4 (some .int), Cond.fieldLink RX3 36 "CassetteTones$Tape" "blocks" "I", Cond.methodLink RX3 50 yX3_hasBlock, Cond.instanceMethod yX3_hasBlock, Cond.selects RX3 yX3_hasBlock yX3_hasBlock, Cond.code yX3_hasBlock cX3_hasBlock 2 (some .boolean), Cond.instanceMethod yX3_appendBlock, Cond.selects RX3 yX3_appendBlock yX3_appendBlock, Cond.code yX3_appendBlock cX3_appendBlock 11 (some .int), Cond.fieldLink RX3 15 "CassetteTones$Tape" "names" "[I", Cond.fieldLink RX3 18 "CassetteTones$Tape" "unders" "[I", Cond.fieldLink RX3 21 "CassetteTones$Tape" "manys" "[I", Cond.fieldLink RX3 24 "CassetteTones$Tape" "firsts" "[I", Cond.fieldLink RX3 27 "CassetteTones$Tape" "volumes" "[I", Cond.fieldLink RX3 9 "CassetteTones$Tape" "settings" "[I", Cond.fieldLink RX3 30 "CassetteTones$Tape" "bad" "[I", Cond.methodLink RX3 54 yX3_tellingCells, Cond.instanceMethod yX3_tellingCells, Cond.selects RX3 yX3_tellingCells yX3_tellingCells]
def wsX5_carryBlockOut_r2 : List Cond := [Cond.code yX3_tellingCells cX3_tellingCells 2 (some .int), Cond.methodLink RX3 58 yX3_writeTelling, Cond.instanceMethod yX3_writeTelling, Cond.selects RX3 yX3_writeTelling yX3_writeTelling, Cond.code yX3_writeTelling cX3_writeTelling 8 none, Cond.methodLink RX3 62 yX3_writeByte, Cond.instanceMethod yX3_writeByte, Cond.selects RX3 yX3_writeByte yX3_writeByte, Cond.code yX3_writeByte cX3_writeByte 4 none, Cond.fieldLink RX3 33 "CassetteTones$Tape" "written" "[I", Cond.methodLink RX3 66 yJ6_bitCount_0f7a4, Cond.static yJ6_bitCount_0f7a4, Cond.initialized RJ6, Cond.code yJ6_bitCount_0f7a4 cJ6_bitCount_0f7a4 1 (some .int), Cond.constant RJ6 265 (1431655765), Cond.constant RJ6 266 (858993459), Cond.constant RJ6 267 (252645135)]
def wsX5_carryBlockOut : List Cond := .code yX5_carryBlockOut cX5_carryBlockOut 2 (some .int) :: ((wsX5_carryBlockOut_r1 ++ wsX5_carryBlockOut_r2) ++ wsX50 ++ wsX20 ++ wsX30)
def wsX5_carryFadingOut : List Cond := .code yX5_carryFadingOut cX5_carryFadingOut 2 (some .int) :: ([.fieldLink RX5 12 "CassetteTones" "tape" "LCassetteTones$Tape;", .fieldLink RX5 26 "CassetteTones" "pad" "LCassetteTones$Pad;", .instanceMethod yX3_errorOfFading, .initialized RX3, .selects RX3 yX3_errorOfFading yX3_errorOfFading, .code yX3_errorOfFading cX3_errorOfFading 4 (some .int), .methodLink RX3 71 yX3_hasCell, .instanceMethod yX3_hasCell, .selects RX3 yX3_hasCell yX3_hasCell, .code yX3_hasCell cX3_hasCell 2 (some .boolean), .methodLink RX3 46 yX3_cells, .instanceMethod yX3_cells, .selects RX3 yX3_cells yX3_cells, .code yX3_cells cX3_cells 1 (some .int), .fieldLink RX3 24 "CassetteTones$Tape" "firsts" "[I", .fieldLink RX3 36 "CassetteTones$Tape" "blocks" "I", .instanceMethod yX3_fadeCells, .selects RX3 yX3_fadeCells yX3_fadeCells, .code yX3_fadeCells cX3_fadeCells 6 (some .int), .fieldLink RX3 27 "CassetteTones$Tape" "volumes" "[I"] ++ wsX50 ++ wsX20 ++ wsX30)
def wsX5_carryOrderOut_r1 : List Cond := [Cond.fieldLink RX5 26 "CassetteTones" "pad" "LCassetteTones$Pad;", Cond.fieldLink RX5 12 "CassetteTones" "tape" "LCassetteTones$Tape;", Cond.methodLink RX5 233 yX5_carryBlockOut, Cond.instanceMethod yX5_carryBlockOut, Cond.selects RX5 yX5_carryBlockOut yX5_carryBlockOut, Cond.initialized RX5, Cond.code yX5_carryBlockOut cX5_carryBlockOut 2 (some .int), Cond.instanceMethod yX3_errorOfBlock, Cond.initialized RX3, Cond.selects RX3 yX3_errorOfBlock yX3_errorOfBlock, Cond.code yX3_errorOfBlock cX3_errorOfBlock 4 (some .int), Cond.fieldLink RX3 36 "CassetteTones$Tape" "blocks" "I", Cond.methodLink RX3 50 yX3_hasBlock, Cond.instanceMethod yX3_hasBlock, Cond.selects RX3 yX3_hasBlock yX3_hasBlock, Cond.code yX3_hasBlock cX3_hasBlock 2 (some .boolean), Cond.instanceMethod yX3_appendBlock, Cond.selects RX3 yX3_appendBlock yX3_appendBlock, Cond.code yX3_appendBlock cX3_appendBlock 11 (some .int), Cond.fieldLink RX3 15 "CassetteTones$Tape" "names" "[I", Cond.fieldLink RX3 18 "CassetteTones$Tape" "unders" "[I", Cond.fieldLink RX3 21 "CassetteTones$Tape" "manys" "[I", Cond.fieldLink RX3 24 "CassetteTones$Tape" "firsts" "[I", Cond.fieldLink RX3 27 "CassetteTones$Tape" "volumes" "[I"]
def wsX5_carryOrderOut_r2 : List Cond := [Cond.fieldLink RX3 9 "CassetteTones$Tape" "settings" "[I", Cond.fieldLink RX3 30 "CassetteTones$Tape" "bad" "[I", Cond.methodLink RX3 54 yX3_tellingCells, Cond.instanceMethod yX3_tellingCells, Cond.selects RX3 yX3_tellingCells yX3_tellingCells, Cond.code yX3_tellingCells cX3_tellingCells 2 (some .int), Cond.methodLink RX3 58 yX3_writeTelling, Cond.instanceMethod yX3_writeTelling, Cond.selects RX3 yX3_writeTelling yX3_writeTelling, Cond.code yX3_writeTelling cX3_writeTelling 8 none, Cond.methodLink RX3 62 yX3_writeByte, Cond.instanceMethod yX3_writeByte, Cond.selects RX3 yX3_writeByte yX3_writeByte, Cond.code yX3_writeByte cX3_writeByte 4 none, Cond.fieldLink RX3 33 "CassetteTones$Tape" "written" "[I", Cond.methodLink RX3 66 yJ6_bitCount_0f7a4, Cond.static yJ6_bitCount_0f7a4, Cond.initialized RJ6, Cond.code yJ6_bitCount_0f7a4 cJ6_bitCount_0f7a4 1 (some .int), Cond.constant RJ6 265 (1431655765), Cond.constant RJ6 266 (858993459), Cond.constant RJ6 267 (252645135), Cond.methodLink RX5 236 yX5_carryFadingOut, Cond.instanceMethod yX5_carryFadingOut]
def wsX5_carryOrderOut_r3 : List Cond := [Cond.selects RX5 yX5_carryFadingOut yX5_carryFadingOut, Cond.code yX5_carryFadingOut cX5_carryFadingOut 2 (some .int), Cond.instanceMethod yX3_errorOfFading, Cond.selects RX3 yX3_errorOfFading yX3_errorOfFading, Cond.code yX3_errorOfFading cX3_errorOfFading 4 (some .int), Cond.methodLink RX3 71 yX3_hasCell, Cond.instanceMethod yX3_hasCell, Cond.selects RX3 yX3_hasCell yX3_hasCell, Cond.code yX3_hasCell cX3_hasCell 2 (some .boolean), Cond.methodLink RX3 46 yX3_cells, Cond.instanceMethod yX3_cells, Cond.selects RX3 yX3_cells yX3_cells, Cond.code yX3_cells cX3_cells 1 (some .int), Cond.instanceMethod yX3_fadeCells, Cond.selects RX3 yX3_fadeCells yX3_fadeCells, Cond.code yX3_fadeCells cX3_fadeCells 6 (some .int), Cond.instanceMethod yX3_spoilCell, Cond.selects RX3 yX3_spoilCell yX3_spoilCell, Cond.code yX3_spoilCell cX3_spoilCell 2 (some .int)]
def wsX5_carryOrderOut : List Cond := .code yX5_carryOrderOut cX5_carryOrderOut 1 (some .int) :: ((wsX5_carryOrderOut_r1 ++ (wsX5_carryOrderOut_r2 ++ wsX5_carryOrderOut_r3)) ++ wsX50 ++ wsX20 ++ wsX30)
def wsX5_carryOut_r1 : List Cond := [Cond.fieldLink RX5 26 "CassetteTones" "pad" "LCassetteTones$Pad;", Cond.fieldLink RX5 33 "CassetteTones" "history" "LCassetteTones$History;", Cond.fieldLink RX5 12 "CassetteTones" "tape" "LCassetteTones$Tape;", Cond.instanceMethod yX2_findFault, Cond.initialized RX2, Cond.selects RX2 yX2_findFault yX2_findFault, Cond.code yX2_findFault cX2_findFault 2 (some .int), Cond.fieldLink RX2 19 "CassetteTones$Pad" "at" "I", Cond.fieldLink RX2 15 "CassetteTones$Pad" "length" "I", Cond.methodLink RX2 22 yX2_takeOrder, Cond.instanceMethod yX2_takeOrder, Cond.selects RX2 yX2_takeOrder yX2_takeOrder, Cond.code yX2_takeOrder cX2_takeOrder 1 (some .boolean), Cond.fieldLink RX2 34 "CassetteTones$Pad" "kind" "C", Cond.fieldLink RX2 42 "CassetteTones$Pad" "number" "I", Cond.methodLink RX2 30 yX2_nextCharacter, Cond.instanceMethod yX2_nextCharacter, Cond.selects RX2 yX2_nextCharacter yX2_nextCharacter, Cond.code yX2_nextCharacter cX2_nextCharacter 1 (some .char), Cond.fieldLink RX2 9 "CassetteTones$Pad" "characters" "[C", Cond.methodLink RX2 38 yX2_takeNumber, Cond.instanceMethod yX2_takeNumber, Cond.selects RX2 yX2_takeNumber yX2_takeNumber, Cond.code yX2_takeNumber cX2_takeNumber 4 (some .int)]
def wsX5_carryOut_r2 : List Cond := [Cond.methodLink RX2 78 yX2_nextDigit, Cond.instanceMethod yX2_nextDigit, Cond.selects RX2 yX2_nextDigit yX2_nextDigit, Cond.code yX2_nextDigit cX2_nextDigit 2 (some .int), Cond.methodLink RX2 45 yX2_takeUnder, Cond.instanceMethod yX2_takeUnder, Cond.selects RX2 yX2_takeUnder yX2_takeUnder, Cond.code yX2_takeUnder cX2_takeUnder 1 (some .boolean), Cond.fieldLink RX2 54 "CassetteTones$Pad" "under" "I", Cond.methodLink RX2 26 yX2_takeSign, Cond.instanceMethod yX2_takeSign, Cond.selects RX2 yX2_takeSign yX2_takeSign, Cond.code yX2_takeSign cX2_takeSign 2 (some .boolean), Cond.methodLink RX2 48 yX2_takeBytes, Cond.instanceMethod yX2_takeBytes, Cond.selects RX2 yX2_takeBytes yX2_takeBytes, Cond.code yX2_takeBytes cX2_takeBytes 3 (some .boolean), Cond.fieldLink RX2 57 "CassetteTones$Pad" "many" "I", Cond.fieldLink RX2 60 "CassetteTones$Pad" "bytes" "J", Cond.fieldLink RX2 64 "CassetteTones$Pad" "byteTooGreat" "Z", Cond.methodLink RX2 68 yX2_addByte, Cond.instanceMethod yX2_addByte, Cond.selects RX2 yX2_addByte yX2_addByte, Cond.code yX2_addByte cX2_addByte 2 none]
def wsX5_carryOut_r3 : List Cond := [Cond.methodLink RX2 51 yX2_takeFading, Cond.instanceMethod yX2_takeFading, Cond.selects RX2 yX2_takeFading yX2_takeFading, Cond.code yX2_takeFading cX2_takeFading 1 (some .boolean), Cond.fieldLink RX2 72 "CassetteTones$Pad" "to" "I", Cond.fieldLink RX2 75 "CassetteTones$Pad" "volume" "I", Cond.instanceMethod yX1_record, Cond.initialized RX1, Cond.selects RX1 yX1_record yX1_record, Cond.code yX1_record cX1_record 2 none, Cond.fieldLink RX1 11 "CassetteTones$History" "states" "[LCassetteTones$Tape;", Cond.fieldLink RX1 18 "CassetteTones$History" "oldest" "I", Cond.fieldLink RX1 22 "CassetteTones$History" "size" "I", Cond.instanceMethod yX3_copyFrom, Cond.initialized RX3, Cond.selects RX3 yX3_copyFrom yX3_copyFrom, Cond.code yX3_copyFrom cX3_copyFrom 3 none, Cond.fieldLink RX3 36 "CassetteTones$Tape" "blocks" "I", Cond.fieldLink RX3 9 "CassetteTones$Tape" "settings" "[I", Cond.methodLink RX3 40 arraycopyName, Cond.native arraycopyName, Cond.static arraycopyName, Cond.initialized "java/lang/System", Cond.fieldLink RX3 15 "CassetteTones$Tape" "names" "[I"]
def wsX5_carryOut_r4 : List Cond := [Cond.fieldLink RX3 18 "CassetteTones$Tape" "unders" "[I", Cond.fieldLink RX3 21 "CassetteTones$Tape" "manys" "[I", Cond.fieldLink RX3 24 "CassetteTones$Tape" "firsts" "[I", Cond.fieldLink RX3 27 "CassetteTones$Tape" "volumes" "[I", Cond.fieldLink RX3 30 "CassetteTones$Tape" "bad" "[I", Cond.fieldLink RX3 33 "CassetteTones$Tape" "written" "[I", Cond.methodLink RX3 46 yX3_cells, Cond.instanceMethod yX3_cells, Cond.selects RX3 yX3_cells yX3_cells, Cond.code yX3_cells cX3_cells 1 (some .int), Cond.methodLink RX5 213 yX5_carryOrderOut, Cond.instanceMethod yX5_carryOrderOut, Cond.selects RX5 yX5_carryOrderOut yX5_carryOrderOut, Cond.initialized RX5, Cond.code yX5_carryOrderOut cX5_carryOrderOut 1 (some .int), Cond.methodLink RX5 233 yX5_carryBlockOut, Cond.instanceMethod yX5_carryBlockOut, Cond.selects RX5 yX5_carryBlockOut yX5_carryBlockOut, Cond.code yX5_carryBlockOut cX5_carryBlockOut 2 (some .int), Cond.instanceMethod yX3_errorOfBlock, Cond.selects RX3 yX3_errorOfBlock yX3_errorOfBlock, Cond.code yX3_errorOfBlock cX3_errorOfBlock 4 (some .int), Cond.methodLink RX3 50 yX3_hasBlock, Cond.instanceMethod yX3_hasBlock]
def wsX5_carryOut_r5 : List Cond := [Cond.selects RX3 yX3_hasBlock yX3_hasBlock, Cond.code yX3_hasBlock cX3_hasBlock 2 (some .boolean), Cond.instanceMethod yX3_appendBlock, Cond.selects RX3 yX3_appendBlock yX3_appendBlock, Cond.code yX3_appendBlock cX3_appendBlock 11 (some .int), Cond.methodLink RX3 54 yX3_tellingCells, Cond.instanceMethod yX3_tellingCells, Cond.selects RX3 yX3_tellingCells yX3_tellingCells, Cond.code yX3_tellingCells cX3_tellingCells 2 (some .int), Cond.methodLink RX3 58 yX3_writeTelling, Cond.instanceMethod yX3_writeTelling, Cond.selects RX3 yX3_writeTelling yX3_writeTelling, Cond.code yX3_writeTelling cX3_writeTelling 8 none, Cond.methodLink RX3 62 yX3_writeByte, Cond.instanceMethod yX3_writeByte, Cond.selects RX3 yX3_writeByte yX3_writeByte, Cond.code yX3_writeByte cX3_writeByte 4 none, Cond.methodLink RX3 66 yJ6_bitCount_0f7a4, Cond.static yJ6_bitCount_0f7a4, Cond.initialized RJ6, Cond.code yJ6_bitCount_0f7a4 cJ6_bitCount_0f7a4 1 (some .int), Cond.constant RJ6 265 (1431655765), Cond.constant RJ6 266 (858993459), Cond.constant RJ6 267 (252645135)]
def wsX5_carryOut_r6 : List Cond := [Cond.methodLink RX5 236 yX5_carryFadingOut, Cond.instanceMethod yX5_carryFadingOut, Cond.selects RX5 yX5_carryFadingOut yX5_carryFadingOut, Cond.code yX5_carryFadingOut cX5_carryFadingOut 2 (some .int), Cond.instanceMethod yX3_errorOfFading, Cond.selects RX3 yX3_errorOfFading yX3_errorOfFading, Cond.code yX3_errorOfFading cX3_errorOfFading 4 (some .int), Cond.methodLink RX3 71 yX3_hasCell, Cond.instanceMethod yX3_hasCell, Cond.selects RX3 yX3_hasCell yX3_hasCell, Cond.code yX3_hasCell cX3_hasCell 2 (some .boolean), Cond.instanceMethod yX3_fadeCells, Cond.selects RX3 yX3_fadeCells yX3_fadeCells, Cond.code yX3_fadeCells cX3_fadeCells 6 (some .int), Cond.instanceMethod yX3_spoilCell, Cond.selects RX3 yX3_spoilCell yX3_spoilCell, Cond.code yX3_spoilCell cX3_spoilCell 2 (some .int)]
def wsX5_carryOut : List Cond := .code yX5_carryOut cX5_carryOut 3 (some .int) :: ((wsX5_carryOut_r1 ++ (wsX5_carryOut_r2 ++ (wsX5_carryOut_r3 ++ (wsX5_carryOut_r4 ++ (wsX5_carryOut_r5 ++ wsX5_carryOut_r6))))) ++ wsX50 ++ wsX20 ++ wsX10 ++ wsX30)
def wsX5_undo_r1 : List Cond := [Cond.fieldLink RX5 33 "CassetteTones" "history" "LCassetteTones$History;", Cond.fieldLink RX5 12 "CassetteTones" "tape" "LCassetteTones$Tape;", Cond.instanceMethod yX1_takeBack, Cond.initialized RX1, Cond.selects RX1 yX1_takeBack yX1_takeBack, Cond.code yX1_takeBack cX1_takeBack 2 none, Cond.fieldLink RX1 22 "CassetteTones$History" "size" "I", Cond.fieldLink RX1 11 "CassetteTones$History" "states" "[LCassetteTones$Tape;", Cond.fieldLink RX1 18 "CassetteTones$History" "oldest" "I", Cond.instanceMethod yX3_copyFrom, Cond.initialized RX3, Cond.selects RX3 yX3_copyFrom yX3_copyFrom, Cond.code yX3_copyFrom cX3_copyFrom 3 none, Cond.fieldLink RX3 36 "CassetteTones$Tape" "blocks" "I", Cond.fieldLink RX3 9 "CassetteTones$Tape" "settings" "[I", Cond.methodLink RX3 40 arraycopyName, Cond.native arraycopyName, Cond.static arraycopyName, Cond.initialized "java/lang/System", Cond.fieldLink RX3 15 "CassetteTones$Tape" "names" "[I", Cond.fieldLink RX3 18 "CassetteTones$Tape" "unders" "[I", Cond.fieldLink RX3 21 "CassetteTones$Tape" "manys" "[I", Cond.fieldLink RX3 24 "CassetteTones$Tape" "firsts" "[I", Cond.fieldLink RX3 27 "CassetteTones$Tape" "volumes" "[I"]
def wsX5_undo_r2 : List Cond := [Cond.fieldLink RX3 30 "CassetteTones$Tape" "bad" "[I", Cond.fieldLink RX3 33 "CassetteTones$Tape" "written" "[I", Cond.methodLink RX3 46 yX3_cells, Cond.instanceMethod yX3_cells, Cond.selects RX3 yX3_cells yX3_cells, Cond.code yX3_cells cX3_cells 1 (some .int)]
def wsX5_undo : List Cond := .code yX5_undo cX5_undo 1 (some .int) :: ((wsX5_undo_r1 ++ wsX5_undo_r2) ++ wsX50 ++ wsX10 ++ wsX30)
def wsX5_save : List Cond := .code yX5_save cX5_save 2 (some .int) :: ([.fieldLink RX5 37 "CassetteTones" "slots" "[LCassetteTones$Tape;", .fieldLink RX5 12 "CassetteTones" "tape" "LCassetteTones$Tape;", .fieldLink RX5 41 "CassetteTones" "saved" "[Z", .instanceMethod yX3_copyFrom, .initialized RX3, .selects RX3 yX3_copyFrom yX3_copyFrom, .code yX3_copyFrom cX3_copyFrom 3 none, .fieldLink RX3 36 "CassetteTones$Tape" "blocks" "I", .fieldLink RX3 9 "CassetteTones$Tape" "settings" "[I", .methodLink RX3 40 arraycopyName, .native arraycopyName, .static arraycopyName, .initialized "java/lang/System", .fieldLink RX3 15 "CassetteTones$Tape" "names" "[I", .fieldLink RX3 18 "CassetteTones$Tape" "unders" "[I", .fieldLink RX3 21 "CassetteTones$Tape" "manys" "[I", .fieldLink RX3 24 "CassetteTones$Tape" "firsts" "[I", .fieldLink RX3 27 "CassetteTones$Tape" "volumes" "[I", .fieldLink RX3 30 "CassetteTones$Tape" "bad" "[I", .fieldLink RX3 33 "CassetteTones$Tape" "written" "[I", .methodLink RX3 46 yX3_cells, .instanceMethod yX3_cells, .selects RX3 yX3_cells yX3_cells, .code yX3_cells cX3_cells 1 (some .int)] ++ wsX50 ++ wsX30)
def wsX5_restore_r1 : List Cond := [Cond.fieldLink RX5 41 "CassetteTones" "saved" "[Z", Cond.fieldLink RX5 33 "CassetteTones" "history" "LCassetteTones$History;", Cond.fieldLink RX5 12 "CassetteTones" "tape" "LCassetteTones$Tape;", Cond.fieldLink RX5 37 "CassetteTones" "slots" "[LCassetteTones$Tape;", Cond.instanceMethod yX1_record, Cond.initialized RX1, Cond.selects RX1 yX1_record yX1_record, Cond.code yX1_record cX1_record 2 none, Cond.fieldLink RX1 11 "CassetteTones$History" "states" "[LCassetteTones$Tape;", Cond.fieldLink RX1 18 "CassetteTones$History" "oldest" "I", Cond.fieldLink RX1 22 "CassetteTones$History" "size" "I", Cond.instanceMethod yX3_copyFrom, Cond.initialized RX3, Cond.selects RX3 yX3_copyFrom yX3_copyFrom, Cond.code yX3_copyFrom cX3_copyFrom 3 none, Cond.fieldLink RX3 36 "CassetteTones$Tape" "blocks" "I", Cond.fieldLink RX3 9 "CassetteTones$Tape" "settings" "[I", Cond.methodLink RX3 40 arraycopyName, Cond.native arraycopyName, Cond.static arraycopyName, Cond.initialized "java/lang/System", Cond.fieldLink RX3 15 "CassetteTones$Tape" "names" "[I", Cond.fieldLink RX3 18 "CassetteTones$Tape" "unders" "[I", Cond.fieldLink RX3 21 "CassetteTones$Tape" "manys" "[I"]
def wsX5_restore_r2 : List Cond := [Cond.fieldLink RX3 24 "CassetteTones$Tape" "firsts" "[I", Cond.fieldLink RX3 27 "CassetteTones$Tape" "volumes" "[I", Cond.fieldLink RX3 30 "CassetteTones$Tape" "bad" "[I", Cond.fieldLink RX3 33 "CassetteTones$Tape" "written" "[I", Cond.methodLink RX3 46 yX3_cells, Cond.instanceMethod yX3_cells, Cond.selects RX3 yX3_cells yX3_cells, Cond.code yX3_cells cX3_cells 1 (some .int)]
def wsX5_restore : List Cond := .code yX5_restore cX5_restore 2 (some .int) :: ((wsX5_restore_r1 ++ wsX5_restore_r2) ++ wsX50 ++ wsX30 ++ wsX10)
def wsX6_init : List Cond := .code yX6_init cX6_init 1 none :: ([.methodLink RX6 1 objectInit, .instanceMethod objectInit, .code objectInit ⟨#[0xb1]⟩ 1 none, .arrayClass .int, .fieldLink RX6 7 "CassetteTonesModel" "state" "[I", .fieldLink RX6 13 "CassetteTonesModel" "history" "[I", .fieldLink RX6 16 "CassetteTonesModel" "slots" "[I", .fieldLink RX6 19 "CassetteTonesModel" "isSaved" "[I", .fieldLink RX6 22 "CassetteTonesModel" "pad" "[I", .fieldLink RX6 25 "CassetteTonesModel" "found" "[I", .fieldLink RX6 28 "CassetteTonesModel" "numbers" "[I"] ++ wsX60)
def wsX6_moves : List Cond := .code yX6_moves cX6_moves 5 none :: ([])
def wsX6_within : List Cond := .code yX6_within cX6_within 3 (some .boolean) :: ([])
def wsX6_size : List Cond := .code yX6_size cX6_size 1 (some .int) :: ([])
def wsX6_record : List Cond := .code yX6_record cX6_record 2 none :: ([.fieldLink RX6 31 "CassetteTonesModel" "recorded" "I", .fieldLink RX6 13 "CassetteTonesModel" "history" "[I", .fieldLink RX6 7 "CassetteTonesModel" "state" "[I", .methodLink RX6 35 yX6_moves, .static yX6_moves, .initialized RX6, .code yX6_moves cX6_moves 5 none] ++ wsX60)
def wsX6_isBlock : List Cond := .code yX6_isBlock cX6_isBlock 2 (some .boolean) :: ([.fieldLink RX6 7 "CassetteTonesModel" "state" "[I", .methodLink RX6 39 yX6_within, .static yX6_within, .initialized RX6, .code yX6_within cX6_within 3 (some .boolean)] ++ wsX60)
def wsX6_part : List Cond := .code yX6_part cX6_part 3 (some .int) :: ([.fieldLink RX6 7 "CassetteTonesModel" "state" "[I"] ++ wsX60)
def wsX6_tellingSize : List Cond := .code yX6_tellingSize cX6_tellingSize 2 (some .int) :: ([.methodLink RX6 43 yX6_part, .instanceMethod yX6_part, .selects RX6 yX6_part yX6_part, .initialized RX6, .code yX6_part cX6_part 3 (some .int), .fieldLink RX6 7 "CassetteTonesModel" "state" "[I"] ++ wsX60)
def wsX6_cellsOf : List Cond := .code yX6_cellsOf cX6_cellsOf 2 (some .int) :: ([.methodLink RX6 47 yX6_tellingSize, .instanceMethod yX6_tellingSize, .selects RX6 yX6_tellingSize yX6_tellingSize, .initialized RX6, .code yX6_tellingSize cX6_tellingSize 2 (some .int), .methodLink RX6 43 yX6_part, .instanceMethod yX6_part, .selects RX6 yX6_part yX6_part, .code yX6_part cX6_part 3 (some .int), .fieldLink RX6 7 "CassetteTonesModel" "state" "[I"] ++ wsX60)
def wsX6_firstOf : List Cond := .code yX6_firstOf cX6_firstOf 4 (some .int) :: ([.methodLink RX6 51 yX6_cellsOf, .instanceMethod yX6_cellsOf, .selects RX6 yX6_cellsOf yX6_cellsOf, .initialized RX6, .code yX6_cellsOf cX6_cellsOf 2 (some .int), .methodLink RX6 47 yX6_tellingSize, .instanceMethod yX6_tellingSize, .selects RX6 yX6_tellingSize yX6_tellingSize, .code yX6_tellingSize cX6_tellingSize 2 (some .int), .methodLink RX6 43 yX6_part, .instanceMethod yX6_part, .selects RX6 yX6_part yX6_part, .code yX6_part cX6_part 3 (some .int), .fieldLink RX6 7 "CassetteTonesModel" "state" "[I"] ++ wsX60)
def wsX6_allCells : List Cond := .code yX6_allCells cX6_allCells 1 (some .int) :: ([.fieldLink RX6 7 "CassetteTonesModel" "state" "[I", .methodLink RX6 54 yX6_firstOf, .instanceMethod yX6_firstOf, .selects RX6 yX6_firstOf yX6_firstOf, .initialized RX6, .code yX6_firstOf cX6_firstOf 4 (some .int), .methodLink RX6 51 yX6_cellsOf, .instanceMethod yX6_cellsOf, .selects RX6 yX6_cellsOf yX6_cellsOf, .code yX6_cellsOf cX6_cellsOf 2 (some .int), .methodLink RX6 47 yX6_tellingSize, .instanceMethod yX6_tellingSize, .selects RX6 yX6_tellingSize yX6_tellingSize, .code yX6_tellingSize cX6_tellingSize 2 (some .int), .methodLink RX6 43 yX6_part, .instanceMethod yX6_part, .selects RX6 yX6_part yX6_part, .code yX6_part cX6_part 3 (some .int)] ++ wsX60)
def wsX6_isCell_r1 : List Cond := [Cond.methodLink RX6 57 yX6_allCells, Cond.instanceMethod yX6_allCells, Cond.selects RX6 yX6_allCells yX6_allCells, Cond.initialized RX6, Cond.code yX6_allCells cX6_allCells 1 (some .int), Cond.fieldLink RX6 7 "CassetteTonesModel" "state" "[I", Cond.methodLink RX6 54 yX6_firstOf, Cond.instanceMethod yX6_firstOf, Cond.selects RX6 yX6_firstOf yX6_firstOf, Cond.code yX6_firstOf cX6_firstOf 4 (some .int), Cond.methodLink RX6 51 yX6_cellsOf, Cond.instanceMethod yX6_cellsOf, Cond.selects RX6 yX6_cellsOf yX6_cellsOf, Cond.code yX6_cellsOf cX6_cellsOf 2 (some .int), Cond.methodLink RX6 47 yX6_tellingSize, Cond.instanceMethod yX6_tellingSize, Cond.selects RX6 yX6_tellingSize yX6_tellingSize, Cond.code yX6_tellingSize cX6_tellingSize 2 (some .int), Cond.methodLink RX6 43 yX6_part, Cond.instanceMethod yX6_part, Cond.selects RX6 yX6_part yX6_part, Cond.code yX6_part cX6_part 3 (some .int), Cond.methodLink RX6 39 yX6_within, Cond.static yX6_within]
def wsX6_isCell_r2 : List Cond := [Cond.code yX6_within cX6_within 3 (some .boolean)]
def wsX6_isCell : List Cond := .code yX6_isCell cX6_isCell 2 (some .boolean) :: ((wsX6_isCell_r1 ++ wsX6_isCell_r2) ++ wsX60)
def wsX6_blockOf : List Cond := .code yX6_blockOf cX6_blockOf 3 (some .int) :: ([.methodLink RX6 54 yX6_firstOf, .instanceMethod yX6_firstOf, .selects RX6 yX6_firstOf yX6_firstOf, .initialized RX6, .code yX6_firstOf cX6_firstOf 4 (some .int), .methodLink RX6 51 yX6_cellsOf, .instanceMethod yX6_cellsOf, .selects RX6 yX6_cellsOf yX6_cellsOf, .code yX6_cellsOf cX6_cellsOf 2 (some .int), .methodLink RX6 47 yX6_tellingSize, .instanceMethod yX6_tellingSize, .selects RX6 yX6_tellingSize yX6_tellingSize, .code yX6_tellingSize cX6_tellingSize 2 (some .int), .methodLink RX6 43 yX6_part, .instanceMethod yX6_part, .selects RX6 yX6_part yX6_part, .code yX6_part cX6_part 3 (some .int), .fieldLink RX6 7 "CassetteTonesModel" "state" "[I"] ++ wsX60)
def wsX6_volumeOf : List Cond := .code yX6_volumeOf cX6_volumeOf 2 (some .int) :: ([.fieldLink RX6 7 "CassetteTonesModel" "state" "[I"] ++ wsX60)
def wsX6_badness : List Cond := .code yX6_badness cX6_badness 2 (some .int) :: ([.fieldLink RX6 7 "CassetteTonesModel" "state" "[I"] ++ wsX60)
def wsX6_isOdd : List Cond := .code yX6_isOdd cX6_isOdd 3 (some .int) :: ([])
def wsX6_sumOf : List Cond := .code yX6_sumOf cX6_sumOf 4 (some .int) :: ([.methodLink RX6 43 yX6_part, .instanceMethod yX6_part, .selects RX6 yX6_part yX6_part, .initialized RX6, .code yX6_part cX6_part 3 (some .int), .fieldLink RX6 7 "CassetteTonesModel" "state" "[I"] ++ wsX60)
def wsX6_byteAt : List Cond := .code yX6_byteAt cX6_byteAt 3 (some .int) :: ([.methodLink RX6 43 yX6_part, .instanceMethod yX6_part, .selects RX6 yX6_part yX6_part, .initialized RX6, .code yX6_part cX6_part 3 (some .int), .fieldLink RX6 7 "CassetteTonesModel" "state" "[I", .methodLink RX6 61 yX6_sumOf, .instanceMethod yX6_sumOf, .selects RX6 yX6_sumOf yX6_sumOf, .code yX6_sumOf cX6_sumOf 4 (some .int)] ++ wsX60)
def wsX6_bitAt_r1 : List Cond := [Cond.methodLink RX6 64 yX6_byteAt, Cond.instanceMethod yX6_byteAt, Cond.selects RX6 yX6_byteAt yX6_byteAt, Cond.initialized RX6, Cond.code yX6_byteAt cX6_byteAt 3 (some .int), Cond.methodLink RX6 43 yX6_part, Cond.instanceMethod yX6_part, Cond.selects RX6 yX6_part yX6_part, Cond.code yX6_part cX6_part 3 (some .int), Cond.fieldLink RX6 7 "CassetteTonesModel" "state" "[I", Cond.methodLink RX6 61 yX6_sumOf, Cond.instanceMethod yX6_sumOf, Cond.selects RX6 yX6_sumOf yX6_sumOf, Cond.code yX6_sumOf cX6_sumOf 4 (some .int), Cond.methodLink RX6 67 yX6_isOdd, Cond.static yX6_isOdd, Cond.code yX6_isOdd cX6_isOdd 3 (some .int), Cond.methodLink RX6 54 yX6_firstOf, Cond.instanceMethod yX6_firstOf, Cond.selects RX6 yX6_firstOf yX6_firstOf, Cond.code yX6_firstOf cX6_firstOf 4 (some .int), Cond.methodLink RX6 51 yX6_cellsOf, Cond.instanceMethod yX6_cellsOf, Cond.selects RX6 yX6_cellsOf yX6_cellsOf]
def wsX6_bitAt_r2 : List Cond := [Cond.code yX6_cellsOf cX6_cellsOf 2 (some .int), Cond.methodLink RX6 47 yX6_tellingSize, Cond.instanceMethod yX6_tellingSize, Cond.selects RX6 yX6_tellingSize yX6_tellingSize, Cond.code yX6_tellingSize cX6_tellingSize 2 (some .int), Cond.methodLink RX6 70 yX6_badness, Cond.instanceMethod yX6_badness, Cond.selects RX6 yX6_badness yX6_badness, Cond.code yX6_badness cX6_badness 2 (some .int)]
def wsX6_bitAt : List Cond := .code yX6_bitAt cX6_bitAt 7 (some .int) :: ((wsX6_bitAt_r1 ++ wsX6_bitAt_r2) ++ wsX60)
def wsX6_counterOf : List Cond := .code yX6_counterOf cX6_counterOf 2 (some .int) :: ([.fieldLink RX6 7 "CassetteTonesModel" "state" "[I"] ++ wsX60)
def wsX6_isHeard : List Cond := .code yX6_isHeard cX6_isHeard 2 (some .boolean) :: ([.fieldLink RX6 7 "CassetteTonesModel" "state" "[I", .methodLink RX6 73 yX6_volumeOf, .instanceMethod yX6_volumeOf, .selects RX6 yX6_volumeOf yX6_volumeOf, .initialized RX6, .code yX6_volumeOf cX6_volumeOf 2 (some .int)] ++ wsX60)
def wsX6_isLeaderLost_r1 : List Cond := [Cond.methodLink RX6 54 yX6_firstOf, Cond.instanceMethod yX6_firstOf, Cond.selects RX6 yX6_firstOf yX6_firstOf, Cond.initialized RX6, Cond.code yX6_firstOf cX6_firstOf 4 (some .int), Cond.methodLink RX6 51 yX6_cellsOf, Cond.instanceMethod yX6_cellsOf, Cond.selects RX6 yX6_cellsOf yX6_cellsOf, Cond.code yX6_cellsOf cX6_cellsOf 2 (some .int), Cond.methodLink RX6 47 yX6_tellingSize, Cond.instanceMethod yX6_tellingSize, Cond.selects RX6 yX6_tellingSize yX6_tellingSize, Cond.code yX6_tellingSize cX6_tellingSize 2 (some .int), Cond.methodLink RX6 43 yX6_part, Cond.instanceMethod yX6_part, Cond.selects RX6 yX6_part yX6_part, Cond.code yX6_part cX6_part 3 (some .int), Cond.fieldLink RX6 7 "CassetteTonesModel" "state" "[I", Cond.methodLink RX6 76 yX6_isHeard, Cond.instanceMethod yX6_isHeard, Cond.selects RX6 yX6_isHeard yX6_isHeard, Cond.code yX6_isHeard cX6_isHeard 2 (some .boolean), Cond.methodLink RX6 73 yX6_volumeOf, Cond.instanceMethod yX6_volumeOf]
def wsX6_isLeaderLost_r2 : List Cond := [Cond.selects RX6 yX6_volumeOf yX6_volumeOf, Cond.code yX6_volumeOf cX6_volumeOf 2 (some .int)]
def wsX6_isLeaderLost : List Cond := .code yX6_isLeaderLost cX6_isLeaderLost 6 (some .boolean) :: ((wsX6_isLeaderLost_r1 ++ wsX6_isLeaderLost_r2) ++ wsX60)
def wsX6_readAt_r1 : List Cond := [Cond.methodLink RX6 54 yX6_firstOf, Cond.instanceMethod yX6_firstOf, Cond.selects RX6 yX6_firstOf yX6_firstOf, Cond.initialized RX6, Cond.code yX6_firstOf cX6_firstOf 4 (some .int), Cond.methodLink RX6 51 yX6_cellsOf, Cond.instanceMethod yX6_cellsOf, Cond.selects RX6 yX6_cellsOf yX6_cellsOf, Cond.code yX6_cellsOf cX6_cellsOf 2 (some .int), Cond.methodLink RX6 47 yX6_tellingSize, Cond.instanceMethod yX6_tellingSize, Cond.selects RX6 yX6_tellingSize yX6_tellingSize, Cond.code yX6_tellingSize cX6_tellingSize 2 (some .int), Cond.methodLink RX6 43 yX6_part, Cond.instanceMethod yX6_part, Cond.selects RX6 yX6_part yX6_part, Cond.code yX6_part cX6_part 3 (some .int), Cond.fieldLink RX6 7 "CassetteTonesModel" "state" "[I", Cond.methodLink RX6 76 yX6_isHeard, Cond.instanceMethod yX6_isHeard, Cond.selects RX6 yX6_isHeard yX6_isHeard, Cond.code yX6_isHeard cX6_isHeard 2 (some .boolean), Cond.methodLink RX6 73 yX6_volumeOf, Cond.instanceMethod yX6_volumeOf]
def wsX6_readAt_r2 : List Cond := [Cond.selects RX6 yX6_volumeOf yX6_volumeOf, Cond.code yX6_volumeOf cX6_volumeOf 2 (some .int), Cond.methodLink RX6 80 yX6_bitAt, Cond.instanceMethod yX6_bitAt, Cond.selects RX6 yX6_bitAt yX6_bitAt, Cond.code yX6_bitAt cX6_bitAt 7 (some .int), Cond.methodLink RX6 64 yX6_byteAt, Cond.instanceMethod yX6_byteAt, Cond.selects RX6 yX6_byteAt yX6_byteAt, Cond.code yX6_byteAt cX6_byteAt 3 (some .int), Cond.methodLink RX6 61 yX6_sumOf, Cond.instanceMethod yX6_sumOf, Cond.selects RX6 yX6_sumOf yX6_sumOf, Cond.code yX6_sumOf cX6_sumOf 4 (some .int), Cond.methodLink RX6 67 yX6_isOdd, Cond.static yX6_isOdd, Cond.code yX6_isOdd cX6_isOdd 3 (some .int), Cond.methodLink RX6 70 yX6_badness, Cond.instanceMethod yX6_badness, Cond.selects RX6 yX6_badness yX6_badness, Cond.code yX6_badness cX6_badness 2 (some .int)]
def wsX6_readAt : List Cond := .code yX6_readAt cX6_readAt 9 (some .int) :: ((wsX6_readAt_r1 ++ wsX6_readAt_r2) ++ wsX60)
def wsX6_howIs_r1 : List Cond := [Cond.methodLink RX6 84 yX6_isLeaderLost, Cond.instanceMethod yX6_isLeaderLost, Cond.selects RX6 yX6_isLeaderLost yX6_isLeaderLost, Cond.initialized RX6, Cond.code yX6_isLeaderLost cX6_isLeaderLost 6 (some .boolean), Cond.methodLink RX6 54 yX6_firstOf, Cond.instanceMethod yX6_firstOf, Cond.selects RX6 yX6_firstOf yX6_firstOf, Cond.code yX6_firstOf cX6_firstOf 4 (some .int), Cond.methodLink RX6 51 yX6_cellsOf, Cond.instanceMethod yX6_cellsOf, Cond.selects RX6 yX6_cellsOf yX6_cellsOf, Cond.code yX6_cellsOf cX6_cellsOf 2 (some .int), Cond.methodLink RX6 47 yX6_tellingSize, Cond.instanceMethod yX6_tellingSize, Cond.selects RX6 yX6_tellingSize yX6_tellingSize, Cond.code yX6_tellingSize cX6_tellingSize 2 (some .int), Cond.methodLink RX6 43 yX6_part, Cond.instanceMethod yX6_part, Cond.selects RX6 yX6_part yX6_part, Cond.code yX6_part cX6_part 3 (some .int), Cond.fieldLink RX6 7 "CassetteTonesModel" "state" "[I", Cond.methodLink RX6 76 yX6_isHeard, Cond.instanceMethod yX6_isHeard]
def wsX6_howIs_r2 : List Cond := [Cond.selects RX6 yX6_isHeard yX6_isHeard, Cond.code yX6_isHeard cX6_isHeard 2 (some .boolean), Cond.methodLink RX6 73 yX6_volumeOf, Cond.instanceMethod yX6_volumeOf, Cond.selects RX6 yX6_volumeOf yX6_volumeOf, Cond.code yX6_volumeOf cX6_volumeOf 2 (some .int), Cond.methodLink RX6 88 yX6_readAt, Cond.instanceMethod yX6_readAt, Cond.selects RX6 yX6_readAt yX6_readAt, Cond.code yX6_readAt cX6_readAt 9 (some .int), Cond.methodLink RX6 80 yX6_bitAt, Cond.instanceMethod yX6_bitAt, Cond.selects RX6 yX6_bitAt yX6_bitAt, Cond.code yX6_bitAt cX6_bitAt 7 (some .int), Cond.methodLink RX6 64 yX6_byteAt, Cond.instanceMethod yX6_byteAt, Cond.selects RX6 yX6_byteAt yX6_byteAt, Cond.code yX6_byteAt cX6_byteAt 3 (some .int), Cond.methodLink RX6 61 yX6_sumOf, Cond.instanceMethod yX6_sumOf, Cond.selects RX6 yX6_sumOf yX6_sumOf, Cond.code yX6_sumOf cX6_sumOf 4 (some .int), Cond.methodLink RX6 67 yX6_isOdd, Cond.static yX6_isOdd]
def wsX6_howIs_r3 : List Cond := [Cond.code yX6_isOdd cX6_isOdd 3 (some .int), Cond.methodLink RX6 70 yX6_badness, Cond.instanceMethod yX6_badness, Cond.selects RX6 yX6_badness yX6_badness, Cond.code yX6_badness cX6_badness 2 (some .int)]
def wsX6_howIs : List Cond := .code yX6_howIs cX6_howIs 7 (some .int) :: ((wsX6_howIs_r1 ++ (wsX6_howIs_r2 ++ wsX6_howIs_r3)) ++ wsX60)
def wsX6_findBy_r1 : List Cond := [Cond.fieldLink RX6 25 "CassetteTonesModel" "found" "[I", Cond.methodLink RX6 43 yX6_part, Cond.instanceMethod yX6_part, Cond.selects RX6 yX6_part yX6_part, Cond.initialized RX6, Cond.code yX6_part cX6_part 3 (some .int), Cond.fieldLink RX6 7 "CassetteTonesModel" "state" "[I", Cond.methodLink RX6 88 yX6_readAt, Cond.instanceMethod yX6_readAt, Cond.selects RX6 yX6_readAt yX6_readAt, Cond.code yX6_readAt cX6_readAt 9 (some .int), Cond.methodLink RX6 54 yX6_firstOf, Cond.instanceMethod yX6_firstOf, Cond.selects RX6 yX6_firstOf yX6_firstOf, Cond.code yX6_firstOf cX6_firstOf 4 (some .int), Cond.methodLink RX6 51 yX6_cellsOf, Cond.instanceMethod yX6_cellsOf, Cond.selects RX6 yX6_cellsOf yX6_cellsOf, Cond.code yX6_cellsOf cX6_cellsOf 2 (some .int), Cond.methodLink RX6 47 yX6_tellingSize, Cond.instanceMethod yX6_tellingSize, Cond.selects RX6 yX6_tellingSize yX6_tellingSize, Cond.code yX6_tellingSize cX6_tellingSize 2 (some .int), Cond.methodLink RX6 76 yX6_isHeard]
def wsX6_findBy_r2 : List Cond := [Cond.instanceMethod yX6_isHeard, Cond.selects RX6 yX6_isHeard yX6_isHeard, Cond.code yX6_isHeard cX6_isHeard 2 (some .boolean), Cond.methodLink RX6 73 yX6_volumeOf, Cond.instanceMethod yX6_volumeOf, Cond.selects RX6 yX6_volumeOf yX6_volumeOf, Cond.code yX6_volumeOf cX6_volumeOf 2 (some .int), Cond.methodLink RX6 80 yX6_bitAt, Cond.instanceMethod yX6_bitAt, Cond.selects RX6 yX6_bitAt yX6_bitAt, Cond.code yX6_bitAt cX6_bitAt 7 (some .int), Cond.methodLink RX6 64 yX6_byteAt, Cond.instanceMethod yX6_byteAt, Cond.selects RX6 yX6_byteAt yX6_byteAt, Cond.code yX6_byteAt cX6_byteAt 3 (some .int), Cond.methodLink RX6 61 yX6_sumOf, Cond.instanceMethod yX6_sumOf, Cond.selects RX6 yX6_sumOf yX6_sumOf, Cond.code yX6_sumOf cX6_sumOf 4 (some .int), Cond.methodLink RX6 67 yX6_isOdd, Cond.static yX6_isOdd, Cond.code yX6_isOdd cX6_isOdd 3 (some .int), Cond.methodLink RX6 70 yX6_badness, Cond.instanceMethod yX6_badness]
def wsX6_findBy_r3 : List Cond := [Cond.selects RX6 yX6_badness yX6_badness, Cond.code yX6_badness cX6_badness 2 (some .int)]
def wsX6_findBy : List Cond := .code yX6_findBy cX6_findBy 4 none :: ((wsX6_findBy_r1 ++ (wsX6_findBy_r2 ++ wsX6_findBy_r3)) ++ wsX60)
def wsX6_findByBoth_r1 : List Cond := [Cond.fieldLink RX6 25 "CassetteTonesModel" "found" "[I", Cond.methodLink RX6 84 yX6_isLeaderLost, Cond.instanceMethod yX6_isLeaderLost, Cond.selects RX6 yX6_isLeaderLost yX6_isLeaderLost, Cond.initialized RX6, Cond.code yX6_isLeaderLost cX6_isLeaderLost 6 (some .boolean), Cond.methodLink RX6 54 yX6_firstOf, Cond.instanceMethod yX6_firstOf, Cond.selects RX6 yX6_firstOf yX6_firstOf, Cond.code yX6_firstOf cX6_firstOf 4 (some .int), Cond.methodLink RX6 51 yX6_cellsOf, Cond.instanceMethod yX6_cellsOf, Cond.selects RX6 yX6_cellsOf yX6_cellsOf, Cond.code yX6_cellsOf cX6_cellsOf 2 (some .int), Cond.methodLink RX6 47 yX6_tellingSize, Cond.instanceMethod yX6_tellingSize, Cond.selects RX6 yX6_tellingSize yX6_tellingSize, Cond.code yX6_tellingSize cX6_tellingSize 2 (some .int), Cond.methodLink RX6 43 yX6_part, Cond.instanceMethod yX6_part, Cond.selects RX6 yX6_part yX6_part, Cond.code yX6_part cX6_part 3 (some .int), Cond.fieldLink RX6 7 "CassetteTonesModel" "state" "[I", Cond.methodLink RX6 76 yX6_isHeard]
def wsX6_findByBoth_r2 : List Cond := [Cond.instanceMethod yX6_isHeard, Cond.selects RX6 yX6_isHeard yX6_isHeard, Cond.code yX6_isHeard cX6_isHeard 2 (some .boolean), Cond.methodLink RX6 73 yX6_volumeOf, Cond.instanceMethod yX6_volumeOf, Cond.selects RX6 yX6_volumeOf yX6_volumeOf, Cond.code yX6_volumeOf cX6_volumeOf 2 (some .int), Cond.methodLink RX6 88 yX6_readAt, Cond.instanceMethod yX6_readAt, Cond.selects RX6 yX6_readAt yX6_readAt, Cond.code yX6_readAt cX6_readAt 9 (some .int), Cond.methodLink RX6 80 yX6_bitAt, Cond.instanceMethod yX6_bitAt, Cond.selects RX6 yX6_bitAt yX6_bitAt, Cond.code yX6_bitAt cX6_bitAt 7 (some .int), Cond.methodLink RX6 64 yX6_byteAt, Cond.instanceMethod yX6_byteAt, Cond.selects RX6 yX6_byteAt yX6_byteAt, Cond.code yX6_byteAt cX6_byteAt 3 (some .int), Cond.methodLink RX6 61 yX6_sumOf, Cond.instanceMethod yX6_sumOf, Cond.selects RX6 yX6_sumOf yX6_sumOf, Cond.code yX6_sumOf cX6_sumOf 4 (some .int), Cond.methodLink RX6 67 yX6_isOdd]
def wsX6_findByBoth_r3 : List Cond := [Cond.static yX6_isOdd, Cond.code yX6_isOdd cX6_isOdd 3 (some .int), Cond.methodLink RX6 70 yX6_badness, Cond.instanceMethod yX6_badness, Cond.selects RX6 yX6_badness yX6_badness, Cond.code yX6_badness cX6_badness 2 (some .int)]
def wsX6_findByBoth : List Cond := .code yX6_findByBoth cX6_findByBoth 6 (some .boolean) :: ((wsX6_findByBoth_r1 ++ (wsX6_findByBoth_r2 ++ wsX6_findByBoth_r3)) ++ wsX60)
def wsX6_loadedBy_r1 : List Cond := [Cond.methodLink RX6 91 yX6_howIs, Cond.instanceMethod yX6_howIs, Cond.selects RX6 yX6_howIs yX6_howIs, Cond.initialized RX6, Cond.code yX6_howIs cX6_howIs 7 (some .int), Cond.methodLink RX6 84 yX6_isLeaderLost, Cond.instanceMethod yX6_isLeaderLost, Cond.selects RX6 yX6_isLeaderLost yX6_isLeaderLost, Cond.code yX6_isLeaderLost cX6_isLeaderLost 6 (some .boolean), Cond.methodLink RX6 54 yX6_firstOf, Cond.instanceMethod yX6_firstOf, Cond.selects RX6 yX6_firstOf yX6_firstOf, Cond.code yX6_firstOf cX6_firstOf 4 (some .int), Cond.methodLink RX6 51 yX6_cellsOf, Cond.instanceMethod yX6_cellsOf, Cond.selects RX6 yX6_cellsOf yX6_cellsOf, Cond.code yX6_cellsOf cX6_cellsOf 2 (some .int), Cond.methodLink RX6 47 yX6_tellingSize, Cond.instanceMethod yX6_tellingSize, Cond.selects RX6 yX6_tellingSize yX6_tellingSize, Cond.code yX6_tellingSize cX6_tellingSize 2 (some .int), Cond.methodLink RX6 43 yX6_part, Cond.instanceMethod yX6_part, Cond.selects RX6 yX6_part yX6_part]
def wsX6_loadedBy_r2 : List Cond := [Cond.code yX6_part cX6_part 3 (some .int), Cond.fieldLink RX6 7 "CassetteTonesModel" "state" "[I", Cond.methodLink RX6 76 yX6_isHeard, Cond.instanceMethod yX6_isHeard, Cond.selects RX6 yX6_isHeard yX6_isHeard, Cond.code yX6_isHeard cX6_isHeard 2 (some .boolean), Cond.methodLink RX6 73 yX6_volumeOf, Cond.instanceMethod yX6_volumeOf, Cond.selects RX6 yX6_volumeOf yX6_volumeOf, Cond.code yX6_volumeOf cX6_volumeOf 2 (some .int), Cond.methodLink RX6 88 yX6_readAt, Cond.instanceMethod yX6_readAt, Cond.selects RX6 yX6_readAt yX6_readAt, Cond.code yX6_readAt cX6_readAt 9 (some .int), Cond.methodLink RX6 80 yX6_bitAt, Cond.instanceMethod yX6_bitAt, Cond.selects RX6 yX6_bitAt yX6_bitAt, Cond.code yX6_bitAt cX6_bitAt 7 (some .int), Cond.methodLink RX6 64 yX6_byteAt, Cond.instanceMethod yX6_byteAt, Cond.selects RX6 yX6_byteAt yX6_byteAt, Cond.code yX6_byteAt cX6_byteAt 3 (some .int), Cond.methodLink RX6 61 yX6_sumOf, Cond.instanceMethod yX6_sumOf]
def wsX6_loadedBy_r3 : List Cond := [Cond.selects RX6 yX6_sumOf yX6_sumOf, Cond.code yX6_sumOf cX6_sumOf 4 (some .int), Cond.methodLink RX6 67 yX6_isOdd, Cond.static yX6_isOdd, Cond.code yX6_isOdd cX6_isOdd 3 (some .int), Cond.methodLink RX6 70 yX6_badness, Cond.instanceMethod yX6_badness, Cond.selects RX6 yX6_badness yX6_badness, Cond.code yX6_badness cX6_badness 2 (some .int), Cond.methodLink RX6 94 yX6_findBy, Cond.instanceMethod yX6_findBy, Cond.selects RX6 yX6_findBy yX6_findBy, Cond.code yX6_findBy cX6_findBy 4 none, Cond.fieldLink RX6 25 "CassetteTonesModel" "found" "[I", Cond.methodLink RX6 98 yX6_findByBoth, Cond.instanceMethod yX6_findByBoth, Cond.selects RX6 yX6_findByBoth yX6_findByBoth, Cond.code yX6_findByBoth cX6_findByBoth 6 (some .boolean)]
def wsX6_loadedBy : List Cond := .code yX6_loadedBy cX6_loadedBy 3 (some .int) :: ((wsX6_loadedBy_r1 ++ (wsX6_loadedBy_r2 ++ wsX6_loadedBy_r3)) ++ wsX60)
def wsX6_isValue : List Cond := .code yX6_isValue cX6_isValue 2 (some .boolean) :: ([.methodLink RX6 39 yX6_within, .static yX6_within, .initialized RX6, .code yX6_within cX6_within 3 (some .boolean)])
def wsX6_set : List Cond := .code yX6_set cX6_set 4 (some .int) :: ([.fieldLink RX6 7 "CassetteTonesModel" "state" "[I", .methodLink RX6 101 yX6_isValue, .static yX6_isValue, .initialized RX6, .code yX6_isValue cX6_isValue 2 (some .boolean), .methodLink RX6 39 yX6_within, .static yX6_within, .code yX6_within cX6_within 3 (some .boolean), .methodLink RX6 104 yX6_record, .instanceMethod yX6_record, .selects RX6 yX6_record yX6_record, .code yX6_record cX6_record 2 none, .fieldLink RX6 31 "CassetteTonesModel" "recorded" "I", .fieldLink RX6 13 "CassetteTonesModel" "history" "[I", .methodLink RX6 35 yX6_moves, .static yX6_moves, .code yX6_moves cX6_moves 5 none] ++ wsX60)
def wsX6_whyNotWritten : List Cond := .code yX6_whyNotWritten cX6_whyNotWritten 4 (some .int) :: ([.fieldLink RX6 7 "CassetteTonesModel" "state" "[I", .methodLink RX6 107 yX6_isBlock, .instanceMethod yX6_isBlock, .selects RX6 yX6_isBlock yX6_isBlock, .initialized RX6, .code yX6_isBlock cX6_isBlock 2 (some .boolean), .methodLink RX6 39 yX6_within, .static yX6_within, .code yX6_within cX6_within 3 (some .boolean)] ++ wsX60)
def wsX6_writes : List Cond := .code yX6_writes cX6_writes 8 (some .int) :: ([.fieldLink RX6 7 "CassetteTonesModel" "state" "[I", .fieldLink RX6 25 "CassetteTonesModel" "found" "[I", .methodLink RX6 54 yX6_firstOf, .instanceMethod yX6_firstOf, .selects RX6 yX6_firstOf yX6_firstOf, .initialized RX6, .code yX6_firstOf cX6_firstOf 4 (some .int), .methodLink RX6 51 yX6_cellsOf, .instanceMethod yX6_cellsOf, .selects RX6 yX6_cellsOf yX6_cellsOf, .code yX6_cellsOf cX6_cellsOf 2 (some .int), .methodLink RX6 47 yX6_tellingSize, .instanceMethod yX6_tellingSize, .selects RX6 yX6_tellingSize yX6_tellingSize, .code yX6_tellingSize cX6_tellingSize 2 (some .int), .methodLink RX6 43 yX6_part, .instanceMethod yX6_part, .selects RX6 yX6_part yX6_part, .code yX6_part cX6_part 3 (some .int)] ++ wsX60)
def wsX6_write_r1 : List Cond := [Cond.fieldLink RX6 25 "CassetteTonesModel" "found" "[I", Cond.constantLong RX6 113 (255), Cond.methodLink RX6 110 yX6_whyNotWritten, Cond.instanceMethod yX6_whyNotWritten, Cond.selects RX6 yX6_whyNotWritten yX6_whyNotWritten, Cond.initialized RX6, Cond.code yX6_whyNotWritten cX6_whyNotWritten 4 (some .int), Cond.fieldLink RX6 7 "CassetteTonesModel" "state" "[I", Cond.methodLink RX6 107 yX6_isBlock, Cond.instanceMethod yX6_isBlock, Cond.selects RX6 yX6_isBlock yX6_isBlock, Cond.code yX6_isBlock cX6_isBlock 2 (some .boolean), Cond.methodLink RX6 39 yX6_within, Cond.static yX6_within, Cond.code yX6_within cX6_within 3 (some .boolean), Cond.methodLink RX6 104 yX6_record, Cond.instanceMethod yX6_record, Cond.selects RX6 yX6_record yX6_record, Cond.code yX6_record cX6_record 2 none, Cond.fieldLink RX6 31 "CassetteTonesModel" "recorded" "I", Cond.fieldLink RX6 13 "CassetteTonesModel" "history" "[I", Cond.methodLink RX6 35 yX6_moves, Cond.static yX6_moves, Cond.code yX6_moves cX6_moves 5 none]
def wsX6_write_r2 : List Cond := [Cond.methodLink RX6 115 yX6_writes, Cond.instanceMethod yX6_writes, Cond.selects RX6 yX6_writes yX6_writes, Cond.code yX6_writes cX6_writes 8 (some .int), Cond.methodLink RX6 54 yX6_firstOf, Cond.instanceMethod yX6_firstOf, Cond.selects RX6 yX6_firstOf yX6_firstOf, Cond.code yX6_firstOf cX6_firstOf 4 (some .int), Cond.methodLink RX6 51 yX6_cellsOf, Cond.instanceMethod yX6_cellsOf, Cond.selects RX6 yX6_cellsOf yX6_cellsOf, Cond.code yX6_cellsOf cX6_cellsOf 2 (some .int), Cond.methodLink RX6 47 yX6_tellingSize, Cond.instanceMethod yX6_tellingSize, Cond.selects RX6 yX6_tellingSize yX6_tellingSize, Cond.code yX6_tellingSize cX6_tellingSize 2 (some .int), Cond.methodLink RX6 43 yX6_part, Cond.instanceMethod yX6_part, Cond.selects RX6 yX6_part yX6_part, Cond.code yX6_part cX6_part 3 (some .int)]
def wsX6_write : List Cond := .code yX6_write cX6_write 8 (some .int) :: ((wsX6_write_r1 ++ wsX6_write_r2) ++ wsX60)
def wsX6_wipeLast : List Cond := .code yX6_wipeLast cX6_wipeLast 1 (some .int) :: ([.fieldLink RX6 7 "CassetteTonesModel" "state" "[I", .methodLink RX6 104 yX6_record, .instanceMethod yX6_record, .selects RX6 yX6_record yX6_record, .initialized RX6, .code yX6_record cX6_record 2 none, .fieldLink RX6 31 "CassetteTonesModel" "recorded" "I", .fieldLink RX6 13 "CassetteTonesModel" "history" "[I", .methodLink RX6 35 yX6_moves, .static yX6_moves, .code yX6_moves cX6_moves 5 none] ++ wsX60)
def wsX6_whyNotFaded_r1 : List Cond := [Cond.methodLink RX6 118 yX6_isCell, Cond.instanceMethod yX6_isCell, Cond.selects RX6 yX6_isCell yX6_isCell, Cond.initialized RX6, Cond.code yX6_isCell cX6_isCell 2 (some .boolean), Cond.methodLink RX6 57 yX6_allCells, Cond.instanceMethod yX6_allCells, Cond.selects RX6 yX6_allCells yX6_allCells, Cond.code yX6_allCells cX6_allCells 1 (some .int), Cond.fieldLink RX6 7 "CassetteTonesModel" "state" "[I", Cond.methodLink RX6 54 yX6_firstOf, Cond.instanceMethod yX6_firstOf, Cond.selects RX6 yX6_firstOf yX6_firstOf, Cond.code yX6_firstOf cX6_firstOf 4 (some .int), Cond.methodLink RX6 51 yX6_cellsOf, Cond.instanceMethod yX6_cellsOf, Cond.selects RX6 yX6_cellsOf yX6_cellsOf, Cond.code yX6_cellsOf cX6_cellsOf 2 (some .int), Cond.methodLink RX6 47 yX6_tellingSize, Cond.instanceMethod yX6_tellingSize, Cond.selects RX6 yX6_tellingSize yX6_tellingSize, Cond.code yX6_tellingSize cX6_tellingSize 2 (some .int), Cond.methodLink RX6 43 yX6_part, Cond.instanceMethod yX6_part]
def wsX6_whyNotFaded_r2 : List Cond := [Cond.selects RX6 yX6_part yX6_part, Cond.code yX6_part cX6_part 3 (some .int), Cond.methodLink RX6 39 yX6_within, Cond.static yX6_within, Cond.code yX6_within cX6_within 3 (some .boolean)]
def wsX6_whyNotFaded : List Cond := .code yX6_whyNotFaded cX6_whyNotFaded 4 (some .int) :: ((wsX6_whyNotFaded_r1 ++ wsX6_whyNotFaded_r2) ++ wsX60)
def wsX6_fades : List Cond := .code yX6_fades cX6_fades 7 (some .int) :: ([.fieldLink RX6 7 "CassetteTonesModel" "state" "[I", .methodLink RX6 73 yX6_volumeOf, .instanceMethod yX6_volumeOf, .selects RX6 yX6_volumeOf yX6_volumeOf, .initialized RX6, .code yX6_volumeOf cX6_volumeOf 2 (some .int), .methodLink RX6 70 yX6_badness, .instanceMethod yX6_badness, .selects RX6 yX6_badness yX6_badness, .code yX6_badness cX6_badness 2 (some .int)] ++ wsX60)
def wsX6_fade_r1 : List Cond := [Cond.methodLink RX6 121 yX6_whyNotFaded, Cond.instanceMethod yX6_whyNotFaded, Cond.selects RX6 yX6_whyNotFaded yX6_whyNotFaded, Cond.initialized RX6, Cond.code yX6_whyNotFaded cX6_whyNotFaded 4 (some .int), Cond.methodLink RX6 118 yX6_isCell, Cond.instanceMethod yX6_isCell, Cond.selects RX6 yX6_isCell yX6_isCell, Cond.code yX6_isCell cX6_isCell 2 (some .boolean), Cond.methodLink RX6 57 yX6_allCells, Cond.instanceMethod yX6_allCells, Cond.selects RX6 yX6_allCells yX6_allCells, Cond.code yX6_allCells cX6_allCells 1 (some .int), Cond.fieldLink RX6 7 "CassetteTonesModel" "state" "[I", Cond.methodLink RX6 54 yX6_firstOf, Cond.instanceMethod yX6_firstOf, Cond.selects RX6 yX6_firstOf yX6_firstOf, Cond.code yX6_firstOf cX6_firstOf 4 (some .int), Cond.methodLink RX6 51 yX6_cellsOf, Cond.instanceMethod yX6_cellsOf, Cond.selects RX6 yX6_cellsOf yX6_cellsOf, Cond.code yX6_cellsOf cX6_cellsOf 2 (some .int), Cond.methodLink RX6 47 yX6_tellingSize, Cond.instanceMethod yX6_tellingSize]
def wsX6_fade_r2 : List Cond := [Cond.selects RX6 yX6_tellingSize yX6_tellingSize, Cond.code yX6_tellingSize cX6_tellingSize 2 (some .int), Cond.methodLink RX6 43 yX6_part, Cond.instanceMethod yX6_part, Cond.selects RX6 yX6_part yX6_part, Cond.code yX6_part cX6_part 3 (some .int), Cond.methodLink RX6 39 yX6_within, Cond.static yX6_within, Cond.code yX6_within cX6_within 3 (some .boolean), Cond.methodLink RX6 104 yX6_record, Cond.instanceMethod yX6_record, Cond.selects RX6 yX6_record yX6_record, Cond.code yX6_record cX6_record 2 none, Cond.fieldLink RX6 31 "CassetteTonesModel" "recorded" "I", Cond.fieldLink RX6 13 "CassetteTonesModel" "history" "[I", Cond.methodLink RX6 35 yX6_moves, Cond.static yX6_moves, Cond.code yX6_moves cX6_moves 5 none, Cond.methodLink RX6 124 yX6_fades, Cond.instanceMethod yX6_fades, Cond.selects RX6 yX6_fades yX6_fades, Cond.code yX6_fades cX6_fades 7 (some .int), Cond.methodLink RX6 73 yX6_volumeOf, Cond.instanceMethod yX6_volumeOf]
def wsX6_fade_r3 : List Cond := [Cond.selects RX6 yX6_volumeOf yX6_volumeOf, Cond.code yX6_volumeOf cX6_volumeOf 2 (some .int), Cond.methodLink RX6 70 yX6_badness, Cond.instanceMethod yX6_badness, Cond.selects RX6 yX6_badness yX6_badness, Cond.code yX6_badness cX6_badness 2 (some .int)]
def wsX6_fade : List Cond := .code yX6_fade cX6_fade 5 (some .int) :: ((wsX6_fade_r1 ++ (wsX6_fade_r2 ++ wsX6_fade_r3)) ++ wsX60)
def wsX6_turns : List Cond := .code yX6_turns cX6_turns 2 (some .int) :: ([.fieldLink RX6 7 "CassetteTonesModel" "state" "[I", .methodLink RX6 70 yX6_badness, .instanceMethod yX6_badness, .selects RX6 yX6_badness yX6_badness, .initialized RX6, .code yX6_badness cX6_badness 2 (some .int)] ++ wsX60)
def wsX6_spoil_r1 : List Cond := [Cond.methodLink RX6 118 yX6_isCell, Cond.instanceMethod yX6_isCell, Cond.selects RX6 yX6_isCell yX6_isCell, Cond.initialized RX6, Cond.code yX6_isCell cX6_isCell 2 (some .boolean), Cond.methodLink RX6 57 yX6_allCells, Cond.instanceMethod yX6_allCells, Cond.selects RX6 yX6_allCells yX6_allCells, Cond.code yX6_allCells cX6_allCells 1 (some .int), Cond.fieldLink RX6 7 "CassetteTonesModel" "state" "[I", Cond.methodLink RX6 54 yX6_firstOf, Cond.instanceMethod yX6_firstOf, Cond.selects RX6 yX6_firstOf yX6_firstOf, Cond.code yX6_firstOf cX6_firstOf 4 (some .int), Cond.methodLink RX6 51 yX6_cellsOf, Cond.instanceMethod yX6_cellsOf, Cond.selects RX6 yX6_cellsOf yX6_cellsOf, Cond.code yX6_cellsOf cX6_cellsOf 2 (some .int), Cond.methodLink RX6 47 yX6_tellingSize, Cond.instanceMethod yX6_tellingSize, Cond.selects RX6 yX6_tellingSize yX6_tellingSize, Cond.code yX6_tellingSize cX6_tellingSize 2 (some .int), Cond.methodLink RX6 43 yX6_part, Cond.instanceMethod yX6_part]
def wsX6_spoil_r2 : List Cond := [Cond.selects RX6 yX6_part yX6_part, Cond.code yX6_part cX6_part 3 (some .int), Cond.methodLink RX6 39 yX6_within, Cond.static yX6_within, Cond.code yX6_within cX6_within 3 (some .boolean), Cond.methodLink RX6 104 yX6_record, Cond.instanceMethod yX6_record, Cond.selects RX6 yX6_record yX6_record, Cond.code yX6_record cX6_record 2 none, Cond.fieldLink RX6 31 "CassetteTonesModel" "recorded" "I", Cond.fieldLink RX6 13 "CassetteTonesModel" "history" "[I", Cond.methodLink RX6 35 yX6_moves, Cond.static yX6_moves, Cond.code yX6_moves cX6_moves 5 none, Cond.methodLink RX6 127 yX6_turns, Cond.instanceMethod yX6_turns, Cond.selects RX6 yX6_turns yX6_turns, Cond.code yX6_turns cX6_turns 2 (some .int), Cond.methodLink RX6 70 yX6_badness, Cond.instanceMethod yX6_badness, Cond.selects RX6 yX6_badness yX6_badness, Cond.code yX6_badness cX6_badness 2 (some .int)]
def wsX6_spoil : List Cond := .code yX6_spoil cX6_spoil 2 (some .int) :: ((wsX6_spoil_r1 ++ wsX6_spoil_r2) ++ wsX60)
def wsX6_depthOf : List Cond := .code yX6_depthOf cX6_depthOf 4 (some .int) :: ([.methodLink RX6 43 yX6_part, .instanceMethod yX6_part, .selects RX6 yX6_part yX6_part, .initialized RX6, .code yX6_part cX6_part 3 (some .int), .fieldLink RX6 7 "CassetteTonesModel" "state" "[I"] ++ wsX60)
def wsX6_of_r1 : List Cond := [Cond.methodLink RX6 107 yX6_isBlock, Cond.instanceMethod yX6_isBlock, Cond.selects RX6 yX6_isBlock yX6_isBlock, Cond.initialized RX6, Cond.code yX6_isBlock cX6_isBlock 2 (some .boolean), Cond.fieldLink RX6 7 "CassetteTonesModel" "state" "[I", Cond.methodLink RX6 39 yX6_within, Cond.static yX6_within, Cond.code yX6_within cX6_within 3 (some .boolean), Cond.methodLink RX6 43 yX6_part, Cond.instanceMethod yX6_part, Cond.selects RX6 yX6_part yX6_part, Cond.code yX6_part cX6_part 3 (some .int), Cond.methodLink RX6 54 yX6_firstOf, Cond.instanceMethod yX6_firstOf, Cond.selects RX6 yX6_firstOf yX6_firstOf, Cond.code yX6_firstOf cX6_firstOf 4 (some .int), Cond.methodLink RX6 51 yX6_cellsOf, Cond.instanceMethod yX6_cellsOf, Cond.selects RX6 yX6_cellsOf yX6_cellsOf, Cond.code yX6_cellsOf cX6_cellsOf 2 (some .int), Cond.methodLink RX6 47 yX6_tellingSize, Cond.instanceMethod yX6_tellingSize, Cond.selects RX6 yX6_tellingSize yX6_tellingSize]
def wsX6_of_r2 : List Cond := [Cond.code yX6_tellingSize cX6_tellingSize 2 (some .int), Cond.methodLink RX6 91 yX6_howIs, Cond.instanceMethod yX6_howIs, Cond.selects RX6 yX6_howIs yX6_howIs, Cond.code yX6_howIs cX6_howIs 7 (some .int), Cond.methodLink RX6 84 yX6_isLeaderLost, Cond.instanceMethod yX6_isLeaderLost, Cond.selects RX6 yX6_isLeaderLost yX6_isLeaderLost, Cond.code yX6_isLeaderLost cX6_isLeaderLost 6 (some .boolean), Cond.methodLink RX6 76 yX6_isHeard, Cond.instanceMethod yX6_isHeard, Cond.selects RX6 yX6_isHeard yX6_isHeard, Cond.code yX6_isHeard cX6_isHeard 2 (some .boolean), Cond.methodLink RX6 73 yX6_volumeOf, Cond.instanceMethod yX6_volumeOf, Cond.selects RX6 yX6_volumeOf yX6_volumeOf, Cond.code yX6_volumeOf cX6_volumeOf 2 (some .int), Cond.methodLink RX6 88 yX6_readAt, Cond.instanceMethod yX6_readAt, Cond.selects RX6 yX6_readAt yX6_readAt, Cond.code yX6_readAt cX6_readAt 9 (some .int), Cond.methodLink RX6 80 yX6_bitAt, Cond.instanceMethod yX6_bitAt, Cond.selects RX6 yX6_bitAt yX6_bitAt]
def wsX6_of_r3 : List Cond := [Cond.code yX6_bitAt cX6_bitAt 7 (some .int), Cond.methodLink RX6 64 yX6_byteAt, Cond.instanceMethod yX6_byteAt, Cond.selects RX6 yX6_byteAt yX6_byteAt, Cond.code yX6_byteAt cX6_byteAt 3 (some .int), Cond.methodLink RX6 61 yX6_sumOf, Cond.instanceMethod yX6_sumOf, Cond.selects RX6 yX6_sumOf yX6_sumOf, Cond.code yX6_sumOf cX6_sumOf 4 (some .int), Cond.methodLink RX6 67 yX6_isOdd, Cond.static yX6_isOdd, Cond.code yX6_isOdd cX6_isOdd 3 (some .int), Cond.methodLink RX6 70 yX6_badness, Cond.instanceMethod yX6_badness, Cond.selects RX6 yX6_badness yX6_badness, Cond.code yX6_badness cX6_badness 2 (some .int), Cond.methodLink RX6 130 yX6_loadedBy, Cond.instanceMethod yX6_loadedBy, Cond.selects RX6 yX6_loadedBy yX6_loadedBy, Cond.code yX6_loadedBy cX6_loadedBy 3 (some .int), Cond.methodLink RX6 94 yX6_findBy, Cond.instanceMethod yX6_findBy, Cond.selects RX6 yX6_findBy yX6_findBy, Cond.code yX6_findBy cX6_findBy 4 none]
def wsX6_of_r4 : List Cond := [Cond.fieldLink RX6 25 "CassetteTonesModel" "found" "[I", Cond.methodLink RX6 98 yX6_findByBoth, Cond.instanceMethod yX6_findByBoth, Cond.selects RX6 yX6_findByBoth yX6_findByBoth, Cond.code yX6_findByBoth cX6_findByBoth 6 (some .boolean), Cond.methodLink RX6 133 yX6_depthOf, Cond.instanceMethod yX6_depthOf, Cond.selects RX6 yX6_depthOf yX6_depthOf, Cond.code yX6_depthOf cX6_depthOf 4 (some .int), Cond.methodLink RX6 136 yX6_counterOf, Cond.instanceMethod yX6_counterOf, Cond.selects RX6 yX6_counterOf yX6_counterOf, Cond.code yX6_counterOf cX6_counterOf 2 (some .int)]
def wsX6_of : List Cond := .code yX6_of cX6_of 3 (some .int) :: ((wsX6_of_r1 ++ (wsX6_of_r2 ++ (wsX6_of_r3 ++ wsX6_of_r4))) ++ wsX60)
def wsX6_load_r1 : List Cond := [Cond.constantLong RX6 139 (-1), Cond.constantLong RX6 141 (-5), Cond.fieldLink RX6 25 "CassetteTonesModel" "found" "[I", Cond.methodLink RX6 107 yX6_isBlock, Cond.instanceMethod yX6_isBlock, Cond.selects RX6 yX6_isBlock yX6_isBlock, Cond.initialized RX6, Cond.code yX6_isBlock cX6_isBlock 2 (some .boolean), Cond.fieldLink RX6 7 "CassetteTonesModel" "state" "[I", Cond.methodLink RX6 39 yX6_within, Cond.static yX6_within, Cond.code yX6_within cX6_within 3 (some .boolean), Cond.methodLink RX6 130 yX6_loadedBy, Cond.instanceMethod yX6_loadedBy, Cond.selects RX6 yX6_loadedBy yX6_loadedBy, Cond.code yX6_loadedBy cX6_loadedBy 3 (some .int), Cond.methodLink RX6 91 yX6_howIs, Cond.instanceMethod yX6_howIs, Cond.selects RX6 yX6_howIs yX6_howIs, Cond.code yX6_howIs cX6_howIs 7 (some .int), Cond.methodLink RX6 84 yX6_isLeaderLost, Cond.instanceMethod yX6_isLeaderLost, Cond.selects RX6 yX6_isLeaderLost yX6_isLeaderLost, Cond.code yX6_isLeaderLost cX6_isLeaderLost 6 (some .boolean)]
def wsX6_load_r2 : List Cond := [Cond.methodLink RX6 54 yX6_firstOf, Cond.instanceMethod yX6_firstOf, Cond.selects RX6 yX6_firstOf yX6_firstOf, Cond.code yX6_firstOf cX6_firstOf 4 (some .int), Cond.methodLink RX6 51 yX6_cellsOf, Cond.instanceMethod yX6_cellsOf, Cond.selects RX6 yX6_cellsOf yX6_cellsOf, Cond.code yX6_cellsOf cX6_cellsOf 2 (some .int), Cond.methodLink RX6 47 yX6_tellingSize, Cond.instanceMethod yX6_tellingSize, Cond.selects RX6 yX6_tellingSize yX6_tellingSize, Cond.code yX6_tellingSize cX6_tellingSize 2 (some .int), Cond.methodLink RX6 43 yX6_part, Cond.instanceMethod yX6_part, Cond.selects RX6 yX6_part yX6_part, Cond.code yX6_part cX6_part 3 (some .int), Cond.methodLink RX6 76 yX6_isHeard, Cond.instanceMethod yX6_isHeard, Cond.selects RX6 yX6_isHeard yX6_isHeard, Cond.code yX6_isHeard cX6_isHeard 2 (some .boolean), Cond.methodLink RX6 73 yX6_volumeOf, Cond.instanceMethod yX6_volumeOf, Cond.selects RX6 yX6_volumeOf yX6_volumeOf, Cond.code yX6_volumeOf cX6_volumeOf 2 (some .int)]
def wsX6_load_r3 : List Cond := [Cond.methodLink RX6 88 yX6_readAt, Cond.instanceMethod yX6_readAt, Cond.selects RX6 yX6_readAt yX6_readAt, Cond.code yX6_readAt cX6_readAt 9 (some .int), Cond.methodLink RX6 80 yX6_bitAt, Cond.instanceMethod yX6_bitAt, Cond.selects RX6 yX6_bitAt yX6_bitAt, Cond.code yX6_bitAt cX6_bitAt 7 (some .int), Cond.methodLink RX6 64 yX6_byteAt, Cond.instanceMethod yX6_byteAt, Cond.selects RX6 yX6_byteAt yX6_byteAt, Cond.code yX6_byteAt cX6_byteAt 3 (some .int), Cond.methodLink RX6 61 yX6_sumOf, Cond.instanceMethod yX6_sumOf, Cond.selects RX6 yX6_sumOf yX6_sumOf, Cond.code yX6_sumOf cX6_sumOf 4 (some .int), Cond.methodLink RX6 67 yX6_isOdd, Cond.static yX6_isOdd, Cond.code yX6_isOdd cX6_isOdd 3 (some .int), Cond.methodLink RX6 70 yX6_badness, Cond.instanceMethod yX6_badness, Cond.selects RX6 yX6_badness yX6_badness, Cond.code yX6_badness cX6_badness 2 (some .int), Cond.methodLink RX6 94 yX6_findBy]
def wsX6_load_r4 : List Cond := [Cond.instanceMethod yX6_findBy, Cond.selects RX6 yX6_findBy yX6_findBy, Cond.code yX6_findBy cX6_findBy 4 none, Cond.methodLink RX6 98 yX6_findByBoth, Cond.instanceMethod yX6_findByBoth, Cond.selects RX6 yX6_findByBoth yX6_findByBoth, Cond.code yX6_findByBoth cX6_findByBoth 6 (some .boolean)]
def wsX6_load : List Cond := .code yX6_load cX6_load 5 (some .long) :: ((wsX6_load_r1 ++ (wsX6_load_r2 ++ (wsX6_load_r3 ++ wsX6_load_r4))) ++ wsX60)
def wsX6_read_r1 : List Cond := [Cond.methodLink RX6 107 yX6_isBlock, Cond.instanceMethod yX6_isBlock, Cond.selects RX6 yX6_isBlock yX6_isBlock, Cond.initialized RX6, Cond.code yX6_isBlock cX6_isBlock 2 (some .boolean), Cond.fieldLink RX6 7 "CassetteTonesModel" "state" "[I", Cond.methodLink RX6 39 yX6_within, Cond.static yX6_within, Cond.code yX6_within cX6_within 3 (some .boolean), Cond.methodLink RX6 43 yX6_part, Cond.instanceMethod yX6_part, Cond.selects RX6 yX6_part yX6_part, Cond.code yX6_part cX6_part 3 (some .int), Cond.methodLink RX6 84 yX6_isLeaderLost, Cond.instanceMethod yX6_isLeaderLost, Cond.selects RX6 yX6_isLeaderLost yX6_isLeaderLost, Cond.code yX6_isLeaderLost cX6_isLeaderLost 6 (some .boolean), Cond.methodLink RX6 54 yX6_firstOf, Cond.instanceMethod yX6_firstOf, Cond.selects RX6 yX6_firstOf yX6_firstOf, Cond.code yX6_firstOf cX6_firstOf 4 (some .int), Cond.methodLink RX6 51 yX6_cellsOf, Cond.instanceMethod yX6_cellsOf, Cond.selects RX6 yX6_cellsOf yX6_cellsOf]
def wsX6_read_r2 : List Cond := [Cond.code yX6_cellsOf cX6_cellsOf 2 (some .int), Cond.methodLink RX6 47 yX6_tellingSize, Cond.instanceMethod yX6_tellingSize, Cond.selects RX6 yX6_tellingSize yX6_tellingSize, Cond.code yX6_tellingSize cX6_tellingSize 2 (some .int), Cond.methodLink RX6 76 yX6_isHeard, Cond.instanceMethod yX6_isHeard, Cond.selects RX6 yX6_isHeard yX6_isHeard, Cond.code yX6_isHeard cX6_isHeard 2 (some .boolean), Cond.methodLink RX6 73 yX6_volumeOf, Cond.instanceMethod yX6_volumeOf, Cond.selects RX6 yX6_volumeOf yX6_volumeOf, Cond.code yX6_volumeOf cX6_volumeOf 2 (some .int), Cond.methodLink RX6 88 yX6_readAt, Cond.instanceMethod yX6_readAt, Cond.selects RX6 yX6_readAt yX6_readAt, Cond.code yX6_readAt cX6_readAt 9 (some .int), Cond.methodLink RX6 80 yX6_bitAt, Cond.instanceMethod yX6_bitAt, Cond.selects RX6 yX6_bitAt yX6_bitAt, Cond.code yX6_bitAt cX6_bitAt 7 (some .int), Cond.methodLink RX6 64 yX6_byteAt, Cond.instanceMethod yX6_byteAt, Cond.selects RX6 yX6_byteAt yX6_byteAt]
def wsX6_read_r3 : List Cond := [Cond.code yX6_byteAt cX6_byteAt 3 (some .int), Cond.methodLink RX6 61 yX6_sumOf, Cond.instanceMethod yX6_sumOf, Cond.selects RX6 yX6_sumOf yX6_sumOf, Cond.code yX6_sumOf cX6_sumOf 4 (some .int), Cond.methodLink RX6 67 yX6_isOdd, Cond.static yX6_isOdd, Cond.code yX6_isOdd cX6_isOdd 3 (some .int), Cond.methodLink RX6 70 yX6_badness, Cond.instanceMethod yX6_badness, Cond.selects RX6 yX6_badness yX6_badness, Cond.code yX6_badness cX6_badness 2 (some .int)]
def wsX6_read : List Cond := .code yX6_read cX6_read 4 (some .int) :: ((wsX6_read_r1 ++ (wsX6_read_r2 ++ wsX6_read_r3)) ++ wsX60)
def wsX6_whereIn : List Cond := .code yX6_whereIn cX6_whereIn 3 (some .int) :: ([.methodLink RX6 143 yX6_blockOf, .instanceMethod yX6_blockOf, .selects RX6 yX6_blockOf yX6_blockOf, .initialized RX6, .code yX6_blockOf cX6_blockOf 3 (some .int), .methodLink RX6 54 yX6_firstOf, .instanceMethod yX6_firstOf, .selects RX6 yX6_firstOf yX6_firstOf, .code yX6_firstOf cX6_firstOf 4 (some .int), .methodLink RX6 51 yX6_cellsOf, .instanceMethod yX6_cellsOf, .selects RX6 yX6_cellsOf yX6_cellsOf, .code yX6_cellsOf cX6_cellsOf 2 (some .int), .methodLink RX6 47 yX6_tellingSize, .instanceMethod yX6_tellingSize, .selects RX6 yX6_tellingSize yX6_tellingSize, .code yX6_tellingSize cX6_tellingSize 2 (some .int), .methodLink RX6 43 yX6_part, .instanceMethod yX6_part, .selects RX6 yX6_part yX6_part, .code yX6_part cX6_part 3 (some .int), .fieldLink RX6 7 "CassetteTonesModel" "state" "[I"] ++ wsX60)
def wsX6_bitOf_r1 : List Cond := [Cond.methodLink RX6 143 yX6_blockOf, Cond.instanceMethod yX6_blockOf, Cond.selects RX6 yX6_blockOf yX6_blockOf, Cond.initialized RX6, Cond.code yX6_blockOf cX6_blockOf 3 (some .int), Cond.methodLink RX6 54 yX6_firstOf, Cond.instanceMethod yX6_firstOf, Cond.selects RX6 yX6_firstOf yX6_firstOf, Cond.code yX6_firstOf cX6_firstOf 4 (some .int), Cond.methodLink RX6 51 yX6_cellsOf, Cond.instanceMethod yX6_cellsOf, Cond.selects RX6 yX6_cellsOf yX6_cellsOf, Cond.code yX6_cellsOf cX6_cellsOf 2 (some .int), Cond.methodLink RX6 47 yX6_tellingSize, Cond.instanceMethod yX6_tellingSize, Cond.selects RX6 yX6_tellingSize yX6_tellingSize, Cond.code yX6_tellingSize cX6_tellingSize 2 (some .int), Cond.methodLink RX6 43 yX6_part, Cond.instanceMethod yX6_part, Cond.selects RX6 yX6_part yX6_part, Cond.code yX6_part cX6_part 3 (some .int), Cond.fieldLink RX6 7 "CassetteTonesModel" "state" "[I", Cond.methodLink RX6 146 yX6_whereIn, Cond.instanceMethod yX6_whereIn]
def wsX6_bitOf_r2 : List Cond := [Cond.selects RX6 yX6_whereIn yX6_whereIn, Cond.code yX6_whereIn cX6_whereIn 3 (some .int), Cond.methodLink RX6 80 yX6_bitAt, Cond.instanceMethod yX6_bitAt, Cond.selects RX6 yX6_bitAt yX6_bitAt, Cond.code yX6_bitAt cX6_bitAt 7 (some .int), Cond.methodLink RX6 64 yX6_byteAt, Cond.instanceMethod yX6_byteAt, Cond.selects RX6 yX6_byteAt yX6_byteAt, Cond.code yX6_byteAt cX6_byteAt 3 (some .int), Cond.methodLink RX6 61 yX6_sumOf, Cond.instanceMethod yX6_sumOf, Cond.selects RX6 yX6_sumOf yX6_sumOf, Cond.code yX6_sumOf cX6_sumOf 4 (some .int), Cond.methodLink RX6 67 yX6_isOdd, Cond.static yX6_isOdd, Cond.code yX6_isOdd cX6_isOdd 3 (some .int), Cond.methodLink RX6 70 yX6_badness, Cond.instanceMethod yX6_badness, Cond.selects RX6 yX6_badness yX6_badness, Cond.code yX6_badness cX6_badness 2 (some .int)]
def wsX6_bitOf : List Cond := .code yX6_bitOf cX6_bitOf 4 (some .int) :: ((wsX6_bitOf_r1 ++ wsX6_bitOf_r2) ++ wsX60)
def wsX6_cell_r1 : List Cond := [Cond.methodLink RX6 118 yX6_isCell, Cond.instanceMethod yX6_isCell, Cond.selects RX6 yX6_isCell yX6_isCell, Cond.initialized RX6, Cond.code yX6_isCell cX6_isCell 2 (some .boolean), Cond.methodLink RX6 57 yX6_allCells, Cond.instanceMethod yX6_allCells, Cond.selects RX6 yX6_allCells yX6_allCells, Cond.code yX6_allCells cX6_allCells 1 (some .int), Cond.fieldLink RX6 7 "CassetteTonesModel" "state" "[I", Cond.methodLink RX6 54 yX6_firstOf, Cond.instanceMethod yX6_firstOf, Cond.selects RX6 yX6_firstOf yX6_firstOf, Cond.code yX6_firstOf cX6_firstOf 4 (some .int), Cond.methodLink RX6 51 yX6_cellsOf, Cond.instanceMethod yX6_cellsOf, Cond.selects RX6 yX6_cellsOf yX6_cellsOf, Cond.code yX6_cellsOf cX6_cellsOf 2 (some .int), Cond.methodLink RX6 47 yX6_tellingSize, Cond.instanceMethod yX6_tellingSize, Cond.selects RX6 yX6_tellingSize yX6_tellingSize, Cond.code yX6_tellingSize cX6_tellingSize 2 (some .int), Cond.methodLink RX6 43 yX6_part, Cond.instanceMethod yX6_part]
def wsX6_cell_r2 : List Cond := [Cond.selects RX6 yX6_part yX6_part, Cond.code yX6_part cX6_part 3 (some .int), Cond.methodLink RX6 39 yX6_within, Cond.static yX6_within, Cond.code yX6_within cX6_within 3 (some .boolean), Cond.methodLink RX6 73 yX6_volumeOf, Cond.instanceMethod yX6_volumeOf, Cond.selects RX6 yX6_volumeOf yX6_volumeOf, Cond.code yX6_volumeOf cX6_volumeOf 2 (some .int), Cond.methodLink RX6 70 yX6_badness, Cond.instanceMethod yX6_badness, Cond.selects RX6 yX6_badness yX6_badness, Cond.code yX6_badness cX6_badness 2 (some .int), Cond.methodLink RX6 149 yX6_bitOf, Cond.instanceMethod yX6_bitOf, Cond.selects RX6 yX6_bitOf yX6_bitOf, Cond.code yX6_bitOf cX6_bitOf 4 (some .int), Cond.methodLink RX6 143 yX6_blockOf, Cond.instanceMethod yX6_blockOf, Cond.selects RX6 yX6_blockOf yX6_blockOf, Cond.code yX6_blockOf cX6_blockOf 3 (some .int), Cond.methodLink RX6 146 yX6_whereIn, Cond.instanceMethod yX6_whereIn, Cond.selects RX6 yX6_whereIn yX6_whereIn]
def wsX6_cell_r3 : List Cond := [Cond.code yX6_whereIn cX6_whereIn 3 (some .int), Cond.methodLink RX6 80 yX6_bitAt, Cond.instanceMethod yX6_bitAt, Cond.selects RX6 yX6_bitAt yX6_bitAt, Cond.code yX6_bitAt cX6_bitAt 7 (some .int), Cond.methodLink RX6 64 yX6_byteAt, Cond.instanceMethod yX6_byteAt, Cond.selects RX6 yX6_byteAt yX6_byteAt, Cond.code yX6_byteAt cX6_byteAt 3 (some .int), Cond.methodLink RX6 61 yX6_sumOf, Cond.instanceMethod yX6_sumOf, Cond.selects RX6 yX6_sumOf yX6_sumOf, Cond.code yX6_sumOf cX6_sumOf 4 (some .int), Cond.methodLink RX6 67 yX6_isOdd, Cond.static yX6_isOdd, Cond.code yX6_isOdd cX6_isOdd 3 (some .int), Cond.methodLink RX6 136 yX6_counterOf, Cond.instanceMethod yX6_counterOf, Cond.selects RX6 yX6_counterOf yX6_counterOf, Cond.code yX6_counterOf cX6_counterOf 2 (some .int)]
def wsX6_cell : List Cond := .code yX6_cell cX6_cell 3 (some .int) :: ((wsX6_cell_r1 ++ (wsX6_cell_r2 ++ wsX6_cell_r3)) ++ wsX60)
def wsX6_loadedSet_r1 : List Cond := [Cond.fieldLink RX6 7 "CassetteTonesModel" "state" "[I", Cond.methodLink RX6 130 yX6_loadedBy, Cond.instanceMethod yX6_loadedBy, Cond.selects RX6 yX6_loadedBy yX6_loadedBy, Cond.initialized RX6, Cond.code yX6_loadedBy cX6_loadedBy 3 (some .int), Cond.methodLink RX6 91 yX6_howIs, Cond.instanceMethod yX6_howIs, Cond.selects RX6 yX6_howIs yX6_howIs, Cond.code yX6_howIs cX6_howIs 7 (some .int), Cond.methodLink RX6 84 yX6_isLeaderLost, Cond.instanceMethod yX6_isLeaderLost, Cond.selects RX6 yX6_isLeaderLost yX6_isLeaderLost, Cond.code yX6_isLeaderLost cX6_isLeaderLost 6 (some .boolean), Cond.methodLink RX6 54 yX6_firstOf, Cond.instanceMethod yX6_firstOf, Cond.selects RX6 yX6_firstOf yX6_firstOf, Cond.code yX6_firstOf cX6_firstOf 4 (some .int), Cond.methodLink RX6 51 yX6_cellsOf, Cond.instanceMethod yX6_cellsOf, Cond.selects RX6 yX6_cellsOf yX6_cellsOf, Cond.code yX6_cellsOf cX6_cellsOf 2 (some .int), Cond.methodLink RX6 47 yX6_tellingSize, Cond.instanceMethod yX6_tellingSize]
def wsX6_loadedSet_r2 : List Cond := [Cond.selects RX6 yX6_tellingSize yX6_tellingSize, Cond.code yX6_tellingSize cX6_tellingSize 2 (some .int), Cond.methodLink RX6 43 yX6_part, Cond.instanceMethod yX6_part, Cond.selects RX6 yX6_part yX6_part, Cond.code yX6_part cX6_part 3 (some .int), Cond.methodLink RX6 76 yX6_isHeard, Cond.instanceMethod yX6_isHeard, Cond.selects RX6 yX6_isHeard yX6_isHeard, Cond.code yX6_isHeard cX6_isHeard 2 (some .boolean), Cond.methodLink RX6 73 yX6_volumeOf, Cond.instanceMethod yX6_volumeOf, Cond.selects RX6 yX6_volumeOf yX6_volumeOf, Cond.code yX6_volumeOf cX6_volumeOf 2 (some .int), Cond.methodLink RX6 88 yX6_readAt, Cond.instanceMethod yX6_readAt, Cond.selects RX6 yX6_readAt yX6_readAt, Cond.code yX6_readAt cX6_readAt 9 (some .int), Cond.methodLink RX6 80 yX6_bitAt, Cond.instanceMethod yX6_bitAt, Cond.selects RX6 yX6_bitAt yX6_bitAt, Cond.code yX6_bitAt cX6_bitAt 7 (some .int), Cond.methodLink RX6 64 yX6_byteAt, Cond.instanceMethod yX6_byteAt]
def wsX6_loadedSet_r3 : List Cond := [Cond.selects RX6 yX6_byteAt yX6_byteAt, Cond.code yX6_byteAt cX6_byteAt 3 (some .int), Cond.methodLink RX6 61 yX6_sumOf, Cond.instanceMethod yX6_sumOf, Cond.selects RX6 yX6_sumOf yX6_sumOf, Cond.code yX6_sumOf cX6_sumOf 4 (some .int), Cond.methodLink RX6 67 yX6_isOdd, Cond.static yX6_isOdd, Cond.code yX6_isOdd cX6_isOdd 3 (some .int), Cond.methodLink RX6 70 yX6_badness, Cond.instanceMethod yX6_badness, Cond.selects RX6 yX6_badness yX6_badness, Cond.code yX6_badness cX6_badness 2 (some .int), Cond.methodLink RX6 94 yX6_findBy, Cond.instanceMethod yX6_findBy, Cond.selects RX6 yX6_findBy yX6_findBy, Cond.code yX6_findBy cX6_findBy 4 none, Cond.fieldLink RX6 25 "CassetteTonesModel" "found" "[I", Cond.methodLink RX6 98 yX6_findByBoth, Cond.instanceMethod yX6_findByBoth, Cond.selects RX6 yX6_findByBoth yX6_findByBoth, Cond.code yX6_findByBoth cX6_findByBoth 6 (some .boolean)]
def wsX6_loadedSet : List Cond := .code yX6_loadedSet cX6_loadedSet 5 (some .int) :: ((wsX6_loadedSet_r1 ++ (wsX6_loadedSet_r2 ++ wsX6_loadedSet_r3)) ++ wsX60)
def wsX6_silentMany_r1 : List Cond := [Cond.methodLink RX6 57 yX6_allCells, Cond.instanceMethod yX6_allCells, Cond.selects RX6 yX6_allCells yX6_allCells, Cond.initialized RX6, Cond.code yX6_allCells cX6_allCells 1 (some .int), Cond.fieldLink RX6 7 "CassetteTonesModel" "state" "[I", Cond.methodLink RX6 54 yX6_firstOf, Cond.instanceMethod yX6_firstOf, Cond.selects RX6 yX6_firstOf yX6_firstOf, Cond.code yX6_firstOf cX6_firstOf 4 (some .int), Cond.methodLink RX6 51 yX6_cellsOf, Cond.instanceMethod yX6_cellsOf, Cond.selects RX6 yX6_cellsOf yX6_cellsOf, Cond.code yX6_cellsOf cX6_cellsOf 2 (some .int), Cond.methodLink RX6 47 yX6_tellingSize, Cond.instanceMethod yX6_tellingSize, Cond.selects RX6 yX6_tellingSize yX6_tellingSize, Cond.code yX6_tellingSize cX6_tellingSize 2 (some .int), Cond.methodLink RX6 43 yX6_part, Cond.instanceMethod yX6_part, Cond.selects RX6 yX6_part yX6_part, Cond.code yX6_part cX6_part 3 (some .int), Cond.methodLink RX6 76 yX6_isHeard, Cond.instanceMethod yX6_isHeard]
def wsX6_silentMany_r2 : List Cond := [Cond.selects RX6 yX6_isHeard yX6_isHeard, Cond.code yX6_isHeard cX6_isHeard 2 (some .boolean), Cond.methodLink RX6 73 yX6_volumeOf, Cond.instanceMethod yX6_volumeOf, Cond.selects RX6 yX6_volumeOf yX6_volumeOf, Cond.code yX6_volumeOf cX6_volumeOf 2 (some .int)]
def wsX6_silentMany : List Cond := .code yX6_silentMany cX6_silentMany 3 (some .int) :: ((wsX6_silentMany_r1 ++ wsX6_silentMany_r2) ++ wsX60)
def wsX6_badMany_r1 : List Cond := [Cond.methodLink RX6 57 yX6_allCells, Cond.instanceMethod yX6_allCells, Cond.selects RX6 yX6_allCells yX6_allCells, Cond.initialized RX6, Cond.code yX6_allCells cX6_allCells 1 (some .int), Cond.fieldLink RX6 7 "CassetteTonesModel" "state" "[I", Cond.methodLink RX6 54 yX6_firstOf, Cond.instanceMethod yX6_firstOf, Cond.selects RX6 yX6_firstOf yX6_firstOf, Cond.code yX6_firstOf cX6_firstOf 4 (some .int), Cond.methodLink RX6 51 yX6_cellsOf, Cond.instanceMethod yX6_cellsOf, Cond.selects RX6 yX6_cellsOf yX6_cellsOf, Cond.code yX6_cellsOf cX6_cellsOf 2 (some .int), Cond.methodLink RX6 47 yX6_tellingSize, Cond.instanceMethod yX6_tellingSize, Cond.selects RX6 yX6_tellingSize yX6_tellingSize, Cond.code yX6_tellingSize cX6_tellingSize 2 (some .int), Cond.methodLink RX6 43 yX6_part, Cond.instanceMethod yX6_part, Cond.selects RX6 yX6_part yX6_part, Cond.code yX6_part cX6_part 3 (some .int), Cond.methodLink RX6 70 yX6_badness, Cond.instanceMethod yX6_badness]
def wsX6_badMany_r2 : List Cond := [Cond.selects RX6 yX6_badness yX6_badness, Cond.code yX6_badness cX6_badness 2 (some .int)]
def wsX6_badMany : List Cond := .code yX6_badMany cX6_badMany 3 (some .int) :: ((wsX6_badMany_r1 ++ wsX6_badMany_r2) ++ wsX60)
def wsX6_count_r1 : List Cond := [Cond.fieldLink RX6 7 "CassetteTonesModel" "state" "[I", Cond.fieldLink RX6 162 "CassetteTonesModel" "padLength" "I", Cond.fieldLink RX6 31 "CassetteTonesModel" "recorded" "I", Cond.methodLink RX6 57 yX6_allCells, Cond.instanceMethod yX6_allCells, Cond.selects RX6 yX6_allCells yX6_allCells, Cond.initialized RX6, Cond.code yX6_allCells cX6_allCells 1 (some .int), Cond.methodLink RX6 54 yX6_firstOf, Cond.instanceMethod yX6_firstOf, Cond.selects RX6 yX6_firstOf yX6_firstOf, Cond.code yX6_firstOf cX6_firstOf 4 (some .int), Cond.methodLink RX6 51 yX6_cellsOf, Cond.instanceMethod yX6_cellsOf, Cond.selects RX6 yX6_cellsOf yX6_cellsOf, Cond.code yX6_cellsOf cX6_cellsOf 2 (some .int), Cond.methodLink RX6 47 yX6_tellingSize, Cond.instanceMethod yX6_tellingSize, Cond.selects RX6 yX6_tellingSize yX6_tellingSize, Cond.code yX6_tellingSize cX6_tellingSize 2 (some .int), Cond.methodLink RX6 43 yX6_part, Cond.instanceMethod yX6_part, Cond.selects RX6 yX6_part yX6_part, Cond.code yX6_part cX6_part 3 (some .int)]
def wsX6_count_r2 : List Cond := [Cond.methodLink RX6 152 yX6_loadedSet, Cond.instanceMethod yX6_loadedSet, Cond.selects RX6 yX6_loadedSet yX6_loadedSet, Cond.code yX6_loadedSet cX6_loadedSet 5 (some .int), Cond.methodLink RX6 130 yX6_loadedBy, Cond.instanceMethod yX6_loadedBy, Cond.selects RX6 yX6_loadedBy yX6_loadedBy, Cond.code yX6_loadedBy cX6_loadedBy 3 (some .int), Cond.methodLink RX6 91 yX6_howIs, Cond.instanceMethod yX6_howIs, Cond.selects RX6 yX6_howIs yX6_howIs, Cond.code yX6_howIs cX6_howIs 7 (some .int), Cond.methodLink RX6 84 yX6_isLeaderLost, Cond.instanceMethod yX6_isLeaderLost, Cond.selects RX6 yX6_isLeaderLost yX6_isLeaderLost, Cond.code yX6_isLeaderLost cX6_isLeaderLost 6 (some .boolean), Cond.methodLink RX6 76 yX6_isHeard, Cond.instanceMethod yX6_isHeard, Cond.selects RX6 yX6_isHeard yX6_isHeard, Cond.code yX6_isHeard cX6_isHeard 2 (some .boolean), Cond.methodLink RX6 73 yX6_volumeOf, Cond.instanceMethod yX6_volumeOf, Cond.selects RX6 yX6_volumeOf yX6_volumeOf, Cond.code yX6_volumeOf cX6_volumeOf 2 (some .int)]
def wsX6_count_r3 : List Cond := [Cond.methodLink RX6 88 yX6_readAt, Cond.instanceMethod yX6_readAt, Cond.selects RX6 yX6_readAt yX6_readAt, Cond.code yX6_readAt cX6_readAt 9 (some .int), Cond.methodLink RX6 80 yX6_bitAt, Cond.instanceMethod yX6_bitAt, Cond.selects RX6 yX6_bitAt yX6_bitAt, Cond.code yX6_bitAt cX6_bitAt 7 (some .int), Cond.methodLink RX6 64 yX6_byteAt, Cond.instanceMethod yX6_byteAt, Cond.selects RX6 yX6_byteAt yX6_byteAt, Cond.code yX6_byteAt cX6_byteAt 3 (some .int), Cond.methodLink RX6 61 yX6_sumOf, Cond.instanceMethod yX6_sumOf, Cond.selects RX6 yX6_sumOf yX6_sumOf, Cond.code yX6_sumOf cX6_sumOf 4 (some .int), Cond.methodLink RX6 67 yX6_isOdd, Cond.static yX6_isOdd, Cond.code yX6_isOdd cX6_isOdd 3 (some .int), Cond.methodLink RX6 70 yX6_badness, Cond.instanceMethod yX6_badness, Cond.selects RX6 yX6_badness yX6_badness, Cond.code yX6_badness cX6_badness 2 (some .int), Cond.methodLink RX6 94 yX6_findBy]
def wsX6_count_r4 : List Cond := [Cond.instanceMethod yX6_findBy, Cond.selects RX6 yX6_findBy yX6_findBy, Cond.code yX6_findBy cX6_findBy 4 none, Cond.fieldLink RX6 25 "CassetteTonesModel" "found" "[I", Cond.methodLink RX6 98 yX6_findByBoth, Cond.instanceMethod yX6_findByBoth, Cond.selects RX6 yX6_findByBoth yX6_findByBoth, Cond.code yX6_findByBoth cX6_findByBoth 6 (some .boolean), Cond.methodLink RX6 156 yX6_silentMany, Cond.instanceMethod yX6_silentMany, Cond.selects RX6 yX6_silentMany yX6_silentMany, Cond.code yX6_silentMany cX6_silentMany 3 (some .int), Cond.methodLink RX6 159 yX6_badMany, Cond.instanceMethod yX6_badMany, Cond.selects RX6 yX6_badMany yX6_badMany, Cond.code yX6_badMany cX6_badMany 3 (some .int)]
def wsX6_count : List Cond := .code yX6_count cX6_count 2 (some .int) :: ((wsX6_count_r1 ++ (wsX6_count_r2 ++ (wsX6_count_r3 ++ wsX6_count_r4))) ++ wsX60)
def wsX6_reachedSet_r1 : List Cond := [Cond.fieldLink RX6 7 "CassetteTonesModel" "state" "[I", Cond.methodLink RX6 152 yX6_loadedSet, Cond.instanceMethod yX6_loadedSet, Cond.selects RX6 yX6_loadedSet yX6_loadedSet, Cond.initialized RX6, Cond.code yX6_loadedSet cX6_loadedSet 5 (some .int), Cond.methodLink RX6 130 yX6_loadedBy, Cond.instanceMethod yX6_loadedBy, Cond.selects RX6 yX6_loadedBy yX6_loadedBy, Cond.code yX6_loadedBy cX6_loadedBy 3 (some .int), Cond.methodLink RX6 91 yX6_howIs, Cond.instanceMethod yX6_howIs, Cond.selects RX6 yX6_howIs yX6_howIs, Cond.code yX6_howIs cX6_howIs 7 (some .int), Cond.methodLink RX6 84 yX6_isLeaderLost, Cond.instanceMethod yX6_isLeaderLost, Cond.selects RX6 yX6_isLeaderLost yX6_isLeaderLost, Cond.code yX6_isLeaderLost cX6_isLeaderLost 6 (some .boolean), Cond.methodLink RX6 54 yX6_firstOf, Cond.instanceMethod yX6_firstOf, Cond.selects RX6 yX6_firstOf yX6_firstOf, Cond.code yX6_firstOf cX6_firstOf 4 (some .int), Cond.methodLink RX6 51 yX6_cellsOf, Cond.instanceMethod yX6_cellsOf]
def wsX6_reachedSet_r2 : List Cond := [Cond.selects RX6 yX6_cellsOf yX6_cellsOf, Cond.code yX6_cellsOf cX6_cellsOf 2 (some .int), Cond.methodLink RX6 47 yX6_tellingSize, Cond.instanceMethod yX6_tellingSize, Cond.selects RX6 yX6_tellingSize yX6_tellingSize, Cond.code yX6_tellingSize cX6_tellingSize 2 (some .int), Cond.methodLink RX6 43 yX6_part, Cond.instanceMethod yX6_part, Cond.selects RX6 yX6_part yX6_part, Cond.code yX6_part cX6_part 3 (some .int), Cond.methodLink RX6 76 yX6_isHeard, Cond.instanceMethod yX6_isHeard, Cond.selects RX6 yX6_isHeard yX6_isHeard, Cond.code yX6_isHeard cX6_isHeard 2 (some .boolean), Cond.methodLink RX6 73 yX6_volumeOf, Cond.instanceMethod yX6_volumeOf, Cond.selects RX6 yX6_volumeOf yX6_volumeOf, Cond.code yX6_volumeOf cX6_volumeOf 2 (some .int), Cond.methodLink RX6 88 yX6_readAt, Cond.instanceMethod yX6_readAt, Cond.selects RX6 yX6_readAt yX6_readAt, Cond.code yX6_readAt cX6_readAt 9 (some .int), Cond.methodLink RX6 80 yX6_bitAt, Cond.instanceMethod yX6_bitAt]
def wsX6_reachedSet_r3 : List Cond := [Cond.selects RX6 yX6_bitAt yX6_bitAt, Cond.code yX6_bitAt cX6_bitAt 7 (some .int), Cond.methodLink RX6 64 yX6_byteAt, Cond.instanceMethod yX6_byteAt, Cond.selects RX6 yX6_byteAt yX6_byteAt, Cond.code yX6_byteAt cX6_byteAt 3 (some .int), Cond.methodLink RX6 61 yX6_sumOf, Cond.instanceMethod yX6_sumOf, Cond.selects RX6 yX6_sumOf yX6_sumOf, Cond.code yX6_sumOf cX6_sumOf 4 (some .int), Cond.methodLink RX6 67 yX6_isOdd, Cond.static yX6_isOdd, Cond.code yX6_isOdd cX6_isOdd 3 (some .int), Cond.methodLink RX6 70 yX6_badness, Cond.instanceMethod yX6_badness, Cond.selects RX6 yX6_badness yX6_badness, Cond.code yX6_badness cX6_badness 2 (some .int), Cond.methodLink RX6 94 yX6_findBy, Cond.instanceMethod yX6_findBy, Cond.selects RX6 yX6_findBy yX6_findBy, Cond.code yX6_findBy cX6_findBy 4 none, Cond.fieldLink RX6 25 "CassetteTonesModel" "found" "[I", Cond.methodLink RX6 98 yX6_findByBoth, Cond.instanceMethod yX6_findByBoth]
def wsX6_reachedSet_r4 : List Cond := [Cond.selects RX6 yX6_findByBoth yX6_findByBoth, Cond.code yX6_findByBoth cX6_findByBoth 6 (some .boolean)]
def wsX6_reachedSet : List Cond := .code yX6_reachedSet cX6_reachedSet 5 (some .int) :: ((wsX6_reachedSet_r1 ++ (wsX6_reachedSet_r2 ++ (wsX6_reachedSet_r3 ++ wsX6_reachedSet_r4))) ++ wsX60)
def wsX6_reached_r1 : List Cond := [Cond.methodLink RX6 165 yX6_reachedSet, Cond.instanceMethod yX6_reachedSet, Cond.selects RX6 yX6_reachedSet yX6_reachedSet, Cond.initialized RX6, Cond.code yX6_reachedSet cX6_reachedSet 5 (some .int), Cond.fieldLink RX6 7 "CassetteTonesModel" "state" "[I", Cond.methodLink RX6 152 yX6_loadedSet, Cond.instanceMethod yX6_loadedSet, Cond.selects RX6 yX6_loadedSet yX6_loadedSet, Cond.code yX6_loadedSet cX6_loadedSet 5 (some .int), Cond.methodLink RX6 130 yX6_loadedBy, Cond.instanceMethod yX6_loadedBy, Cond.selects RX6 yX6_loadedBy yX6_loadedBy, Cond.code yX6_loadedBy cX6_loadedBy 3 (some .int), Cond.methodLink RX6 91 yX6_howIs, Cond.instanceMethod yX6_howIs, Cond.selects RX6 yX6_howIs yX6_howIs, Cond.code yX6_howIs cX6_howIs 7 (some .int), Cond.methodLink RX6 84 yX6_isLeaderLost, Cond.instanceMethod yX6_isLeaderLost, Cond.selects RX6 yX6_isLeaderLost yX6_isLeaderLost, Cond.code yX6_isLeaderLost cX6_isLeaderLost 6 (some .boolean), Cond.methodLink RX6 54 yX6_firstOf, Cond.instanceMethod yX6_firstOf]
def wsX6_reached_r2 : List Cond := [Cond.selects RX6 yX6_firstOf yX6_firstOf, Cond.code yX6_firstOf cX6_firstOf 4 (some .int), Cond.methodLink RX6 51 yX6_cellsOf, Cond.instanceMethod yX6_cellsOf, Cond.selects RX6 yX6_cellsOf yX6_cellsOf, Cond.code yX6_cellsOf cX6_cellsOf 2 (some .int), Cond.methodLink RX6 47 yX6_tellingSize, Cond.instanceMethod yX6_tellingSize, Cond.selects RX6 yX6_tellingSize yX6_tellingSize, Cond.code yX6_tellingSize cX6_tellingSize 2 (some .int), Cond.methodLink RX6 43 yX6_part, Cond.instanceMethod yX6_part, Cond.selects RX6 yX6_part yX6_part, Cond.code yX6_part cX6_part 3 (some .int), Cond.methodLink RX6 76 yX6_isHeard, Cond.instanceMethod yX6_isHeard, Cond.selects RX6 yX6_isHeard yX6_isHeard, Cond.code yX6_isHeard cX6_isHeard 2 (some .boolean), Cond.methodLink RX6 73 yX6_volumeOf, Cond.instanceMethod yX6_volumeOf, Cond.selects RX6 yX6_volumeOf yX6_volumeOf, Cond.code yX6_volumeOf cX6_volumeOf 2 (some .int), Cond.methodLink RX6 88 yX6_readAt, Cond.instanceMethod yX6_readAt]
def wsX6_reached_r3 : List Cond := [Cond.selects RX6 yX6_readAt yX6_readAt, Cond.code yX6_readAt cX6_readAt 9 (some .int), Cond.methodLink RX6 80 yX6_bitAt, Cond.instanceMethod yX6_bitAt, Cond.selects RX6 yX6_bitAt yX6_bitAt, Cond.code yX6_bitAt cX6_bitAt 7 (some .int), Cond.methodLink RX6 64 yX6_byteAt, Cond.instanceMethod yX6_byteAt, Cond.selects RX6 yX6_byteAt yX6_byteAt, Cond.code yX6_byteAt cX6_byteAt 3 (some .int), Cond.methodLink RX6 61 yX6_sumOf, Cond.instanceMethod yX6_sumOf, Cond.selects RX6 yX6_sumOf yX6_sumOf, Cond.code yX6_sumOf cX6_sumOf 4 (some .int), Cond.methodLink RX6 67 yX6_isOdd, Cond.static yX6_isOdd, Cond.code yX6_isOdd cX6_isOdd 3 (some .int), Cond.methodLink RX6 70 yX6_badness, Cond.instanceMethod yX6_badness, Cond.selects RX6 yX6_badness yX6_badness, Cond.code yX6_badness cX6_badness 2 (some .int), Cond.methodLink RX6 94 yX6_findBy, Cond.instanceMethod yX6_findBy, Cond.selects RX6 yX6_findBy yX6_findBy]
def wsX6_reached_r4 : List Cond := [Cond.code yX6_findBy cX6_findBy 4 none, Cond.fieldLink RX6 25 "CassetteTonesModel" "found" "[I", Cond.methodLink RX6 98 yX6_findByBoth, Cond.instanceMethod yX6_findByBoth, Cond.selects RX6 yX6_findByBoth yX6_findByBoth, Cond.code yX6_findByBoth cX6_findByBoth 6 (some .boolean)]
def wsX6_reached : List Cond := .code yX6_reached cX6_reached 1 (some .int) :: ((wsX6_reached_r1 ++ (wsX6_reached_r2 ++ (wsX6_reached_r3 ++ wsX6_reached_r4))) ++ wsX60)
def wsX6_farFrom_r1 : List Cond := [Cond.methodLink RX6 54 yX6_firstOf, Cond.instanceMethod yX6_firstOf, Cond.selects RX6 yX6_firstOf yX6_firstOf, Cond.initialized RX6, Cond.code yX6_firstOf cX6_firstOf 4 (some .int), Cond.methodLink RX6 51 yX6_cellsOf, Cond.instanceMethod yX6_cellsOf, Cond.selects RX6 yX6_cellsOf yX6_cellsOf, Cond.code yX6_cellsOf cX6_cellsOf 2 (some .int), Cond.methodLink RX6 47 yX6_tellingSize, Cond.instanceMethod yX6_tellingSize, Cond.selects RX6 yX6_tellingSize yX6_tellingSize, Cond.code yX6_tellingSize cX6_tellingSize 2 (some .int), Cond.methodLink RX6 43 yX6_part, Cond.instanceMethod yX6_part, Cond.selects RX6 yX6_part yX6_part, Cond.code yX6_part cX6_part 3 (some .int), Cond.fieldLink RX6 7 "CassetteTonesModel" "state" "[I", Cond.methodLink RX6 136 yX6_counterOf, Cond.instanceMethod yX6_counterOf, Cond.selects RX6 yX6_counterOf yX6_counterOf, Cond.code yX6_counterOf cX6_counterOf 2 (some .int), Cond.methodLink RX6 168 yX6_size, Cond.static yX6_size]
def wsX6_farFrom_r2 : List Cond := [Cond.code yX6_size cX6_size 1 (some .int)]
def wsX6_farFrom : List Cond := .code yX6_farFrom cX6_farFrom 4 (some .int) :: ((wsX6_farFrom_r1 ++ wsX6_farFrom_r2) ++ wsX60)
def wsX6_near_r1 : List Cond := [Cond.fieldLink RX6 7 "CassetteTonesModel" "state" "[I", Cond.methodLink RX6 39 yX6_within, Cond.static yX6_within, Cond.initialized RX6, Cond.code yX6_within cX6_within 3 (some .boolean), Cond.methodLink RX6 171 yX6_farFrom, Cond.instanceMethod yX6_farFrom, Cond.selects RX6 yX6_farFrom yX6_farFrom, Cond.code yX6_farFrom cX6_farFrom 4 (some .int), Cond.methodLink RX6 54 yX6_firstOf, Cond.instanceMethod yX6_firstOf, Cond.selects RX6 yX6_firstOf yX6_firstOf, Cond.code yX6_firstOf cX6_firstOf 4 (some .int), Cond.methodLink RX6 51 yX6_cellsOf, Cond.instanceMethod yX6_cellsOf, Cond.selects RX6 yX6_cellsOf yX6_cellsOf, Cond.code yX6_cellsOf cX6_cellsOf 2 (some .int), Cond.methodLink RX6 47 yX6_tellingSize, Cond.instanceMethod yX6_tellingSize, Cond.selects RX6 yX6_tellingSize yX6_tellingSize, Cond.code yX6_tellingSize cX6_tellingSize 2 (some .int), Cond.methodLink RX6 43 yX6_part, Cond.instanceMethod yX6_part, Cond.selects RX6 yX6_part yX6_part]
def wsX6_near_r2 : List Cond := [Cond.code yX6_part cX6_part 3 (some .int), Cond.methodLink RX6 136 yX6_counterOf, Cond.instanceMethod yX6_counterOf, Cond.selects RX6 yX6_counterOf yX6_counterOf, Cond.code yX6_counterOf cX6_counterOf 2 (some .int), Cond.methodLink RX6 168 yX6_size, Cond.static yX6_size, Cond.code yX6_size cX6_size 1 (some .int)]
def wsX6_near : List Cond := .code yX6_near cX6_near 7 (some .int) :: ((wsX6_near_r1 ++ wsX6_near_r2) ++ wsX60)
def wsX6_mostLeast_r1 : List Cond := [Cond.fieldLink RX6 7 "CassetteTonesModel" "state" "[I", Cond.methodLink RX6 107 yX6_isBlock, Cond.instanceMethod yX6_isBlock, Cond.selects RX6 yX6_isBlock yX6_isBlock, Cond.initialized RX6, Cond.code yX6_isBlock cX6_isBlock 2 (some .boolean), Cond.methodLink RX6 39 yX6_within, Cond.static yX6_within, Cond.code yX6_within cX6_within 3 (some .boolean), Cond.methodLink RX6 130 yX6_loadedBy, Cond.instanceMethod yX6_loadedBy, Cond.selects RX6 yX6_loadedBy yX6_loadedBy, Cond.code yX6_loadedBy cX6_loadedBy 3 (some .int), Cond.methodLink RX6 91 yX6_howIs, Cond.instanceMethod yX6_howIs, Cond.selects RX6 yX6_howIs yX6_howIs, Cond.code yX6_howIs cX6_howIs 7 (some .int), Cond.methodLink RX6 84 yX6_isLeaderLost, Cond.instanceMethod yX6_isLeaderLost, Cond.selects RX6 yX6_isLeaderLost yX6_isLeaderLost, Cond.code yX6_isLeaderLost cX6_isLeaderLost 6 (some .boolean), Cond.methodLink RX6 54 yX6_firstOf, Cond.instanceMethod yX6_firstOf, Cond.selects RX6 yX6_firstOf yX6_firstOf]
def wsX6_mostLeast_r2 : List Cond := [Cond.code yX6_firstOf cX6_firstOf 4 (some .int), Cond.methodLink RX6 51 yX6_cellsOf, Cond.instanceMethod yX6_cellsOf, Cond.selects RX6 yX6_cellsOf yX6_cellsOf, Cond.code yX6_cellsOf cX6_cellsOf 2 (some .int), Cond.methodLink RX6 47 yX6_tellingSize, Cond.instanceMethod yX6_tellingSize, Cond.selects RX6 yX6_tellingSize yX6_tellingSize, Cond.code yX6_tellingSize cX6_tellingSize 2 (some .int), Cond.methodLink RX6 43 yX6_part, Cond.instanceMethod yX6_part, Cond.selects RX6 yX6_part yX6_part, Cond.code yX6_part cX6_part 3 (some .int), Cond.methodLink RX6 76 yX6_isHeard, Cond.instanceMethod yX6_isHeard, Cond.selects RX6 yX6_isHeard yX6_isHeard, Cond.code yX6_isHeard cX6_isHeard 2 (some .boolean), Cond.methodLink RX6 73 yX6_volumeOf, Cond.instanceMethod yX6_volumeOf, Cond.selects RX6 yX6_volumeOf yX6_volumeOf, Cond.code yX6_volumeOf cX6_volumeOf 2 (some .int), Cond.methodLink RX6 88 yX6_readAt, Cond.instanceMethod yX6_readAt, Cond.selects RX6 yX6_readAt yX6_readAt]
def wsX6_mostLeast_r3 : List Cond := [Cond.code yX6_readAt cX6_readAt 9 (some .int), Cond.methodLink RX6 80 yX6_bitAt, Cond.instanceMethod yX6_bitAt, Cond.selects RX6 yX6_bitAt yX6_bitAt, Cond.code yX6_bitAt cX6_bitAt 7 (some .int), Cond.methodLink RX6 64 yX6_byteAt, Cond.instanceMethod yX6_byteAt, Cond.selects RX6 yX6_byteAt yX6_byteAt, Cond.code yX6_byteAt cX6_byteAt 3 (some .int), Cond.methodLink RX6 61 yX6_sumOf, Cond.instanceMethod yX6_sumOf, Cond.selects RX6 yX6_sumOf yX6_sumOf, Cond.code yX6_sumOf cX6_sumOf 4 (some .int), Cond.methodLink RX6 67 yX6_isOdd, Cond.static yX6_isOdd, Cond.code yX6_isOdd cX6_isOdd 3 (some .int), Cond.methodLink RX6 70 yX6_badness, Cond.instanceMethod yX6_badness, Cond.selects RX6 yX6_badness yX6_badness, Cond.code yX6_badness cX6_badness 2 (some .int), Cond.methodLink RX6 94 yX6_findBy, Cond.instanceMethod yX6_findBy, Cond.selects RX6 yX6_findBy yX6_findBy, Cond.code yX6_findBy cX6_findBy 4 none]
def wsX6_mostLeast_r4 : List Cond := [Cond.fieldLink RX6 25 "CassetteTonesModel" "found" "[I", Cond.methodLink RX6 98 yX6_findByBoth, Cond.instanceMethod yX6_findByBoth, Cond.selects RX6 yX6_findByBoth yX6_findByBoth, Cond.code yX6_findByBoth cX6_findByBoth 6 (some .boolean)]
def wsX6_mostLeast : List Cond := .code yX6_mostLeast cX6_mostLeast 5 (some .int) :: ((wsX6_mostLeast_r1 ++ (wsX6_mostLeast_r2 ++ (wsX6_mostLeast_r3 ++ wsX6_mostLeast_r4))) ++ wsX60)
def wsX6_weak_r1 : List Cond := [Cond.methodLink RX6 107 yX6_isBlock, Cond.instanceMethod yX6_isBlock, Cond.selects RX6 yX6_isBlock yX6_isBlock, Cond.initialized RX6, Cond.code yX6_isBlock cX6_isBlock 2 (some .boolean), Cond.fieldLink RX6 7 "CassetteTonesModel" "state" "[I", Cond.methodLink RX6 39 yX6_within, Cond.static yX6_within, Cond.code yX6_within cX6_within 3 (some .boolean), Cond.methodLink RX6 91 yX6_howIs, Cond.instanceMethod yX6_howIs, Cond.selects RX6 yX6_howIs yX6_howIs, Cond.code yX6_howIs cX6_howIs 7 (some .int), Cond.methodLink RX6 84 yX6_isLeaderLost, Cond.instanceMethod yX6_isLeaderLost, Cond.selects RX6 yX6_isLeaderLost yX6_isLeaderLost, Cond.code yX6_isLeaderLost cX6_isLeaderLost 6 (some .boolean), Cond.methodLink RX6 54 yX6_firstOf, Cond.instanceMethod yX6_firstOf, Cond.selects RX6 yX6_firstOf yX6_firstOf, Cond.code yX6_firstOf cX6_firstOf 4 (some .int), Cond.methodLink RX6 51 yX6_cellsOf, Cond.instanceMethod yX6_cellsOf, Cond.selects RX6 yX6_cellsOf yX6_cellsOf]
def wsX6_weak_r2 : List Cond := [Cond.code yX6_cellsOf cX6_cellsOf 2 (some .int), Cond.methodLink RX6 47 yX6_tellingSize, Cond.instanceMethod yX6_tellingSize, Cond.selects RX6 yX6_tellingSize yX6_tellingSize, Cond.code yX6_tellingSize cX6_tellingSize 2 (some .int), Cond.methodLink RX6 43 yX6_part, Cond.instanceMethod yX6_part, Cond.selects RX6 yX6_part yX6_part, Cond.code yX6_part cX6_part 3 (some .int), Cond.methodLink RX6 76 yX6_isHeard, Cond.instanceMethod yX6_isHeard, Cond.selects RX6 yX6_isHeard yX6_isHeard, Cond.code yX6_isHeard cX6_isHeard 2 (some .boolean), Cond.methodLink RX6 73 yX6_volumeOf, Cond.instanceMethod yX6_volumeOf, Cond.selects RX6 yX6_volumeOf yX6_volumeOf, Cond.code yX6_volumeOf cX6_volumeOf 2 (some .int), Cond.methodLink RX6 88 yX6_readAt, Cond.instanceMethod yX6_readAt, Cond.selects RX6 yX6_readAt yX6_readAt, Cond.code yX6_readAt cX6_readAt 9 (some .int), Cond.methodLink RX6 80 yX6_bitAt, Cond.instanceMethod yX6_bitAt, Cond.selects RX6 yX6_bitAt yX6_bitAt]
def wsX6_weak_r3 : List Cond := [Cond.code yX6_bitAt cX6_bitAt 7 (some .int), Cond.methodLink RX6 64 yX6_byteAt, Cond.instanceMethod yX6_byteAt, Cond.selects RX6 yX6_byteAt yX6_byteAt, Cond.code yX6_byteAt cX6_byteAt 3 (some .int), Cond.methodLink RX6 61 yX6_sumOf, Cond.instanceMethod yX6_sumOf, Cond.selects RX6 yX6_sumOf yX6_sumOf, Cond.code yX6_sumOf cX6_sumOf 4 (some .int), Cond.methodLink RX6 67 yX6_isOdd, Cond.static yX6_isOdd, Cond.code yX6_isOdd cX6_isOdd 3 (some .int), Cond.methodLink RX6 70 yX6_badness, Cond.instanceMethod yX6_badness, Cond.selects RX6 yX6_badness yX6_badness, Cond.code yX6_badness cX6_badness 2 (some .int), Cond.methodLink RX6 127 yX6_turns, Cond.instanceMethod yX6_turns, Cond.selects RX6 yX6_turns yX6_turns, Cond.code yX6_turns cX6_turns 2 (some .int)]
def wsX6_weak : List Cond := .code yX6_weak cX6_weak 6 (some .int) :: ((wsX6_weak_r1 ++ (wsX6_weak_r2 ++ wsX6_weak_r3)) ++ wsX60)
def wsX6_isUnder : List Cond := .code yX6_isUnder cX6_isUnder 4 (some .boolean) :: ([.methodLink RX6 43 yX6_part, .instanceMethod yX6_part, .selects RX6 yX6_part yX6_part, .initialized RX6, .code yX6_part cX6_part 3 (some .int), .fieldLink RX6 7 "CassetteTonesModel" "state" "[I"] ++ wsX60)
def wsX6_widest_r1 : List Cond := [Cond.fieldLink RX6 7 "CassetteTonesModel" "state" "[I", Cond.methodLink RX6 39 yX6_within, Cond.static yX6_within, Cond.initialized RX6, Cond.code yX6_within cX6_within 3 (some .boolean), Cond.methodLink RX6 165 yX6_reachedSet, Cond.instanceMethod yX6_reachedSet, Cond.selects RX6 yX6_reachedSet yX6_reachedSet, Cond.code yX6_reachedSet cX6_reachedSet 5 (some .int), Cond.methodLink RX6 152 yX6_loadedSet, Cond.instanceMethod yX6_loadedSet, Cond.selects RX6 yX6_loadedSet yX6_loadedSet, Cond.code yX6_loadedSet cX6_loadedSet 5 (some .int), Cond.methodLink RX6 130 yX6_loadedBy, Cond.instanceMethod yX6_loadedBy, Cond.selects RX6 yX6_loadedBy yX6_loadedBy, Cond.code yX6_loadedBy cX6_loadedBy 3 (some .int), Cond.methodLink RX6 91 yX6_howIs, Cond.instanceMethod yX6_howIs, Cond.selects RX6 yX6_howIs yX6_howIs, Cond.code yX6_howIs cX6_howIs 7 (some .int), Cond.methodLink RX6 84 yX6_isLeaderLost, Cond.instanceMethod yX6_isLeaderLost, Cond.selects RX6 yX6_isLeaderLost yX6_isLeaderLost]
def wsX6_widest_r2 : List Cond := [Cond.code yX6_isLeaderLost cX6_isLeaderLost 6 (some .boolean), Cond.methodLink RX6 54 yX6_firstOf, Cond.instanceMethod yX6_firstOf, Cond.selects RX6 yX6_firstOf yX6_firstOf, Cond.code yX6_firstOf cX6_firstOf 4 (some .int), Cond.methodLink RX6 51 yX6_cellsOf, Cond.instanceMethod yX6_cellsOf, Cond.selects RX6 yX6_cellsOf yX6_cellsOf, Cond.code yX6_cellsOf cX6_cellsOf 2 (some .int), Cond.methodLink RX6 47 yX6_tellingSize, Cond.instanceMethod yX6_tellingSize, Cond.selects RX6 yX6_tellingSize yX6_tellingSize, Cond.code yX6_tellingSize cX6_tellingSize 2 (some .int), Cond.methodLink RX6 43 yX6_part, Cond.instanceMethod yX6_part, Cond.selects RX6 yX6_part yX6_part, Cond.code yX6_part cX6_part 3 (some .int), Cond.methodLink RX6 76 yX6_isHeard, Cond.instanceMethod yX6_isHeard, Cond.selects RX6 yX6_isHeard yX6_isHeard, Cond.code yX6_isHeard cX6_isHeard 2 (some .boolean), Cond.methodLink RX6 73 yX6_volumeOf, Cond.instanceMethod yX6_volumeOf, Cond.selects RX6 yX6_volumeOf yX6_volumeOf]
def wsX6_widest_r3 : List Cond := [Cond.code yX6_volumeOf cX6_volumeOf 2 (some .int), Cond.methodLink RX6 88 yX6_readAt, Cond.instanceMethod yX6_readAt, Cond.selects RX6 yX6_readAt yX6_readAt, Cond.code yX6_readAt cX6_readAt 9 (some .int), Cond.methodLink RX6 80 yX6_bitAt, Cond.instanceMethod yX6_bitAt, Cond.selects RX6 yX6_bitAt yX6_bitAt, Cond.code yX6_bitAt cX6_bitAt 7 (some .int), Cond.methodLink RX6 64 yX6_byteAt, Cond.instanceMethod yX6_byteAt, Cond.selects RX6 yX6_byteAt yX6_byteAt, Cond.code yX6_byteAt cX6_byteAt 3 (some .int), Cond.methodLink RX6 61 yX6_sumOf, Cond.instanceMethod yX6_sumOf, Cond.selects RX6 yX6_sumOf yX6_sumOf, Cond.code yX6_sumOf cX6_sumOf 4 (some .int), Cond.methodLink RX6 67 yX6_isOdd, Cond.static yX6_isOdd, Cond.code yX6_isOdd cX6_isOdd 3 (some .int), Cond.methodLink RX6 70 yX6_badness, Cond.instanceMethod yX6_badness, Cond.selects RX6 yX6_badness yX6_badness, Cond.code yX6_badness cX6_badness 2 (some .int)]
def wsX6_widest_r4 : List Cond := [Cond.methodLink RX6 94 yX6_findBy, Cond.instanceMethod yX6_findBy, Cond.selects RX6 yX6_findBy yX6_findBy, Cond.code yX6_findBy cX6_findBy 4 none, Cond.fieldLink RX6 25 "CassetteTonesModel" "found" "[I", Cond.methodLink RX6 98 yX6_findByBoth, Cond.instanceMethod yX6_findByBoth, Cond.selects RX6 yX6_findByBoth yX6_findByBoth, Cond.code yX6_findByBoth cX6_findByBoth 6 (some .boolean), Cond.methodLink RX6 174 yX6_isUnder, Cond.instanceMethod yX6_isUnder, Cond.selects RX6 yX6_isUnder yX6_isUnder, Cond.code yX6_isUnder cX6_isUnder 4 (some .boolean)]
def wsX6_widest : List Cond := .code yX6_widest cX6_widest 8 (some .int) :: ((wsX6_widest_r1 ++ (wsX6_widest_r2 ++ (wsX6_widest_r3 ++ wsX6_widest_r4))) ++ wsX60)
def wsX6_put : List Cond := .code yX6_put cX6_put 8 (some .int) :: ([.constantLong RX6 113 (255), .fieldLink RX6 162 "CassetteTonesModel" "padLength" "I", .fieldLink RX6 22 "CassetteTonesModel" "pad" "[I", .methodLink RX6 39 yX6_within, .static yX6_within, .initialized RX6, .code yX6_within cX6_within 3 (some .boolean)] ++ wsX60)
def wsX6_wipe : List Cond := .code yX6_wipe cX6_wipe 2 (some .int) :: ([.fieldLink RX6 162 "CassetteTonesModel" "padLength" "I"] ++ wsX60)
def wsX6_character : List Cond := .code yX6_character cX6_character 2 (some .int) :: ([.fieldLink RX6 162 "CassetteTonesModel" "padLength" "I", .fieldLink RX6 22 "CassetteTonesModel" "pad" "[I"] ++ wsX60)
def wsX6_isNext : List Cond := .code yX6_isNext cX6_isNext 3 (some .boolean) :: ([.fieldLink RX6 177 "CassetteTonesModel" "at" "I", .methodLink RX6 180 yX6_character, .instanceMethod yX6_character, .selects RX6 yX6_character yX6_character, .initialized RX6, .code yX6_character cX6_character 2 (some .int), .fieldLink RX6 162 "CassetteTonesModel" "padLength" "I", .fieldLink RX6 22 "CassetteTonesModel" "pad" "[I"] ++ wsX60)
def wsX6_isDigit : List Cond := .code yX6_isDigit cX6_isDigit 1 (some .boolean) :: ([.fieldLink RX6 177 "CassetteTonesModel" "at" "I", .methodLink RX6 180 yX6_character, .instanceMethod yX6_character, .selects RX6 yX6_character yX6_character, .initialized RX6, .code yX6_character cX6_character 2 (some .int), .fieldLink RX6 162 "CassetteTonesModel" "padLength" "I", .fieldLink RX6 22 "CassetteTonesModel" "pad" "[I", .methodLink RX6 39 yX6_within, .static yX6_within, .code yX6_within cX6_within 3 (some .boolean)] ++ wsX60)
def wsX6_takesNumber : List Cond := .code yX6_takesNumber cX6_takesNumber 2 (some .boolean) :: ([.fieldLink RX6 177 "CassetteTonesModel" "at" "I", .fieldLink RX6 28 "CassetteTonesModel" "numbers" "[I", .fieldLink RX6 187 "CassetteTonesModel" "numbersMany" "I", .methodLink RX6 183 yX6_isDigit, .instanceMethod yX6_isDigit, .selects RX6 yX6_isDigit yX6_isDigit, .initialized RX6, .code yX6_isDigit cX6_isDigit 1 (some .boolean), .methodLink RX6 180 yX6_character, .instanceMethod yX6_character, .selects RX6 yX6_character yX6_character, .code yX6_character cX6_character 2 (some .int), .fieldLink RX6 162 "CassetteTonesModel" "padLength" "I", .fieldLink RX6 22 "CassetteTonesModel" "pad" "[I", .methodLink RX6 39 yX6_within, .static yX6_within, .code yX6_within cX6_within 3 (some .boolean)] ++ wsX60)
def wsX6_takesBytes_r1 : List Cond := [Cond.methodLink RX6 190 yX6_takesNumber, Cond.instanceMethod yX6_takesNumber, Cond.selects RX6 yX6_takesNumber yX6_takesNumber, Cond.initialized RX6, Cond.code yX6_takesNumber cX6_takesNumber 2 (some .boolean), Cond.fieldLink RX6 177 "CassetteTonesModel" "at" "I", Cond.fieldLink RX6 28 "CassetteTonesModel" "numbers" "[I", Cond.fieldLink RX6 187 "CassetteTonesModel" "numbersMany" "I", Cond.methodLink RX6 183 yX6_isDigit, Cond.instanceMethod yX6_isDigit, Cond.selects RX6 yX6_isDigit yX6_isDigit, Cond.code yX6_isDigit cX6_isDigit 1 (some .boolean), Cond.methodLink RX6 180 yX6_character, Cond.instanceMethod yX6_character, Cond.selects RX6 yX6_character yX6_character, Cond.code yX6_character cX6_character 2 (some .int), Cond.fieldLink RX6 162 "CassetteTonesModel" "padLength" "I", Cond.fieldLink RX6 22 "CassetteTonesModel" "pad" "[I", Cond.methodLink RX6 39 yX6_within, Cond.static yX6_within, Cond.code yX6_within cX6_within 3 (some .boolean), Cond.methodLink RX6 193 yX6_isNext, Cond.instanceMethod yX6_isNext, Cond.selects RX6 yX6_isNext yX6_isNext]
def wsX6_takesBytes_r2 : List Cond := [Cond.code yX6_isNext cX6_isNext 3 (some .boolean)]
def wsX6_takesBytes : List Cond := .code yX6_takesBytes cX6_takesBytes 2 (some .boolean) :: ((wsX6_takesBytes_r1 ++ wsX6_takesBytes_r2) ++ wsX60)
def wsX6_takesBlock_r1 : List Cond := [Cond.fieldLink RX6 196 "CassetteTonesModel" "hasUnder" "Z", Cond.methodLink RX6 190 yX6_takesNumber, Cond.instanceMethod yX6_takesNumber, Cond.selects RX6 yX6_takesNumber yX6_takesNumber, Cond.initialized RX6, Cond.code yX6_takesNumber cX6_takesNumber 2 (some .boolean), Cond.fieldLink RX6 177 "CassetteTonesModel" "at" "I", Cond.fieldLink RX6 28 "CassetteTonesModel" "numbers" "[I", Cond.fieldLink RX6 187 "CassetteTonesModel" "numbersMany" "I", Cond.methodLink RX6 183 yX6_isDigit, Cond.instanceMethod yX6_isDigit, Cond.selects RX6 yX6_isDigit yX6_isDigit, Cond.code yX6_isDigit cX6_isDigit 1 (some .boolean), Cond.methodLink RX6 180 yX6_character, Cond.instanceMethod yX6_character, Cond.selects RX6 yX6_character yX6_character, Cond.code yX6_character cX6_character 2 (some .int), Cond.fieldLink RX6 162 "CassetteTonesModel" "padLength" "I", Cond.fieldLink RX6 22 "CassetteTonesModel" "pad" "[I", Cond.methodLink RX6 39 yX6_within, Cond.static yX6_within, Cond.code yX6_within cX6_within 3 (some .boolean), Cond.methodLink RX6 193 yX6_isNext, Cond.instanceMethod yX6_isNext]
def wsX6_takesBlock_r2 : List Cond := [Cond.selects RX6 yX6_isNext yX6_isNext, Cond.code yX6_isNext cX6_isNext 3 (some .boolean), Cond.methodLink RX6 200 yX6_takesBytes, Cond.instanceMethod yX6_takesBytes, Cond.selects RX6 yX6_takesBytes yX6_takesBytes, Cond.code yX6_takesBytes cX6_takesBytes 2 (some .boolean)]
def wsX6_takesBlock : List Cond := .code yX6_takesBlock cX6_takesBlock 2 (some .boolean) :: ((wsX6_takesBlock_r1 ++ wsX6_takesBlock_r2) ++ wsX60)
def wsX6_readsOrder_r1 : List Cond := [Cond.fieldLink RX6 187 "CassetteTonesModel" "numbersMany" "I", Cond.fieldLink RX6 177 "CassetteTonesModel" "at" "I", Cond.fieldLink RX6 203 "CassetteTonesModel" "letter" "I", Cond.methodLink RX6 180 yX6_character, Cond.instanceMethod yX6_character, Cond.selects RX6 yX6_character yX6_character, Cond.initialized RX6, Cond.code yX6_character cX6_character 2 (some .int), Cond.fieldLink RX6 162 "CassetteTonesModel" "padLength" "I", Cond.fieldLink RX6 22 "CassetteTonesModel" "pad" "[I", Cond.methodLink RX6 206 yX6_takesBlock, Cond.instanceMethod yX6_takesBlock, Cond.selects RX6 yX6_takesBlock yX6_takesBlock, Cond.code yX6_takesBlock cX6_takesBlock 2 (some .boolean), Cond.fieldLink RX6 196 "CassetteTonesModel" "hasUnder" "Z", Cond.methodLink RX6 190 yX6_takesNumber, Cond.instanceMethod yX6_takesNumber, Cond.selects RX6 yX6_takesNumber yX6_takesNumber, Cond.code yX6_takesNumber cX6_takesNumber 2 (some .boolean), Cond.fieldLink RX6 28 "CassetteTonesModel" "numbers" "[I", Cond.methodLink RX6 183 yX6_isDigit, Cond.instanceMethod yX6_isDigit, Cond.selects RX6 yX6_isDigit yX6_isDigit, Cond.code yX6_isDigit cX6_isDigit 1 (some .boolean)]
def wsX6_readsOrder_r2 : List Cond := [Cond.methodLink RX6 39 yX6_within, Cond.static yX6_within, Cond.code yX6_within cX6_within 3 (some .boolean), Cond.methodLink RX6 193 yX6_isNext, Cond.instanceMethod yX6_isNext, Cond.selects RX6 yX6_isNext yX6_isNext, Cond.code yX6_isNext cX6_isNext 3 (some .boolean), Cond.methodLink RX6 200 yX6_takesBytes, Cond.instanceMethod yX6_takesBytes, Cond.selects RX6 yX6_takesBytes yX6_takesBytes, Cond.code yX6_takesBytes cX6_takesBytes 2 (some .boolean)]
def wsX6_readsOrder : List Cond := .code yX6_readsOrder cX6_readsOrder 1 (some .boolean) :: ((wsX6_readsOrder_r1 ++ wsX6_readsOrder_r2) ++ wsX60)
def wsX6_findFault_r1 : List Cond := [Cond.fieldLink RX6 177 "CassetteTonesModel" "at" "I", Cond.fieldLink RX6 162 "CassetteTonesModel" "padLength" "I", Cond.methodLink RX6 209 yX6_readsOrder, Cond.instanceMethod yX6_readsOrder, Cond.selects RX6 yX6_readsOrder yX6_readsOrder, Cond.initialized RX6, Cond.code yX6_readsOrder cX6_readsOrder 1 (some .boolean), Cond.fieldLink RX6 187 "CassetteTonesModel" "numbersMany" "I", Cond.fieldLink RX6 203 "CassetteTonesModel" "letter" "I", Cond.methodLink RX6 180 yX6_character, Cond.instanceMethod yX6_character, Cond.selects RX6 yX6_character yX6_character, Cond.code yX6_character cX6_character 2 (some .int), Cond.fieldLink RX6 22 "CassetteTonesModel" "pad" "[I", Cond.methodLink RX6 206 yX6_takesBlock, Cond.instanceMethod yX6_takesBlock, Cond.selects RX6 yX6_takesBlock yX6_takesBlock, Cond.code yX6_takesBlock cX6_takesBlock 2 (some .boolean), Cond.fieldLink RX6 196 "CassetteTonesModel" "hasUnder" "Z", Cond.methodLink RX6 190 yX6_takesNumber, Cond.instanceMethod yX6_takesNumber, Cond.selects RX6 yX6_takesNumber yX6_takesNumber, Cond.code yX6_takesNumber cX6_takesNumber 2 (some .boolean), Cond.fieldLink RX6 28 "CassetteTonesModel" "numbers" "[I"]
def wsX6_findFault_r2 : List Cond := [Cond.methodLink RX6 183 yX6_isDigit, Cond.instanceMethod yX6_isDigit, Cond.selects RX6 yX6_isDigit yX6_isDigit, Cond.code yX6_isDigit cX6_isDigit 1 (some .boolean), Cond.methodLink RX6 39 yX6_within, Cond.static yX6_within, Cond.code yX6_within cX6_within 3 (some .boolean), Cond.methodLink RX6 193 yX6_isNext, Cond.instanceMethod yX6_isNext, Cond.selects RX6 yX6_isNext yX6_isNext, Cond.code yX6_isNext cX6_isNext 3 (some .boolean), Cond.methodLink RX6 200 yX6_takesBytes, Cond.instanceMethod yX6_takesBytes, Cond.selects RX6 yX6_takesBytes yX6_takesBytes, Cond.code yX6_takesBytes cX6_takesBytes 2 (some .boolean)]
def wsX6_findFault : List Cond := .code yX6_findFault cX6_findFault 1 (some .int) :: ((wsX6_findFault_r1 ++ wsX6_findFault_r2) ++ wsX60)
def wsX6_fault_r1 : List Cond := [Cond.methodLink RX6 212 yX6_findFault, Cond.instanceMethod yX6_findFault, Cond.selects RX6 yX6_findFault yX6_findFault, Cond.initialized RX6, Cond.code yX6_findFault cX6_findFault 1 (some .int), Cond.fieldLink RX6 177 "CassetteTonesModel" "at" "I", Cond.fieldLink RX6 162 "CassetteTonesModel" "padLength" "I", Cond.methodLink RX6 209 yX6_readsOrder, Cond.instanceMethod yX6_readsOrder, Cond.selects RX6 yX6_readsOrder yX6_readsOrder, Cond.code yX6_readsOrder cX6_readsOrder 1 (some .boolean), Cond.fieldLink RX6 187 "CassetteTonesModel" "numbersMany" "I", Cond.fieldLink RX6 203 "CassetteTonesModel" "letter" "I", Cond.methodLink RX6 180 yX6_character, Cond.instanceMethod yX6_character, Cond.selects RX6 yX6_character yX6_character, Cond.code yX6_character cX6_character 2 (some .int), Cond.fieldLink RX6 22 "CassetteTonesModel" "pad" "[I", Cond.methodLink RX6 206 yX6_takesBlock, Cond.instanceMethod yX6_takesBlock, Cond.selects RX6 yX6_takesBlock yX6_takesBlock, Cond.code yX6_takesBlock cX6_takesBlock 2 (some .boolean), Cond.fieldLink RX6 196 "CassetteTonesModel" "hasUnder" "Z", Cond.methodLink RX6 190 yX6_takesNumber]
def wsX6_fault_r2 : List Cond := [Cond.instanceMethod yX6_takesNumber, Cond.selects RX6 yX6_takesNumber yX6_takesNumber, Cond.code yX6_takesNumber cX6_takesNumber 2 (some .boolean), Cond.fieldLink RX6 28 "CassetteTonesModel" "numbers" "[I", Cond.methodLink RX6 183 yX6_isDigit, Cond.instanceMethod yX6_isDigit, Cond.selects RX6 yX6_isDigit yX6_isDigit, Cond.code yX6_isDigit cX6_isDigit 1 (some .boolean), Cond.methodLink RX6 39 yX6_within, Cond.static yX6_within, Cond.code yX6_within cX6_within 3 (some .boolean), Cond.methodLink RX6 193 yX6_isNext, Cond.instanceMethod yX6_isNext, Cond.selects RX6 yX6_isNext yX6_isNext, Cond.code yX6_isNext cX6_isNext 3 (some .boolean), Cond.methodLink RX6 200 yX6_takesBytes, Cond.instanceMethod yX6_takesBytes, Cond.selects RX6 yX6_takesBytes yX6_takesBytes, Cond.code yX6_takesBytes cX6_takesBytes 2 (some .boolean)]
def wsX6_fault : List Cond := .code yX6_fault cX6_fault 1 (some .int) :: ((wsX6_fault_r1 ++ wsX6_fault_r2) ++ wsX60)
def wsX6_doesBlock_r1 : List Cond := [Cond.fieldLink RX6 196 "CassetteTonesModel" "hasUnder" "Z", Cond.fieldLink RX6 187 "CassetteTonesModel" "numbersMany" "I", Cond.fieldLink RX6 28 "CassetteTonesModel" "numbers" "[I", Cond.fieldLink RX6 25 "CassetteTonesModel" "found" "[I", Cond.methodLink RX6 110 yX6_whyNotWritten, Cond.instanceMethod yX6_whyNotWritten, Cond.selects RX6 yX6_whyNotWritten yX6_whyNotWritten, Cond.initialized RX6, Cond.code yX6_whyNotWritten cX6_whyNotWritten 4 (some .int), Cond.fieldLink RX6 7 "CassetteTonesModel" "state" "[I", Cond.methodLink RX6 107 yX6_isBlock, Cond.instanceMethod yX6_isBlock, Cond.selects RX6 yX6_isBlock yX6_isBlock, Cond.code yX6_isBlock cX6_isBlock 2 (some .boolean), Cond.methodLink RX6 39 yX6_within, Cond.static yX6_within, Cond.code yX6_within cX6_within 3 (some .boolean), Cond.methodLink RX6 115 yX6_writes, Cond.instanceMethod yX6_writes, Cond.selects RX6 yX6_writes yX6_writes, Cond.code yX6_writes cX6_writes 8 (some .int), Cond.methodLink RX6 54 yX6_firstOf, Cond.instanceMethod yX6_firstOf, Cond.selects RX6 yX6_firstOf yX6_firstOf]
def wsX6_doesBlock_r2 : List Cond := [Cond.code yX6_firstOf cX6_firstOf 4 (some .int), Cond.methodLink RX6 51 yX6_cellsOf, Cond.instanceMethod yX6_cellsOf, Cond.selects RX6 yX6_cellsOf yX6_cellsOf, Cond.code yX6_cellsOf cX6_cellsOf 2 (some .int), Cond.methodLink RX6 47 yX6_tellingSize, Cond.instanceMethod yX6_tellingSize, Cond.selects RX6 yX6_tellingSize yX6_tellingSize, Cond.code yX6_tellingSize cX6_tellingSize 2 (some .int), Cond.methodLink RX6 43 yX6_part, Cond.instanceMethod yX6_part, Cond.selects RX6 yX6_part yX6_part, Cond.code yX6_part cX6_part 3 (some .int)]
def wsX6_doesBlock : List Cond := .code yX6_doesBlock cX6_doesBlock 6 (some .boolean) :: ((wsX6_doesBlock_r1 ++ wsX6_doesBlock_r2) ++ wsX60)
def wsX6_doesFade_r1 : List Cond := [Cond.fieldLink RX6 28 "CassetteTonesModel" "numbers" "[I", Cond.methodLink RX6 121 yX6_whyNotFaded, Cond.instanceMethod yX6_whyNotFaded, Cond.selects RX6 yX6_whyNotFaded yX6_whyNotFaded, Cond.initialized RX6, Cond.code yX6_whyNotFaded cX6_whyNotFaded 4 (some .int), Cond.methodLink RX6 118 yX6_isCell, Cond.instanceMethod yX6_isCell, Cond.selects RX6 yX6_isCell yX6_isCell, Cond.code yX6_isCell cX6_isCell 2 (some .boolean), Cond.methodLink RX6 57 yX6_allCells, Cond.instanceMethod yX6_allCells, Cond.selects RX6 yX6_allCells yX6_allCells, Cond.code yX6_allCells cX6_allCells 1 (some .int), Cond.fieldLink RX6 7 "CassetteTonesModel" "state" "[I", Cond.methodLink RX6 54 yX6_firstOf, Cond.instanceMethod yX6_firstOf, Cond.selects RX6 yX6_firstOf yX6_firstOf, Cond.code yX6_firstOf cX6_firstOf 4 (some .int), Cond.methodLink RX6 51 yX6_cellsOf, Cond.instanceMethod yX6_cellsOf, Cond.selects RX6 yX6_cellsOf yX6_cellsOf, Cond.code yX6_cellsOf cX6_cellsOf 2 (some .int), Cond.methodLink RX6 47 yX6_tellingSize]
def wsX6_doesFade_r2 : List Cond := [Cond.instanceMethod yX6_tellingSize, Cond.selects RX6 yX6_tellingSize yX6_tellingSize, Cond.code yX6_tellingSize cX6_tellingSize 2 (some .int), Cond.methodLink RX6 43 yX6_part, Cond.instanceMethod yX6_part, Cond.selects RX6 yX6_part yX6_part, Cond.code yX6_part cX6_part 3 (some .int), Cond.methodLink RX6 39 yX6_within, Cond.static yX6_within, Cond.code yX6_within cX6_within 3 (some .boolean), Cond.methodLink RX6 124 yX6_fades, Cond.instanceMethod yX6_fades, Cond.selects RX6 yX6_fades yX6_fades, Cond.code yX6_fades cX6_fades 7 (some .int), Cond.methodLink RX6 73 yX6_volumeOf, Cond.instanceMethod yX6_volumeOf, Cond.selects RX6 yX6_volumeOf yX6_volumeOf, Cond.code yX6_volumeOf cX6_volumeOf 2 (some .int), Cond.methodLink RX6 70 yX6_badness, Cond.instanceMethod yX6_badness, Cond.selects RX6 yX6_badness yX6_badness, Cond.code yX6_badness cX6_badness 2 (some .int)]
def wsX6_doesFade : List Cond := .code yX6_doesFade cX6_doesFade 2 (some .boolean) :: ((wsX6_doesFade_r1 ++ wsX6_doesFade_r2) ++ wsX60)
def wsX6_doesOrder_r1 : List Cond := [Cond.fieldLink RX6 203 "CassetteTonesModel" "letter" "I", Cond.fieldLink RX6 28 "CassetteTonesModel" "numbers" "[I", Cond.methodLink RX6 215 yX6_doesBlock, Cond.instanceMethod yX6_doesBlock, Cond.selects RX6 yX6_doesBlock yX6_doesBlock, Cond.initialized RX6, Cond.code yX6_doesBlock cX6_doesBlock 6 (some .boolean), Cond.fieldLink RX6 196 "CassetteTonesModel" "hasUnder" "Z", Cond.fieldLink RX6 187 "CassetteTonesModel" "numbersMany" "I", Cond.fieldLink RX6 25 "CassetteTonesModel" "found" "[I", Cond.methodLink RX6 110 yX6_whyNotWritten, Cond.instanceMethod yX6_whyNotWritten, Cond.selects RX6 yX6_whyNotWritten yX6_whyNotWritten, Cond.code yX6_whyNotWritten cX6_whyNotWritten 4 (some .int), Cond.fieldLink RX6 7 "CassetteTonesModel" "state" "[I", Cond.methodLink RX6 107 yX6_isBlock, Cond.instanceMethod yX6_isBlock, Cond.selects RX6 yX6_isBlock yX6_isBlock, Cond.code yX6_isBlock cX6_isBlock 2 (some .boolean), Cond.methodLink RX6 39 yX6_within, Cond.static yX6_within, Cond.code yX6_within cX6_within 3 (some .boolean), Cond.methodLink RX6 115 yX6_writes, Cond.instanceMethod yX6_writes]
def wsX6_doesOrder_r2 : List Cond := [Cond.selects RX6 yX6_writes yX6_writes, Cond.code yX6_writes cX6_writes 8 (some .int), Cond.methodLink RX6 54 yX6_firstOf, Cond.instanceMethod yX6_firstOf, Cond.selects RX6 yX6_firstOf yX6_firstOf, Cond.code yX6_firstOf cX6_firstOf 4 (some .int), Cond.methodLink RX6 51 yX6_cellsOf, Cond.instanceMethod yX6_cellsOf, Cond.selects RX6 yX6_cellsOf yX6_cellsOf, Cond.code yX6_cellsOf cX6_cellsOf 2 (some .int), Cond.methodLink RX6 47 yX6_tellingSize, Cond.instanceMethod yX6_tellingSize, Cond.selects RX6 yX6_tellingSize yX6_tellingSize, Cond.code yX6_tellingSize cX6_tellingSize 2 (some .int), Cond.methodLink RX6 43 yX6_part, Cond.instanceMethod yX6_part, Cond.selects RX6 yX6_part yX6_part, Cond.code yX6_part cX6_part 3 (some .int), Cond.methodLink RX6 218 yX6_doesFade, Cond.instanceMethod yX6_doesFade, Cond.selects RX6 yX6_doesFade yX6_doesFade, Cond.code yX6_doesFade cX6_doesFade 2 (some .boolean), Cond.methodLink RX6 121 yX6_whyNotFaded, Cond.instanceMethod yX6_whyNotFaded]
def wsX6_doesOrder_r3 : List Cond := [Cond.selects RX6 yX6_whyNotFaded yX6_whyNotFaded, Cond.code yX6_whyNotFaded cX6_whyNotFaded 4 (some .int), Cond.methodLink RX6 118 yX6_isCell, Cond.instanceMethod yX6_isCell, Cond.selects RX6 yX6_isCell yX6_isCell, Cond.code yX6_isCell cX6_isCell 2 (some .boolean), Cond.methodLink RX6 57 yX6_allCells, Cond.instanceMethod yX6_allCells, Cond.selects RX6 yX6_allCells yX6_allCells, Cond.code yX6_allCells cX6_allCells 1 (some .int), Cond.methodLink RX6 124 yX6_fades, Cond.instanceMethod yX6_fades, Cond.selects RX6 yX6_fades yX6_fades, Cond.code yX6_fades cX6_fades 7 (some .int), Cond.methodLink RX6 73 yX6_volumeOf, Cond.instanceMethod yX6_volumeOf, Cond.selects RX6 yX6_volumeOf yX6_volumeOf, Cond.code yX6_volumeOf cX6_volumeOf 2 (some .int), Cond.methodLink RX6 70 yX6_badness, Cond.instanceMethod yX6_badness, Cond.selects RX6 yX6_badness yX6_badness, Cond.code yX6_badness cX6_badness 2 (some .int), Cond.methodLink RX6 127 yX6_turns, Cond.instanceMethod yX6_turns]
def wsX6_doesOrder_r4 : List Cond := [Cond.selects RX6 yX6_turns yX6_turns, Cond.code yX6_turns cX6_turns 2 (some .int)]
def wsX6_doesOrder : List Cond := .code yX6_doesOrder cX6_doesOrder 2 (some .boolean) :: ((wsX6_doesOrder_r1 ++ (wsX6_doesOrder_r2 ++ (wsX6_doesOrder_r3 ++ wsX6_doesOrder_r4))) ++ wsX60)
def wsX6_carryOut_r1 : List Cond := [Cond.fieldLink RX6 177 "CassetteTonesModel" "at" "I", Cond.fieldLink RX6 162 "CassetteTonesModel" "padLength" "I", Cond.methodLink RX6 212 yX6_findFault, Cond.instanceMethod yX6_findFault, Cond.selects RX6 yX6_findFault yX6_findFault, Cond.initialized RX6, Cond.code yX6_findFault cX6_findFault 1 (some .int), Cond.methodLink RX6 209 yX6_readsOrder, Cond.instanceMethod yX6_readsOrder, Cond.selects RX6 yX6_readsOrder yX6_readsOrder, Cond.code yX6_readsOrder cX6_readsOrder 1 (some .boolean), Cond.fieldLink RX6 187 "CassetteTonesModel" "numbersMany" "I", Cond.fieldLink RX6 203 "CassetteTonesModel" "letter" "I", Cond.methodLink RX6 180 yX6_character, Cond.instanceMethod yX6_character, Cond.selects RX6 yX6_character yX6_character, Cond.code yX6_character cX6_character 2 (some .int), Cond.fieldLink RX6 22 "CassetteTonesModel" "pad" "[I", Cond.methodLink RX6 206 yX6_takesBlock, Cond.instanceMethod yX6_takesBlock, Cond.selects RX6 yX6_takesBlock yX6_takesBlock, Cond.code yX6_takesBlock cX6_takesBlock 2 (some .boolean), Cond.fieldLink RX6 196 "CassetteTonesModel" "hasUnder" "Z", Cond.methodLink RX6 190 yX6_takesNumber]
def wsX6_carryOut_r2 : List Cond := [Cond.instanceMethod yX6_takesNumber, Cond.selects RX6 yX6_takesNumber yX6_takesNumber, Cond.code yX6_takesNumber cX6_takesNumber 2 (some .boolean), Cond.fieldLink RX6 28 "CassetteTonesModel" "numbers" "[I", Cond.methodLink RX6 183 yX6_isDigit, Cond.instanceMethod yX6_isDigit, Cond.selects RX6 yX6_isDigit yX6_isDigit, Cond.code yX6_isDigit cX6_isDigit 1 (some .boolean), Cond.methodLink RX6 39 yX6_within, Cond.static yX6_within, Cond.code yX6_within cX6_within 3 (some .boolean), Cond.methodLink RX6 193 yX6_isNext, Cond.instanceMethod yX6_isNext, Cond.selects RX6 yX6_isNext yX6_isNext, Cond.code yX6_isNext cX6_isNext 3 (some .boolean), Cond.methodLink RX6 200 yX6_takesBytes, Cond.instanceMethod yX6_takesBytes, Cond.selects RX6 yX6_takesBytes yX6_takesBytes, Cond.code yX6_takesBytes cX6_takesBytes 2 (some .boolean), Cond.methodLink RX6 104 yX6_record, Cond.instanceMethod yX6_record, Cond.selects RX6 yX6_record yX6_record, Cond.code yX6_record cX6_record 2 none, Cond.fieldLink RX6 31 "CassetteTonesModel" "recorded" "I"]
def wsX6_carryOut_r3 : List Cond := [Cond.fieldLink RX6 13 "CassetteTonesModel" "history" "[I", Cond.fieldLink RX6 7 "CassetteTonesModel" "state" "[I", Cond.methodLink RX6 35 yX6_moves, Cond.static yX6_moves, Cond.code yX6_moves cX6_moves 5 none, Cond.methodLink RX6 221 yX6_doesOrder, Cond.instanceMethod yX6_doesOrder, Cond.selects RX6 yX6_doesOrder yX6_doesOrder, Cond.code yX6_doesOrder cX6_doesOrder 2 (some .boolean), Cond.methodLink RX6 215 yX6_doesBlock, Cond.instanceMethod yX6_doesBlock, Cond.selects RX6 yX6_doesBlock yX6_doesBlock, Cond.code yX6_doesBlock cX6_doesBlock 6 (some .boolean), Cond.fieldLink RX6 25 "CassetteTonesModel" "found" "[I", Cond.methodLink RX6 110 yX6_whyNotWritten, Cond.instanceMethod yX6_whyNotWritten, Cond.selects RX6 yX6_whyNotWritten yX6_whyNotWritten, Cond.code yX6_whyNotWritten cX6_whyNotWritten 4 (some .int), Cond.methodLink RX6 107 yX6_isBlock, Cond.instanceMethod yX6_isBlock, Cond.selects RX6 yX6_isBlock yX6_isBlock, Cond.code yX6_isBlock cX6_isBlock 2 (some .boolean), Cond.methodLink RX6 115 yX6_writes, Cond.instanceMethod yX6_writes]
def wsX6_carryOut_r4 : List Cond := [Cond.selects RX6 yX6_writes yX6_writes, Cond.code yX6_writes cX6_writes 8 (some .int), Cond.methodLink RX6 54 yX6_firstOf, Cond.instanceMethod yX6_firstOf, Cond.selects RX6 yX6_firstOf yX6_firstOf, Cond.code yX6_firstOf cX6_firstOf 4 (some .int), Cond.methodLink RX6 51 yX6_cellsOf, Cond.instanceMethod yX6_cellsOf, Cond.selects RX6 yX6_cellsOf yX6_cellsOf, Cond.code yX6_cellsOf cX6_cellsOf 2 (some .int), Cond.methodLink RX6 47 yX6_tellingSize, Cond.instanceMethod yX6_tellingSize, Cond.selects RX6 yX6_tellingSize yX6_tellingSize, Cond.code yX6_tellingSize cX6_tellingSize 2 (some .int), Cond.methodLink RX6 43 yX6_part, Cond.instanceMethod yX6_part, Cond.selects RX6 yX6_part yX6_part, Cond.code yX6_part cX6_part 3 (some .int), Cond.methodLink RX6 218 yX6_doesFade, Cond.instanceMethod yX6_doesFade, Cond.selects RX6 yX6_doesFade yX6_doesFade, Cond.code yX6_doesFade cX6_doesFade 2 (some .boolean), Cond.methodLink RX6 121 yX6_whyNotFaded, Cond.instanceMethod yX6_whyNotFaded]
def wsX6_carryOut_r5 : List Cond := [Cond.selects RX6 yX6_whyNotFaded yX6_whyNotFaded, Cond.code yX6_whyNotFaded cX6_whyNotFaded 4 (some .int), Cond.methodLink RX6 118 yX6_isCell, Cond.instanceMethod yX6_isCell, Cond.selects RX6 yX6_isCell yX6_isCell, Cond.code yX6_isCell cX6_isCell 2 (some .boolean), Cond.methodLink RX6 57 yX6_allCells, Cond.instanceMethod yX6_allCells, Cond.selects RX6 yX6_allCells yX6_allCells, Cond.code yX6_allCells cX6_allCells 1 (some .int), Cond.methodLink RX6 124 yX6_fades, Cond.instanceMethod yX6_fades, Cond.selects RX6 yX6_fades yX6_fades, Cond.code yX6_fades cX6_fades 7 (some .int), Cond.methodLink RX6 73 yX6_volumeOf, Cond.instanceMethod yX6_volumeOf, Cond.selects RX6 yX6_volumeOf yX6_volumeOf, Cond.code yX6_volumeOf cX6_volumeOf 2 (some .int), Cond.methodLink RX6 70 yX6_badness, Cond.instanceMethod yX6_badness, Cond.selects RX6 yX6_badness yX6_badness, Cond.code yX6_badness cX6_badness 2 (some .int), Cond.methodLink RX6 127 yX6_turns, Cond.instanceMethod yX6_turns]
def wsX6_carryOut_r6 : List Cond := [Cond.selects RX6 yX6_turns yX6_turns, Cond.code yX6_turns cX6_turns 2 (some .int)]
def wsX6_carryOut : List Cond := .code yX6_carryOut cX6_carryOut 3 (some .int) :: ((wsX6_carryOut_r1 ++ (wsX6_carryOut_r2 ++ (wsX6_carryOut_r3 ++ (wsX6_carryOut_r4 ++ (wsX6_carryOut_r5 ++ wsX6_carryOut_r6))))) ++ wsX60)
def wsX6_undo : List Cond := .code yX6_undo cX6_undo 1 (some .int) :: ([.fieldLink RX6 31 "CassetteTonesModel" "recorded" "I", .fieldLink RX6 13 "CassetteTonesModel" "history" "[I", .fieldLink RX6 7 "CassetteTonesModel" "state" "[I", .methodLink RX6 35 yX6_moves, .static yX6_moves, .initialized RX6, .code yX6_moves cX6_moves 5 none] ++ wsX60)
def wsX6_save : List Cond := .code yX6_save cX6_save 2 (some .int) :: ([.fieldLink RX6 7 "CassetteTonesModel" "state" "[I", .fieldLink RX6 16 "CassetteTonesModel" "slots" "[I", .fieldLink RX6 19 "CassetteTonesModel" "isSaved" "[I", .methodLink RX6 39 yX6_within, .static yX6_within, .initialized RX6, .code yX6_within cX6_within 3 (some .boolean), .methodLink RX6 35 yX6_moves, .static yX6_moves, .code yX6_moves cX6_moves 5 none] ++ wsX60)
def wsX6_restore : List Cond := .code yX6_restore cX6_restore 2 (some .int) :: ([.fieldLink RX6 19 "CassetteTonesModel" "isSaved" "[I", .fieldLink RX6 16 "CassetteTonesModel" "slots" "[I", .fieldLink RX6 7 "CassetteTonesModel" "state" "[I", .methodLink RX6 39 yX6_within, .static yX6_within, .initialized RX6, .code yX6_within cX6_within 3 (some .boolean), .methodLink RX6 104 yX6_record, .instanceMethod yX6_record, .selects RX6 yX6_record yX6_record, .code yX6_record cX6_record 2 none, .fieldLink RX6 31 "CassetteTonesModel" "recorded" "I", .fieldLink RX6 13 "CassetteTonesModel" "history" "[I", .methodLink RX6 35 yX6_moves, .static yX6_moves, .code yX6_moves cX6_moves 5 none] ++ wsX60)
def wsJ9_abs_0f7a4 : List Cond := .code yJ9_abs_0f7a4 cJ9_abs_0f7a4 1 (some .int) :: ([])
def wsJ9_max_7cf53 : List Cond := .code yJ9_max_7cf53 cJ9_max_7cf53 2 (some .int) :: ([])
def wsJ9_min_7cf53 : List Cond := .code yJ9_min_7cf53 cJ9_min_7cf53 2 (some .int) :: ([])
def wsL_law_r1 : List Cond := [Cond.classLink RL 7 RX5, Cond.instantiable RX5 7, Cond.initialized RX5, Cond.classLink RL 10 RX6, Cond.instantiable RX6 13, Cond.initialized RX6, Cond.constantLong RL 18 (4294967295), Cond.methodLink RL 9 yX5_init, Cond.instanceMethod yX5_init, Cond.code yX5_init cX5_init 2 none, Cond.methodLink RX5 3 objectInit, Cond.instanceMethod objectInit, Cond.code objectInit ⟨#[0xb1]⟩ 1 none, Cond.classLink RX5 9 RX3, Cond.instantiable RX3 9, Cond.initialized RX3, Cond.fieldLink RX5 12 "CassetteTones" "tape" "LCassetteTones$Tape;", Cond.classLink RX5 16 RX0, Cond.instantiable RX0 3, Cond.initialized RX0, Cond.fieldLink RX5 19 "CassetteTones" "reader" "LCassetteTones$BlockReader;", Cond.classLink RX5 23 RX2, Cond.instantiable RX2 11, Cond.initialized RX2]
def wsL_law_r2 : List Cond := [Cond.fieldLink RX5 26 "CassetteTones" "pad" "LCassetteTones$Pad;", Cond.classLink RX5 30 RX1, Cond.instantiable RX1 3, Cond.initialized RX1, Cond.fieldLink RX5 33 "CassetteTones" "history" "LCassetteTones$History;", Cond.fieldLink RX5 37 "CassetteTones" "slots" "[LCassetteTones$Tape;", Cond.arrayClass .boolean, Cond.fieldLink RX5 41 "CassetteTones" "saved" "[Z", Cond.arrayClass .int, Cond.fieldLink RX5 45 "CassetteTones" "below" "[I", Cond.instanceMethod yX3_init, Cond.code yX3_init cX3_init 1 none, Cond.methodLink RX3 3 objectInit, Cond.fieldLink RX3 9 "CassetteTones$Tape" "settings" "[I", Cond.fieldLink RX3 15 "CassetteTones$Tape" "names" "[I", Cond.fieldLink RX3 18 "CassetteTones$Tape" "unders" "[I", Cond.fieldLink RX3 21 "CassetteTones$Tape" "manys" "[I", Cond.fieldLink RX3 24 "CassetteTones$Tape" "firsts" "[I", Cond.fieldLink RX3 27 "CassetteTones$Tape" "volumes" "[I", Cond.fieldLink RX3 30 "CassetteTones$Tape" "bad" "[I", Cond.fieldLink RX3 33 "CassetteTones$Tape" "written" "[I", Cond.instanceMethod yX0_init, Cond.code yX0_init cX0_init 1 none, Cond.methodLink RX0 3 objectInit]
def wsL_law_r3 : List Cond := [Cond.classLink RX0 9 RX4, Cond.instantiable RX4 4, Cond.initialized RX4, Cond.fieldLink RX0 12 "CassetteTones$BlockReader" "first" "LCassetteTones$Telling;", Cond.fieldLink RX0 18 "CassetteTones$BlockReader" "second" "LCassetteTones$Telling;", Cond.fieldLink RX0 21 "CassetteTones$BlockReader" "tellings" "[LCassetteTones$Telling;", Cond.instanceMethod yX4_init, Cond.code yX4_init cX4_init 1 none, Cond.methodLink RX4 3 objectInit, Cond.fieldLink RX4 9 "CassetteTones$Telling" "values" "[I", Cond.fieldLink RX4 15 "CassetteTones$Telling" "wholeUpTo" "[I", Cond.instanceMethod yX2_init, Cond.code yX2_init cX2_init 1 none, Cond.methodLink RX2 3 objectInit, Cond.arrayClass .char, Cond.fieldLink RX2 9 "CassetteTones$Pad" "characters" "[C", Cond.instanceMethod yX1_init, Cond.code yX1_init cX1_init 2 none, Cond.methodLink RX1 3 objectInit, Cond.classLink RX1 9 RX3, Cond.fieldLink RX1 11 "CassetteTones$History" "states" "[LCassetteTones$Tape;", Cond.methodLink RL 12 yX6_init, Cond.instanceMethod yX6_init, Cond.code yX6_init cX6_init 1 none]
def wsL_law_r4 : List Cond := [Cond.methodLink RX6 1 objectInit, Cond.fieldLink RX6 7 "CassetteTonesModel" "state" "[I", Cond.fieldLink RX6 13 "CassetteTonesModel" "history" "[I", Cond.fieldLink RX6 16 "CassetteTonesModel" "slots" "[I", Cond.fieldLink RX6 19 "CassetteTonesModel" "isSaved" "[I", Cond.fieldLink RX6 22 "CassetteTonesModel" "pad" "[I", Cond.fieldLink RX6 25 "CassetteTonesModel" "found" "[I", Cond.fieldLink RX6 28 "CassetteTonesModel" "numbers" "[I", Cond.methodLink RL 13 yX5_set, Cond.instanceMethod yX5_set, Cond.selects RX5 yX5_set yX5_set, Cond.code yX5_set cX5_set 4 (some .int), Cond.methodLink RX5 49 yX5_mostOf, Cond.static yX5_mostOf, Cond.code yX5_mostOf cX5_mostOf 1 (some .int), Cond.instanceMethod yX1_record, Cond.selects RX1 yX1_record yX1_record, Cond.code yX1_record cX1_record 2 none, Cond.fieldLink RX1 18 "CassetteTones$History" "oldest" "I", Cond.fieldLink RX1 22 "CassetteTones$History" "size" "I", Cond.instanceMethod yX3_copyFrom, Cond.selects RX3 yX3_copyFrom yX3_copyFrom, Cond.code yX3_copyFrom cX3_copyFrom 3 none, Cond.fieldLink RX3 36 "CassetteTones$Tape" "blocks" "I"]
def wsL_law_r5 : List Cond := [Cond.methodLink RX3 40 arraycopyName, Cond.native arraycopyName, Cond.static arraycopyName, Cond.initialized "java/lang/System", Cond.methodLink RX3 46 yX3_cells, Cond.instanceMethod yX3_cells, Cond.selects RX3 yX3_cells yX3_cells, Cond.code yX3_cells cX3_cells 1 (some .int), Cond.methodLink RL 17 yX6_set, Cond.instanceMethod yX6_set, Cond.selects RX6 yX6_set yX6_set, Cond.code yX6_set cX6_set 4 (some .int), Cond.methodLink RX6 101 yX6_isValue, Cond.static yX6_isValue, Cond.code yX6_isValue cX6_isValue 2 (some .boolean), Cond.methodLink RX6 39 yX6_within, Cond.static yX6_within, Cond.code yX6_within cX6_within 3 (some .boolean), Cond.methodLink RX6 104 yX6_record, Cond.instanceMethod yX6_record, Cond.selects RX6 yX6_record yX6_record, Cond.code yX6_record cX6_record 2 none, Cond.fieldLink RX6 31 "CassetteTonesModel" "recorded" "I", Cond.methodLink RX6 35 yX6_moves]
def wsL_law_r6 : List Cond := [Cond.static yX6_moves, Cond.code yX6_moves cX6_moves 5 none, Cond.methodLink RL 20 yX5_write, Cond.instanceMethod yX5_write, Cond.selects RX5 yX5_write yX5_write, Cond.code yX5_write cX5_write 7 (some .int), Cond.instanceMethod yX3_errorOfBlock, Cond.selects RX3 yX3_errorOfBlock yX3_errorOfBlock, Cond.code yX3_errorOfBlock cX3_errorOfBlock 4 (some .int), Cond.methodLink RX3 50 yX3_hasBlock, Cond.instanceMethod yX3_hasBlock, Cond.selects RX3 yX3_hasBlock yX3_hasBlock, Cond.code yX3_hasBlock cX3_hasBlock 2 (some .boolean), Cond.instanceMethod yX3_appendBlock, Cond.selects RX3 yX3_appendBlock yX3_appendBlock, Cond.code yX3_appendBlock cX3_appendBlock 11 (some .int), Cond.methodLink RX3 54 yX3_tellingCells, Cond.instanceMethod yX3_tellingCells, Cond.selects RX3 yX3_tellingCells yX3_tellingCells, Cond.code yX3_tellingCells cX3_tellingCells 2 (some .int), Cond.methodLink RX3 58 yX3_writeTelling, Cond.instanceMethod yX3_writeTelling, Cond.selects RX3 yX3_writeTelling yX3_writeTelling, Cond.code yX3_writeTelling cX3_writeTelling 8 none]
def wsL_law_r7 : List Cond := [Cond.methodLink RX3 62 yX3_writeByte, Cond.instanceMethod yX3_writeByte, Cond.selects RX3 yX3_writeByte yX3_writeByte, Cond.code yX3_writeByte cX3_writeByte 4 none, Cond.methodLink RX3 66 yJ6_bitCount_0f7a4, Cond.static yJ6_bitCount_0f7a4, Cond.initialized RJ6, Cond.code yJ6_bitCount_0f7a4 cJ6_bitCount_0f7a4 1 (some .int), Cond.constant RJ6 265 (1431655765), Cond.constant RJ6 266 (858993459), Cond.constant RJ6 267 (252645135), Cond.methodLink RL 24 yX6_write, Cond.instanceMethod yX6_write, Cond.selects RX6 yX6_write yX6_write, Cond.code yX6_write cX6_write 8 (some .int), Cond.constantLong RX6 113 (255), Cond.methodLink RX6 110 yX6_whyNotWritten, Cond.instanceMethod yX6_whyNotWritten, Cond.selects RX6 yX6_whyNotWritten yX6_whyNotWritten, Cond.code yX6_whyNotWritten cX6_whyNotWritten 4 (some .int), Cond.methodLink RX6 107 yX6_isBlock, Cond.instanceMethod yX6_isBlock, Cond.selects RX6 yX6_isBlock yX6_isBlock, Cond.code yX6_isBlock cX6_isBlock 2 (some .boolean)]
def wsL_law_r8 : List Cond := [Cond.methodLink RX6 115 yX6_writes, Cond.instanceMethod yX6_writes, Cond.selects RX6 yX6_writes yX6_writes, Cond.code yX6_writes cX6_writes 8 (some .int), Cond.methodLink RX6 54 yX6_firstOf, Cond.instanceMethod yX6_firstOf, Cond.selects RX6 yX6_firstOf yX6_firstOf, Cond.code yX6_firstOf cX6_firstOf 4 (some .int), Cond.methodLink RX6 51 yX6_cellsOf, Cond.instanceMethod yX6_cellsOf, Cond.selects RX6 yX6_cellsOf yX6_cellsOf, Cond.code yX6_cellsOf cX6_cellsOf 2 (some .int), Cond.methodLink RX6 47 yX6_tellingSize, Cond.instanceMethod yX6_tellingSize, Cond.selects RX6 yX6_tellingSize yX6_tellingSize, Cond.code yX6_tellingSize cX6_tellingSize 2 (some .int), Cond.methodLink RX6 43 yX6_part, Cond.instanceMethod yX6_part, Cond.selects RX6 yX6_part yX6_part, Cond.code yX6_part cX6_part 3 (some .int), Cond.methodLink RL 25 yX5_wipeLast, Cond.instanceMethod yX5_wipeLast, Cond.selects RX5 yX5_wipeLast yX5_wipeLast, Cond.code yX5_wipeLast cX5_wipeLast 1 (some .int)]
def wsL_law_r9 : List Cond := [Cond.methodLink RL 29 yX6_wipeLast, Cond.instanceMethod yX6_wipeLast, Cond.selects RX6 yX6_wipeLast yX6_wipeLast, Cond.code yX6_wipeLast cX6_wipeLast 1 (some .int), Cond.methodLink RL 30 yX5_fade, Cond.instanceMethod yX5_fade, Cond.selects RX5 yX5_fade yX5_fade, Cond.code yX5_fade cX5_fade 5 (some .int), Cond.instanceMethod yX3_errorOfFading, Cond.selects RX3 yX3_errorOfFading yX3_errorOfFading, Cond.code yX3_errorOfFading cX3_errorOfFading 4 (some .int), Cond.methodLink RX3 71 yX3_hasCell, Cond.instanceMethod yX3_hasCell, Cond.selects RX3 yX3_hasCell yX3_hasCell, Cond.code yX3_hasCell cX3_hasCell 2 (some .boolean), Cond.instanceMethod yX3_fadeCells, Cond.selects RX3 yX3_fadeCells yX3_fadeCells, Cond.code yX3_fadeCells cX3_fadeCells 6 (some .int), Cond.methodLink RL 34 yX6_fade, Cond.instanceMethod yX6_fade, Cond.selects RX6 yX6_fade yX6_fade, Cond.code yX6_fade cX6_fade 5 (some .int), Cond.methodLink RX6 121 yX6_whyNotFaded, Cond.instanceMethod yX6_whyNotFaded]
def wsL_law_r10 : List Cond := [Cond.selects RX6 yX6_whyNotFaded yX6_whyNotFaded, Cond.code yX6_whyNotFaded cX6_whyNotFaded 4 (some .int), Cond.methodLink RX6 118 yX6_isCell, Cond.instanceMethod yX6_isCell, Cond.selects RX6 yX6_isCell yX6_isCell, Cond.code yX6_isCell cX6_isCell 2 (some .boolean), Cond.methodLink RX6 57 yX6_allCells, Cond.instanceMethod yX6_allCells, Cond.selects RX6 yX6_allCells yX6_allCells, Cond.code yX6_allCells cX6_allCells 1 (some .int), Cond.methodLink RX6 124 yX6_fades, Cond.instanceMethod yX6_fades, Cond.selects RX6 yX6_fades yX6_fades, Cond.code yX6_fades cX6_fades 7 (some .int), Cond.methodLink RX6 73 yX6_volumeOf, Cond.instanceMethod yX6_volumeOf, Cond.selects RX6 yX6_volumeOf yX6_volumeOf, Cond.code yX6_volumeOf cX6_volumeOf 2 (some .int), Cond.methodLink RX6 70 yX6_badness, Cond.instanceMethod yX6_badness, Cond.selects RX6 yX6_badness yX6_badness, Cond.code yX6_badness cX6_badness 2 (some .int), Cond.methodLink RL 35 yX5_spoil, Cond.instanceMethod yX5_spoil]
def wsL_law_r11 : List Cond := [Cond.selects RX5 yX5_spoil yX5_spoil, Cond.code yX5_spoil cX5_spoil 2 (some .int), Cond.instanceMethod yX3_spoilCell, Cond.selects RX3 yX3_spoilCell yX3_spoilCell, Cond.code yX3_spoilCell cX3_spoilCell 2 (some .int), Cond.methodLink RL 39 yX6_spoil, Cond.instanceMethod yX6_spoil, Cond.selects RX6 yX6_spoil yX6_spoil, Cond.code yX6_spoil cX6_spoil 2 (some .int), Cond.methodLink RX6 127 yX6_turns, Cond.instanceMethod yX6_turns, Cond.selects RX6 yX6_turns yX6_turns, Cond.code yX6_turns cX6_turns 2 (some .int), Cond.methodLink RL 40 yX5_of, Cond.instanceMethod yX5_of, Cond.selects RX5 yX5_of yX5_of, Cond.code yX5_of cX5_of 3 (some .int), Cond.methodLink RX5 100 yX5_stateOfTelling, Cond.instanceMethod yX5_stateOfTelling, Cond.selects RX5 yX5_stateOfTelling yX5_stateOfTelling, Cond.code yX5_stateOfTelling cX5_stateOfTelling 3 (some .int), Cond.instanceMethod yX0_readBlock, Cond.selects RX0 yX0_readBlock yX0_readBlock, Cond.code yX0_readBlock cX0_readBlock 4 none]
def wsL_law_r12 : List Cond := [Cond.instanceMethod yX4_readCells, Cond.selects RX4 yX4_readCells yX4_readCells, Cond.code yX4_readCells cX4_readCells 5 none, Cond.fieldLink RX4 18 "CassetteTones$Telling" "many" "I", Cond.methodLink RX4 22 yX4_readLeader, Cond.instanceMethod yX4_readLeader, Cond.selects RX4 yX4_readLeader yX4_readLeader, Cond.code yX4_readLeader cX4_readLeader 7 none, Cond.methodLink RX4 35 Lib.Math.min.name, Cond.static Lib.Math.min.name, Cond.initialized "java/lang/Math", Cond.code Lib.Math.min.name Lib.Math.min.code 2 (some .int), Cond.methodLink RX4 41 Lib.Math.max.name, Cond.static Lib.Math.max.name, Cond.code Lib.Math.max.name Lib.Math.max.code 2 (some .int), Cond.fieldLink RX4 44 "CassetteTones$Telling" "leaderHeard" "I", Cond.methodLink RX4 26 yX4_readByte, Cond.instanceMethod yX4_readByte, Cond.selects RX4 yX4_readByte yX4_readByte, Cond.code yX4_readByte cX4_readByte 9 none, Cond.instanceMethod yX4_stateBy, Cond.selects RX4 yX4_stateBy yX4_stateBy, Cond.code yX4_stateBy cX4_stateBy 4 (some .int), Cond.methodLink RX4 57 yX4_isLost]
def wsL_law_r13 : List Cond := [Cond.instanceMethod yX4_isLost, Cond.selects RX4 yX4_isLost yX4_isLost, Cond.code yX4_isLost cX4_isLost 2 (some .boolean), Cond.methodLink RX4 53 yX4_isByteWhole, Cond.instanceMethod yX4_isByteWhole, Cond.selects RX4 yX4_isByteWhole yX4_isByteWhole, Cond.code yX4_isByteWhole cX4_isByteWhole 3 (some .boolean), Cond.methodLink RX4 61 yX4_tellsSum, Cond.instanceMethod yX4_tellsSum, Cond.selects RX4 yX4_tellsSum yX4_tellsSum, Cond.code yX4_tellsSum cX4_tellsSum 3 (some .boolean), Cond.methodLink RX5 104 yX5_wayOfLoading, Cond.instanceMethod yX5_wayOfLoading, Cond.selects RX5 yX5_wayOfLoading yX5_wayOfLoading, Cond.code yX5_wayOfLoading cX5_wayOfLoading 2 (some .int), Cond.instanceMethod yX0_wayBy, Cond.selects RX0 yX0_wayBy yX0_wayBy, Cond.code yX0_wayBy cX0_wayBy 2 (some .int), Cond.methodLink RX0 45 yX0_isWholeTogether, Cond.instanceMethod yX0_isWholeTogether, Cond.selects RX0 yX0_isWholeTogether yX0_isWholeTogether, Cond.code yX0_isWholeTogether cX0_isWholeTogether 5 (some .boolean), Cond.methodLink RX0 56 yX0_byteTogether, Cond.instanceMethod yX0_byteTogether]
def wsL_law_r14 : List Cond := [Cond.selects RX0 yX0_byteTogether yX0_byteTogether, Cond.code yX0_byteTogether cX0_byteTogether 3 (some .int), Cond.instanceMethod yX3_depthOf, Cond.selects RX3 yX3_depthOf yX3_depthOf, Cond.code yX3_depthOf cX3_depthOf 4 (some .int), Cond.instanceMethod yX3_counterOf, Cond.selects RX3 yX3_counterOf yX3_counterOf, Cond.code yX3_counterOf cX3_counterOf 2 (some .int), Cond.methodLink RL 43 yX6_of, Cond.instanceMethod yX6_of, Cond.selects RX6 yX6_of yX6_of, Cond.code yX6_of cX6_of 3 (some .int), Cond.methodLink RX6 91 yX6_howIs, Cond.instanceMethod yX6_howIs, Cond.selects RX6 yX6_howIs yX6_howIs, Cond.code yX6_howIs cX6_howIs 7 (some .int), Cond.methodLink RX6 84 yX6_isLeaderLost, Cond.instanceMethod yX6_isLeaderLost, Cond.selects RX6 yX6_isLeaderLost yX6_isLeaderLost, Cond.code yX6_isLeaderLost cX6_isLeaderLost 6 (some .boolean), Cond.methodLink RX6 76 yX6_isHeard, Cond.instanceMethod yX6_isHeard, Cond.selects RX6 yX6_isHeard yX6_isHeard, Cond.code yX6_isHeard cX6_isHeard 2 (some .boolean)]
def wsL_law_r15 : List Cond := [Cond.methodLink RX6 88 yX6_readAt, Cond.instanceMethod yX6_readAt, Cond.selects RX6 yX6_readAt yX6_readAt, Cond.code yX6_readAt cX6_readAt 9 (some .int), Cond.methodLink RX6 80 yX6_bitAt, Cond.instanceMethod yX6_bitAt, Cond.selects RX6 yX6_bitAt yX6_bitAt, Cond.code yX6_bitAt cX6_bitAt 7 (some .int), Cond.methodLink RX6 64 yX6_byteAt, Cond.instanceMethod yX6_byteAt, Cond.selects RX6 yX6_byteAt yX6_byteAt, Cond.code yX6_byteAt cX6_byteAt 3 (some .int), Cond.methodLink RX6 61 yX6_sumOf, Cond.instanceMethod yX6_sumOf, Cond.selects RX6 yX6_sumOf yX6_sumOf, Cond.code yX6_sumOf cX6_sumOf 4 (some .int), Cond.methodLink RX6 67 yX6_isOdd, Cond.static yX6_isOdd, Cond.code yX6_isOdd cX6_isOdd 3 (some .int), Cond.methodLink RX6 130 yX6_loadedBy, Cond.instanceMethod yX6_loadedBy, Cond.selects RX6 yX6_loadedBy yX6_loadedBy, Cond.code yX6_loadedBy cX6_loadedBy 3 (some .int), Cond.methodLink RX6 94 yX6_findBy]
def wsL_law_r16 : List Cond := [Cond.instanceMethod yX6_findBy, Cond.selects RX6 yX6_findBy yX6_findBy, Cond.code yX6_findBy cX6_findBy 4 none, Cond.methodLink RX6 98 yX6_findByBoth, Cond.instanceMethod yX6_findByBoth, Cond.selects RX6 yX6_findByBoth yX6_findByBoth, Cond.code yX6_findByBoth cX6_findByBoth 6 (some .boolean), Cond.methodLink RX6 133 yX6_depthOf, Cond.instanceMethod yX6_depthOf, Cond.selects RX6 yX6_depthOf yX6_depthOf, Cond.code yX6_depthOf cX6_depthOf 4 (some .int), Cond.methodLink RX6 136 yX6_counterOf, Cond.instanceMethod yX6_counterOf, Cond.selects RX6 yX6_counterOf yX6_counterOf, Cond.code yX6_counterOf cX6_counterOf 2 (some .int), Cond.methodLink RL 44 yX5_load, Cond.instanceMethod yX5_load, Cond.selects RX5 yX5_load yX5_load, Cond.code yX5_load cX5_load 3 (some .long), Cond.constantLong RX5 113 (-1), Cond.constantLong RX5 115 (-5), Cond.instanceMethod yX0_bytesBy, Cond.selects RX0 yX0_bytesBy yX0_bytesBy, Cond.code yX0_bytesBy cX0_bytesBy 6 (some .long)]
def wsL_law_r17 : List Cond := [Cond.methodLink RX0 70 yX0_byteBy, Cond.instanceMethod yX0_byteBy, Cond.selects RX0 yX0_byteBy yX0_byteBy, Cond.code yX0_byteBy cX0_byteBy 4 (some .int), Cond.methodLink RL 48 yX6_load, Cond.instanceMethod yX6_load, Cond.selects RX6 yX6_load yX6_load, Cond.code yX6_load cX6_load 5 (some .long), Cond.constantLong RX6 139 (-1), Cond.constantLong RX6 141 (-5), Cond.methodLink RL 49 yX5_read, Cond.instanceMethod yX5_read, Cond.selects RX5 yX5_read yX5_read, Cond.code yX5_read cX5_read 6 (some .int), Cond.methodLink RL 52 yX6_read, Cond.instanceMethod yX6_read, Cond.selects RX6 yX6_read yX6_read, Cond.code yX6_read cX6_read 4 (some .int), Cond.methodLink RL 53 yX5_cell, Cond.instanceMethod yX5_cell, Cond.selects RX5 yX5_cell yX5_cell, Cond.code yX5_cell cX5_cell 3 (some .int), Cond.instanceMethod yX3_bitAt, Cond.selects RX3 yX3_bitAt yX3_bitAt]
def wsL_law_r18 : List Cond := [Cond.code yX3_bitAt cX3_bitAt 5 (some .int), Cond.methodLink RX3 74 yX3_blockAt, Cond.instanceMethod yX3_blockAt, Cond.selects RX3 yX3_blockAt yX3_blockAt, Cond.code yX3_blockAt cX3_blockAt 3 (some .int), Cond.methodLink RX3 77 yX3_partAt, Cond.instanceMethod yX3_partAt, Cond.selects RX3 yX3_partAt yX3_partAt, Cond.code yX3_partAt cX3_partAt 5 (some .int), Cond.methodLink RL 56 yX6_cell, Cond.instanceMethod yX6_cell, Cond.selects RX6 yX6_cell yX6_cell, Cond.code yX6_cell cX6_cell 3 (some .int), Cond.methodLink RX6 149 yX6_bitOf, Cond.instanceMethod yX6_bitOf, Cond.selects RX6 yX6_bitOf yX6_bitOf, Cond.code yX6_bitOf cX6_bitOf 4 (some .int), Cond.methodLink RX6 143 yX6_blockOf, Cond.instanceMethod yX6_blockOf, Cond.selects RX6 yX6_blockOf yX6_blockOf, Cond.code yX6_blockOf cX6_blockOf 3 (some .int), Cond.methodLink RX6 146 yX6_whereIn, Cond.instanceMethod yX6_whereIn, Cond.selects RX6 yX6_whereIn yX6_whereIn]
def wsL_law_r19 : List Cond := [Cond.code yX6_whereIn cX6_whereIn 3 (some .int), Cond.methodLink RL 57 yX5_count, Cond.instanceMethod yX5_count, Cond.selects RX5 yX5_count yX5_count, Cond.code yX5_count cX5_count 2 (some .int), Cond.methodLink RX5 160 yX5_loadedBlocks, Cond.instanceMethod yX5_loadedBlocks, Cond.selects RX5 yX5_loadedBlocks yX5_loadedBlocks, Cond.code yX5_loadedBlocks cX5_loadedBlocks 5 (some .int), Cond.instanceMethod yX3_silentCells, Cond.selects RX3 yX3_silentCells yX3_silentCells, Cond.code yX3_silentCells cX3_silentCells 4 (some .int), Cond.instanceMethod yX3_badCells, Cond.selects RX3 yX3_badCells yX3_badCells, Cond.code yX3_badCells cX3_badCells 4 (some .int), Cond.methodLink RL 60 yX6_count, Cond.instanceMethod yX6_count, Cond.selects RX6 yX6_count yX6_count, Cond.code yX6_count cX6_count 2 (some .int), Cond.fieldLink RX6 162 "CassetteTonesModel" "padLength" "I", Cond.methodLink RX6 152 yX6_loadedSet, Cond.instanceMethod yX6_loadedSet, Cond.selects RX6 yX6_loadedSet yX6_loadedSet, Cond.code yX6_loadedSet cX6_loadedSet 5 (some .int)]
def wsL_law_r20 : List Cond := [Cond.methodLink RX6 156 yX6_silentMany, Cond.instanceMethod yX6_silentMany, Cond.selects RX6 yX6_silentMany yX6_silentMany, Cond.code yX6_silentMany cX6_silentMany 3 (some .int), Cond.methodLink RX6 159 yX6_badMany, Cond.instanceMethod yX6_badMany, Cond.selects RX6 yX6_badMany yX6_badMany, Cond.code yX6_badMany cX6_badMany 3 (some .int), Cond.methodLink RL 61 yX5_reached, Cond.instanceMethod yX5_reached, Cond.selects RX5 yX5_reached yX5_reached, Cond.code yX5_reached cX5_reached 4 (some .int), Cond.methodLink RX5 176 yX5_holds, Cond.static yX5_holds, Cond.code yX5_holds cX5_holds 2 (some .boolean), Cond.methodLink RL 64 yX6_reached, Cond.instanceMethod yX6_reached, Cond.selects RX6 yX6_reached yX6_reached, Cond.code yX6_reached cX6_reached 1 (some .int), Cond.methodLink RX6 165 yX6_reachedSet, Cond.instanceMethod yX6_reachedSet, Cond.selects RX6 yX6_reachedSet yX6_reachedSet, Cond.code yX6_reachedSet cX6_reachedSet 5 (some .int), Cond.methodLink RL 65 yX5_near]
def wsL_law_r21 : List Cond := [Cond.instanceMethod yX5_near, Cond.selects RX5 yX5_near yX5_near, Cond.code yX5_near cX5_near 4 (some .int), Cond.instanceMethod yX3_nearerBlocks, Cond.selects RX3 yX3_nearerBlocks yX3_nearerBlocks, Cond.code yX3_nearerBlocks cX3_nearerBlocks 7 (some .int), Cond.methodLink RX3 92 yX3_distanceOf, Cond.instanceMethod yX3_distanceOf, Cond.selects RX3 yX3_distanceOf yX3_distanceOf, Cond.code yX3_distanceOf cX3_distanceOf 4 (some .int), Cond.methodLink RX3 83 Lib.Math.abs.name, Cond.static Lib.Math.abs.name, Cond.code Lib.Math.abs.name Lib.Math.abs.code 1 (some .int), Cond.methodLink RX3 88 Lib.Math.min.name, Cond.methodLink RX3 80 yX3_counterOf, Cond.methodLink RL 68 yX6_near, Cond.instanceMethod yX6_near, Cond.selects RX6 yX6_near yX6_near, Cond.code yX6_near cX6_near 7 (some .int), Cond.methodLink RX6 171 yX6_farFrom, Cond.instanceMethod yX6_farFrom, Cond.selects RX6 yX6_farFrom yX6_farFrom, Cond.code yX6_farFrom cX6_farFrom 4 (some .int), Cond.methodLink RX6 168 yX6_size]
def wsL_law_r22 : List Cond := [Cond.static yX6_size, Cond.code yX6_size cX6_size 1 (some .int), Cond.methodLink RL 69 yX5_mostLeast, Cond.instanceMethod yX5_mostLeast, Cond.selects RX5 yX5_mostLeast yX5_mostLeast, Cond.code yX5_mostLeast cX5_mostLeast 3 (some .int), Cond.methodLink RL 72 yX6_mostLeast, Cond.instanceMethod yX6_mostLeast, Cond.selects RX6 yX6_mostLeast yX6_mostLeast, Cond.code yX6_mostLeast cX6_mostLeast 5 (some .int), Cond.methodLink RL 73 yX5_weak, Cond.instanceMethod yX5_weak, Cond.selects RX5 yX5_weak yX5_weak, Cond.code yX5_weak cX5_weak 3 (some .int), Cond.methodLink RL 76 yX6_weak, Cond.instanceMethod yX6_weak, Cond.selects RX6 yX6_weak yX6_weak, Cond.code yX6_weak cX6_weak 6 (some .int), Cond.methodLink RL 77 yX5_widest, Cond.instanceMethod yX5_widest, Cond.selects RX5 yX5_widest yX5_widest, Cond.code yX5_widest cX5_widest 5 (some .int), Cond.methodLink RX5 188 yX5_reached, Cond.methodLink RX5 191 yX5_countBelow]
def wsL_law_r23 : List Cond := [Cond.instanceMethod yX5_countBelow, Cond.selects RX5 yX5_countBelow yX5_countBelow, Cond.code yX5_countBelow cX5_countBelow 4 none, Cond.methodLink RL 80 yX6_widest, Cond.instanceMethod yX6_widest, Cond.selects RX6 yX6_widest yX6_widest, Cond.code yX6_widest cX6_widest 8 (some .int), Cond.methodLink RX6 174 yX6_isUnder, Cond.instanceMethod yX6_isUnder, Cond.selects RX6 yX6_isUnder yX6_isUnder, Cond.code yX6_isUnder cX6_isUnder 4 (some .boolean), Cond.methodLink RL 81 yX5_put, Cond.instanceMethod yX5_put, Cond.selects RX5 yX5_put yX5_put, Cond.code yX5_put cX5_put 4 (some .int), Cond.instanceMethod yX2_charactersIn, Cond.selects RX2 yX2_charactersIn yX2_charactersIn, Cond.code yX2_charactersIn cX2_charactersIn 7 (some .int), Cond.instanceMethod yX2_append, Cond.selects RX2 yX2_append yX2_append, Cond.code yX2_append cX2_append 6 none, Cond.fieldLink RX2 15 "CassetteTones$Pad" "length" "I", Cond.methodLink RL 85 yX6_put, Cond.instanceMethod yX6_put]
def wsL_law_r24 : List Cond := [Cond.selects RX6 yX6_put yX6_put, Cond.code yX6_put cX6_put 8 (some .int), Cond.methodLink RL 86 yX5_wipe, Cond.instanceMethod yX5_wipe, Cond.selects RX5 yX5_wipe yX5_wipe, Cond.code yX5_wipe cX5_wipe 2 (some .int), Cond.methodLink RL 89 yX6_wipe, Cond.instanceMethod yX6_wipe, Cond.selects RX6 yX6_wipe yX6_wipe, Cond.code yX6_wipe cX6_wipe 2 (some .int), Cond.methodLink RL 90 yX5_fault, Cond.instanceMethod yX5_fault, Cond.selects RX5 yX5_fault yX5_fault, Cond.code yX5_fault cX5_fault 1 (some .int), Cond.instanceMethod yX2_findFault, Cond.selects RX2 yX2_findFault yX2_findFault, Cond.code yX2_findFault cX2_findFault 2 (some .int), Cond.fieldLink RX2 19 "CassetteTones$Pad" "at" "I", Cond.methodLink RX2 22 yX2_takeOrder, Cond.instanceMethod yX2_takeOrder, Cond.selects RX2 yX2_takeOrder yX2_takeOrder, Cond.code yX2_takeOrder cX2_takeOrder 1 (some .boolean), Cond.fieldLink RX2 34 "CassetteTones$Pad" "kind" "C", Cond.fieldLink RX2 42 "CassetteTones$Pad" "number" "I"]
def wsL_law_r25 : List Cond := [Cond.methodLink RX2 30 yX2_nextCharacter, Cond.instanceMethod yX2_nextCharacter, Cond.selects RX2 yX2_nextCharacter yX2_nextCharacter, Cond.code yX2_nextCharacter cX2_nextCharacter 1 (some .char), Cond.methodLink RX2 38 yX2_takeNumber, Cond.instanceMethod yX2_takeNumber, Cond.selects RX2 yX2_takeNumber yX2_takeNumber, Cond.code yX2_takeNumber cX2_takeNumber 4 (some .int), Cond.methodLink RX2 78 yX2_nextDigit, Cond.instanceMethod yX2_nextDigit, Cond.selects RX2 yX2_nextDigit yX2_nextDigit, Cond.code yX2_nextDigit cX2_nextDigit 2 (some .int), Cond.methodLink RX2 45 yX2_takeUnder, Cond.instanceMethod yX2_takeUnder, Cond.selects RX2 yX2_takeUnder yX2_takeUnder, Cond.code yX2_takeUnder cX2_takeUnder 1 (some .boolean), Cond.fieldLink RX2 54 "CassetteTones$Pad" "under" "I", Cond.methodLink RX2 26 yX2_takeSign, Cond.instanceMethod yX2_takeSign, Cond.selects RX2 yX2_takeSign yX2_takeSign, Cond.code yX2_takeSign cX2_takeSign 2 (some .boolean), Cond.methodLink RX2 48 yX2_takeBytes, Cond.instanceMethod yX2_takeBytes, Cond.selects RX2 yX2_takeBytes yX2_takeBytes]
def wsL_law_r26 : List Cond := [Cond.code yX2_takeBytes cX2_takeBytes 3 (some .boolean), Cond.fieldLink RX2 57 "CassetteTones$Pad" "many" "I", Cond.fieldLink RX2 60 "CassetteTones$Pad" "bytes" "J", Cond.fieldLink RX2 64 "CassetteTones$Pad" "byteTooGreat" "Z", Cond.methodLink RX2 68 yX2_addByte, Cond.instanceMethod yX2_addByte, Cond.selects RX2 yX2_addByte yX2_addByte, Cond.code yX2_addByte cX2_addByte 2 none, Cond.methodLink RX2 51 yX2_takeFading, Cond.instanceMethod yX2_takeFading, Cond.selects RX2 yX2_takeFading yX2_takeFading, Cond.code yX2_takeFading cX2_takeFading 1 (some .boolean), Cond.fieldLink RX2 72 "CassetteTones$Pad" "to" "I", Cond.fieldLink RX2 75 "CassetteTones$Pad" "volume" "I", Cond.methodLink RL 93 yX6_fault, Cond.instanceMethod yX6_fault, Cond.selects RX6 yX6_fault yX6_fault, Cond.code yX6_fault cX6_fault 1 (some .int), Cond.methodLink RX6 212 yX6_findFault, Cond.instanceMethod yX6_findFault, Cond.selects RX6 yX6_findFault yX6_findFault, Cond.code yX6_findFault cX6_findFault 1 (some .int), Cond.fieldLink RX6 177 "CassetteTonesModel" "at" "I", Cond.methodLink RX6 209 yX6_readsOrder]
def wsL_law_r27 : List Cond := [Cond.instanceMethod yX6_readsOrder, Cond.selects RX6 yX6_readsOrder yX6_readsOrder, Cond.code yX6_readsOrder cX6_readsOrder 1 (some .boolean), Cond.fieldLink RX6 187 "CassetteTonesModel" "numbersMany" "I", Cond.fieldLink RX6 203 "CassetteTonesModel" "letter" "I", Cond.methodLink RX6 180 yX6_character, Cond.instanceMethod yX6_character, Cond.selects RX6 yX6_character yX6_character, Cond.code yX6_character cX6_character 2 (some .int), Cond.methodLink RX6 206 yX6_takesBlock, Cond.instanceMethod yX6_takesBlock, Cond.selects RX6 yX6_takesBlock yX6_takesBlock, Cond.code yX6_takesBlock cX6_takesBlock 2 (some .boolean), Cond.fieldLink RX6 196 "CassetteTonesModel" "hasUnder" "Z", Cond.methodLink RX6 190 yX6_takesNumber, Cond.instanceMethod yX6_takesNumber, Cond.selects RX6 yX6_takesNumber yX6_takesNumber, Cond.code yX6_takesNumber cX6_takesNumber 2 (some .boolean), Cond.methodLink RX6 183 yX6_isDigit, Cond.instanceMethod yX6_isDigit, Cond.selects RX6 yX6_isDigit yX6_isDigit, Cond.code yX6_isDigit cX6_isDigit 1 (some .boolean), Cond.methodLink RX6 193 yX6_isNext, Cond.instanceMethod yX6_isNext]
def wsL_law_r28 : List Cond := [Cond.selects RX6 yX6_isNext yX6_isNext, Cond.code yX6_isNext cX6_isNext 3 (some .boolean), Cond.methodLink RX6 200 yX6_takesBytes, Cond.instanceMethod yX6_takesBytes, Cond.selects RX6 yX6_takesBytes yX6_takesBytes, Cond.code yX6_takesBytes cX6_takesBytes 2 (some .boolean), Cond.methodLink RL 94 yX5_carryOut, Cond.instanceMethod yX5_carryOut, Cond.selects RX5 yX5_carryOut yX5_carryOut, Cond.code yX5_carryOut cX5_carryOut 3 (some .int), Cond.methodLink RX5 213 yX5_carryOrderOut, Cond.instanceMethod yX5_carryOrderOut, Cond.selects RX5 yX5_carryOrderOut yX5_carryOrderOut, Cond.code yX5_carryOrderOut cX5_carryOrderOut 1 (some .int), Cond.methodLink RX5 233 yX5_carryBlockOut, Cond.instanceMethod yX5_carryBlockOut, Cond.selects RX5 yX5_carryBlockOut yX5_carryBlockOut, Cond.code yX5_carryBlockOut cX5_carryBlockOut 2 (some .int), Cond.methodLink RX5 236 yX5_carryFadingOut, Cond.instanceMethod yX5_carryFadingOut, Cond.selects RX5 yX5_carryFadingOut yX5_carryFadingOut, Cond.code yX5_carryFadingOut cX5_carryFadingOut 2 (some .int), Cond.methodLink RL 97 yX6_carryOut, Cond.instanceMethod yX6_carryOut]
def wsL_law_r29 : List Cond := [Cond.selects RX6 yX6_carryOut yX6_carryOut, Cond.code yX6_carryOut cX6_carryOut 3 (some .int), Cond.methodLink RX6 221 yX6_doesOrder, Cond.instanceMethod yX6_doesOrder, Cond.selects RX6 yX6_doesOrder yX6_doesOrder, Cond.code yX6_doesOrder cX6_doesOrder 2 (some .boolean), Cond.methodLink RX6 215 yX6_doesBlock, Cond.instanceMethod yX6_doesBlock, Cond.selects RX6 yX6_doesBlock yX6_doesBlock, Cond.code yX6_doesBlock cX6_doesBlock 6 (some .boolean), Cond.methodLink RX6 218 yX6_doesFade, Cond.instanceMethod yX6_doesFade, Cond.selects RX6 yX6_doesFade yX6_doesFade, Cond.code yX6_doesFade cX6_doesFade 2 (some .boolean), Cond.methodLink RL 98 yX5_undo, Cond.instanceMethod yX5_undo, Cond.selects RX5 yX5_undo yX5_undo, Cond.code yX5_undo cX5_undo 1 (some .int), Cond.instanceMethod yX1_takeBack, Cond.selects RX1 yX1_takeBack yX1_takeBack, Cond.code yX1_takeBack cX1_takeBack 2 none, Cond.methodLink RL 101 yX6_undo, Cond.instanceMethod yX6_undo, Cond.selects RX6 yX6_undo yX6_undo]
def wsL_law_r30 : List Cond := [Cond.code yX6_undo cX6_undo 1 (some .int), Cond.methodLink RL 102 yX5_save, Cond.instanceMethod yX5_save, Cond.selects RX5 yX5_save yX5_save, Cond.code yX5_save cX5_save 2 (some .int), Cond.methodLink RL 105 yX6_save, Cond.instanceMethod yX6_save, Cond.selects RX6 yX6_save yX6_save, Cond.code yX6_save cX6_save 2 (some .int), Cond.methodLink RL 106 yX5_restore, Cond.instanceMethod yX5_restore, Cond.selects RX5 yX5_restore yX5_restore, Cond.code yX5_restore cX5_restore 2 (some .int), Cond.methodLink RL 109 yX6_restore, Cond.instanceMethod yX6_restore, Cond.selects RX6 yX6_restore yX6_restore, Cond.code yX6_restore cX6_restore 2 (some .int)]
def wsL_law : List Cond := (wsL_law_r1 ++ (wsL_law_r2 ++ (wsL_law_r3 ++ (wsL_law_r4 ++ (wsL_law_r5 ++ (wsL_law_r6 ++ (wsL_law_r7 ++ (wsL_law_r8 ++ (wsL_law_r9 ++ (wsL_law_r10 ++ (wsL_law_r11 ++ (wsL_law_r12 ++ (wsL_law_r13 ++ (wsL_law_r14 ++ (wsL_law_r15 ++ (wsL_law_r16 ++ (wsL_law_r17 ++ (wsL_law_r18 ++ (wsL_law_r19 ++ (wsL_law_r20 ++ (wsL_law_r21 ++ (wsL_law_r22 ++ (wsL_law_r23 ++ (wsL_law_r24 ++ (wsL_law_r25 ++ (wsL_law_r26 ++ (wsL_law_r27 ++ (wsL_law_r28 ++ (wsL_law_r29 ++ wsL_law_r30))))))))))))))))))))))))))))) ++ wsX50 ++ wsX60 ++ wsX30 ++ wsX00 ++ wsX20 ++ wsX10 ++ wsX40 ++ ([] : List Cond)
set_option maxRecDepth 20000 in
theorem ggX0_init_X4_init : GoodIn wsX0_init wsX4_init := goodIn_r _ [11, 12, 2, 3, 13, 14, 15, 16, 17, 18, 19] (by decide +kernel) (by decide +kernel)
set_option maxRecDepth 20000 in
theorem gX0_init_X4_init_n11 : GoodIn wsX0_init (wsX4_init) := ggX0_init_X4_init
theorem dX0_init_0 : decode cX0_init 0 = .ok (.aload_n 0, 1) := by decide +kernel
theorem dX0_init_1 : decode cX0_init 1 = .ok (.invokespecial 3, 3) := by decide +kernel
theorem dX0_init_4 : decode cX0_init 4 = .ok (.aload_n 0, 1) := by decide +kernel
theorem dX0_init_5 : decode cX0_init 5 = .ok (.new 9, 3) := by decide +kernel
theorem dX0_init_8 : decode cX0_init 8 = .ok (.dup, 1) := by decide +kernel
theorem dX0_init_9 : decode cX0_init 9 = .ok (.invokespecial 11, 3) := by decide +kernel
theorem dX0_init_12 : decode cX0_init 12 = .ok (.putfield 12, 3) := by decide +kernel
theorem dX0_init_15 : decode cX0_init 15 = .ok (.aload_n 0, 1) := by decide +kernel
theorem dX0_init_16 : decode cX0_init 16 = .ok (.new 9, 3) := by decide +kernel
theorem dX0_init_19 : decode cX0_init 19 = .ok (.dup, 1) := by decide +kernel
theorem dX0_init_20 : decode cX0_init 20 = .ok (.invokespecial 11, 3) := by decide +kernel
theorem dX0_init_23 : decode cX0_init 23 = .ok (.putfield 18, 3) := by decide +kernel
theorem dX0_init_26 : decode cX0_init 26 = .ok (.aload_n 0, 1) := by decide +kernel
theorem dX0_init_27 : decode cX0_init 27 = .ok (.iconst 2, 1) := by decide +kernel
theorem dX0_init_28 : decode cX0_init 28 = .ok (.anewarray 9, 3) := by decide +kernel
theorem dX0_init_31 : decode cX0_init 31 = .ok (.dup, 1) := by decide +kernel
theorem dX0_init_32 : decode cX0_init 32 = .ok (.iconst 0, 1) := by decide +kernel
theorem dX0_init_33 : decode cX0_init 33 = .ok (.aload_n 0, 1) := by decide +kernel
theorem dX0_init_34 : decode cX0_init 34 = .ok (.getfield 12, 3) := by decide +kernel
theorem dX0_init_37 : decode cX0_init 37 = .ok (.aastore, 1) := by decide +kernel
theorem dX0_init_38 : decode cX0_init 38 = .ok (.dup, 1) := by decide +kernel
theorem dX0_init_39 : decode cX0_init 39 = .ok (.iconst 1, 1) := by decide +kernel
theorem dX0_init_40 : decode cX0_init 40 = .ok (.aload_n 0, 1) := by decide +kernel
theorem dX0_init_41 : decode cX0_init 41 = .ok (.getfield 18, 3) := by decide +kernel
theorem dX0_init_44 : decode cX0_init 44 = .ok (.aastore, 1) := by decide +kernel
theorem dX0_init_45 : decode cX0_init 45 = .ok (.putfield 21, 3) := by decide +kernel
theorem dX0_init_48 : decode cX0_init 48 = .ok (.return_, 1) := by decide +kernel
set_option maxRecDepth 20000 in
theorem ggX0_readBlock_X4_readCells : GoodIn wsX0_readBlock wsX4_readCells := goodIn_r _ [6, 7, 8, 9, 10, 4, 11, 12, 13, 14, 15, 16, 17, 18, 19, 20, 21, 22, 23, 24, 25, 43, 44, 45, 46, 31, 32, 33, 34, 35, 36, 37, 38, 39] (by decide +kernel) (by decide +kernel)
set_option maxRecDepth 20000 in
theorem gX0_readBlock_X4_readCells_n34 : GoodIn wsX0_readBlock (wsX4_readCells) := ggX0_readBlock_X4_readCells
set_option maxRecDepth 20000 in
theorem ggX0_readBlock_X3_tellingCells : GoodIn wsX0_readBlock wsX3_tellingCells := goodIn_r _ [29, 30, 31, 32, 33, 34, 35, 36, 37, 38, 39] (by decide +kernel) (by decide +kernel)
set_option maxRecDepth 20000 in
theorem gX0_readBlock_X3_tellingCells_n38 : GoodIn wsX0_readBlock (wsX3_tellingCells) := ggX0_readBlock_X3_tellingCells
theorem dX0_readBlock_0 : decode cX0_readBlock 0 = .ok (.aload_n 1, 1) := by decide +kernel
theorem dX0_readBlock_1 : decode cX0_readBlock 1 = .ok (.getfield 25, 3) := by decide +kernel
theorem dX0_readBlock_4 : decode cX0_readBlock 4 = .ok (.iload_n 2, 1) := by decide +kernel
theorem dX0_readBlock_5 : decode cX0_readBlock 5 = .ok (.iaload, 1) := by decide +kernel
theorem dX0_readBlock_6 : decode cX0_readBlock 6 = .ok (.istore_n 3, 1) := by decide +kernel
theorem dX0_readBlock_7 : decode cX0_readBlock 7 = .ok (.aload_n 0, 1) := by decide +kernel
theorem dX0_readBlock_8 : decode cX0_readBlock 8 = .ok (.getfield 12, 3) := by decide +kernel
theorem dX0_readBlock_11 : decode cX0_readBlock 11 = .ok (.aload_n 1, 1) := by decide +kernel
theorem dX0_readBlock_12 : decode cX0_readBlock 12 = .ok (.iload_n 3, 1) := by decide +kernel
theorem dX0_readBlock_13 : decode cX0_readBlock 13 = .ok (.aload_n 1, 1) := by decide +kernel
theorem dX0_readBlock_14 : decode cX0_readBlock 14 = .ok (.getfield 31, 3) := by decide +kernel
theorem dX0_readBlock_17 : decode cX0_readBlock 17 = .ok (.iload_n 2, 1) := by decide +kernel
theorem dX0_readBlock_18 : decode cX0_readBlock 18 = .ok (.iaload, 1) := by decide +kernel
theorem dX0_readBlock_19 : decode cX0_readBlock 19 = .ok (.invokevirtual 34, 3) := by decide +kernel
theorem dX0_readBlock_22 : decode cX0_readBlock 22 = .ok (.aload_n 0, 1) := by decide +kernel
theorem dX0_readBlock_23 : decode cX0_readBlock 23 = .ok (.getfield 18, 3) := by decide +kernel
theorem dX0_readBlock_26 : decode cX0_readBlock 26 = .ok (.aload_n 1, 1) := by decide +kernel
theorem dX0_readBlock_27 : decode cX0_readBlock 27 = .ok (.iload_n 3, 1) := by decide +kernel
theorem dX0_readBlock_28 : decode cX0_readBlock 28 = .ok (.aload_n 1, 1) := by decide +kernel
theorem dX0_readBlock_29 : decode cX0_readBlock 29 = .ok (.iload_n 2, 1) := by decide +kernel
theorem dX0_readBlock_30 : decode cX0_readBlock 30 = .ok (.invokevirtual 38, 3) := by decide +kernel
theorem dX0_readBlock_33 : decode cX0_readBlock 33 = .ok (.iadd, 1) := by decide +kernel
theorem dX0_readBlock_34 : decode cX0_readBlock 34 = .ok (.aload_n 1, 1) := by decide +kernel
theorem dX0_readBlock_35 : decode cX0_readBlock 35 = .ok (.getfield 31, 3) := by decide +kernel
theorem dX0_readBlock_38 : decode cX0_readBlock 38 = .ok (.iload_n 2, 1) := by decide +kernel
theorem dX0_readBlock_39 : decode cX0_readBlock 39 = .ok (.iaload, 1) := by decide +kernel
theorem dX0_readBlock_40 : decode cX0_readBlock 40 = .ok (.invokevirtual 34, 3) := by decide +kernel
theorem dX0_readBlock_43 : decode cX0_readBlock 43 = .ok (.return_, 1) := by decide +kernel
set_option maxRecDepth 20000 in
theorem ggX0_wayBy_X4_stateBy : GoodIn wsX0_wayBy wsX4_stateBy := goodIn_r _ [6, 7, 8, 9, 10, 11, 4, 12, 13, 14, 15, 16, 17, 18, 19, 20, 21, 22, 35, 36, 37, 38] (by decide +kernel) (by decide +kernel)
set_option maxRecDepth 20000 in
theorem gX0_wayBy_X4_stateBy_n42 : GoodIn wsX0_wayBy (wsX4_stateBy) := ggX0_wayBy_X4_stateBy
set_option maxRecDepth 20000 in
theorem ggX0_wayBy_X0_isWholeTogether : GoodIn wsX0_wayBy wsX0_isWholeTogether := goodIn_r _ [27, 1, 2, 10, 4, 11, 12, 13, 28, 29, 30, 26, 31, 15, 16, 17, 18, 20, 21, 22, 7, 8, 14, 32, 33, 34, 35, 36, 37, 38] (by decide +kernel) (by decide +kernel)
set_option maxRecDepth 20000 in
theorem gX0_wayBy_X0_isWholeTogether : GoodIn wsX0_wayBy (wsV RX0 45 RX0 yX0_isWholeTogether wsX0_isWholeTogether) := goodIn_app (goodIn_of _ (by decide +kernel)) ggX0_wayBy_X0_isWholeTogether
theorem dX0_wayBy_0 : decode cX0_wayBy 0 = .ok (.aload_n 0, 1) := by decide +kernel
theorem dX0_wayBy_1 : decode cX0_wayBy 1 = .ok (.getfield 12, 3) := by decide +kernel
theorem dX0_wayBy_4 : decode cX0_wayBy 4 = .ok (.iload_n 1, 1) := by decide +kernel
theorem dX0_wayBy_5 : decode cX0_wayBy 5 = .ok (.invokevirtual 42, 3) := by decide +kernel
theorem dX0_wayBy_8 : decode cX0_wayBy 8 = .ok (.ifCond .ne 5, 3) := by decide +kernel
theorem dX0_wayBy_11 : decode cX0_wayBy 11 = .ok (.iconst 0, 1) := by decide +kernel
theorem dX0_wayBy_12 : decode cX0_wayBy 12 = .ok (.ireturn, 1) := by decide +kernel
theorem dX0_wayBy_13 : decode cX0_wayBy 13 = .ok (.aload_n 0, 1) := by decide +kernel
theorem dX0_wayBy_14 : decode cX0_wayBy 14 = .ok (.getfield 18, 3) := by decide +kernel
theorem dX0_wayBy_17 : decode cX0_wayBy 17 = .ok (.iload_n 1, 1) := by decide +kernel
theorem dX0_wayBy_18 : decode cX0_wayBy 18 = .ok (.invokevirtual 42, 3) := by decide +kernel
theorem dX0_wayBy_21 : decode cX0_wayBy 21 = .ok (.ifCond .ne 5, 3) := by decide +kernel
theorem dX0_wayBy_24 : decode cX0_wayBy 24 = .ok (.iconst 1, 1) := by decide +kernel
theorem dX0_wayBy_25 : decode cX0_wayBy 25 = .ok (.ireturn, 1) := by decide +kernel
theorem dX0_wayBy_26 : decode cX0_wayBy 26 = .ok (.aload_n 0, 1) := by decide +kernel
theorem dX0_wayBy_27 : decode cX0_wayBy 27 = .ok (.iload_n 1, 1) := by decide +kernel
theorem dX0_wayBy_28 : decode cX0_wayBy 28 = .ok (.invokevirtual 45, 3) := by decide +kernel
theorem dX0_wayBy_31 : decode cX0_wayBy 31 = .ok (.ifCond .eq 7, 3) := by decide +kernel
theorem dX0_wayBy_34 : decode cX0_wayBy 34 = .ok (.iconst 2, 1) := by decide +kernel
theorem dX0_wayBy_35 : decode cX0_wayBy 35 = .ok (.goto 5, 3) := by decide +kernel
theorem dX0_wayBy_38 : decode cX0_wayBy 38 = .ok (.bipush (-6), 2) := by decide +kernel
theorem dX0_wayBy_40 : decode cX0_wayBy 40 = .ok (.ireturn, 1) := by decide +kernel
set_option maxRecDepth 20000 in
theorem ggX0_isWholeTogether_X4_isLost : GoodIn wsX0_isWholeTogether wsX4_isLost := goodIn_r _ [6, 7, 26, 27, 28, 29] (by decide +kernel) (by decide +kernel)
set_option maxRecDepth 20000 in
theorem gX0_isWholeTogether_X4_isLost_n49 : GoodIn wsX0_isWholeTogether (wsX4_isLost) := ggX0_isWholeTogether_X4_isLost
set_option maxRecDepth 20000 in
theorem ggX0_isWholeTogether_X0_byteTogether : GoodIn wsX0_isWholeTogether wsX0_byteTogether := goodIn_r _ [12, 1, 2, 13, 4, 14, 15, 16, 23, 24, 25, 26, 27, 28, 29] (by decide +kernel) (by decide +kernel)
set_option maxRecDepth 20000 in
theorem gX0_isWholeTogether_X0_byteTogether : GoodIn wsX0_isWholeTogether (wsV RX0 56 RX0 yX0_byteTogether wsX0_byteTogether) := goodIn_app (goodIn_of _ (by decide +kernel)) ggX0_isWholeTogether_X0_byteTogether
set_option maxRecDepth 20000 in
theorem ggX0_isWholeTogether_X4_tellsSum : GoodIn wsX0_isWholeTogether wsX4_tellsSum := goodIn_r _ [19, 20, 21, 22, 13, 14, 4, 15, 16, 26, 27, 28, 29] (by decide +kernel) (by decide +kernel)
set_option maxRecDepth 20000 in
theorem gX0_isWholeTogether_X4_tellsSum_n60 : GoodIn wsX0_isWholeTogether (wsX4_tellsSum) := ggX0_isWholeTogether_X4_tellsSum
theorem dX0_isWholeTogether_0 : decode cX0_isWholeTogether 0 = .ok (.aload_n 0, 1) := by decide +kernel
theorem dX0_isWholeTogether_1 : decode cX0_isWholeTogether 1 = .ok (.getfield 12, 3) := by decide +kernel
theorem dX0_isWholeTogether_4 : decode cX0_isWholeTogether 4 = .ok (.iload_n 1, 1) := by decide +kernel
theorem dX0_isWholeTogether_5 : decode cX0_isWholeTogether 5 = .ok (.invokevirtual 49, 3) := by decide +kernel
theorem dX0_isWholeTogether_8 : decode cX0_isWholeTogether 8 = .ok (.ifCond .ne 14, 3) := by decide +kernel
theorem dX0_isWholeTogether_11 : decode cX0_isWholeTogether 11 = .ok (.aload_n 0, 1) := by decide +kernel
theorem dX0_isWholeTogether_12 : decode cX0_isWholeTogether 12 = .ok (.getfield 18, 3) := by decide +kernel
theorem dX0_isWholeTogether_15 : decode cX0_isWholeTogether 15 = .ok (.iload_n 1, 1) := by decide +kernel
theorem dX0_isWholeTogether_16 : decode cX0_isWholeTogether 16 = .ok (.invokevirtual 49, 3) := by decide +kernel
theorem dX0_isWholeTogether_19 : decode cX0_isWholeTogether 19 = .ok (.ifCond .eq 5, 3) := by decide +kernel
theorem dX0_isWholeTogether_22 : decode cX0_isWholeTogether 22 = .ok (.iconst 0, 1) := by decide +kernel
theorem dX0_isWholeTogether_23 : decode cX0_isWholeTogether 23 = .ok (.ireturn, 1) := by decide +kernel
theorem dX0_isWholeTogether_24 : decode cX0_isWholeTogether 24 = .ok (.iconst 0, 1) := by decide +kernel
theorem dX0_isWholeTogether_25 : decode cX0_isWholeTogether 25 = .ok (.istore_n 2, 1) := by decide +kernel
theorem dX0_isWholeTogether_26 : decode cX0_isWholeTogether 26 = .ok (.iconst 0, 1) := by decide +kernel
theorem dX0_isWholeTogether_27 : decode cX0_isWholeTogether 27 = .ok (.istore_n 3, 1) := by decide +kernel
theorem dX0_isWholeTogether_28 : decode cX0_isWholeTogether 28 = .ok (.iload_n 3, 1) := by decide +kernel
theorem dX0_isWholeTogether_29 : decode cX0_isWholeTogether 29 = .ok (.aload_n 0, 1) := by decide +kernel
theorem dX0_isWholeTogether_30 : decode cX0_isWholeTogether 30 = .ok (.getfield 12, 3) := by decide +kernel
theorem dX0_isWholeTogether_33 : decode cX0_isWholeTogether 33 = .ok (.getfield 52, 3) := by decide +kernel
theorem dX0_isWholeTogether_36 : decode cX0_isWholeTogether 36 = .ok (.if_icmp .ge 31, 3) := by decide +kernel
theorem dX0_isWholeTogether_39 : decode cX0_isWholeTogether 39 = .ok (.aload_n 0, 1) := by decide +kernel
theorem dX0_isWholeTogether_40 : decode cX0_isWholeTogether 40 = .ok (.iload_n 3, 1) := by decide +kernel
theorem dX0_isWholeTogether_41 : decode cX0_isWholeTogether 41 = .ok (.iload_n 1, 1) := by decide +kernel
theorem dX0_isWholeTogether_42 : decode cX0_isWholeTogether 42 = .ok (.invokevirtual 56, 3) := by decide +kernel
theorem dX0_isWholeTogether_45 : decode cX0_isWholeTogether 45 = .ok (.istore 4, 2) := by decide +kernel
theorem dX0_isWholeTogether_47 : decode cX0_isWholeTogether 47 = .ok (.iload 4, 2) := by decide +kernel
theorem dX0_isWholeTogether_49 : decode cX0_isWholeTogether 49 = .ok (.bipush (-6), 2) := by decide +kernel
theorem dX0_isWholeTogether_51 : decode cX0_isWholeTogether 51 = .ok (.if_icmp .ne 5, 3) := by decide +kernel
theorem dX0_isWholeTogether_54 : decode cX0_isWholeTogether 54 = .ok (.iconst 0, 1) := by decide +kernel
theorem dX0_isWholeTogether_55 : decode cX0_isWholeTogether 55 = .ok (.ireturn, 1) := by decide +kernel
theorem dX0_isWholeTogether_56 : decode cX0_isWholeTogether 56 = .ok (.iload_n 2, 1) := by decide +kernel
theorem dX0_isWholeTogether_57 : decode cX0_isWholeTogether 57 = .ok (.iload 4, 2) := by decide +kernel
theorem dX0_isWholeTogether_59 : decode cX0_isWholeTogether 59 = .ok (.iadd, 1) := by decide +kernel
theorem dX0_isWholeTogether_60 : decode cX0_isWholeTogether 60 = .ok (.istore_n 2, 1) := by decide +kernel
theorem dX0_isWholeTogether_61 : decode cX0_isWholeTogether 61 = .ok (.iinc 3 1, 3) := by decide +kernel
theorem dX0_isWholeTogether_64 : decode cX0_isWholeTogether 64 = .ok (.goto (-36), 3) := by decide +kernel
theorem dX0_isWholeTogether_67 : decode cX0_isWholeTogether 67 = .ok (.aload_n 0, 1) := by decide +kernel
theorem dX0_isWholeTogether_68 : decode cX0_isWholeTogether 68 = .ok (.getfield 12, 3) := by decide +kernel
theorem dX0_isWholeTogether_71 : decode cX0_isWholeTogether 71 = .ok (.iload_n 2, 1) := by decide +kernel
theorem dX0_isWholeTogether_72 : decode cX0_isWholeTogether 72 = .ok (.iload_n 1, 1) := by decide +kernel
theorem dX0_isWholeTogether_73 : decode cX0_isWholeTogether 73 = .ok (.invokevirtual 60, 3) := by decide +kernel
theorem dX0_isWholeTogether_76 : decode cX0_isWholeTogether 76 = .ok (.ifCond .ne 15, 3) := by decide +kernel
theorem dX0_isWholeTogether_79 : decode cX0_isWholeTogether 79 = .ok (.aload_n 0, 1) := by decide +kernel
theorem dX0_isWholeTogether_80 : decode cX0_isWholeTogether 80 = .ok (.getfield 18, 3) := by decide +kernel
theorem dX0_isWholeTogether_83 : decode cX0_isWholeTogether 83 = .ok (.iload_n 2, 1) := by decide +kernel
theorem dX0_isWholeTogether_84 : decode cX0_isWholeTogether 84 = .ok (.iload_n 1, 1) := by decide +kernel
theorem dX0_isWholeTogether_85 : decode cX0_isWholeTogether 85 = .ok (.invokevirtual 60, 3) := by decide +kernel
theorem dX0_isWholeTogether_88 : decode cX0_isWholeTogether 88 = .ok (.ifCond .eq 7, 3) := by decide +kernel
theorem dX0_isWholeTogether_91 : decode cX0_isWholeTogether 91 = .ok (.iconst 1, 1) := by decide +kernel
theorem dX0_isWholeTogether_92 : decode cX0_isWholeTogether 92 = .ok (.goto 4, 3) := by decide +kernel
theorem dX0_isWholeTogether_95 : decode cX0_isWholeTogether 95 = .ok (.iconst 0, 1) := by decide +kernel
theorem dX0_isWholeTogether_96 : decode cX0_isWholeTogether 96 = .ok (.ireturn, 1) := by decide +kernel
set_option maxRecDepth 20000 in
theorem ggX0_byteTogether_X4_isByteWhole : GoodIn wsX0_byteTogether wsX4_isByteWhole := goodIn_r _ [6, 7, 11, 12, 13, 14] (by decide +kernel) (by decide +kernel)
set_option maxRecDepth 20000 in
theorem gX0_byteTogether_X4_isByteWhole_n64 : GoodIn wsX0_byteTogether (wsX4_isByteWhole) := ggX0_byteTogether_X4_isByteWhole
theorem dX0_byteTogether_0 : decode cX0_byteTogether 0 = .ok (.aload_n 0, 1) := by decide +kernel
theorem dX0_byteTogether_1 : decode cX0_byteTogether 1 = .ok (.getfield 12, 3) := by decide +kernel
theorem dX0_byteTogether_4 : decode cX0_byteTogether 4 = .ok (.iload_n 1, 1) := by decide +kernel
theorem dX0_byteTogether_5 : decode cX0_byteTogether 5 = .ok (.iload_n 2, 1) := by decide +kernel
theorem dX0_byteTogether_6 : decode cX0_byteTogether 6 = .ok (.invokevirtual 64, 3) := by decide +kernel
theorem dX0_byteTogether_9 : decode cX0_byteTogether 9 = .ok (.ifCond .eq 13, 3) := by decide +kernel
theorem dX0_byteTogether_12 : decode cX0_byteTogether 12 = .ok (.aload_n 0, 1) := by decide +kernel
theorem dX0_byteTogether_13 : decode cX0_byteTogether 13 = .ok (.getfield 12, 3) := by decide +kernel
theorem dX0_byteTogether_16 : decode cX0_byteTogether 16 = .ok (.getfield 67, 3) := by decide +kernel
theorem dX0_byteTogether_19 : decode cX0_byteTogether 19 = .ok (.iload_n 1, 1) := by decide +kernel
theorem dX0_byteTogether_20 : decode cX0_byteTogether 20 = .ok (.iaload, 1) := by decide +kernel
theorem dX0_byteTogether_21 : decode cX0_byteTogether 21 = .ok (.ireturn, 1) := by decide +kernel
theorem dX0_byteTogether_22 : decode cX0_byteTogether 22 = .ok (.aload_n 0, 1) := by decide +kernel
theorem dX0_byteTogether_23 : decode cX0_byteTogether 23 = .ok (.getfield 18, 3) := by decide +kernel
theorem dX0_byteTogether_26 : decode cX0_byteTogether 26 = .ok (.iload_n 1, 1) := by decide +kernel
theorem dX0_byteTogether_27 : decode cX0_byteTogether 27 = .ok (.iload_n 2, 1) := by decide +kernel
theorem dX0_byteTogether_28 : decode cX0_byteTogether 28 = .ok (.invokevirtual 64, 3) := by decide +kernel
theorem dX0_byteTogether_31 : decode cX0_byteTogether 31 = .ok (.ifCond .eq 15, 3) := by decide +kernel
theorem dX0_byteTogether_34 : decode cX0_byteTogether 34 = .ok (.aload_n 0, 1) := by decide +kernel
theorem dX0_byteTogether_35 : decode cX0_byteTogether 35 = .ok (.getfield 18, 3) := by decide +kernel
theorem dX0_byteTogether_38 : decode cX0_byteTogether 38 = .ok (.getfield 67, 3) := by decide +kernel
theorem dX0_byteTogether_41 : decode cX0_byteTogether 41 = .ok (.iload_n 1, 1) := by decide +kernel
theorem dX0_byteTogether_42 : decode cX0_byteTogether 42 = .ok (.iaload, 1) := by decide +kernel
theorem dX0_byteTogether_43 : decode cX0_byteTogether 43 = .ok (.goto 5, 3) := by decide +kernel
theorem dX0_byteTogether_46 : decode cX0_byteTogether 46 = .ok (.bipush (-6), 2) := by decide +kernel
theorem dX0_byteTogether_48 : decode cX0_byteTogether 48 = .ok (.ireturn, 1) := by decide +kernel
set_option maxRecDepth 20000 in
theorem ggX0_bytesBy_X0_byteBy : GoodIn wsX0_bytesBy wsX0_byteBy := goodIn_r _ [6, 7, 1, 8, 9, 10, 5, 11, 12, 13, 14, 15, 16, 17, 18, 19, 20, 21, 22, 23] (by decide +kernel) (by decide +kernel)
set_option maxRecDepth 20000 in
theorem gX0_bytesBy_X0_byteBy : GoodIn wsX0_bytesBy (wsV RX0 70 RX0 yX0_byteBy wsX0_byteBy) := goodIn_app (goodIn_of _ (by decide +kernel)) ggX0_bytesBy_X0_byteBy
theorem dX0_bytesBy_0 : decode cX0_bytesBy 0 = .ok (.lconst 0, 1) := by decide +kernel
theorem dX0_bytesBy_1 : decode cX0_bytesBy 1 = .ok (.lstore_n 3, 1) := by decide +kernel
theorem dX0_bytesBy_2 : decode cX0_bytesBy 2 = .ok (.aload_n 0, 1) := by decide +kernel
theorem dX0_bytesBy_3 : decode cX0_bytesBy 3 = .ok (.getfield 12, 3) := by decide +kernel
theorem dX0_bytesBy_6 : decode cX0_bytesBy 6 = .ok (.getfield 52, 3) := by decide +kernel
theorem dX0_bytesBy_9 : decode cX0_bytesBy 9 = .ok (.iconst 1, 1) := by decide +kernel
theorem dX0_bytesBy_10 : decode cX0_bytesBy 10 = .ok (.isub, 1) := by decide +kernel
theorem dX0_bytesBy_11 : decode cX0_bytesBy 11 = .ok (.istore 5, 2) := by decide +kernel
theorem dX0_bytesBy_13 : decode cX0_bytesBy 13 = .ok (.iload 5, 2) := by decide +kernel
theorem dX0_bytesBy_15 : decode cX0_bytesBy 15 = .ok (.ifCond .lt 24, 3) := by decide +kernel
theorem dX0_bytesBy_18 : decode cX0_bytesBy 18 = .ok (.lload_n 3, 1) := by decide +kernel
theorem dX0_bytesBy_19 : decode cX0_bytesBy 19 = .ok (.bipush 8, 2) := by decide +kernel
theorem dX0_bytesBy_21 : decode cX0_bytesBy 21 = .ok (.lshl, 1) := by decide +kernel
theorem dX0_bytesBy_22 : decode cX0_bytesBy 22 = .ok (.aload_n 0, 1) := by decide +kernel
theorem dX0_bytesBy_23 : decode cX0_bytesBy 23 = .ok (.iload_n 1, 1) := by decide +kernel
theorem dX0_bytesBy_24 : decode cX0_bytesBy 24 = .ok (.iload 5, 2) := by decide +kernel
theorem dX0_bytesBy_26 : decode cX0_bytesBy 26 = .ok (.iload_n 2, 1) := by decide +kernel
theorem dX0_bytesBy_27 : decode cX0_bytesBy 27 = .ok (.invokevirtual 70, 3) := by decide +kernel
theorem dX0_bytesBy_30 : decode cX0_bytesBy 30 = .ok (.i2l, 1) := by decide +kernel
theorem dX0_bytesBy_31 : decode cX0_bytesBy 31 = .ok (.lor, 1) := by decide +kernel
theorem dX0_bytesBy_32 : decode cX0_bytesBy 32 = .ok (.lstore_n 3, 1) := by decide +kernel
theorem dX0_bytesBy_33 : decode cX0_bytesBy 33 = .ok (.iinc 5 (-1), 3) := by decide +kernel
theorem dX0_bytesBy_36 : decode cX0_bytesBy 36 = .ok (.goto (-23), 3) := by decide +kernel
theorem dX0_bytesBy_39 : decode cX0_bytesBy 39 = .ok (.lload_n 3, 1) := by decide +kernel
theorem dX0_bytesBy_40 : decode cX0_bytesBy 40 = .ok (.lreturn, 1) := by decide +kernel
set_option maxRecDepth 20000 in
theorem ggX0_byteBy_X0_byteTogether : GoodIn wsX0_byteBy wsX0_byteTogether := goodIn_r _ [7, 2, 1, 8, 9, 10, 11, 12, 13, 14, 15, 16, 17, 18, 19] (by decide +kernel) (by decide +kernel)
set_option maxRecDepth 20000 in
theorem gX0_byteBy_X0_byteTogether : GoodIn wsX0_byteBy (wsV RX0 56 RX0 yX0_byteTogether wsX0_byteTogether) := goodIn_app (goodIn_of _ (by decide +kernel)) ggX0_byteBy_X0_byteTogether
theorem dX0_byteBy_0 : decode cX0_byteBy 0 = .ok (.iload_n 1, 1) := by decide +kernel
theorem dX0_byteBy_1 : decode cX0_byteBy 1 = .ok (.iconst 1, 1) := by decide +kernel
theorem dX0_byteBy_2 : decode cX0_byteBy 2 = .ok (.if_icmp .ne 13, 3) := by decide +kernel
theorem dX0_byteBy_5 : decode cX0_byteBy 5 = .ok (.aload_n 0, 1) := by decide +kernel
theorem dX0_byteBy_6 : decode cX0_byteBy 6 = .ok (.getfield 18, 3) := by decide +kernel
theorem dX0_byteBy_9 : decode cX0_byteBy 9 = .ok (.getfield 67, 3) := by decide +kernel
theorem dX0_byteBy_12 : decode cX0_byteBy 12 = .ok (.iload_n 2, 1) := by decide +kernel
theorem dX0_byteBy_13 : decode cX0_byteBy 13 = .ok (.iaload, 1) := by decide +kernel
theorem dX0_byteBy_14 : decode cX0_byteBy 14 = .ok (.ireturn, 1) := by decide +kernel
theorem dX0_byteBy_15 : decode cX0_byteBy 15 = .ok (.iload_n 1, 1) := by decide +kernel
theorem dX0_byteBy_16 : decode cX0_byteBy 16 = .ok (.ifCond .ne 15, 3) := by decide +kernel
theorem dX0_byteBy_19 : decode cX0_byteBy 19 = .ok (.aload_n 0, 1) := by decide +kernel
theorem dX0_byteBy_20 : decode cX0_byteBy 20 = .ok (.getfield 12, 3) := by decide +kernel
theorem dX0_byteBy_23 : decode cX0_byteBy 23 = .ok (.getfield 67, 3) := by decide +kernel
theorem dX0_byteBy_26 : decode cX0_byteBy 26 = .ok (.iload_n 2, 1) := by decide +kernel
theorem dX0_byteBy_27 : decode cX0_byteBy 27 = .ok (.iaload, 1) := by decide +kernel
theorem dX0_byteBy_28 : decode cX0_byteBy 28 = .ok (.goto 9, 3) := by decide +kernel
theorem dX0_byteBy_31 : decode cX0_byteBy 31 = .ok (.aload_n 0, 1) := by decide +kernel
theorem dX0_byteBy_32 : decode cX0_byteBy 32 = .ok (.iload_n 2, 1) := by decide +kernel
theorem dX0_byteBy_33 : decode cX0_byteBy 33 = .ok (.iload_n 3, 1) := by decide +kernel
theorem dX0_byteBy_34 : decode cX0_byteBy 34 = .ok (.invokevirtual 56, 3) := by decide +kernel
theorem dX0_byteBy_37 : decode cX0_byteBy 37 = .ok (.ireturn, 1) := by decide +kernel
set_option maxRecDepth 20000 in
theorem ggX1_init_X3_init : GoodIn wsX1_init wsX3_init := goodIn_r _ [9, 10, 2, 3, 11, 12, 13, 14, 15, 16, 17, 18, 19, 23, 24, 25, 26, 27, 28, 29, 30, 31] (by decide +kernel) (by decide +kernel)
set_option maxRecDepth 20000 in
theorem gX1_init_X3_init_n17 : GoodIn wsX1_init (wsX3_init) := ggX1_init_X3_init
theorem dX1_init_0 : decode cX1_init 0 = .ok (.aload_n 0, 1) := by decide +kernel
theorem dX1_init_1 : decode cX1_init 1 = .ok (.invokespecial 3, 3) := by decide +kernel
theorem dX1_init_4 : decode cX1_init 4 = .ok (.aload_n 0, 1) := by decide +kernel
theorem dX1_init_5 : decode cX1_init 5 = .ok (.bipush 6, 2) := by decide +kernel
theorem dX1_init_7 : decode cX1_init 7 = .ok (.anewarray 9, 3) := by decide +kernel
theorem dX1_init_10 : decode cX1_init 10 = .ok (.putfield 11, 3) := by decide +kernel
theorem dX1_init_13 : decode cX1_init 13 = .ok (.iconst 0, 1) := by decide +kernel
theorem dX1_init_14 : decode cX1_init 14 = .ok (.istore_n 1, 1) := by decide +kernel
theorem dX1_init_15 : decode cX1_init 15 = .ok (.iload_n 1, 1) := by decide +kernel
theorem dX1_init_16 : decode cX1_init 16 = .ok (.bipush 6, 2) := by decide +kernel
theorem dX1_init_18 : decode cX1_init 18 = .ok (.if_icmp .ge 22, 3) := by decide +kernel
theorem dX1_init_21 : decode cX1_init 21 = .ok (.aload_n 0, 1) := by decide +kernel
theorem dX1_init_22 : decode cX1_init 22 = .ok (.getfield 11, 3) := by decide +kernel
theorem dX1_init_25 : decode cX1_init 25 = .ok (.iload_n 1, 1) := by decide +kernel
theorem dX1_init_26 : decode cX1_init 26 = .ok (.new 9, 3) := by decide +kernel
theorem dX1_init_29 : decode cX1_init 29 = .ok (.dup, 1) := by decide +kernel
theorem dX1_init_30 : decode cX1_init 30 = .ok (.invokespecial 17, 3) := by decide +kernel
theorem dX1_init_33 : decode cX1_init 33 = .ok (.aastore, 1) := by decide +kernel
theorem dX1_init_34 : decode cX1_init 34 = .ok (.iinc 1 1, 3) := by decide +kernel
theorem dX1_init_37 : decode cX1_init 37 = .ok (.goto (-22), 3) := by decide +kernel
theorem dX1_init_40 : decode cX1_init 40 = .ok (.return_, 1) := by decide +kernel
set_option maxRecDepth 20000 in
theorem ggX1_record_X3_copyFrom : GoodIn wsX1_record wsX3_copyFrom := goodIn_r _ [7, 8, 9, 10, 11, 12, 13, 14, 15, 16, 17, 18, 19, 20, 21, 22, 23, 5, 24, 28, 29, 30, 31, 32, 33, 34, 35, 36] (by decide +kernel) (by decide +kernel)
set_option maxRecDepth 20000 in
theorem gX1_record_X3_copyFrom_n25 : GoodIn wsX1_record (wsX3_copyFrom) := ggX1_record_X3_copyFrom
theorem dX1_record_0 : decode cX1_record 0 = .ok (.aload_n 0, 1) := by decide +kernel
theorem dX1_record_1 : decode cX1_record 1 = .ok (.getfield 11, 3) := by decide +kernel
theorem dX1_record_4 : decode cX1_record 4 = .ok (.aload_n 0, 1) := by decide +kernel
theorem dX1_record_5 : decode cX1_record 5 = .ok (.getfield 18, 3) := by decide +kernel
theorem dX1_record_8 : decode cX1_record 8 = .ok (.aload_n 0, 1) := by decide +kernel
theorem dX1_record_9 : decode cX1_record 9 = .ok (.getfield 22, 3) := by decide +kernel
theorem dX1_record_12 : decode cX1_record 12 = .ok (.iadd, 1) := by decide +kernel
theorem dX1_record_13 : decode cX1_record 13 = .ok (.bipush 6, 2) := by decide +kernel
theorem dX1_record_15 : decode cX1_record 15 = .ok (.irem, 1) := by decide +kernel
theorem dX1_record_16 : decode cX1_record 16 = .ok (.aaload, 1) := by decide +kernel
theorem dX1_record_17 : decode cX1_record 17 = .ok (.aload_n 1, 1) := by decide +kernel
theorem dX1_record_18 : decode cX1_record 18 = .ok (.invokevirtual 25, 3) := by decide +kernel
theorem dX1_record_21 : decode cX1_record 21 = .ok (.aload_n 0, 1) := by decide +kernel
theorem dX1_record_22 : decode cX1_record 22 = .ok (.getfield 22, 3) := by decide +kernel
theorem dX1_record_25 : decode cX1_record 25 = .ok (.bipush 6, 2) := by decide +kernel
theorem dX1_record_27 : decode cX1_record 27 = .ok (.if_icmp .ge 16, 3) := by decide +kernel
theorem dX1_record_30 : decode cX1_record 30 = .ok (.aload_n 0, 1) := by decide +kernel
theorem dX1_record_31 : decode cX1_record 31 = .ok (.dup, 1) := by decide +kernel
theorem dX1_record_32 : decode cX1_record 32 = .ok (.getfield 22, 3) := by decide +kernel
theorem dX1_record_35 : decode cX1_record 35 = .ok (.iconst 1, 1) := by decide +kernel
theorem dX1_record_36 : decode cX1_record 36 = .ok (.iadd, 1) := by decide +kernel
theorem dX1_record_37 : decode cX1_record 37 = .ok (.putfield 22, 3) := by decide +kernel
theorem dX1_record_40 : decode cX1_record 40 = .ok (.goto 16, 3) := by decide +kernel
theorem dX1_record_43 : decode cX1_record 43 = .ok (.aload_n 0, 1) := by decide +kernel
theorem dX1_record_44 : decode cX1_record 44 = .ok (.aload_n 0, 1) := by decide +kernel
theorem dX1_record_45 : decode cX1_record 45 = .ok (.getfield 18, 3) := by decide +kernel
theorem dX1_record_48 : decode cX1_record 48 = .ok (.iconst 1, 1) := by decide +kernel
theorem dX1_record_49 : decode cX1_record 49 = .ok (.iadd, 1) := by decide +kernel
theorem dX1_record_50 : decode cX1_record 50 = .ok (.bipush 6, 2) := by decide +kernel
theorem dX1_record_52 : decode cX1_record 52 = .ok (.irem, 1) := by decide +kernel
theorem dX1_record_53 : decode cX1_record 53 = .ok (.putfield 18, 3) := by decide +kernel
theorem dX1_record_56 : decode cX1_record 56 = .ok (.return_, 1) := by decide +kernel
set_option maxRecDepth 20000 in
theorem ggX1_takeBack_X3_copyFrom : GoodIn wsX1_takeBack wsX3_copyFrom := goodIn_r _ [7, 8, 9, 10, 11, 12, 13, 14, 15, 16, 17, 18, 19, 20, 21, 22, 23, 5, 24, 28, 29, 30, 31, 32, 33, 34, 35, 36] (by decide +kernel) (by decide +kernel)
set_option maxRecDepth 20000 in
theorem gX1_takeBack_X3_copyFrom_n25 : GoodIn wsX1_takeBack (wsX3_copyFrom) := ggX1_takeBack_X3_copyFrom
theorem dX1_takeBack_0 : decode cX1_takeBack 0 = .ok (.aload_n 0, 1) := by decide +kernel
theorem dX1_takeBack_1 : decode cX1_takeBack 1 = .ok (.getfield 22, 3) := by decide +kernel
theorem dX1_takeBack_4 : decode cX1_takeBack 4 = .ok (.ifCond .gt 4, 3) := by decide +kernel
theorem dX1_takeBack_7 : decode cX1_takeBack 7 = .ok (.return_, 1) := by decide +kernel
theorem dX1_takeBack_8 : decode cX1_takeBack 8 = .ok (.aload_n 0, 1) := by decide +kernel
theorem dX1_takeBack_9 : decode cX1_takeBack 9 = .ok (.dup, 1) := by decide +kernel
theorem dX1_takeBack_10 : decode cX1_takeBack 10 = .ok (.getfield 22, 3) := by decide +kernel
theorem dX1_takeBack_13 : decode cX1_takeBack 13 = .ok (.iconst 1, 1) := by decide +kernel
theorem dX1_takeBack_14 : decode cX1_takeBack 14 = .ok (.isub, 1) := by decide +kernel
theorem dX1_takeBack_15 : decode cX1_takeBack 15 = .ok (.putfield 22, 3) := by decide +kernel
theorem dX1_takeBack_18 : decode cX1_takeBack 18 = .ok (.aload_n 1, 1) := by decide +kernel
theorem dX1_takeBack_19 : decode cX1_takeBack 19 = .ok (.aload_n 0, 1) := by decide +kernel
theorem dX1_takeBack_20 : decode cX1_takeBack 20 = .ok (.getfield 11, 3) := by decide +kernel
theorem dX1_takeBack_23 : decode cX1_takeBack 23 = .ok (.aload_n 0, 1) := by decide +kernel
theorem dX1_takeBack_24 : decode cX1_takeBack 24 = .ok (.getfield 18, 3) := by decide +kernel
theorem dX1_takeBack_27 : decode cX1_takeBack 27 = .ok (.aload_n 0, 1) := by decide +kernel
theorem dX1_takeBack_28 : decode cX1_takeBack 28 = .ok (.getfield 22, 3) := by decide +kernel
theorem dX1_takeBack_31 : decode cX1_takeBack 31 = .ok (.iadd, 1) := by decide +kernel
theorem dX1_takeBack_32 : decode cX1_takeBack 32 = .ok (.bipush 6, 2) := by decide +kernel
theorem dX1_takeBack_34 : decode cX1_takeBack 34 = .ok (.irem, 1) := by decide +kernel
theorem dX1_takeBack_35 : decode cX1_takeBack 35 = .ok (.aaload, 1) := by decide +kernel
theorem dX1_takeBack_36 : decode cX1_takeBack 36 = .ok (.invokevirtual 25, 3) := by decide +kernel
theorem dX1_takeBack_39 : decode cX1_takeBack 39 = .ok (.return_, 1) := by decide +kernel
theorem dX2_init_0 : decode cX2_init 0 = .ok (.aload_n 0, 1) := by decide +kernel
theorem dX2_init_1 : decode cX2_init 1 = .ok (.invokespecial 3, 3) := by decide +kernel
theorem dX2_init_4 : decode cX2_init 4 = .ok (.aload_n 0, 1) := by decide +kernel
theorem dX2_init_5 : decode cX2_init 5 = .ok (.bipush 80, 2) := by decide +kernel
theorem dX2_init_7 : decode cX2_init 7 = .ok (.newarray .char, 2) := by decide +kernel
theorem dX2_init_9 : decode cX2_init 9 = .ok (.putfield 9, 3) := by decide +kernel
theorem dX2_init_12 : decode cX2_init 12 = .ok (.return_, 1) := by decide +kernel
theorem dX2_charactersIn_0 : decode cX2_charactersIn 0 = .ok (.iconst 0, 1) := by decide +kernel
theorem dX2_charactersIn_1 : decode cX2_charactersIn 1 = .ok (.istore_n 3, 1) := by decide +kernel
theorem dX2_charactersIn_2 : decode cX2_charactersIn 2 = .ok (.lload_n 1, 1) := by decide +kernel
theorem dX2_charactersIn_3 : decode cX2_charactersIn 3 = .ok (.lstore 4, 2) := by decide +kernel
theorem dX2_charactersIn_5 : decode cX2_charactersIn 5 = .ok (.lload 4, 2) := by decide +kernel
theorem dX2_charactersIn_7 : decode cX2_charactersIn 7 = .ok (.lconst 0, 1) := by decide +kernel
theorem dX2_charactersIn_8 : decode cX2_charactersIn 8 = .ok (.lcmp, 1) := by decide +kernel
theorem dX2_charactersIn_9 : decode cX2_charactersIn 9 = .ok (.ifCond .eq 47, 3) := by decide +kernel
theorem dX2_charactersIn_12 : decode cX2_charactersIn 12 = .ok (.iload_n 3, 1) := by decide +kernel
theorem dX2_charactersIn_13 : decode cX2_charactersIn 13 = .ok (.bipush 8, 2) := by decide +kernel
theorem dX2_charactersIn_15 : decode cX2_charactersIn 15 = .ok (.if_icmp .ge 41, 3) := by decide +kernel
theorem dX2_charactersIn_18 : decode cX2_charactersIn 18 = .ok (.lload 4, 2) := by decide +kernel
theorem dX2_charactersIn_20 : decode cX2_charactersIn 20 = .ok (.l2i, 1) := by decide +kernel
theorem dX2_charactersIn_21 : decode cX2_charactersIn 21 = .ok (.sipush 255, 3) := by decide +kernel
theorem dX2_charactersIn_24 : decode cX2_charactersIn 24 = .ok (.iand, 1) := by decide +kernel
theorem dX2_charactersIn_25 : decode cX2_charactersIn 25 = .ok (.istore 6, 2) := by decide +kernel
theorem dX2_charactersIn_27 : decode cX2_charactersIn 27 = .ok (.iload 6, 2) := by decide +kernel
theorem dX2_charactersIn_29 : decode cX2_charactersIn 29 = .ok (.bipush 33, 2) := by decide +kernel
theorem dX2_charactersIn_31 : decode cX2_charactersIn 31 = .ok (.if_icmp .lt 10, 3) := by decide +kernel
theorem dX2_charactersIn_34 : decode cX2_charactersIn 34 = .ok (.iload 6, 2) := by decide +kernel
theorem dX2_charactersIn_36 : decode cX2_charactersIn 36 = .ok (.bipush 126, 2) := by decide +kernel
theorem dX2_charactersIn_38 : decode cX2_charactersIn 38 = .ok (.if_icmp .le 5, 3) := by decide +kernel
theorem dX2_charactersIn_41 : decode cX2_charactersIn 41 = .ok (.iconst 0, 1) := by decide +kernel
theorem dX2_charactersIn_42 : decode cX2_charactersIn 42 = .ok (.ireturn, 1) := by decide +kernel
theorem dX2_charactersIn_43 : decode cX2_charactersIn 43 = .ok (.iinc 3 1, 3) := by decide +kernel
theorem dX2_charactersIn_46 : decode cX2_charactersIn 46 = .ok (.lload 4, 2) := by decide +kernel
theorem dX2_charactersIn_48 : decode cX2_charactersIn 48 = .ok (.bipush 8, 2) := by decide +kernel
theorem dX2_charactersIn_50 : decode cX2_charactersIn 50 = .ok (.lushr, 1) := by decide +kernel
theorem dX2_charactersIn_51 : decode cX2_charactersIn 51 = .ok (.lstore 4, 2) := by decide +kernel
theorem dX2_charactersIn_53 : decode cX2_charactersIn 53 = .ok (.goto (-48), 3) := by decide +kernel
theorem dX2_charactersIn_56 : decode cX2_charactersIn 56 = .ok (.iload_n 3, 1) := by decide +kernel
theorem dX2_charactersIn_57 : decode cX2_charactersIn 57 = .ok (.ireturn, 1) := by decide +kernel
theorem dX2_append_0 : decode cX2_append 0 = .ok (.iload_n 3, 1) := by decide +kernel
theorem dX2_append_1 : decode cX2_append 1 = .ok (.ifCond .lt 14, 3) := by decide +kernel
theorem dX2_append_4 : decode cX2_append 4 = .ok (.aload_n 0, 1) := by decide +kernel
theorem dX2_append_5 : decode cX2_append 5 = .ok (.getfield 15, 3) := by decide +kernel
theorem dX2_append_8 : decode cX2_append 8 = .ok (.iload_n 3, 1) := by decide +kernel
theorem dX2_append_9 : decode cX2_append 9 = .ok (.iadd, 1) := by decide +kernel
theorem dX2_append_10 : decode cX2_append 10 = .ok (.bipush 80, 2) := by decide +kernel
theorem dX2_append_12 : decode cX2_append 12 = .ok (.if_icmp .le 4, 3) := by decide +kernel
theorem dX2_append_15 : decode cX2_append 15 = .ok (.return_, 1) := by decide +kernel
theorem dX2_append_16 : decode cX2_append 16 = .ok (.iconst 0, 1) := by decide +kernel
theorem dX2_append_17 : decode cX2_append 17 = .ok (.istore 4, 2) := by decide +kernel
theorem dX2_append_19 : decode cX2_append 19 = .ok (.iload 4, 2) := by decide +kernel
theorem dX2_append_21 : decode cX2_append 21 = .ok (.iload_n 3, 1) := by decide +kernel
theorem dX2_append_22 : decode cX2_append 22 = .ok (.if_icmp .ge 42, 3) := by decide +kernel
theorem dX2_append_25 : decode cX2_append 25 = .ok (.lload_n 1, 1) := by decide +kernel
theorem dX2_append_26 : decode cX2_append 26 = .ok (.iload_n 3, 1) := by decide +kernel
theorem dX2_append_27 : decode cX2_append 27 = .ok (.iconst 1, 1) := by decide +kernel
theorem dX2_append_28 : decode cX2_append 28 = .ok (.isub, 1) := by decide +kernel
theorem dX2_append_29 : decode cX2_append 29 = .ok (.iload 4, 2) := by decide +kernel
theorem dX2_append_31 : decode cX2_append 31 = .ok (.isub, 1) := by decide +kernel
theorem dX2_append_32 : decode cX2_append 32 = .ok (.bipush 8, 2) := by decide +kernel
theorem dX2_append_34 : decode cX2_append 34 = .ok (.imul, 1) := by decide +kernel
theorem dX2_append_35 : decode cX2_append 35 = .ok (.lushr, 1) := by decide +kernel
theorem dX2_append_36 : decode cX2_append 36 = .ok (.l2i, 1) := by decide +kernel
theorem dX2_append_37 : decode cX2_append 37 = .ok (.sipush 255, 3) := by decide +kernel
theorem dX2_append_40 : decode cX2_append 40 = .ok (.iand, 1) := by decide +kernel
theorem dX2_append_41 : decode cX2_append 41 = .ok (.istore 5, 2) := by decide +kernel
theorem dX2_append_43 : decode cX2_append 43 = .ok (.aload_n 0, 1) := by decide +kernel
theorem dX2_append_44 : decode cX2_append 44 = .ok (.getfield 9, 3) := by decide +kernel
theorem dX2_append_47 : decode cX2_append 47 = .ok (.aload_n 0, 1) := by decide +kernel
theorem dX2_append_48 : decode cX2_append 48 = .ok (.getfield 15, 3) := by decide +kernel
theorem dX2_append_51 : decode cX2_append 51 = .ok (.iload 4, 2) := by decide +kernel
theorem dX2_append_53 : decode cX2_append 53 = .ok (.iadd, 1) := by decide +kernel
theorem dX2_append_54 : decode cX2_append 54 = .ok (.iload 5, 2) := by decide +kernel
theorem dX2_append_56 : decode cX2_append 56 = .ok (.i2c, 1) := by decide +kernel
theorem dX2_append_57 : decode cX2_append 57 = .ok (.castore, 1) := by decide +kernel
theorem dX2_append_58 : decode cX2_append 58 = .ok (.iinc 4 1, 3) := by decide +kernel
theorem dX2_append_61 : decode cX2_append 61 = .ok (.goto (-42), 3) := by decide +kernel
theorem dX2_append_64 : decode cX2_append 64 = .ok (.aload_n 0, 1) := by decide +kernel
theorem dX2_append_65 : decode cX2_append 65 = .ok (.dup, 1) := by decide +kernel
theorem dX2_append_66 : decode cX2_append 66 = .ok (.getfield 15, 3) := by decide +kernel
theorem dX2_append_69 : decode cX2_append 69 = .ok (.iload_n 3, 1) := by decide +kernel
theorem dX2_append_70 : decode cX2_append 70 = .ok (.iadd, 1) := by decide +kernel
theorem dX2_append_71 : decode cX2_append 71 = .ok (.putfield 15, 3) := by decide +kernel
theorem dX2_append_74 : decode cX2_append 74 = .ok (.return_, 1) := by decide +kernel
set_option maxRecDepth 20000 in
theorem ggX2_findFault_X2_takeOrder : GoodIn wsX2_findFault wsX2_takeOrder := goodIn_r _ [7, 8, 1, 9, 10, 11, 12, 6, 13, 2, 14, 15, 16, 17, 18, 19, 20, 21, 22, 23, 24, 25, 26, 27, 28, 29, 30, 31, 32, 33, 34, 35, 36, 37, 38, 39, 40, 41, 42, 43, 44, 45, 46, 47, 48, 49, 50, 51, 52, 53, 54, 55, 56, 57, 58, 59] (by decide +kernel) (by decide +kernel)
set_option maxRecDepth 20000 in
theorem gX2_findFault_X2_takeOrder : GoodIn wsX2_findFault (wsV RX2 22 RX2 yX2_takeOrder wsX2_takeOrder) := goodIn_app (goodIn_of _ (by decide +kernel)) ggX2_findFault_X2_takeOrder
set_option maxRecDepth 20000 in
theorem ggX2_findFault_X2_takeSign : GoodIn wsX2_findFault wsX2_takeSign := goodIn_r _ [31, 1, 10, 11, 12, 6, 13, 2, 14, 49, 50, 51, 52, 53, 54, 55, 56, 57, 58, 59] (by decide +kernel) (by decide +kernel)
set_option maxRecDepth 20000 in
theorem gX2_findFault_X2_takeSign : GoodIn wsX2_findFault (wsV RX2 26 RX2 yX2_takeSign wsX2_takeSign) := goodIn_app (goodIn_of _ (by decide +kernel)) ggX2_findFault_X2_takeSign
theorem dX2_findFault_0 : decode cX2_findFault 0 = .ok (.aload_n 0, 1) := by decide +kernel
theorem dX2_findFault_1 : decode cX2_findFault 1 = .ok (.iconst 0, 1) := by decide +kernel
theorem dX2_findFault_2 : decode cX2_findFault 2 = .ok (.putfield 19, 3) := by decide +kernel
theorem dX2_findFault_5 : decode cX2_findFault 5 = .ok (.iconst 0, 1) := by decide +kernel
theorem dX2_findFault_6 : decode cX2_findFault 6 = .ok (.istore_n 1, 1) := by decide +kernel
theorem dX2_findFault_7 : decode cX2_findFault 7 = .ok (.iload_n 1, 1) := by decide +kernel
theorem dX2_findFault_8 : decode cX2_findFault 8 = .ok (.bipush 80, 2) := by decide +kernel
theorem dX2_findFault_10 : decode cX2_findFault 10 = .ok (.if_icmp .ge 49, 3) := by decide +kernel
theorem dX2_findFault_13 : decode cX2_findFault 13 = .ok (.aload_n 0, 1) := by decide +kernel
theorem dX2_findFault_14 : decode cX2_findFault 14 = .ok (.invokevirtual 22, 3) := by decide +kernel
theorem dX2_findFault_17 : decode cX2_findFault 17 = .ok (.ifCond .ne 8, 3) := by decide +kernel
theorem dX2_findFault_20 : decode cX2_findFault 20 = .ok (.aload_n 0, 1) := by decide +kernel
theorem dX2_findFault_21 : decode cX2_findFault 21 = .ok (.getfield 19, 3) := by decide +kernel
theorem dX2_findFault_24 : decode cX2_findFault 24 = .ok (.ireturn, 1) := by decide +kernel
theorem dX2_findFault_25 : decode cX2_findFault 25 = .ok (.aload_n 0, 1) := by decide +kernel
theorem dX2_findFault_26 : decode cX2_findFault 26 = .ok (.getfield 19, 3) := by decide +kernel
theorem dX2_findFault_29 : decode cX2_findFault 29 = .ok (.aload_n 0, 1) := by decide +kernel
theorem dX2_findFault_30 : decode cX2_findFault 30 = .ok (.getfield 15, 3) := by decide +kernel
theorem dX2_findFault_33 : decode cX2_findFault 33 = .ok (.if_icmp .ne 6, 3) := by decide +kernel
theorem dX2_findFault_36 : decode cX2_findFault 36 = .ok (.bipush (-6), 2) := by decide +kernel
theorem dX2_findFault_38 : decode cX2_findFault 38 = .ok (.ireturn, 1) := by decide +kernel
theorem dX2_findFault_39 : decode cX2_findFault 39 = .ok (.aload_n 0, 1) := by decide +kernel
theorem dX2_findFault_40 : decode cX2_findFault 40 = .ok (.bipush 59, 2) := by decide +kernel
theorem dX2_findFault_42 : decode cX2_findFault 42 = .ok (.invokevirtual 26, 3) := by decide +kernel
theorem dX2_findFault_45 : decode cX2_findFault 45 = .ok (.ifCond .ne 8, 3) := by decide +kernel
theorem dX2_findFault_48 : decode cX2_findFault 48 = .ok (.aload_n 0, 1) := by decide +kernel
theorem dX2_findFault_49 : decode cX2_findFault 49 = .ok (.getfield 19, 3) := by decide +kernel
theorem dX2_findFault_52 : decode cX2_findFault 52 = .ok (.ireturn, 1) := by decide +kernel
theorem dX2_findFault_53 : decode cX2_findFault 53 = .ok (.iinc 1 1, 3) := by decide +kernel
theorem dX2_findFault_56 : decode cX2_findFault 56 = .ok (.goto (-49), 3) := by decide +kernel
theorem dX2_findFault_59 : decode cX2_findFault 59 = .ok (.aload_n 0, 1) := by decide +kernel
theorem dX2_findFault_60 : decode cX2_findFault 60 = .ok (.getfield 19, 3) := by decide +kernel
theorem dX2_findFault_63 : decode cX2_findFault 63 = .ok (.ireturn, 1) := by decide +kernel
set_option maxRecDepth 20000 in
theorem ggX2_takeOrder_X2_nextCharacter : GoodIn wsX2_takeOrder wsX2_nextCharacter := goodIn_r _ [8, 2, 9, 10, 45, 46, 47, 48, 49, 50, 51, 52, 53, 54, 55] (by decide +kernel) (by decide +kernel)
set_option maxRecDepth 20000 in
theorem gX2_takeOrder_X2_nextCharacter : GoodIn wsX2_takeOrder (wsV RX2 30 RX2 yX2_nextCharacter wsX2_nextCharacter) := goodIn_app (goodIn_of _ (by decide +kernel)) ggX2_takeOrder_X2_nextCharacter
set_option maxRecDepth 20000 in
theorem ggX2_takeOrder_X2_takeNumber : GoodIn wsX2_takeOrder wsX2_takeNumber := goodIn_r _ [14, 2, 15, 16, 17, 7, 18, 4, 5, 6, 8, 9, 10, 45, 46, 47, 48, 49, 50, 51, 52, 53, 54, 55] (by decide +kernel) (by decide +kernel)
set_option maxRecDepth 20000 in
theorem gX2_takeOrder_X2_takeNumber : GoodIn wsX2_takeOrder (wsV RX2 38 RX2 yX2_takeNumber wsX2_takeNumber) := goodIn_app (goodIn_of _ (by decide +kernel)) ggX2_takeOrder_X2_takeNumber
set_option maxRecDepth 20000 in
theorem ggX2_takeOrder_X2_takeUnder : GoodIn wsX2_takeOrder wsX2_takeUnder := goodIn_r _ [22, 23, 24, 25, 26, 7, 27, 2, 4, 5, 6, 8, 9, 10, 11, 12, 13, 14, 15, 16, 17, 18, 45, 46, 47, 48, 49, 50, 51, 52, 53, 54, 55] (by decide +kernel) (by decide +kernel)
set_option maxRecDepth 20000 in
theorem gX2_takeOrder_X2_takeUnder : GoodIn wsX2_takeOrder (wsV RX2 45 RX2 yX2_takeUnder wsX2_takeUnder) := goodIn_app (goodIn_of _ (by decide +kernel)) ggX2_takeOrder_X2_takeUnder
set_option maxRecDepth 20000 in
theorem ggX2_takeOrder_X2_takeSign : GoodIn wsX2_takeOrder wsX2_takeSign := goodIn_r _ [27, 2, 4, 5, 6, 7, 8, 9, 10, 45, 46, 47, 48, 49, 50, 51, 52, 53, 54, 55] (by decide +kernel) (by decide +kernel)
set_option maxRecDepth 20000 in
theorem gX2_takeOrder_X2_takeSign : GoodIn wsX2_takeOrder (wsV RX2 26 RX2 yX2_takeSign wsX2_takeSign) := goodIn_app (goodIn_of _ (by decide +kernel)) ggX2_takeOrder_X2_takeSign
set_option maxRecDepth 20000 in
theorem ggX2_takeOrder_X2_takeBytes : GoodIn wsX2_takeOrder wsX2_takeBytes := goodIn_r _ [31, 32, 33, 34, 11, 12, 13, 7, 14, 2, 15, 16, 17, 18, 4, 5, 6, 8, 9, 10, 35, 36, 37, 38, 24, 25, 26, 27, 45, 46, 47, 48, 49, 50, 51, 52, 53, 54, 55] (by decide +kernel) (by decide +kernel)
set_option maxRecDepth 20000 in
theorem gX2_takeOrder_X2_takeBytes : GoodIn wsX2_takeOrder (wsV RX2 48 RX2 yX2_takeBytes wsX2_takeBytes) := goodIn_app (goodIn_of _ (by decide +kernel)) ggX2_takeOrder_X2_takeBytes
set_option maxRecDepth 20000 in
theorem ggX2_takeOrder_X2_takeFading : GoodIn wsX2_takeOrder wsX2_takeFading := goodIn_r _ [42, 43, 44, 24, 25, 26, 7, 27, 2, 4, 5, 6, 8, 9, 10, 11, 12, 13, 14, 15, 16, 17, 18, 45, 46, 47, 48, 49, 50, 51, 52, 53, 54, 55] (by decide +kernel) (by decide +kernel)
set_option maxRecDepth 20000 in
theorem gX2_takeOrder_X2_takeFading : GoodIn wsX2_takeOrder (wsV RX2 51 RX2 yX2_takeFading wsX2_takeFading) := goodIn_app (goodIn_of _ (by decide +kernel)) ggX2_takeOrder_X2_takeFading
theorem dX2_takeOrder_0 : decode cX2_takeOrder 0 = .ok (.aload_n 0, 1) := by decide +kernel
theorem dX2_takeOrder_1 : decode cX2_takeOrder 1 = .ok (.aload_n 0, 1) := by decide +kernel
theorem dX2_takeOrder_2 : decode cX2_takeOrder 2 = .ok (.invokevirtual 30, 3) := by decide +kernel
theorem dX2_takeOrder_5 : decode cX2_takeOrder 5 = .ok (.putfield 34, 3) := by decide +kernel
theorem dX2_takeOrder_8 : decode cX2_takeOrder 8 = .ok (.aload_n 0, 1) := by decide +kernel
theorem dX2_takeOrder_9 : decode cX2_takeOrder 9 = .ok (.getfield 34, 3) := by decide +kernel
theorem dX2_takeOrder_12 : decode cX2_takeOrder 12 = .ok (.bipush 43, 2) := by decide +kernel
theorem dX2_takeOrder_14 : decode cX2_takeOrder 14 = .ok (.if_icmp .eq 23, 3) := by decide +kernel
theorem dX2_takeOrder_17 : decode cX2_takeOrder 17 = .ok (.aload_n 0, 1) := by decide +kernel
theorem dX2_takeOrder_18 : decode cX2_takeOrder 18 = .ok (.getfield 34, 3) := by decide +kernel
theorem dX2_takeOrder_21 : decode cX2_takeOrder 21 = .ok (.bipush 102, 2) := by decide +kernel
theorem dX2_takeOrder_23 : decode cX2_takeOrder 23 = .ok (.if_icmp .eq 14, 3) := by decide +kernel
theorem dX2_takeOrder_26 : decode cX2_takeOrder 26 = .ok (.aload_n 0, 1) := by decide +kernel
theorem dX2_takeOrder_27 : decode cX2_takeOrder 27 = .ok (.getfield 34, 3) := by decide +kernel
theorem dX2_takeOrder_30 : decode cX2_takeOrder 30 = .ok (.bipush 120, 2) := by decide +kernel
theorem dX2_takeOrder_32 : decode cX2_takeOrder 32 = .ok (.if_icmp .eq 5, 3) := by decide +kernel
theorem dX2_takeOrder_35 : decode cX2_takeOrder 35 = .ok (.iconst 0, 1) := by decide +kernel
theorem dX2_takeOrder_36 : decode cX2_takeOrder 36 = .ok (.ireturn, 1) := by decide +kernel
theorem dX2_takeOrder_37 : decode cX2_takeOrder 37 = .ok (.aload_n 0, 1) := by decide +kernel
theorem dX2_takeOrder_38 : decode cX2_takeOrder 38 = .ok (.dup, 1) := by decide +kernel
theorem dX2_takeOrder_39 : decode cX2_takeOrder 39 = .ok (.getfield 19, 3) := by decide +kernel
theorem dX2_takeOrder_42 : decode cX2_takeOrder 42 = .ok (.iconst 1, 1) := by decide +kernel
theorem dX2_takeOrder_43 : decode cX2_takeOrder 43 = .ok (.iadd, 1) := by decide +kernel
theorem dX2_takeOrder_44 : decode cX2_takeOrder 44 = .ok (.putfield 19, 3) := by decide +kernel
theorem dX2_takeOrder_47 : decode cX2_takeOrder 47 = .ok (.aload_n 0, 1) := by decide +kernel
theorem dX2_takeOrder_48 : decode cX2_takeOrder 48 = .ok (.aload_n 0, 1) := by decide +kernel
theorem dX2_takeOrder_49 : decode cX2_takeOrder 49 = .ok (.invokevirtual 38, 3) := by decide +kernel
theorem dX2_takeOrder_52 : decode cX2_takeOrder 52 = .ok (.putfield 42, 3) := by decide +kernel
theorem dX2_takeOrder_55 : decode cX2_takeOrder 55 = .ok (.aload_n 0, 1) := by decide +kernel
theorem dX2_takeOrder_56 : decode cX2_takeOrder 56 = .ok (.getfield 42, 3) := by decide +kernel
theorem dX2_takeOrder_59 : decode cX2_takeOrder 59 = .ok (.ifCond .ge 5, 3) := by decide +kernel
theorem dX2_takeOrder_62 : decode cX2_takeOrder 62 = .ok (.iconst 0, 1) := by decide +kernel
theorem dX2_takeOrder_63 : decode cX2_takeOrder 63 = .ok (.ireturn, 1) := by decide +kernel
theorem dX2_takeOrder_64 : decode cX2_takeOrder 64 = .ok (.aload_n 0, 1) := by decide +kernel
theorem dX2_takeOrder_65 : decode cX2_takeOrder 65 = .ok (.getfield 34, 3) := by decide +kernel
theorem dX2_takeOrder_68 : decode cX2_takeOrder 68 = .ok (.bipush 43, 2) := by decide +kernel
theorem dX2_takeOrder_70 : decode cX2_takeOrder 70 = .ok (.if_icmp .ne 32, 3) := by decide +kernel
theorem dX2_takeOrder_73 : decode cX2_takeOrder 73 = .ok (.aload_n 0, 1) := by decide +kernel
theorem dX2_takeOrder_74 : decode cX2_takeOrder 74 = .ok (.invokevirtual 45, 3) := by decide +kernel
theorem dX2_takeOrder_77 : decode cX2_takeOrder 77 = .ok (.ifCond .eq 23, 3) := by decide +kernel
theorem dX2_takeOrder_80 : decode cX2_takeOrder 80 = .ok (.aload_n 0, 1) := by decide +kernel
theorem dX2_takeOrder_81 : decode cX2_takeOrder 81 = .ok (.bipush 58, 2) := by decide +kernel
theorem dX2_takeOrder_83 : decode cX2_takeOrder 83 = .ok (.invokevirtual 26, 3) := by decide +kernel
theorem dX2_takeOrder_86 : decode cX2_takeOrder 86 = .ok (.ifCond .eq 14, 3) := by decide +kernel
theorem dX2_takeOrder_89 : decode cX2_takeOrder 89 = .ok (.aload_n 0, 1) := by decide +kernel
theorem dX2_takeOrder_90 : decode cX2_takeOrder 90 = .ok (.invokevirtual 48, 3) := by decide +kernel
theorem dX2_takeOrder_93 : decode cX2_takeOrder 93 = .ok (.ifCond .eq 7, 3) := by decide +kernel
theorem dX2_takeOrder_96 : decode cX2_takeOrder 96 = .ok (.iconst 1, 1) := by decide +kernel
theorem dX2_takeOrder_97 : decode cX2_takeOrder 97 = .ok (.goto 4, 3) := by decide +kernel
theorem dX2_takeOrder_100 : decode cX2_takeOrder 100 = .ok (.iconst 0, 1) := by decide +kernel
theorem dX2_takeOrder_101 : decode cX2_takeOrder 101 = .ok (.ireturn, 1) := by decide +kernel
theorem dX2_takeOrder_102 : decode cX2_takeOrder 102 = .ok (.aload_n 0, 1) := by decide +kernel
theorem dX2_takeOrder_103 : decode cX2_takeOrder 103 = .ok (.getfield 34, 3) := by decide +kernel
theorem dX2_takeOrder_106 : decode cX2_takeOrder 106 = .ok (.bipush 120, 2) := by decide +kernel
theorem dX2_takeOrder_108 : decode cX2_takeOrder 108 = .ok (.if_icmp .eq 10, 3) := by decide +kernel
theorem dX2_takeOrder_111 : decode cX2_takeOrder 111 = .ok (.aload_n 0, 1) := by decide +kernel
theorem dX2_takeOrder_112 : decode cX2_takeOrder 112 = .ok (.invokevirtual 51, 3) := by decide +kernel
theorem dX2_takeOrder_115 : decode cX2_takeOrder 115 = .ok (.ifCond .eq 7, 3) := by decide +kernel
theorem dX2_takeOrder_118 : decode cX2_takeOrder 118 = .ok (.iconst 1, 1) := by decide +kernel
theorem dX2_takeOrder_119 : decode cX2_takeOrder 119 = .ok (.goto 4, 3) := by decide +kernel
theorem dX2_takeOrder_122 : decode cX2_takeOrder 122 = .ok (.iconst 0, 1) := by decide +kernel
theorem dX2_takeOrder_123 : decode cX2_takeOrder 123 = .ok (.ireturn, 1) := by decide +kernel
set_option maxRecDepth 20000 in
theorem ggX2_takeUnder_X2_takeSign : GoodIn wsX2_takeUnder wsX2_takeSign := goodIn_r _ [6, 7, 8, 9, 10, 5, 11, 12, 13, 22, 23, 24, 25, 26, 27, 28, 29, 30, 31, 32] (by decide +kernel) (by decide +kernel)
set_option maxRecDepth 20000 in
theorem gX2_takeUnder_X2_takeSign : GoodIn wsX2_takeUnder (wsV RX2 26 RX2 yX2_takeSign wsX2_takeSign) := goodIn_app (goodIn_of _ (by decide +kernel)) ggX2_takeUnder_X2_takeSign
set_option maxRecDepth 20000 in
theorem ggX2_takeUnder_X2_takeNumber : GoodIn wsX2_takeUnder wsX2_takeNumber := goodIn_r _ [17, 7, 18, 19, 20, 5, 21, 8, 9, 10, 11, 12, 13, 22, 23, 24, 25, 26, 27, 28, 29, 30, 31, 32] (by decide +kernel) (by decide +kernel)
set_option maxRecDepth 20000 in
theorem gX2_takeUnder_X2_takeNumber : GoodIn wsX2_takeUnder (wsV RX2 38 RX2 yX2_takeNumber wsX2_takeNumber) := goodIn_app (goodIn_of _ (by decide +kernel)) ggX2_takeUnder_X2_takeNumber
theorem dX2_takeUnder_0 : decode cX2_takeUnder 0 = .ok (.aload_n 0, 1) := by decide +kernel
theorem dX2_takeUnder_1 : decode cX2_takeUnder 1 = .ok (.bipush (-6), 2) := by decide +kernel
theorem dX2_takeUnder_3 : decode cX2_takeUnder 3 = .ok (.putfield 54, 3) := by decide +kernel
theorem dX2_takeUnder_6 : decode cX2_takeUnder 6 = .ok (.aload_n 0, 1) := by decide +kernel
theorem dX2_takeUnder_7 : decode cX2_takeUnder 7 = .ok (.bipush 94, 2) := by decide +kernel
theorem dX2_takeUnder_9 : decode cX2_takeUnder 9 = .ok (.invokevirtual 26, 3) := by decide +kernel
theorem dX2_takeUnder_12 : decode cX2_takeUnder 12 = .ok (.ifCond .eq 24, 3) := by decide +kernel
theorem dX2_takeUnder_15 : decode cX2_takeUnder 15 = .ok (.aload_n 0, 1) := by decide +kernel
theorem dX2_takeUnder_16 : decode cX2_takeUnder 16 = .ok (.aload_n 0, 1) := by decide +kernel
theorem dX2_takeUnder_17 : decode cX2_takeUnder 17 = .ok (.invokevirtual 38, 3) := by decide +kernel
theorem dX2_takeUnder_20 : decode cX2_takeUnder 20 = .ok (.putfield 54, 3) := by decide +kernel
theorem dX2_takeUnder_23 : decode cX2_takeUnder 23 = .ok (.aload_n 0, 1) := by decide +kernel
theorem dX2_takeUnder_24 : decode cX2_takeUnder 24 = .ok (.getfield 54, 3) := by decide +kernel
theorem dX2_takeUnder_27 : decode cX2_takeUnder 27 = .ok (.ifCond .lt 7, 3) := by decide +kernel
theorem dX2_takeUnder_30 : decode cX2_takeUnder 30 = .ok (.iconst 1, 1) := by decide +kernel
theorem dX2_takeUnder_31 : decode cX2_takeUnder 31 = .ok (.goto 4, 3) := by decide +kernel
theorem dX2_takeUnder_34 : decode cX2_takeUnder 34 = .ok (.iconst 0, 1) := by decide +kernel
theorem dX2_takeUnder_35 : decode cX2_takeUnder 35 = .ok (.ireturn, 1) := by decide +kernel
theorem dX2_takeUnder_36 : decode cX2_takeUnder 36 = .ok (.iconst 1, 1) := by decide +kernel
theorem dX2_takeUnder_37 : decode cX2_takeUnder 37 = .ok (.ireturn, 1) := by decide +kernel
set_option maxRecDepth 20000 in
theorem ggX2_takeBytes_X2_takeNumber : GoodIn wsX2_takeBytes wsX2_takeNumber := goodIn_r _ [8, 9, 10, 11, 12, 7, 13, 14, 15, 16, 17, 18, 19, 28, 29, 30, 31, 32, 33, 34, 35, 36, 37, 38] (by decide +kernel) (by decide +kernel)
set_option maxRecDepth 20000 in
theorem gX2_takeBytes_X2_takeNumber : GoodIn wsX2_takeBytes (wsV RX2 38 RX2 yX2_takeNumber wsX2_takeNumber) := goodIn_app (goodIn_of _ (by decide +kernel)) ggX2_takeBytes_X2_takeNumber
set_option maxRecDepth 20000 in
theorem ggX2_takeBytes_X2_addByte : GoodIn wsX2_takeBytes wsX2_addByte := goodIn_r _ [23, 3, 1, 2, 28, 29, 30, 31, 32, 33, 34, 35, 36, 37, 38] (by decide +kernel) (by decide +kernel)
set_option maxRecDepth 20000 in
theorem gX2_takeBytes_X2_addByte : GoodIn wsX2_takeBytes (wsV RX2 68 RX2 yX2_addByte wsX2_addByte) := goodIn_app (goodIn_of _ (by decide +kernel)) ggX2_takeBytes_X2_addByte
set_option maxRecDepth 20000 in
theorem ggX2_takeBytes_X2_takeSign : GoodIn wsX2_takeBytes wsX2_takeSign := goodIn_r _ [27, 9, 14, 15, 16, 7, 17, 18, 19, 28, 29, 30, 31, 32, 33, 34, 35, 36, 37, 38] (by decide +kernel) (by decide +kernel)
set_option maxRecDepth 20000 in
theorem gX2_takeBytes_X2_takeSign : GoodIn wsX2_takeBytes (wsV RX2 26 RX2 yX2_takeSign wsX2_takeSign) := goodIn_app (goodIn_of _ (by decide +kernel)) ggX2_takeBytes_X2_takeSign
theorem dX2_takeBytes_0 : decode cX2_takeBytes 0 = .ok (.aload_n 0, 1) := by decide +kernel
theorem dX2_takeBytes_1 : decode cX2_takeBytes 1 = .ok (.iconst 0, 1) := by decide +kernel
theorem dX2_takeBytes_2 : decode cX2_takeBytes 2 = .ok (.putfield 57, 3) := by decide +kernel
theorem dX2_takeBytes_5 : decode cX2_takeBytes 5 = .ok (.aload_n 0, 1) := by decide +kernel
theorem dX2_takeBytes_6 : decode cX2_takeBytes 6 = .ok (.lconst 0, 1) := by decide +kernel
theorem dX2_takeBytes_7 : decode cX2_takeBytes 7 = .ok (.putfield 60, 3) := by decide +kernel
theorem dX2_takeBytes_10 : decode cX2_takeBytes 10 = .ok (.aload_n 0, 1) := by decide +kernel
theorem dX2_takeBytes_11 : decode cX2_takeBytes 11 = .ok (.iconst 0, 1) := by decide +kernel
theorem dX2_takeBytes_12 : decode cX2_takeBytes 12 = .ok (.putfield 64, 3) := by decide +kernel
theorem dX2_takeBytes_15 : decode cX2_takeBytes 15 = .ok (.iconst 0, 1) := by decide +kernel
theorem dX2_takeBytes_16 : decode cX2_takeBytes 16 = .ok (.istore_n 1, 1) := by decide +kernel
theorem dX2_takeBytes_17 : decode cX2_takeBytes 17 = .ok (.iload_n 1, 1) := by decide +kernel
theorem dX2_takeBytes_18 : decode cX2_takeBytes 18 = .ok (.bipush 80, 2) := by decide +kernel
theorem dX2_takeBytes_20 : decode cX2_takeBytes 20 = .ok (.if_icmp .ge 36, 3) := by decide +kernel
theorem dX2_takeBytes_23 : decode cX2_takeBytes 23 = .ok (.aload_n 0, 1) := by decide +kernel
theorem dX2_takeBytes_24 : decode cX2_takeBytes 24 = .ok (.invokevirtual 38, 3) := by decide +kernel
theorem dX2_takeBytes_27 : decode cX2_takeBytes 27 = .ok (.istore_n 2, 1) := by decide +kernel
theorem dX2_takeBytes_28 : decode cX2_takeBytes 28 = .ok (.iload_n 2, 1) := by decide +kernel
theorem dX2_takeBytes_29 : decode cX2_takeBytes 29 = .ok (.ifCond .ge 5, 3) := by decide +kernel
theorem dX2_takeBytes_32 : decode cX2_takeBytes 32 = .ok (.iconst 0, 1) := by decide +kernel
theorem dX2_takeBytes_33 : decode cX2_takeBytes 33 = .ok (.ireturn, 1) := by decide +kernel
theorem dX2_takeBytes_34 : decode cX2_takeBytes 34 = .ok (.aload_n 0, 1) := by decide +kernel
theorem dX2_takeBytes_35 : decode cX2_takeBytes 35 = .ok (.iload_n 2, 1) := by decide +kernel
theorem dX2_takeBytes_36 : decode cX2_takeBytes 36 = .ok (.invokevirtual 68, 3) := by decide +kernel
theorem dX2_takeBytes_39 : decode cX2_takeBytes 39 = .ok (.aload_n 0, 1) := by decide +kernel
theorem dX2_takeBytes_40 : decode cX2_takeBytes 40 = .ok (.bipush 44, 2) := by decide +kernel
theorem dX2_takeBytes_42 : decode cX2_takeBytes 42 = .ok (.invokevirtual 26, 3) := by decide +kernel
theorem dX2_takeBytes_45 : decode cX2_takeBytes 45 = .ok (.ifCond .ne 5, 3) := by decide +kernel
theorem dX2_takeBytes_48 : decode cX2_takeBytes 48 = .ok (.iconst 1, 1) := by decide +kernel
theorem dX2_takeBytes_49 : decode cX2_takeBytes 49 = .ok (.ireturn, 1) := by decide +kernel
theorem dX2_takeBytes_50 : decode cX2_takeBytes 50 = .ok (.iinc 1 1, 3) := by decide +kernel
theorem dX2_takeBytes_53 : decode cX2_takeBytes 53 = .ok (.goto (-36), 3) := by decide +kernel
theorem dX2_takeBytes_56 : decode cX2_takeBytes 56 = .ok (.iconst 0, 1) := by decide +kernel
theorem dX2_takeBytes_57 : decode cX2_takeBytes 57 = .ok (.ireturn, 1) := by decide +kernel
theorem dX2_addByte_0 : decode cX2_addByte 0 = .ok (.iload_n 1, 1) := by decide +kernel
theorem dX2_addByte_1 : decode cX2_addByte 1 = .ok (.sipush 255, 3) := by decide +kernel
theorem dX2_addByte_4 : decode cX2_addByte 4 = .ok (.if_icmp .le 8, 3) := by decide +kernel
theorem dX2_addByte_7 : decode cX2_addByte 7 = .ok (.aload_n 0, 1) := by decide +kernel
theorem dX2_addByte_8 : decode cX2_addByte 8 = .ok (.iconst 1, 1) := by decide +kernel
theorem dX2_addByte_9 : decode cX2_addByte 9 = .ok (.putfield 64, 3) := by decide +kernel
theorem dX2_addByte_12 : decode cX2_addByte 12 = .ok (.aload_n 0, 1) := by decide +kernel
theorem dX2_addByte_13 : decode cX2_addByte 13 = .ok (.getfield 57, 3) := by decide +kernel
theorem dX2_addByte_16 : decode cX2_addByte 16 = .ok (.bipush 7, 2) := by decide +kernel
theorem dX2_addByte_18 : decode cX2_addByte 18 = .ok (.if_icmp .ge 26, 3) := by decide +kernel
theorem dX2_addByte_21 : decode cX2_addByte 21 = .ok (.aload_n 0, 1) := by decide +kernel
theorem dX2_addByte_22 : decode cX2_addByte 22 = .ok (.dup, 1) := by decide +kernel
theorem dX2_addByte_23 : decode cX2_addByte 23 = .ok (.getfield 60, 3) := by decide +kernel
theorem dX2_addByte_26 : decode cX2_addByte 26 = .ok (.iload_n 1, 1) := by decide +kernel
theorem dX2_addByte_27 : decode cX2_addByte 27 = .ok (.sipush 255, 3) := by decide +kernel
theorem dX2_addByte_30 : decode cX2_addByte 30 = .ok (.iand, 1) := by decide +kernel
theorem dX2_addByte_31 : decode cX2_addByte 31 = .ok (.i2l, 1) := by decide +kernel
theorem dX2_addByte_32 : decode cX2_addByte 32 = .ok (.aload_n 0, 1) := by decide +kernel
theorem dX2_addByte_33 : decode cX2_addByte 33 = .ok (.getfield 57, 3) := by decide +kernel
theorem dX2_addByte_36 : decode cX2_addByte 36 = .ok (.bipush 8, 2) := by decide +kernel
theorem dX2_addByte_38 : decode cX2_addByte 38 = .ok (.imul, 1) := by decide +kernel
theorem dX2_addByte_39 : decode cX2_addByte 39 = .ok (.lshl, 1) := by decide +kernel
theorem dX2_addByte_40 : decode cX2_addByte 40 = .ok (.lor, 1) := by decide +kernel
theorem dX2_addByte_41 : decode cX2_addByte 41 = .ok (.putfield 60, 3) := by decide +kernel
theorem dX2_addByte_44 : decode cX2_addByte 44 = .ok (.aload_n 0, 1) := by decide +kernel
theorem dX2_addByte_45 : decode cX2_addByte 45 = .ok (.dup, 1) := by decide +kernel
theorem dX2_addByte_46 : decode cX2_addByte 46 = .ok (.getfield 57, 3) := by decide +kernel
theorem dX2_addByte_49 : decode cX2_addByte 49 = .ok (.iconst 1, 1) := by decide +kernel
theorem dX2_addByte_50 : decode cX2_addByte 50 = .ok (.iadd, 1) := by decide +kernel
theorem dX2_addByte_51 : decode cX2_addByte 51 = .ok (.putfield 57, 3) := by decide +kernel
theorem dX2_addByte_54 : decode cX2_addByte 54 = .ok (.return_, 1) := by decide +kernel
set_option maxRecDepth 20000 in
theorem ggX2_takeFading_X2_takeSign : GoodIn wsX2_takeFading wsX2_takeSign := goodIn_r _ [7, 8, 9, 10, 11, 6, 12, 13, 14, 23, 24, 25, 26, 27, 28, 29, 30, 31, 32, 33] (by decide +kernel) (by decide +kernel)
set_option maxRecDepth 20000 in
theorem gX2_takeFading_X2_takeSign : GoodIn wsX2_takeFading (wsV RX2 26 RX2 yX2_takeSign wsX2_takeSign) := goodIn_app (goodIn_of _ (by decide +kernel)) ggX2_takeFading_X2_takeSign
set_option maxRecDepth 20000 in
theorem ggX2_takeFading_X2_takeNumber : GoodIn wsX2_takeFading wsX2_takeNumber := goodIn_r _ [18, 8, 19, 20, 21, 6, 22, 9, 10, 11, 12, 13, 14, 23, 24, 25, 26, 27, 28, 29, 30, 31, 32, 33] (by decide +kernel) (by decide +kernel)
set_option maxRecDepth 20000 in
theorem gX2_takeFading_X2_takeNumber : GoodIn wsX2_takeFading (wsV RX2 38 RX2 yX2_takeNumber wsX2_takeNumber) := goodIn_app (goodIn_of _ (by decide +kernel)) ggX2_takeFading_X2_takeNumber
theorem dX2_takeFading_0 : decode cX2_takeFading 0 = .ok (.aload_n 0, 1) := by decide +kernel
theorem dX2_takeFading_1 : decode cX2_takeFading 1 = .ok (.bipush 45, 2) := by decide +kernel
theorem dX2_takeFading_3 : decode cX2_takeFading 3 = .ok (.invokevirtual 26, 3) := by decide +kernel
theorem dX2_takeFading_6 : decode cX2_takeFading 6 = .ok (.ifCond .ne 5, 3) := by decide +kernel
theorem dX2_takeFading_9 : decode cX2_takeFading 9 = .ok (.iconst 0, 1) := by decide +kernel
theorem dX2_takeFading_10 : decode cX2_takeFading 10 = .ok (.ireturn, 1) := by decide +kernel
theorem dX2_takeFading_11 : decode cX2_takeFading 11 = .ok (.aload_n 0, 1) := by decide +kernel
theorem dX2_takeFading_12 : decode cX2_takeFading 12 = .ok (.aload_n 0, 1) := by decide +kernel
theorem dX2_takeFading_13 : decode cX2_takeFading 13 = .ok (.invokevirtual 38, 3) := by decide +kernel
theorem dX2_takeFading_16 : decode cX2_takeFading 16 = .ok (.putfield 72, 3) := by decide +kernel
theorem dX2_takeFading_19 : decode cX2_takeFading 19 = .ok (.aload_n 0, 1) := by decide +kernel
theorem dX2_takeFading_20 : decode cX2_takeFading 20 = .ok (.getfield 72, 3) := by decide +kernel
theorem dX2_takeFading_23 : decode cX2_takeFading 23 = .ok (.ifCond .lt 12, 3) := by decide +kernel
theorem dX2_takeFading_26 : decode cX2_takeFading 26 = .ok (.aload_n 0, 1) := by decide +kernel
theorem dX2_takeFading_27 : decode cX2_takeFading 27 = .ok (.bipush 61, 2) := by decide +kernel
theorem dX2_takeFading_29 : decode cX2_takeFading 29 = .ok (.invokevirtual 26, 3) := by decide +kernel
theorem dX2_takeFading_32 : decode cX2_takeFading 32 = .ok (.ifCond .ne 5, 3) := by decide +kernel
theorem dX2_takeFading_35 : decode cX2_takeFading 35 = .ok (.iconst 0, 1) := by decide +kernel
theorem dX2_takeFading_36 : decode cX2_takeFading 36 = .ok (.ireturn, 1) := by decide +kernel
theorem dX2_takeFading_37 : decode cX2_takeFading 37 = .ok (.aload_n 0, 1) := by decide +kernel
theorem dX2_takeFading_38 : decode cX2_takeFading 38 = .ok (.aload_n 0, 1) := by decide +kernel
theorem dX2_takeFading_39 : decode cX2_takeFading 39 = .ok (.invokevirtual 38, 3) := by decide +kernel
theorem dX2_takeFading_42 : decode cX2_takeFading 42 = .ok (.putfield 75, 3) := by decide +kernel
theorem dX2_takeFading_45 : decode cX2_takeFading 45 = .ok (.aload_n 0, 1) := by decide +kernel
theorem dX2_takeFading_46 : decode cX2_takeFading 46 = .ok (.getfield 75, 3) := by decide +kernel
theorem dX2_takeFading_49 : decode cX2_takeFading 49 = .ok (.ifCond .lt 7, 3) := by decide +kernel
theorem dX2_takeFading_52 : decode cX2_takeFading 52 = .ok (.iconst 1, 1) := by decide +kernel
theorem dX2_takeFading_53 : decode cX2_takeFading 53 = .ok (.goto 4, 3) := by decide +kernel
theorem dX2_takeFading_56 : decode cX2_takeFading 56 = .ok (.iconst 0, 1) := by decide +kernel
theorem dX2_takeFading_57 : decode cX2_takeFading 57 = .ok (.ireturn, 1) := by decide +kernel
set_option maxRecDepth 20000 in
theorem ggX2_takeNumber_X2_nextDigit : GoodIn wsX2_takeNumber wsX2_nextDigit := goodIn_r _ [6, 7, 8, 9, 5, 10, 1, 11, 12, 13, 14, 15, 16, 17, 18, 19, 20, 21, 22, 23] (by decide +kernel) (by decide +kernel)
set_option maxRecDepth 20000 in
theorem gX2_takeNumber_X2_nextDigit : GoodIn wsX2_takeNumber (wsV RX2 78 RX2 yX2_nextDigit wsX2_nextDigit) := goodIn_app (goodIn_of _ (by decide +kernel)) ggX2_takeNumber_X2_nextDigit
theorem dX2_takeNumber_0 : decode cX2_takeNumber 0 = .ok (.aload_n 0, 1) := by decide +kernel
theorem dX2_takeNumber_1 : decode cX2_takeNumber 1 = .ok (.invokevirtual 78, 3) := by decide +kernel
theorem dX2_takeNumber_4 : decode cX2_takeNumber 4 = .ok (.istore_n 1, 1) := by decide +kernel
theorem dX2_takeNumber_5 : decode cX2_takeNumber 5 = .ok (.iload_n 1, 1) := by decide +kernel
theorem dX2_takeNumber_6 : decode cX2_takeNumber 6 = .ok (.ifCond .ge 6, 3) := by decide +kernel
theorem dX2_takeNumber_9 : decode cX2_takeNumber 9 = .ok (.bipush (-6), 2) := by decide +kernel
theorem dX2_takeNumber_11 : decode cX2_takeNumber 11 = .ok (.ireturn, 1) := by decide +kernel
theorem dX2_takeNumber_12 : decode cX2_takeNumber 12 = .ok (.aload_n 0, 1) := by decide +kernel
theorem dX2_takeNumber_13 : decode cX2_takeNumber 13 = .ok (.dup, 1) := by decide +kernel
theorem dX2_takeNumber_14 : decode cX2_takeNumber 14 = .ok (.getfield 19, 3) := by decide +kernel
theorem dX2_takeNumber_17 : decode cX2_takeNumber 17 = .ok (.iconst 1, 1) := by decide +kernel
theorem dX2_takeNumber_18 : decode cX2_takeNumber 18 = .ok (.iadd, 1) := by decide +kernel
theorem dX2_takeNumber_19 : decode cX2_takeNumber 19 = .ok (.putfield 19, 3) := by decide +kernel
theorem dX2_takeNumber_22 : decode cX2_takeNumber 22 = .ok (.iload_n 1, 1) := by decide +kernel
theorem dX2_takeNumber_23 : decode cX2_takeNumber 23 = .ok (.istore_n 2, 1) := by decide +kernel
theorem dX2_takeNumber_24 : decode cX2_takeNumber 24 = .ok (.iconst 1, 1) := by decide +kernel
theorem dX2_takeNumber_25 : decode cX2_takeNumber 25 = .ok (.istore_n 3, 1) := by decide +kernel
theorem dX2_takeNumber_26 : decode cX2_takeNumber 26 = .ok (.iload_n 3, 1) := by decide +kernel
theorem dX2_takeNumber_27 : decode cX2_takeNumber 27 = .ok (.iconst 4, 1) := by decide +kernel
theorem dX2_takeNumber_28 : decode cX2_takeNumber 28 = .ok (.if_icmp .ge 42, 3) := by decide +kernel
theorem dX2_takeNumber_31 : decode cX2_takeNumber 31 = .ok (.aload_n 0, 1) := by decide +kernel
theorem dX2_takeNumber_32 : decode cX2_takeNumber 32 = .ok (.invokevirtual 78, 3) := by decide +kernel
theorem dX2_takeNumber_35 : decode cX2_takeNumber 35 = .ok (.istore_n 1, 1) := by decide +kernel
theorem dX2_takeNumber_36 : decode cX2_takeNumber 36 = .ok (.iload_n 1, 1) := by decide +kernel
theorem dX2_takeNumber_37 : decode cX2_takeNumber 37 = .ok (.ifCond .lt 33, 3) := by decide +kernel
theorem dX2_takeNumber_40 : decode cX2_takeNumber 40 = .ok (.iload_n 2, 1) := by decide +kernel
theorem dX2_takeNumber_41 : decode cX2_takeNumber 41 = .ok (.ifCond .ne 6, 3) := by decide +kernel
theorem dX2_takeNumber_44 : decode cX2_takeNumber 44 = .ok (.goto 26, 3) := by decide +kernel
theorem dX2_takeNumber_47 : decode cX2_takeNumber 47 = .ok (.aload_n 0, 1) := by decide +kernel
theorem dX2_takeNumber_48 : decode cX2_takeNumber 48 = .ok (.dup, 1) := by decide +kernel
theorem dX2_takeNumber_49 : decode cX2_takeNumber 49 = .ok (.getfield 19, 3) := by decide +kernel
theorem dX2_takeNumber_52 : decode cX2_takeNumber 52 = .ok (.iconst 1, 1) := by decide +kernel
theorem dX2_takeNumber_53 : decode cX2_takeNumber 53 = .ok (.iadd, 1) := by decide +kernel
theorem dX2_takeNumber_54 : decode cX2_takeNumber 54 = .ok (.putfield 19, 3) := by decide +kernel
theorem dX2_takeNumber_57 : decode cX2_takeNumber 57 = .ok (.iload_n 2, 1) := by decide +kernel
theorem dX2_takeNumber_58 : decode cX2_takeNumber 58 = .ok (.bipush 10, 2) := by decide +kernel
theorem dX2_takeNumber_60 : decode cX2_takeNumber 60 = .ok (.imul, 1) := by decide +kernel
theorem dX2_takeNumber_61 : decode cX2_takeNumber 61 = .ok (.iload_n 1, 1) := by decide +kernel
theorem dX2_takeNumber_62 : decode cX2_takeNumber 62 = .ok (.iadd, 1) := by decide +kernel
theorem dX2_takeNumber_63 : decode cX2_takeNumber 63 = .ok (.istore_n 2, 1) := by decide +kernel
theorem dX2_takeNumber_64 : decode cX2_takeNumber 64 = .ok (.iinc 3 1, 3) := by decide +kernel
theorem dX2_takeNumber_67 : decode cX2_takeNumber 67 = .ok (.goto (-41), 3) := by decide +kernel
theorem dX2_takeNumber_70 : decode cX2_takeNumber 70 = .ok (.iload_n 2, 1) := by decide +kernel
theorem dX2_takeNumber_71 : decode cX2_takeNumber 71 = .ok (.ireturn, 1) := by decide +kernel
set_option maxRecDepth 20000 in
theorem ggX2_nextDigit_X2_nextCharacter : GoodIn wsX2_nextDigit wsX2_nextCharacter := goodIn_r _ [5, 6, 7, 8, 9, 10, 11, 12, 13, 14, 15, 16, 17, 18, 19] (by decide +kernel) (by decide +kernel)
set_option maxRecDepth 20000 in
theorem gX2_nextDigit_X2_nextCharacter : GoodIn wsX2_nextDigit (wsV RX2 30 RX2 yX2_nextCharacter wsX2_nextCharacter) := goodIn_app (goodIn_of _ (by decide +kernel)) ggX2_nextDigit_X2_nextCharacter
theorem dX2_nextDigit_0 : decode cX2_nextDigit 0 = .ok (.aload_n 0, 1) := by decide +kernel
theorem dX2_nextDigit_1 : decode cX2_nextDigit 1 = .ok (.invokevirtual 30, 3) := by decide +kernel
theorem dX2_nextDigit_4 : decode cX2_nextDigit 4 = .ok (.istore_n 1, 1) := by decide +kernel
theorem dX2_nextDigit_5 : decode cX2_nextDigit 5 = .ok (.iload_n 1, 1) := by decide +kernel
theorem dX2_nextDigit_6 : decode cX2_nextDigit 6 = .ok (.bipush 48, 2) := by decide +kernel
theorem dX2_nextDigit_8 : decode cX2_nextDigit 8 = .ok (.if_icmp .lt 16, 3) := by decide +kernel
theorem dX2_nextDigit_11 : decode cX2_nextDigit 11 = .ok (.iload_n 1, 1) := by decide +kernel
theorem dX2_nextDigit_12 : decode cX2_nextDigit 12 = .ok (.bipush 57, 2) := by decide +kernel
theorem dX2_nextDigit_14 : decode cX2_nextDigit 14 = .ok (.if_icmp .gt 10, 3) := by decide +kernel
theorem dX2_nextDigit_17 : decode cX2_nextDigit 17 = .ok (.iload_n 1, 1) := by decide +kernel
theorem dX2_nextDigit_18 : decode cX2_nextDigit 18 = .ok (.bipush 48, 2) := by decide +kernel
theorem dX2_nextDigit_20 : decode cX2_nextDigit 20 = .ok (.isub, 1) := by decide +kernel
theorem dX2_nextDigit_21 : decode cX2_nextDigit 21 = .ok (.goto 5, 3) := by decide +kernel
theorem dX2_nextDigit_24 : decode cX2_nextDigit 24 = .ok (.bipush (-6), 2) := by decide +kernel
theorem dX2_nextDigit_26 : decode cX2_nextDigit 26 = .ok (.ireturn, 1) := by decide +kernel
set_option maxRecDepth 20000 in
theorem ggX2_takeSign_X2_nextCharacter : GoodIn wsX2_takeSign wsX2_nextCharacter := goodIn_r _ [6, 1, 7, 8, 9, 10, 11, 12, 13, 14, 15, 16, 17, 18, 19] (by decide +kernel) (by decide +kernel)
set_option maxRecDepth 20000 in
theorem gX2_takeSign_X2_nextCharacter : GoodIn wsX2_takeSign (wsV RX2 30 RX2 yX2_nextCharacter wsX2_nextCharacter) := goodIn_app (goodIn_of _ (by decide +kernel)) ggX2_takeSign_X2_nextCharacter
theorem dX2_takeSign_0 : decode cX2_takeSign 0 = .ok (.aload_n 0, 1) := by decide +kernel
theorem dX2_takeSign_1 : decode cX2_takeSign 1 = .ok (.invokevirtual 30, 3) := by decide +kernel
theorem dX2_takeSign_4 : decode cX2_takeSign 4 = .ok (.iload_n 1, 1) := by decide +kernel
theorem dX2_takeSign_5 : decode cX2_takeSign 5 = .ok (.if_icmp .eq 5, 3) := by decide +kernel
theorem dX2_takeSign_8 : decode cX2_takeSign 8 = .ok (.iconst 0, 1) := by decide +kernel
theorem dX2_takeSign_9 : decode cX2_takeSign 9 = .ok (.ireturn, 1) := by decide +kernel
theorem dX2_takeSign_10 : decode cX2_takeSign 10 = .ok (.aload_n 0, 1) := by decide +kernel
theorem dX2_takeSign_11 : decode cX2_takeSign 11 = .ok (.dup, 1) := by decide +kernel
theorem dX2_takeSign_12 : decode cX2_takeSign 12 = .ok (.getfield 19, 3) := by decide +kernel
theorem dX2_takeSign_15 : decode cX2_takeSign 15 = .ok (.iconst 1, 1) := by decide +kernel
theorem dX2_takeSign_16 : decode cX2_takeSign 16 = .ok (.iadd, 1) := by decide +kernel
theorem dX2_takeSign_17 : decode cX2_takeSign 17 = .ok (.putfield 19, 3) := by decide +kernel
theorem dX2_takeSign_20 : decode cX2_takeSign 20 = .ok (.iconst 1, 1) := by decide +kernel
theorem dX2_takeSign_21 : decode cX2_takeSign 21 = .ok (.ireturn, 1) := by decide +kernel
theorem dX2_nextCharacter_0 : decode cX2_nextCharacter 0 = .ok (.aload_n 0, 1) := by decide +kernel
theorem dX2_nextCharacter_1 : decode cX2_nextCharacter 1 = .ok (.getfield 19, 3) := by decide +kernel
theorem dX2_nextCharacter_4 : decode cX2_nextCharacter 4 = .ok (.ifCond .lt 26, 3) := by decide +kernel
theorem dX2_nextCharacter_7 : decode cX2_nextCharacter 7 = .ok (.aload_n 0, 1) := by decide +kernel
theorem dX2_nextCharacter_8 : decode cX2_nextCharacter 8 = .ok (.getfield 19, 3) := by decide +kernel
theorem dX2_nextCharacter_11 : decode cX2_nextCharacter 11 = .ok (.aload_n 0, 1) := by decide +kernel
theorem dX2_nextCharacter_12 : decode cX2_nextCharacter 12 = .ok (.getfield 15, 3) := by decide +kernel
theorem dX2_nextCharacter_15 : decode cX2_nextCharacter 15 = .ok (.if_icmp .ge 15, 3) := by decide +kernel
theorem dX2_nextCharacter_18 : decode cX2_nextCharacter 18 = .ok (.aload_n 0, 1) := by decide +kernel
theorem dX2_nextCharacter_19 : decode cX2_nextCharacter 19 = .ok (.getfield 9, 3) := by decide +kernel
theorem dX2_nextCharacter_22 : decode cX2_nextCharacter 22 = .ok (.aload_n 0, 1) := by decide +kernel
theorem dX2_nextCharacter_23 : decode cX2_nextCharacter 23 = .ok (.getfield 19, 3) := by decide +kernel
theorem dX2_nextCharacter_26 : decode cX2_nextCharacter 26 = .ok (.caload, 1) := by decide +kernel
theorem dX2_nextCharacter_27 : decode cX2_nextCharacter 27 = .ok (.goto 4, 3) := by decide +kernel
theorem dX2_nextCharacter_30 : decode cX2_nextCharacter 30 = .ok (.iconst 0, 1) := by decide +kernel
theorem dX2_nextCharacter_31 : decode cX2_nextCharacter 31 = .ok (.ireturn, 1) := by decide +kernel
theorem dX3_init_0 : decode cX3_init 0 = .ok (.aload_n 0, 1) := by decide +kernel
theorem dX3_init_1 : decode cX3_init 1 = .ok (.invokespecial 3, 3) := by decide +kernel
theorem dX3_init_4 : decode cX3_init 4 = .ok (.aload_n 0, 1) := by decide +kernel
theorem dX3_init_5 : decode cX3_init 5 = .ok (.iconst 3, 1) := by decide +kernel
theorem dX3_init_6 : decode cX3_init 6 = .ok (.newarray .int, 2) := by decide +kernel
theorem dX3_init_8 : decode cX3_init 8 = .ok (.dup, 1) := by decide +kernel
theorem dX3_init_9 : decode cX3_init 9 = .ok (.iconst 0, 1) := by decide +kernel
theorem dX3_init_10 : decode cX3_init 10 = .ok (.bipush 60, 2) := by decide +kernel
theorem dX3_init_12 : decode cX3_init 12 = .ok (.iastore, 1) := by decide +kernel
theorem dX3_init_13 : decode cX3_init 13 = .ok (.dup, 1) := by decide +kernel
theorem dX3_init_14 : decode cX3_init 14 = .ok (.iconst 1, 1) := by decide +kernel
theorem dX3_init_15 : decode cX3_init 15 = .ok (.bipush 30, 2) := by decide +kernel
theorem dX3_init_17 : decode cX3_init 17 = .ok (.iastore, 1) := by decide +kernel
theorem dX3_init_18 : decode cX3_init 18 = .ok (.dup, 1) := by decide +kernel
theorem dX3_init_19 : decode cX3_init 19 = .ok (.iconst 2, 1) := by decide +kernel
theorem dX3_init_20 : decode cX3_init 20 = .ok (.iconst 3, 1) := by decide +kernel
theorem dX3_init_21 : decode cX3_init 21 = .ok (.iastore, 1) := by decide +kernel
theorem dX3_init_22 : decode cX3_init 22 = .ok (.putfield 9, 3) := by decide +kernel
theorem dX3_init_25 : decode cX3_init 25 = .ok (.aload_n 0, 1) := by decide +kernel
theorem dX3_init_26 : decode cX3_init 26 = .ok (.bipush 16, 2) := by decide +kernel
theorem dX3_init_28 : decode cX3_init 28 = .ok (.newarray .int, 2) := by decide +kernel
theorem dX3_init_30 : decode cX3_init 30 = .ok (.putfield 15, 3) := by decide +kernel
theorem dX3_init_33 : decode cX3_init 33 = .ok (.aload_n 0, 1) := by decide +kernel
theorem dX3_init_34 : decode cX3_init 34 = .ok (.bipush 16, 2) := by decide +kernel
theorem dX3_init_36 : decode cX3_init 36 = .ok (.newarray .int, 2) := by decide +kernel
theorem dX3_init_38 : decode cX3_init 38 = .ok (.putfield 18, 3) := by decide +kernel
theorem dX3_init_41 : decode cX3_init 41 = .ok (.aload_n 0, 1) := by decide +kernel
theorem dX3_init_42 : decode cX3_init 42 = .ok (.bipush 16, 2) := by decide +kernel
theorem dX3_init_44 : decode cX3_init 44 = .ok (.newarray .int, 2) := by decide +kernel
theorem dX3_init_46 : decode cX3_init 46 = .ok (.putfield 21, 3) := by decide +kernel
theorem dX3_init_49 : decode cX3_init 49 = .ok (.aload_n 0, 1) := by decide +kernel
theorem dX3_init_50 : decode cX3_init 50 = .ok (.bipush 17, 2) := by decide +kernel
theorem dX3_init_52 : decode cX3_init 52 = .ok (.newarray .int, 2) := by decide +kernel
theorem dX3_init_54 : decode cX3_init 54 = .ok (.putfield 24, 3) := by decide +kernel
theorem dX3_init_57 : decode cX3_init 57 = .ok (.aload_n 0, 1) := by decide +kernel
theorem dX3_init_58 : decode cX3_init 58 = .ok (.sipush 2464, 3) := by decide +kernel
theorem dX3_init_61 : decode cX3_init 61 = .ok (.newarray .int, 2) := by decide +kernel
theorem dX3_init_63 : decode cX3_init 63 = .ok (.putfield 27, 3) := by decide +kernel
theorem dX3_init_66 : decode cX3_init 66 = .ok (.aload_n 0, 1) := by decide +kernel
theorem dX3_init_67 : decode cX3_init 67 = .ok (.sipush 2464, 3) := by decide +kernel
theorem dX3_init_70 : decode cX3_init 70 = .ok (.newarray .int, 2) := by decide +kernel
theorem dX3_init_72 : decode cX3_init 72 = .ok (.putfield 30, 3) := by decide +kernel
theorem dX3_init_75 : decode cX3_init 75 = .ok (.aload_n 0, 1) := by decide +kernel
theorem dX3_init_76 : decode cX3_init 76 = .ok (.sipush 2464, 3) := by decide +kernel
theorem dX3_init_79 : decode cX3_init 79 = .ok (.newarray .int, 2) := by decide +kernel
theorem dX3_init_81 : decode cX3_init 81 = .ok (.putfield 33, 3) := by decide +kernel
theorem dX3_init_84 : decode cX3_init 84 = .ok (.return_, 1) := by decide +kernel
set_option maxRecDepth 20000 in
theorem ggX3_copyFrom_X3_cells : GoodIn wsX3_copyFrom wsX3_cells := goodIn_r _ [18, 10, 1, 19, 20, 21, 22, 23, 24, 25, 26, 27] (by decide +kernel) (by decide +kernel)
set_option maxRecDepth 20000 in
theorem gX3_copyFrom_X3_cells : GoodIn wsX3_copyFrom (wsV RX3 46 RX3 yX3_cells wsX3_cells) := goodIn_app (goodIn_of _ (by decide +kernel)) ggX3_copyFrom_X3_cells
theorem dX3_copyFrom_0 : decode cX3_copyFrom 0 = .ok (.aload_n 0, 1) := by decide +kernel
theorem dX3_copyFrom_1 : decode cX3_copyFrom 1 = .ok (.aload_n 1, 1) := by decide +kernel
theorem dX3_copyFrom_2 : decode cX3_copyFrom 2 = .ok (.getfield 36, 3) := by decide +kernel
theorem dX3_copyFrom_5 : decode cX3_copyFrom 5 = .ok (.putfield 36, 3) := by decide +kernel
theorem dX3_copyFrom_8 : decode cX3_copyFrom 8 = .ok (.aload_n 1, 1) := by decide +kernel
theorem dX3_copyFrom_9 : decode cX3_copyFrom 9 = .ok (.getfield 9, 3) := by decide +kernel
theorem dX3_copyFrom_12 : decode cX3_copyFrom 12 = .ok (.iconst 0, 1) := by decide +kernel
theorem dX3_copyFrom_13 : decode cX3_copyFrom 13 = .ok (.aload_n 0, 1) := by decide +kernel
theorem dX3_copyFrom_14 : decode cX3_copyFrom 14 = .ok (.getfield 9, 3) := by decide +kernel
theorem dX3_copyFrom_17 : decode cX3_copyFrom 17 = .ok (.iconst 0, 1) := by decide +kernel
theorem dX3_copyFrom_18 : decode cX3_copyFrom 18 = .ok (.iconst 3, 1) := by decide +kernel
theorem dX3_copyFrom_19 : decode cX3_copyFrom 19 = .ok (.invokestatic 40, 3) := by decide +kernel
theorem dX3_copyFrom_22 : decode cX3_copyFrom 22 = .ok (.aload_n 1, 1) := by decide +kernel
theorem dX3_copyFrom_23 : decode cX3_copyFrom 23 = .ok (.getfield 15, 3) := by decide +kernel
theorem dX3_copyFrom_26 : decode cX3_copyFrom 26 = .ok (.iconst 0, 1) := by decide +kernel
theorem dX3_copyFrom_27 : decode cX3_copyFrom 27 = .ok (.aload_n 0, 1) := by decide +kernel
theorem dX3_copyFrom_28 : decode cX3_copyFrom 28 = .ok (.getfield 15, 3) := by decide +kernel
theorem dX3_copyFrom_31 : decode cX3_copyFrom 31 = .ok (.iconst 0, 1) := by decide +kernel
theorem dX3_copyFrom_32 : decode cX3_copyFrom 32 = .ok (.bipush 16, 2) := by decide +kernel
theorem dX3_copyFrom_34 : decode cX3_copyFrom 34 = .ok (.invokestatic 40, 3) := by decide +kernel
theorem dX3_copyFrom_37 : decode cX3_copyFrom 37 = .ok (.aload_n 1, 1) := by decide +kernel
theorem dX3_copyFrom_38 : decode cX3_copyFrom 38 = .ok (.getfield 18, 3) := by decide +kernel
theorem dX3_copyFrom_41 : decode cX3_copyFrom 41 = .ok (.iconst 0, 1) := by decide +kernel
theorem dX3_copyFrom_42 : decode cX3_copyFrom 42 = .ok (.aload_n 0, 1) := by decide +kernel
theorem dX3_copyFrom_43 : decode cX3_copyFrom 43 = .ok (.getfield 18, 3) := by decide +kernel
theorem dX3_copyFrom_46 : decode cX3_copyFrom 46 = .ok (.iconst 0, 1) := by decide +kernel
theorem dX3_copyFrom_47 : decode cX3_copyFrom 47 = .ok (.bipush 16, 2) := by decide +kernel
theorem dX3_copyFrom_49 : decode cX3_copyFrom 49 = .ok (.invokestatic 40, 3) := by decide +kernel
theorem dX3_copyFrom_52 : decode cX3_copyFrom 52 = .ok (.aload_n 1, 1) := by decide +kernel
theorem dX3_copyFrom_53 : decode cX3_copyFrom 53 = .ok (.getfield 21, 3) := by decide +kernel
theorem dX3_copyFrom_56 : decode cX3_copyFrom 56 = .ok (.iconst 0, 1) := by decide +kernel
theorem dX3_copyFrom_57 : decode cX3_copyFrom 57 = .ok (.aload_n 0, 1) := by decide +kernel
theorem dX3_copyFrom_58 : decode cX3_copyFrom 58 = .ok (.getfield 21, 3) := by decide +kernel
theorem dX3_copyFrom_61 : decode cX3_copyFrom 61 = .ok (.iconst 0, 1) := by decide +kernel
theorem dX3_copyFrom_62 : decode cX3_copyFrom 62 = .ok (.bipush 16, 2) := by decide +kernel
theorem dX3_copyFrom_64 : decode cX3_copyFrom 64 = .ok (.invokestatic 40, 3) := by decide +kernel
theorem dX3_copyFrom_67 : decode cX3_copyFrom 67 = .ok (.aload_n 1, 1) := by decide +kernel
theorem dX3_copyFrom_68 : decode cX3_copyFrom 68 = .ok (.getfield 24, 3) := by decide +kernel
theorem dX3_copyFrom_71 : decode cX3_copyFrom 71 = .ok (.iconst 0, 1) := by decide +kernel
theorem dX3_copyFrom_72 : decode cX3_copyFrom 72 = .ok (.aload_n 0, 1) := by decide +kernel
theorem dX3_copyFrom_73 : decode cX3_copyFrom 73 = .ok (.getfield 24, 3) := by decide +kernel
theorem dX3_copyFrom_76 : decode cX3_copyFrom 76 = .ok (.iconst 0, 1) := by decide +kernel
theorem dX3_copyFrom_77 : decode cX3_copyFrom 77 = .ok (.bipush 17, 2) := by decide +kernel
theorem dX3_copyFrom_79 : decode cX3_copyFrom 79 = .ok (.invokestatic 40, 3) := by decide +kernel
theorem dX3_copyFrom_82 : decode cX3_copyFrom 82 = .ok (.aload_n 0, 1) := by decide +kernel
theorem dX3_copyFrom_83 : decode cX3_copyFrom 83 = .ok (.invokevirtual 46, 3) := by decide +kernel
theorem dX3_copyFrom_86 : decode cX3_copyFrom 86 = .ok (.istore_n 2, 1) := by decide +kernel
theorem dX3_copyFrom_87 : decode cX3_copyFrom 87 = .ok (.aload_n 1, 1) := by decide +kernel
theorem dX3_copyFrom_88 : decode cX3_copyFrom 88 = .ok (.getfield 27, 3) := by decide +kernel
theorem dX3_copyFrom_91 : decode cX3_copyFrom 91 = .ok (.iconst 0, 1) := by decide +kernel
theorem dX3_copyFrom_92 : decode cX3_copyFrom 92 = .ok (.aload_n 0, 1) := by decide +kernel
theorem dX3_copyFrom_93 : decode cX3_copyFrom 93 = .ok (.getfield 27, 3) := by decide +kernel
theorem dX3_copyFrom_96 : decode cX3_copyFrom 96 = .ok (.iconst 0, 1) := by decide +kernel
theorem dX3_copyFrom_97 : decode cX3_copyFrom 97 = .ok (.iload_n 2, 1) := by decide +kernel
theorem dX3_copyFrom_98 : decode cX3_copyFrom 98 = .ok (.invokestatic 40, 3) := by decide +kernel
theorem dX3_copyFrom_101 : decode cX3_copyFrom 101 = .ok (.aload_n 1, 1) := by decide +kernel
theorem dX3_copyFrom_102 : decode cX3_copyFrom 102 = .ok (.getfield 30, 3) := by decide +kernel
theorem dX3_copyFrom_105 : decode cX3_copyFrom 105 = .ok (.iconst 0, 1) := by decide +kernel
theorem dX3_copyFrom_106 : decode cX3_copyFrom 106 = .ok (.aload_n 0, 1) := by decide +kernel
theorem dX3_copyFrom_107 : decode cX3_copyFrom 107 = .ok (.getfield 30, 3) := by decide +kernel
theorem dX3_copyFrom_110 : decode cX3_copyFrom 110 = .ok (.iconst 0, 1) := by decide +kernel
theorem dX3_copyFrom_111 : decode cX3_copyFrom 111 = .ok (.iload_n 2, 1) := by decide +kernel
theorem dX3_copyFrom_112 : decode cX3_copyFrom 112 = .ok (.invokestatic 40, 3) := by decide +kernel
theorem dX3_copyFrom_115 : decode cX3_copyFrom 115 = .ok (.aload_n 1, 1) := by decide +kernel
theorem dX3_copyFrom_116 : decode cX3_copyFrom 116 = .ok (.getfield 33, 3) := by decide +kernel
theorem dX3_copyFrom_119 : decode cX3_copyFrom 119 = .ok (.iconst 0, 1) := by decide +kernel
theorem dX3_copyFrom_120 : decode cX3_copyFrom 120 = .ok (.aload_n 0, 1) := by decide +kernel
theorem dX3_copyFrom_121 : decode cX3_copyFrom 121 = .ok (.getfield 33, 3) := by decide +kernel
theorem dX3_copyFrom_124 : decode cX3_copyFrom 124 = .ok (.iconst 0, 1) := by decide +kernel
theorem dX3_copyFrom_125 : decode cX3_copyFrom 125 = .ok (.iload_n 2, 1) := by decide +kernel
theorem dX3_copyFrom_126 : decode cX3_copyFrom 126 = .ok (.invokestatic 40, 3) := by decide +kernel
theorem dX3_copyFrom_129 : decode cX3_copyFrom 129 = .ok (.return_, 1) := by decide +kernel
theorem dX3_hasBlock_0 : decode cX3_hasBlock 0 = .ok (.iload_n 1, 1) := by decide +kernel
theorem dX3_hasBlock_1 : decode cX3_hasBlock 1 = .ok (.ifCond .lt 15, 3) := by decide +kernel
theorem dX3_hasBlock_4 : decode cX3_hasBlock 4 = .ok (.iload_n 1, 1) := by decide +kernel
theorem dX3_hasBlock_5 : decode cX3_hasBlock 5 = .ok (.aload_n 0, 1) := by decide +kernel
theorem dX3_hasBlock_6 : decode cX3_hasBlock 6 = .ok (.getfield 36, 3) := by decide +kernel
theorem dX3_hasBlock_9 : decode cX3_hasBlock 9 = .ok (.if_icmp .ge 7, 3) := by decide +kernel
theorem dX3_hasBlock_12 : decode cX3_hasBlock 12 = .ok (.iconst 1, 1) := by decide +kernel
theorem dX3_hasBlock_13 : decode cX3_hasBlock 13 = .ok (.goto 4, 3) := by decide +kernel
theorem dX3_hasBlock_16 : decode cX3_hasBlock 16 = .ok (.iconst 0, 1) := by decide +kernel
theorem dX3_hasBlock_17 : decode cX3_hasBlock 17 = .ok (.ireturn, 1) := by decide +kernel
theorem dX3_cells_0 : decode cX3_cells 0 = .ok (.aload_n 0, 1) := by decide +kernel
theorem dX3_cells_1 : decode cX3_cells 1 = .ok (.getfield 24, 3) := by decide +kernel
theorem dX3_cells_4 : decode cX3_cells 4 = .ok (.aload_n 0, 1) := by decide +kernel
theorem dX3_cells_5 : decode cX3_cells 5 = .ok (.getfield 36, 3) := by decide +kernel
theorem dX3_cells_8 : decode cX3_cells 8 = .ok (.iaload, 1) := by decide +kernel
theorem dX3_cells_9 : decode cX3_cells 9 = .ok (.ireturn, 1) := by decide +kernel
set_option maxRecDepth 20000 in
theorem ggX3_hasCell_X3_cells : GoodIn wsX3_hasCell wsX3_cells := goodIn_r _ [5, 6, 7, 8, 9, 10, 11, 12, 13, 14, 15, 16] (by decide +kernel) (by decide +kernel)
set_option maxRecDepth 20000 in
theorem gX3_hasCell_X3_cells : GoodIn wsX3_hasCell (wsV RX3 46 RX3 yX3_cells wsX3_cells) := goodIn_app (goodIn_of _ (by decide +kernel)) ggX3_hasCell_X3_cells
theorem dX3_hasCell_0 : decode cX3_hasCell 0 = .ok (.iload_n 1, 1) := by decide +kernel
theorem dX3_hasCell_1 : decode cX3_hasCell 1 = .ok (.ifCond .lt 15, 3) := by decide +kernel
theorem dX3_hasCell_4 : decode cX3_hasCell 4 = .ok (.iload_n 1, 1) := by decide +kernel
theorem dX3_hasCell_5 : decode cX3_hasCell 5 = .ok (.aload_n 0, 1) := by decide +kernel
theorem dX3_hasCell_6 : decode cX3_hasCell 6 = .ok (.invokevirtual 46, 3) := by decide +kernel
theorem dX3_hasCell_9 : decode cX3_hasCell 9 = .ok (.if_icmp .ge 7, 3) := by decide +kernel
theorem dX3_hasCell_12 : decode cX3_hasCell 12 = .ok (.iconst 1, 1) := by decide +kernel
theorem dX3_hasCell_13 : decode cX3_hasCell 13 = .ok (.goto 4, 3) := by decide +kernel
theorem dX3_hasCell_16 : decode cX3_hasCell 16 = .ok (.iconst 0, 1) := by decide +kernel
theorem dX3_hasCell_17 : decode cX3_hasCell 17 = .ok (.ireturn, 1) := by decide +kernel
theorem dX3_tellingCells_0 : decode cX3_tellingCells 0 = .ok (.iconst 4, 1) := by decide +kernel
theorem dX3_tellingCells_1 : decode cX3_tellingCells 1 = .ok (.aload_n 0, 1) := by decide +kernel
theorem dX3_tellingCells_2 : decode cX3_tellingCells 2 = .ok (.getfield 21, 3) := by decide +kernel
theorem dX3_tellingCells_5 : decode cX3_tellingCells 5 = .ok (.iload_n 1, 1) := by decide +kernel
theorem dX3_tellingCells_6 : decode cX3_tellingCells 6 = .ok (.iaload, 1) := by decide +kernel
theorem dX3_tellingCells_7 : decode cX3_tellingCells 7 = .ok (.iconst 1, 1) := by decide +kernel
theorem dX3_tellingCells_8 : decode cX3_tellingCells 8 = .ok (.iadd, 1) := by decide +kernel
theorem dX3_tellingCells_9 : decode cX3_tellingCells 9 = .ok (.bipush 9, 2) := by decide +kernel
theorem dX3_tellingCells_11 : decode cX3_tellingCells 11 = .ok (.imul, 1) := by decide +kernel
theorem dX3_tellingCells_12 : decode cX3_tellingCells 12 = .ok (.iadd, 1) := by decide +kernel
theorem dX3_tellingCells_13 : decode cX3_tellingCells 13 = .ok (.ireturn, 1) := by decide +kernel
set_option maxRecDepth 20000 in
theorem ggX3_errorOfBlock_X3_hasBlock : GoodIn wsX3_errorOfBlock wsX3_hasBlock := goodIn_r _ [6, 1, 7, 8, 9, 10, 11, 12, 13, 14, 15] (by decide +kernel) (by decide +kernel)
set_option maxRecDepth 20000 in
theorem gX3_errorOfBlock_X3_hasBlock : GoodIn wsX3_errorOfBlock (wsV RX3 50 RX3 yX3_hasBlock wsX3_hasBlock) := goodIn_app (goodIn_of _ (by decide +kernel)) ggX3_errorOfBlock_X3_hasBlock
theorem dX3_errorOfBlock_0 : decode cX3_errorOfBlock 0 = .ok (.iload_n 2, 1) := by decide +kernel
theorem dX3_errorOfBlock_1 : decode cX3_errorOfBlock 1 = .ok (.bipush (-6), 2) := by decide +kernel
theorem dX3_errorOfBlock_3 : decode cX3_errorOfBlock 3 = .ok (.if_icmp .eq 13, 3) := by decide +kernel
theorem dX3_errorOfBlock_6 : decode cX3_errorOfBlock 6 = .ok (.aload_n 0, 1) := by decide +kernel
theorem dX3_errorOfBlock_7 : decode cX3_errorOfBlock 7 = .ok (.iload_n 2, 1) := by decide +kernel
theorem dX3_errorOfBlock_8 : decode cX3_errorOfBlock 8 = .ok (.invokevirtual 50, 3) := by decide +kernel
theorem dX3_errorOfBlock_11 : decode cX3_errorOfBlock 11 = .ok (.ifCond .ne 5, 3) := by decide +kernel
theorem dX3_errorOfBlock_14 : decode cX3_errorOfBlock 14 = .ok (.iconst (-1), 1) := by decide +kernel
theorem dX3_errorOfBlock_15 : decode cX3_errorOfBlock 15 = .ok (.ireturn, 1) := by decide +kernel
theorem dX3_errorOfBlock_16 : decode cX3_errorOfBlock 16 = .ok (.iload_n 1, 1) := by decide +kernel
theorem dX3_errorOfBlock_17 : decode cX3_errorOfBlock 17 = .ok (.ifCond .lt 20, 3) := by decide +kernel
theorem dX3_errorOfBlock_20 : decode cX3_errorOfBlock 20 = .ok (.iload_n 1, 1) := by decide +kernel
theorem dX3_errorOfBlock_21 : decode cX3_errorOfBlock 21 = .ok (.bipush 99, 2) := by decide +kernel
theorem dX3_errorOfBlock_23 : decode cX3_errorOfBlock 23 = .ok (.if_icmp .gt 14, 3) := by decide +kernel
theorem dX3_errorOfBlock_26 : decode cX3_errorOfBlock 26 = .ok (.iload_n 3, 1) := by decide +kernel
theorem dX3_errorOfBlock_27 : decode cX3_errorOfBlock 27 = .ok (.iconst 1, 1) := by decide +kernel
theorem dX3_errorOfBlock_28 : decode cX3_errorOfBlock 28 = .ok (.if_icmp .lt 9, 3) := by decide +kernel
theorem dX3_errorOfBlock_31 : decode cX3_errorOfBlock 31 = .ok (.iload_n 3, 1) := by decide +kernel
theorem dX3_errorOfBlock_32 : decode cX3_errorOfBlock 32 = .ok (.bipush 7, 2) := by decide +kernel
theorem dX3_errorOfBlock_34 : decode cX3_errorOfBlock 34 = .ok (.if_icmp .le 6, 3) := by decide +kernel
theorem dX3_errorOfBlock_37 : decode cX3_errorOfBlock 37 = .ok (.bipush (-2), 2) := by decide +kernel
theorem dX3_errorOfBlock_39 : decode cX3_errorOfBlock 39 = .ok (.ireturn, 1) := by decide +kernel
theorem dX3_errorOfBlock_40 : decode cX3_errorOfBlock 40 = .ok (.aload_n 0, 1) := by decide +kernel
theorem dX3_errorOfBlock_41 : decode cX3_errorOfBlock 41 = .ok (.getfield 36, 3) := by decide +kernel
theorem dX3_errorOfBlock_44 : decode cX3_errorOfBlock 44 = .ok (.bipush 16, 2) := by decide +kernel
theorem dX3_errorOfBlock_46 : decode cX3_errorOfBlock 46 = .ok (.if_icmp .lt 8, 3) := by decide +kernel
theorem dX3_errorOfBlock_49 : decode cX3_errorOfBlock 49 = .ok (.bipush (-4), 2) := by decide +kernel
theorem dX3_errorOfBlock_51 : decode cX3_errorOfBlock 51 = .ok (.goto 4, 3) := by decide +kernel
theorem dX3_errorOfBlock_54 : decode cX3_errorOfBlock 54 = .ok (.iconst 0, 1) := by decide +kernel
theorem dX3_errorOfBlock_55 : decode cX3_errorOfBlock 55 = .ok (.ireturn, 1) := by decide +kernel
set_option maxRecDepth 20000 in
theorem ggX3_appendBlock_X3_tellingCells : GoodIn wsX3_appendBlock wsX3_tellingCells := goodIn_r _ [13, 4, 30, 31, 32, 33, 34, 35, 36, 37, 38] (by decide +kernel) (by decide +kernel)
set_option maxRecDepth 20000 in
theorem gX3_appendBlock_X3_tellingCells : GoodIn wsX3_appendBlock (wsV RX3 54 RX3 yX3_tellingCells wsX3_tellingCells) := goodIn_app (goodIn_of _ (by decide +kernel)) ggX3_appendBlock_X3_tellingCells
set_option maxRecDepth 20000 in
theorem ggX3_appendBlock_X3_writeTelling : GoodIn wsX3_appendBlock wsX3_writeTelling := goodIn_r _ [17, 18, 19, 20, 12, 21, 22, 23, 24, 25, 26, 27, 28, 29, 30, 31, 32, 33, 34, 35, 36, 37, 38] (by decide +kernel) (by decide +kernel)
set_option maxRecDepth 20000 in
theorem gX3_appendBlock_X3_writeTelling : GoodIn wsX3_appendBlock (wsV RX3 58 RX3 yX3_writeTelling wsX3_writeTelling) := goodIn_app (goodIn_of _ (by decide +kernel)) ggX3_appendBlock_X3_writeTelling
theorem dX3_appendBlock_0 : decode cX3_appendBlock 0 = .ok (.aload_n 0, 1) := by decide +kernel
theorem dX3_appendBlock_1 : decode cX3_appendBlock 1 = .ok (.getfield 36, 3) := by decide +kernel
theorem dX3_appendBlock_4 : decode cX3_appendBlock 4 = .ok (.istore 6, 2) := by decide +kernel
theorem dX3_appendBlock_6 : decode cX3_appendBlock 6 = .ok (.aload_n 0, 1) := by decide +kernel
theorem dX3_appendBlock_7 : decode cX3_appendBlock 7 = .ok (.getfield 15, 3) := by decide +kernel
theorem dX3_appendBlock_10 : decode cX3_appendBlock 10 = .ok (.iload 6, 2) := by decide +kernel
theorem dX3_appendBlock_12 : decode cX3_appendBlock 12 = .ok (.iload_n 1, 1) := by decide +kernel
theorem dX3_appendBlock_13 : decode cX3_appendBlock 13 = .ok (.iastore, 1) := by decide +kernel
theorem dX3_appendBlock_14 : decode cX3_appendBlock 14 = .ok (.aload_n 0, 1) := by decide +kernel
theorem dX3_appendBlock_15 : decode cX3_appendBlock 15 = .ok (.getfield 18, 3) := by decide +kernel
theorem dX3_appendBlock_18 : decode cX3_appendBlock 18 = .ok (.iload 6, 2) := by decide +kernel
theorem dX3_appendBlock_20 : decode cX3_appendBlock 20 = .ok (.iload_n 2, 1) := by decide +kernel
theorem dX3_appendBlock_21 : decode cX3_appendBlock 21 = .ok (.iastore, 1) := by decide +kernel
theorem dX3_appendBlock_22 : decode cX3_appendBlock 22 = .ok (.aload_n 0, 1) := by decide +kernel
theorem dX3_appendBlock_23 : decode cX3_appendBlock 23 = .ok (.getfield 21, 3) := by decide +kernel
theorem dX3_appendBlock_26 : decode cX3_appendBlock 26 = .ok (.iload 6, 2) := by decide +kernel
theorem dX3_appendBlock_28 : decode cX3_appendBlock 28 = .ok (.iload_n 3, 1) := by decide +kernel
theorem dX3_appendBlock_29 : decode cX3_appendBlock 29 = .ok (.iastore, 1) := by decide +kernel
theorem dX3_appendBlock_30 : decode cX3_appendBlock 30 = .ok (.aload_n 0, 1) := by decide +kernel
theorem dX3_appendBlock_31 : decode cX3_appendBlock 31 = .ok (.getfield 24, 3) := by decide +kernel
theorem dX3_appendBlock_34 : decode cX3_appendBlock 34 = .ok (.iload 6, 2) := by decide +kernel
theorem dX3_appendBlock_36 : decode cX3_appendBlock 36 = .ok (.iaload, 1) := by decide +kernel
theorem dX3_appendBlock_37 : decode cX3_appendBlock 37 = .ok (.istore 7, 2) := by decide +kernel
theorem dX3_appendBlock_39 : decode cX3_appendBlock 39 = .ok (.aload_n 0, 1) := by decide +kernel
theorem dX3_appendBlock_40 : decode cX3_appendBlock 40 = .ok (.iload 6, 2) := by decide +kernel
theorem dX3_appendBlock_42 : decode cX3_appendBlock 42 = .ok (.invokevirtual 54, 3) := by decide +kernel
theorem dX3_appendBlock_45 : decode cX3_appendBlock 45 = .ok (.istore 8, 2) := by decide +kernel
theorem dX3_appendBlock_47 : decode cX3_appendBlock 47 = .ok (.iload 7, 2) := by decide +kernel
theorem dX3_appendBlock_49 : decode cX3_appendBlock 49 = .ok (.iconst 2, 1) := by decide +kernel
theorem dX3_appendBlock_50 : decode cX3_appendBlock 50 = .ok (.iload 8, 2) := by decide +kernel
theorem dX3_appendBlock_52 : decode cX3_appendBlock 52 = .ok (.imul, 1) := by decide +kernel
theorem dX3_appendBlock_53 : decode cX3_appendBlock 53 = .ok (.iadd, 1) := by decide +kernel
theorem dX3_appendBlock_54 : decode cX3_appendBlock 54 = .ok (.iconst 2, 1) := by decide +kernel
theorem dX3_appendBlock_55 : decode cX3_appendBlock 55 = .ok (.iadd, 1) := by decide +kernel
theorem dX3_appendBlock_56 : decode cX3_appendBlock 56 = .ok (.istore 9, 2) := by decide +kernel
theorem dX3_appendBlock_58 : decode cX3_appendBlock 58 = .ok (.iload 7, 2) := by decide +kernel
theorem dX3_appendBlock_60 : decode cX3_appendBlock 60 = .ok (.istore 10, 2) := by decide +kernel
theorem dX3_appendBlock_62 : decode cX3_appendBlock 62 = .ok (.iload 10, 2) := by decide +kernel
theorem dX3_appendBlock_64 : decode cX3_appendBlock 64 = .ok (.iload 9, 2) := by decide +kernel
theorem dX3_appendBlock_66 : decode cX3_appendBlock 66 = .ok (.if_icmp .ge 30, 3) := by decide +kernel
theorem dX3_appendBlock_69 : decode cX3_appendBlock 69 = .ok (.aload_n 0, 1) := by decide +kernel
theorem dX3_appendBlock_70 : decode cX3_appendBlock 70 = .ok (.getfield 27, 3) := by decide +kernel
theorem dX3_appendBlock_73 : decode cX3_appendBlock 73 = .ok (.iload 10, 2) := by decide +kernel
theorem dX3_appendBlock_75 : decode cX3_appendBlock 75 = .ok (.aload_n 0, 1) := by decide +kernel
theorem dX3_appendBlock_76 : decode cX3_appendBlock 76 = .ok (.getfield 9, 3) := by decide +kernel
theorem dX3_appendBlock_79 : decode cX3_appendBlock 79 = .ok (.iconst 0, 1) := by decide +kernel
theorem dX3_appendBlock_80 : decode cX3_appendBlock 80 = .ok (.iaload, 1) := by decide +kernel
theorem dX3_appendBlock_81 : decode cX3_appendBlock 81 = .ok (.iastore, 1) := by decide +kernel
theorem dX3_appendBlock_82 : decode cX3_appendBlock 82 = .ok (.aload_n 0, 1) := by decide +kernel
theorem dX3_appendBlock_83 : decode cX3_appendBlock 83 = .ok (.getfield 30, 3) := by decide +kernel
theorem dX3_appendBlock_86 : decode cX3_appendBlock 86 = .ok (.iload 10, 2) := by decide +kernel
theorem dX3_appendBlock_88 : decode cX3_appendBlock 88 = .ok (.iconst 0, 1) := by decide +kernel
theorem dX3_appendBlock_89 : decode cX3_appendBlock 89 = .ok (.iastore, 1) := by decide +kernel
theorem dX3_appendBlock_90 : decode cX3_appendBlock 90 = .ok (.iinc 10 1, 3) := by decide +kernel
theorem dX3_appendBlock_93 : decode cX3_appendBlock 93 = .ok (.goto (-31), 3) := by decide +kernel
theorem dX3_appendBlock_96 : decode cX3_appendBlock 96 = .ok (.iconst 0, 1) := by decide +kernel
theorem dX3_appendBlock_97 : decode cX3_appendBlock 97 = .ok (.istore 10, 2) := by decide +kernel
theorem dX3_appendBlock_99 : decode cX3_appendBlock 99 = .ok (.iload 10, 2) := by decide +kernel
theorem dX3_appendBlock_101 : decode cX3_appendBlock 101 = .ok (.iconst 2, 1) := by decide +kernel
theorem dX3_appendBlock_102 : decode cX3_appendBlock 102 = .ok (.if_icmp .ge 26, 3) := by decide +kernel
theorem dX3_appendBlock_105 : decode cX3_appendBlock 105 = .ok (.aload_n 0, 1) := by decide +kernel
theorem dX3_appendBlock_106 : decode cX3_appendBlock 106 = .ok (.iload 7, 2) := by decide +kernel
theorem dX3_appendBlock_108 : decode cX3_appendBlock 108 = .ok (.iload 10, 2) := by decide +kernel
theorem dX3_appendBlock_110 : decode cX3_appendBlock 110 = .ok (.iload 8, 2) := by decide +kernel
theorem dX3_appendBlock_112 : decode cX3_appendBlock 112 = .ok (.imul, 1) := by decide +kernel
theorem dX3_appendBlock_113 : decode cX3_appendBlock 113 = .ok (.iadd, 1) := by decide +kernel
theorem dX3_appendBlock_114 : decode cX3_appendBlock 114 = .ok (.iconst 4, 1) := by decide +kernel
theorem dX3_appendBlock_115 : decode cX3_appendBlock 115 = .ok (.iadd, 1) := by decide +kernel
theorem dX3_appendBlock_116 : decode cX3_appendBlock 116 = .ok (.iload_n 3, 1) := by decide +kernel
theorem dX3_appendBlock_117 : decode cX3_appendBlock 117 = .ok (.lload 4, 2) := by decide +kernel
theorem dX3_appendBlock_119 : decode cX3_appendBlock 119 = .ok (.invokevirtual 58, 3) := by decide +kernel
theorem dX3_appendBlock_122 : decode cX3_appendBlock 122 = .ok (.iinc 10 1, 3) := by decide +kernel
theorem dX3_appendBlock_125 : decode cX3_appendBlock 125 = .ok (.goto (-26), 3) := by decide +kernel
theorem dX3_appendBlock_128 : decode cX3_appendBlock 128 = .ok (.aload_n 0, 1) := by decide +kernel
theorem dX3_appendBlock_129 : decode cX3_appendBlock 129 = .ok (.getfield 24, 3) := by decide +kernel
theorem dX3_appendBlock_132 : decode cX3_appendBlock 132 = .ok (.iload 6, 2) := by decide +kernel
theorem dX3_appendBlock_134 : decode cX3_appendBlock 134 = .ok (.iconst 1, 1) := by decide +kernel
theorem dX3_appendBlock_135 : decode cX3_appendBlock 135 = .ok (.iadd, 1) := by decide +kernel
theorem dX3_appendBlock_136 : decode cX3_appendBlock 136 = .ok (.iload 9, 2) := by decide +kernel
theorem dX3_appendBlock_138 : decode cX3_appendBlock 138 = .ok (.iastore, 1) := by decide +kernel
theorem dX3_appendBlock_139 : decode cX3_appendBlock 139 = .ok (.aload_n 0, 1) := by decide +kernel
theorem dX3_appendBlock_140 : decode cX3_appendBlock 140 = .ok (.dup, 1) := by decide +kernel
theorem dX3_appendBlock_141 : decode cX3_appendBlock 141 = .ok (.getfield 36, 3) := by decide +kernel
theorem dX3_appendBlock_144 : decode cX3_appendBlock 144 = .ok (.iconst 1, 1) := by decide +kernel
theorem dX3_appendBlock_145 : decode cX3_appendBlock 145 = .ok (.iadd, 1) := by decide +kernel
theorem dX3_appendBlock_146 : decode cX3_appendBlock 146 = .ok (.putfield 36, 3) := by decide +kernel
theorem dX3_appendBlock_149 : decode cX3_appendBlock 149 = .ok (.iload 6, 2) := by decide +kernel
theorem dX3_appendBlock_151 : decode cX3_appendBlock 151 = .ok (.ireturn, 1) := by decide +kernel
