section
-- ===== PART A: goes FIRST, ahead of the names: the tables' words, and 'selects' of the private methods out of them =====
/-- a private method of a class that the tables say can be made, by its rows of tables_1 -/
def lw_okq (q : MethodName × Nat) : Prop := (q.1.cls ≠ "java/lang/invoke/MethodHandle" ∧ q.1.cls ≠ "java/lang/invoke/VarHandle") ∧ Cond.instantiable q.1.cls q.2 ∈ tables_1 ∧ Cond.privateMethod q.1 ∈ tables_1 ∧ Cond.instanceMethod q.1 ∈ tables_1
theorem lw_p0 : lw_okq (⟨"FaceRounds$History", "dropOldest", "()V"⟩, 2) := ⟨⟨by decide +kernel, by decide +kernel⟩, List.mem_of_getElem? (i := 76) (by decide +kernel), List.mem_of_getElem? (i := 181) (by decide +kernel), List.mem_of_getElem? (i := 182) (by decide +kernel)⟩
theorem lw_p1 : lw_okq (⟨"FaceRounds$Reckoning", "reckonRound", "(LFaceRounds$State;II)V"⟩, 6) := ⟨⟨by decide +kernel, by decide +kernel⟩, List.mem_of_getElem? (i := 123) (by decide +kernel), List.mem_of_getElem? (i := 215) (by decide +kernel), List.mem_of_getElem? (i := 216) (by decide +kernel)⟩
theorem lw_p2 : lw_okq (⟨"FaceRounds$State", "ownReason", "(III)I"⟩, 11) := ⟨⟨by decide +kernel, by decide +kernel⟩, List.mem_of_getElem? (i := 19) (by decide +kernel), List.mem_of_getElem? (i := 226) (by decide +kernel), List.mem_of_getElem? (i := 227) (by decide +kernel)⟩
theorem lw_p3 : lw_okq (⟨"FaceRounds$Reckoning", "reckonDirection", "(I)V"⟩, 6) := ⟨⟨by decide +kernel, by decide +kernel⟩, List.mem_of_getElem? (i := 123) (by decide +kernel), List.mem_of_getElem? (i := 264) (by decide +kernel), List.mem_of_getElem? (i := 265) (by decide +kernel)⟩
theorem lw_p4 : lw_okq (⟨"FaceRounds$Reckoning", "reckonLeft", "(I)V"⟩, 6) := ⟨⟨by decide +kernel, by decide +kernel⟩, List.mem_of_getElem? (i := 123) (by decide +kernel), List.mem_of_getElem? (i := 272) (by decide +kernel), List.mem_of_getElem? (i := 273) (by decide +kernel)⟩
theorem lw_p5 : lw_okq (⟨"FaceRounds", "toldDrift", "(I)I"⟩, 6) := ⟨⟨by decide +kernel, by decide +kernel⟩, List.mem_of_getElem? (i := 11) (by decide +kernel), List.mem_of_getElem? (i := 277) (by decide +kernel), List.mem_of_getElem? (i := 278) (by decide +kernel)⟩
theorem lw_p6 : lw_okq (⟨"FaceRounds$State", "struckIn", "(I)I"⟩, 11) := ⟨⟨by decide +kernel, by decide +kernel⟩, List.mem_of_getElem? (i := 19) (by decide +kernel), List.mem_of_getElem? (i := 288) (by decide +kernel), List.mem_of_getElem? (i := 289) (by decide +kernel)⟩
theorem lw_p7 : lw_okq (⟨"FaceRounds$Reckoning", "leftWithoutSign", "(II)I"⟩, 6) := ⟨⟨by decide +kernel, by decide +kernel⟩, List.mem_of_getElem? (i := 123) (by decide +kernel), List.mem_of_getElem? (i := 307) (by decide +kernel), List.mem_of_getElem? (i := 308) (by decide +kernel)⟩
theorem lw_p8 : lw_okq (⟨"FaceRounds", "allBad", "()I"⟩, 6) := ⟨⟨by decide +kernel, by decide +kernel⟩, List.mem_of_getElem? (i := 11) (by decide +kernel), List.mem_of_getElem? (i := 330) (by decide +kernel), List.mem_of_getElem? (i := 331) (by decide +kernel)⟩
theorem lw_p9 : lw_okq (⟨"FaceRounds", "correction", "(II)I"⟩, 6) := ⟨⟨by decide +kernel, by decide +kernel⟩, List.mem_of_getElem? (i := 11) (by decide +kernel), List.mem_of_getElem? (i := 447) (by decide +kernel), List.mem_of_getElem? (i := 448) (by decide +kernel)⟩
theorem lw_p10 : lw_okq (⟨"FaceRounds", "centredDirection", "(II)I"⟩, 6) := ⟨⟨by decide +kernel, by decide +kernel⟩, List.mem_of_getElem? (i := 11) (by decide +kernel), List.mem_of_getElem? (i := 457) (by decide +kernel), List.mem_of_getElem? (i := 458) (by decide +kernel)⟩
theorem lw_p11 : lw_okq (⟨"FaceRounds$Reckoning", "neighbour", "(I)I"⟩, 6) := ⟨⟨by decide +kernel, by decide +kernel⟩, List.mem_of_getElem? (i := 123) (by decide +kernel), List.mem_of_getElem? (i := 486) (by decide +kernel), List.mem_of_getElem? (i := 487) (by decide +kernel)⟩
theorem lw_p12 : lw_okq (⟨"FaceRounds$Reckoning", "isBehind", "(II)Z"⟩, 6) := ⟨⟨by decide +kernel, by decide +kernel⟩, List.mem_of_getElem? (i := 123) (by decide +kernel), List.mem_of_getElem? (i := 491) (by decide +kernel), List.mem_of_getElem? (i := 492) (by decide +kernel)⟩
def lw_privs_1 : List (MethodName × Nat) := [(⟨"FaceRounds$History", "dropOldest", "()V"⟩, 2), (⟨"FaceRounds$Reckoning", "reckonRound", "(LFaceRounds$State;II)V"⟩, 6), (⟨"FaceRounds$State", "ownReason", "(III)I"⟩, 11), (⟨"FaceRounds$Reckoning", "reckonDirection", "(I)V"⟩, 6), (⟨"FaceRounds$Reckoning", "reckonLeft", "(I)V"⟩, 6), (⟨"FaceRounds", "toldDrift", "(I)I"⟩, 6), (⟨"FaceRounds$State", "struckIn", "(I)I"⟩, 11), (⟨"FaceRounds$Reckoning", "leftWithoutSign", "(II)I"⟩, 6), (⟨"FaceRounds", "allBad", "()I"⟩, 6), (⟨"FaceRounds", "correction", "(II)I"⟩, 6), (⟨"FaceRounds", "centredDirection", "(II)I"⟩, 6), (⟨"FaceRounds$Reckoning", "neighbour", "(I)I"⟩, 6), (⟨"FaceRounds$Reckoning", "isBehind", "(II)Z"⟩, 6)]
theorem lw_r1 : ∀ q ∈ lw_privs_1, lw_okq q := List.forall_mem_cons.mpr ⟨lw_p0, List.forall_mem_cons.mpr ⟨lw_p1, List.forall_mem_cons.mpr ⟨lw_p2, List.forall_mem_cons.mpr ⟨lw_p3, List.forall_mem_cons.mpr ⟨lw_p4, List.forall_mem_cons.mpr ⟨lw_p5, List.forall_mem_cons.mpr ⟨lw_p6, List.forall_mem_cons.mpr ⟨lw_p7, List.forall_mem_cons.mpr ⟨lw_p8, List.forall_mem_cons.mpr ⟨lw_p9, List.forall_mem_cons.mpr ⟨lw_p10, List.forall_mem_cons.mpr ⟨lw_p11, List.forall_mem_cons.mpr ⟨lw_p12, fun _ h => absurd h List.not_mem_nil⟩⟩⟩⟩⟩⟩⟩⟩⟩⟩⟩⟩⟩
def lw_privs : List (MethodName × Nat) := lw_privs_1
def lw_tbl : List Cond := k2_sels lw_privs ++ tables_1
theorem lw_privs_ok : ∀ q ∈ lw_privs, lw_okq q := lw_r1
-- ===== end of PART A; then your names; then what follows =====
end
section
def RX0 : String := "FaceRounds$History"
def TX0 : u_T := fun k => match k with
  | 0 => ("FaceRounds$History", "states", "[LFaceRounds$State;", true)
  | _ => ("FaceRounds$History", "depth", "I", false)
def tyX0 : Nat → FieldType := fun k => match k with
  | 0 => .array (.object "FaceRounds$State")
  | _ => .int
abbrev wsX00 : List Cond := u_ws RX0 TX0 2
theorem nmX0 : ∀ a, a < 2 → ∀ b, b < 2 → a ≠ b → (TX0 a).2.1 ≠ (TX0 b).2.1 := by decide +kernel
theorem tyX0_ok : ∀ k, k < 2 → parseFieldDescriptor (TX0 k).2.2.1 = some (tyX0 k) := by decide +kernel
abbrev cX0_init : ByteArray := prog_2_method_1_code
def yX0_init : MethodName := ⟨RX0, "<init>", "()V"⟩
abbrev cX0_record : ByteArray := prog_2_method_2_code
def yX0_record : MethodName := ⟨RX0, "record", "(LFaceRounds$State;)V"⟩
abbrev cX0_takeBack : ByteArray := prog_2_method_3_code
def yX0_takeBack : MethodName := ⟨RX0, "takeBack", "(LFaceRounds$State;)V"⟩
abbrev cX0_dropOldest : ByteArray := prog_2_method_4_code
def yX0_dropOldest : MethodName := ⟨RX0, "dropOldest", "()V"⟩
def RX1 : String := "FaceRounds$PointingText"
def TX1 : u_T := fun k => match k with
  | 0 => ("FaceRounds$PointingText", "characters", "[C", true)
  | 1 => ("FaceRounds$PointingText", "length", "I", false)
  | 2 => ("FaceRounds$PointingText", "targets", "[I", true)
  | 3 => ("FaceRounds$PointingText", "faces", "[I", true)
  | 4 => ("FaceRounds$PointingText", "readings", "[I", true)
  | 5 => ("FaceRounds$PointingText", "found", "I", false)
  | _ => ("FaceRounds$PointingText", "at", "I", false)
def tyX1 : Nat → FieldType := fun k => match k with
  | 0 => .array .char
  | 1 => .int
  | 2 => .array .int
  | 3 => .array .int
  | 4 => .array .int
  | 5 => .int
  | _ => .int
abbrev wsX10 : List Cond := u_ws RX1 TX1 7
theorem nmX1 : ∀ a, a < 7 → ∀ b, b < 7 → a ≠ b → (TX1 a).2.1 ≠ (TX1 b).2.1 := by decide +kernel
theorem tyX1_ok : ∀ k, k < 7 → parseFieldDescriptor (TX1 k).2.2.1 = some (tyX1 k) := by decide +kernel
abbrev cX1_init : ByteArray := prog_3_method_1_code
def yX1_init : MethodName := ⟨RX1, "<init>", "()V"⟩
def RX2 : String := "FaceRounds$Reckoning"
def TX2 : u_T := fun k => match k with
  | 0 => ("FaceRounds$Reckoning", "rounds", "I", false)
  | 1 => ("FaceRounds$Reckoning", "usedTargets", "[I", true)
  | 2 => ("FaceRounds$Reckoning", "reducedDirections", "[I", true)
  | 3 => ("FaceRounds$Reckoning", "errors", "[I", true)
  | 4 => ("FaceRounds$Reckoning", "left", "[I", true)
  | _ => ("FaceRounds$Reckoning", "directions", "[I", true)
def tyX2 : Nat → FieldType := fun k => match k with
  | 0 => .int
  | 1 => .array .int
  | 2 => .array .int
  | 3 => .array .int
  | 4 => .array .int
  | _ => .array .int
abbrev wsX20 : List Cond := u_ws RX2 TX2 6
theorem nmX2 : ∀ a, a < 6 → ∀ b, b < 6 → a ≠ b → (TX2 a).2.1 ≠ (TX2 b).2.1 := by decide +kernel
theorem tyX2_ok : ∀ k, k < 6 → parseFieldDescriptor (TX2 k).2.2.1 = some (tyX2 k) := by decide +kernel
abbrev cX2_init : ByteArray := prog_4_method_1_code
def yX2_init : MethodName := ⟨RX2, "<init>", "()V"⟩
abbrev cX2_reckon : ByteArray := prog_4_method_2_code
def yX2_reckon : MethodName := ⟨RX2, "reckon", "(LFaceRounds$State;I)V"⟩
abbrev cX2_reckonRound : ByteArray := prog_4_method_3_code
def yX2_reckonRound : MethodName := ⟨RX2, "reckonRound", "(LFaceRounds$State;II)V"⟩
abbrev cX2_reckonDirection : ByteArray := prog_4_method_4_code
def yX2_reckonDirection : MethodName := ⟨RX2, "reckonDirection", "(I)V"⟩
abbrev cX2_reckonLeft : ByteArray := prog_4_method_5_code
def yX2_reckonLeft : MethodName := ⟨RX2, "reckonLeft", "(I)V"⟩
abbrev cX2_isUsed : ByteArray := prog_4_method_6_code
def yX2_isUsed : MethodName := ⟨RX2, "isUsed", "(II)Z"⟩
abbrev cX2_hasDirection : ByteArray := prog_4_method_7_code
def yX2_hasDirection : MethodName := ⟨RX2, "hasDirection", "(I)Z"⟩
abbrev cX2_roundsOf : ByteArray := prog_4_method_8_code
def yX2_roundsOf : MethodName := ⟨RX2, "roundsOf", "(I)I"⟩
abbrev cX2_leftWithoutSign : ByteArray := prog_4_method_9_code
def yX2_leftWithoutSign : MethodName := ⟨RX2, "leftWithoutSign", "(II)I"⟩
abbrev cX2_mostLeft : ByteArray := prog_4_method_10_code
def yX2_mostLeft : MethodName := ⟨RX2, "mostLeft", "(I)I"⟩
abbrev cX2_badTargets : ByteArray := prog_4_method_11_code
def yX2_badTargets : MethodName := ⟨RX2, "badTargets", "(II)I"⟩
abbrev cX2_worst : ByteArray := prog_4_method_12_code
def yX2_worst : MethodName := ⟨RX2, "worst", "(I)I"⟩
abbrev cX2_meanError : ByteArray := prog_4_method_13_code
def yX2_meanError : MethodName := ⟨RX2, "meanError", "(I)I"⟩
abbrev cX2_angleBetween : ByteArray := prog_4_method_14_code
def yX2_angleBetween : MethodName := ⟨RX2, "angleBetween", "(II)I"⟩
abbrev cX2_sumOfAngles : ByteArray := prog_4_method_15_code
def yX2_sumOfAngles : MethodName := ⟨RX2, "sumOfAngles", "(I)I"⟩
abbrev cX2_neighbour : ByteArray := prog_4_method_16_code
def yX2_neighbour : MethodName := ⟨RX2, "neighbour", "(I)I"⟩
abbrev cX2_isBehind : ByteArray := prog_4_method_17_code
def yX2_isBehind : MethodName := ⟨RX2, "isBehind", "(II)Z"⟩
def RX3 : String := "FaceRounds$State"
def TX3 : u_T := fun k => match k with
  | 0 => ("FaceRounds$State", "setUps", "I", false)
  | 1 => ("FaceRounds$State", "limit", "I", false)
  | 2 => ("FaceRounds$State", "rounds", "[I", true)
  | 3 => ("FaceRounds$State", "offsets", "[I", true)
  | 4 => ("FaceRounds$State", "sectors", "[I", true)
  | 5 => ("FaceRounds$State", "distances", "[I", true)
  | 6 => ("FaceRounds$State", "pointings", "[I", true)
  | 7 => ("FaceRounds$State", "closings", "[I", true)
  | 8 => ("FaceRounds$State", "targets", "[I", true)
  | 9 => ("FaceRounds$State", "readings", "[I", true)
  | _ => ("FaceRounds$State", "struck", "[Z", true)
def tyX3 : Nat → FieldType := fun k => match k with
  | 0 => .int
  | 1 => .int
  | 2 => .array .int
  | 3 => .array .int
  | 4 => .array .int
  | 5 => .array .int
  | 6 => .array .int
  | 7 => .array .int
  | 8 => .array .int
  | 9 => .array .int
  | _ => .array .boolean
abbrev wsX30 : List Cond := u_ws RX3 TX3 11
theorem nmX3 : ∀ a, a < 11 → ∀ b, b < 11 → a ≠ b → (TX3 a).2.1 ≠ (TX3 b).2.1 := by decide +kernel
theorem tyX3_ok : ∀ k, k < 11 → parseFieldDescriptor (TX3 k).2.2.1 = some (tyX3 k) := by decide +kernel
abbrev cX3_init : ByteArray := prog_5_method_1_code
def yX3_init : MethodName := ⟨RX3, "<init>", "()V"⟩
abbrev cX3_copyFrom : ByteArray := prog_5_method_2_code
def yX3_copyFrom : MethodName := ⟨RX3, "copyFrom", "(LFaceRounds$State;)V"⟩
abbrev cX3_hasSetUp : ByteArray := prog_5_method_3_code
def yX3_hasSetUp : MethodName := ⟨RX3, "hasSetUp", "(I)Z"⟩
abbrev cX3_hasRound : ByteArray := prog_5_method_4_code
def yX3_hasRound : MethodName := ⟨RX3, "hasRound", "(II)Z"⟩
abbrev cX3_isClosed : ByteArray := prog_5_method_5_code
def yX3_isClosed : MethodName := ⟨RX3, "isClosed", "(I)Z"⟩
abbrev cX3_placeOf : ByteArray := prog_5_method_6_code
def yX3_placeOf : MethodName := ⟨RX3, "placeOf", "(II)I"⟩
abbrev cX3_canTake : ByteArray := prog_5_method_7_code
def yX3_canTake : MethodName := ⟨RX3, "canTake", "(II)Z"⟩
abbrev cX3_add : ByteArray := prog_5_method_8_code
def yX3_add : MethodName := ⟨RX3, "add", "(III)V"⟩
abbrev cX3_remove : ByteArray := prog_5_method_9_code
def yX3_remove : MethodName := ⟨RX3, "remove", "(II)V"⟩
abbrev cX3_strikeBoth : ByteArray := prog_5_method_10_code
def yX3_strikeBoth : MethodName := ⟨RX3, "strikeBoth", "(III)V"⟩
abbrev cX3_driftOf : ByteArray := prog_5_method_11_code
def yX3_driftOf : MethodName := ⟨RX3, "driftOf", "(I)I"⟩
abbrev cX3_corrected : ByteArray := prog_5_method_12_code
def yX3_corrected : MethodName := ⟨RX3, "corrected", "(II)I"⟩
abbrev cX3_whyNotUsed : ByteArray := prog_5_method_13_code
def yX3_whyNotUsed : MethodName := ⟨RX3, "whyNotUsed", "(III)I"⟩
abbrev cX3_ownReason : ByteArray := prog_5_method_14_code
def yX3_ownReason : MethodName := ⟨RX3, "ownReason", "(III)I"⟩
abbrev cX3_struckIn : ByteArray := prog_5_method_15_code
def yX3_struckIn : MethodName := ⟨RX3, "struckIn", "(I)I"⟩
abbrev cX3_struckInRound : ByteArray := prog_5_method_16_code
def yX3_struckInRound : MethodName := ⟨RX3, "struckInRound", "(II)I"⟩
abbrev cX3_allRounds : ByteArray := prog_5_method_17_code
def yX3_allRounds : MethodName := ⟨RX3, "allRounds", "()I"⟩
abbrev cX3_allPointings : ByteArray := prog_5_method_18_code
def yX3_allPointings : MethodName := ⟨RX3, "allPointings", "()I"⟩
abbrev cX3_allStruck : ByteArray := prog_5_method_19_code
def yX3_allStruck : MethodName := ⟨RX3, "allStruck", "()I"⟩
abbrev cX3_allClosings : ByteArray := prog_5_method_20_code
def yX3_allClosings : MethodName := ⟨RX3, "allClosings", "()I"⟩
def RX4 : String := "FaceRounds"
def TX4 : u_T := fun k => match k with
  | 0 => ("FaceRounds", "state", "LFaceRounds$State;", true)
  | 1 => ("FaceRounds", "snapshot", "LFaceRounds$State;", true)
  | 2 => ("FaceRounds", "snapshotTaken", "Z", false)
  | 3 => ("FaceRounds", "history", "LFaceRounds$History;", true)
  | 4 => ("FaceRounds", "text", "LFaceRounds$PointingText;", true)
  | _ => ("FaceRounds", "reckoning", "LFaceRounds$Reckoning;", true)
def tyX4 : Nat → FieldType := fun k => match k with
  | 0 => .object "FaceRounds$State"
  | 1 => .object "FaceRounds$State"
  | 2 => .boolean
  | 3 => .object "FaceRounds$History"
  | 4 => .object "FaceRounds$PointingText"
  | _ => .object "FaceRounds$Reckoning"
abbrev wsX40 : List Cond := u_ws RX4 TX4 6
theorem nmX4 : ∀ a, a < 6 → ∀ b, b < 6 → a ≠ b → (TX4 a).2.1 ≠ (TX4 b).2.1 := by decide +kernel
theorem tyX4_ok : ∀ k, k < 6 → parseFieldDescriptor (TX4 k).2.2.1 = some (tyX4 k) := by decide +kernel
abbrev cX4_init : ByteArray := prog_1_method_1_code
def yX4_init : MethodName := ⟨RX4, "<init>", "()V"⟩
abbrev cX4_setUp : ByteArray := prog_1_method_2_code
def yX4_setUp : MethodName := ⟨RX4, "setUp", "()I"⟩
abbrev cX4_begin : ByteArray := prog_1_method_3_code
def yX4_begin : MethodName := ⟨RX4, "begin", "(I)I"⟩
abbrev cX4_point : ByteArray := prog_1_method_4_code
def yX4_point : MethodName := ⟨RX4, "point", "(IIIII)I"⟩
abbrev cX4_close : ByteArray := prog_1_method_6_code
def yX4_close : MethodName := ⟨RX4, "close", "(IIII)I"⟩
abbrev cX4_strike : ByteArray := prog_1_method_7_code
def yX4_strike : MethodName := ⟨RX4, "strike", "(IIIIZ)I"⟩
abbrev cX4_wipe : ByteArray := prog_1_method_8_code
def yX4_wipe : MethodName := ⟨RX4, "wipe", "(III)I"⟩
abbrev cX4_clean : ByteArray := prog_1_method_9_code
def yX4_clean : MethodName := ⟨RX4, "clean", "(I)I"⟩
abbrev cX4_setLimit : ByteArray := prog_1_method_10_code
def yX4_setLimit : MethodName := ⟨RX4, "setLimit", "(I)I"⟩
abbrev cX4_centre : ByteArray := prog_1_method_11_code
def yX4_centre : MethodName := ⟨RX4, "centre", "(III)I"⟩
abbrev cX4_setDistance : ByteArray := prog_1_method_12_code
def yX4_setDistance : MethodName := ⟨RX4, "setDistance", "(II)I"⟩
abbrev cX4_undo : ByteArray := prog_1_method_15_code
def yX4_undo : MethodName := ⟨RX4, "undo", "()I"⟩
abbrev cX4_pointing : ByteArray := prog_1_method_18_code
def yX4_pointing : MethodName := ⟨RX4, "pointing", "(IIIII)I"⟩
abbrev cX4_round : ByteArray := prog_1_method_19_code
def yX4_round : MethodName := ⟨RX4, "round", "(III)I"⟩
abbrev cX4_reduced : ByteArray := prog_1_method_20_code
def yX4_reduced : MethodName := ⟨RX4, "reduced", "(IIII)I"⟩
abbrev cX4_direction : ByteArray := prog_1_method_21_code
def yX4_direction : MethodName := ⟨RX4, "direction", "(III)I"⟩
abbrev cX4_angle : ByteArray := prog_1_method_22_code
def yX4_angle : MethodName := ⟨RX4, "angle", "(IIIZ)I"⟩
abbrev cX4_byAngles : ByteArray := prog_1_method_23_code
def yX4_byAngles : MethodName := ⟨RX4, "byAngles", "(II)I"⟩
abbrev cX4_count : ByteArray := prog_1_method_24_code
def yX4_count : MethodName := ⟨RX4, "count", "(I)I"⟩
abbrev cX4_centring : ByteArray := prog_1_method_25_code
def yX4_centring : MethodName := ⟨RX4, "centring", "(IZ)I"⟩
abbrev cX4_isTarget : ByteArray := prog_1_method_26_code
def yX4_isTarget : MethodName := ⟨RX4, "isTarget", "(I)Z"⟩
abbrev cX4_isFace : ByteArray := prog_1_method_27_code
def yX4_isFace : MethodName := ⟨RX4, "isFace", "(I)Z"⟩
abbrev cX4_isReading : ByteArray := prog_1_method_28_code
def yX4_isReading : MethodName := ⟨RX4, "isReading", "(I)Z"⟩
abbrev cX4_rowOf : ByteArray := prog_1_method_29_code
def yX4_rowOf : MethodName := ⟨RX4, "rowOf", "(III)I"⟩
abbrev cX4_nearZero : ByteArray := prog_1_method_30_code
def yX4_nearZero : MethodName := ⟨RX4, "nearZero", "(I)I"⟩
abbrev cX4_toldDrift : ByteArray := prog_1_method_32_code
def yX4_toldDrift : MethodName := ⟨RX4, "toldDrift", "(I)I"⟩
abbrev cX4_allBad : ByteArray := prog_1_method_33_code
def yX4_allBad : MethodName := ⟨RX4, "allBad", "()I"⟩
abbrev cX4_correction : ByteArray := prog_1_method_34_code
def yX4_correction : MethodName := ⟨RX4, "correction", "(II)I"⟩
abbrev cX4_centredDirection : ByteArray := prog_1_method_35_code
def yX4_centredDirection : MethodName := ⟨RX4, "centredDirection", "(II)I"⟩
def RJ6 : String := "java/lang/Integer"
abbrev cJ6_bitCount_0f7a4 : ByteArray := prog_8_method_49_code
def yJ6_bitCount_0f7a4 : MethodName := ⟨RJ6, "bitCount", "(I)I"⟩
def RJ9 : String := "java/lang/Math"
abbrev cJ9_floorDiv_7cf53 : ByteArray := prog_9_method_47_code
def yJ9_floorDiv_7cf53 : MethodName := ⟨RJ9, "floorDiv", "(II)I"⟩
abbrev cJ9_floorMod_7cf53 : ByteArray := prog_9_method_50_code
def yJ9_floorMod_7cf53 : MethodName := ⟨RJ9, "floorMod", "(II)I"⟩
abbrev cJ9_abs_0f7a4 : ByteArray := prog_9_method_59_code
def yJ9_abs_0f7a4 : MethodName := ⟨RJ9, "abs", "(I)I"⟩
abbrev cJ9_max_7cf53 : ByteArray := prog_9_method_65_code
def yJ9_max_7cf53 : MethodName := ⟨RJ9, "max", "(II)I"⟩
def RJ10 : String := "java/lang/System"
def RJ7 : String := "java/util/Arrays"
abbrev cJ7_fill_53178 : ByteArray := prog_11_method_103_code
def yJ7_fill_53178 : MethodName := ⟨RJ7, "fill", "([II)V"⟩
def RL : String := "FaceRoundsLaw"
abbrev cL_cell : ByteArray := method_2_code
def yL_cell : MethodName := ⟨RL, "cell", "([II)I"⟩
abbrev cL_low : ByteArray := method_3_code
def yL_low : MethodName := ⟨RL, "low", "(II)I"⟩
abbrev cL_reading : ByteArray := method_4_code
def yL_reading : MethodName := ⟨RL, "reading", "(IIII)I"⟩
abbrev cL_does : ByteArray := method_5_code
def yL_does : MethodName := ⟨RL, "does", "(LFaceRounds;I)I"⟩
abbrev cL_full : ByteArray := method_6_code
def yL_full : MethodName := ⟨RL, "full", "(I)I"⟩
abbrev cL_near : ByteArray := method_7_code
def yL_near : MethodName := ⟨RL, "near", "(I)I"⟩
abbrev cL_isRoundSo : ByteArray := method_8_code
def yL_isRoundSo : MethodName := ⟨RL, "isRoundSo", "(LFaceRounds;II)Z"⟩
abbrev cL_areDirectionsSo : ByteArray := method_9_code
def yL_areDirectionsSo : MethodName := ⟨RL, "areDirectionsSo", "(LFaceRounds;I)Z"⟩
abbrev cL_isCleanSo : ByteArray := method_10_code
def yL_isCleanSo : MethodName := ⟨RL, "isCleanSo", "(LFaceRounds;I)Z"⟩
abbrev cL_law : ByteArray := code
def yL_law : MethodName := ⟨RL, "law", "([I)Z"⟩
def wsJ7_fill_53178 : List Cond := .code yJ7_fill_53178 cJ7_fill_53178 4 none :: ([])
abbrev vwCl : List vw_C := [(RX0, TX0, 2), (RX1, TX1, 7), (RX2, TX2, 6), (RX3, TX3, 11), (RX4, TX4, 6)]
end
section
/-! AN OWN SMALL MACHINE: one frame's steps as a proposition that is computed.
A world: how many cells; the kind of each ((0, class) an object, (t + 1, n) an array of n: t 0 char, 1 int, 2 boolean, 3 State); numbers; references. -/
abbrev aW : Type := Nat × (Nat → Nat × Nat) × (Nat → Nat → Int32) × (Nat → Nat → Option Nat)
/-- a row: pc, instruction, length, a, b, place of a word, flag, an int, a long, a switch's targets -/
abbrev aI : Type := Nat × Instr × Nat × Nat × Nat × Nat × Nat × Int32 × Int64 × List (Int32 × Nat)
/-- a method: name, bytes, locals, what is returned, parameters, new cells, new slots, its code word's place, rows -/
abbrev aM : Type := MethodName × ByteArray × Nat × Option FieldType × Nat × Nat × Nat × Nat × List aI
abbrev aL : Type := List (Option Value)
abbrev aK : Type := Nat → aL → List Value → aW → Nat × Nat → Prop
def am_look : List aI → Nat → Option aI
  | [], _ => none
  | x :: t, pc => match Nat.beq x.1 pc with
    | true => some x
    | false => am_look t pc
def am_nth : aL → Nat → Option Value
  | [], _ => none
  | o :: _, 0 => o
  | _ :: t, i + 1 => am_nth t i
def am_up : aL → Nat → Option Value → aL
  | [], _, _ => []
  | _ :: t, 0, v => v :: t
  | o :: t, i + 1, v => o :: am_up t i v
/-- the place ahead holds no long -/
def am_nl (lc : aL) : Nat → Bool
  | 0 => true
  | i + 1 => match am_nth lc i with
    | some (.long _) => false
    | some (.double _) => false
    | _ => true
def am_sv (lc : aL) (i : Nat) (v : Value) (f : aL → Prop) : Prop := match am_nl lc i with
  | true => f (am_up lc i (some v))
  | false => False
def am_sl (lc : aL) (i : Nat) (x : Int64) (f : aL → Prop) : Prop := match am_nl lc i with
  | true => f (am_up (am_up lc i (some (.long x))) (i + 1) none)
  | false => False
def am_gi (lc : aL) (i : Nat) (f : Int32 → Prop) : Prop := match am_nth lc i with
  | some (.int x) => f x
  | _ => False
def am_gl (lc : aL) (i : Nat) (f : Int64 → Prop) : Prop := match am_nth lc i with
  | some (.long x) => f x
  | _ => False
def am_ga (lc : aL) (i : Nat) (f : Value → Prop) : Prop := match am_nth lc i with
  | some (.ref j) => f (.ref j)
  | some (.retAddr j) => f (.retAddr j)
  | _ => False
def am_i (st : List Value) (f : Int32 → List Value → Prop) : Prop := match st with
  | .int x :: r => f x r
  | _ => False
def am_ii (st : List Value) (f : Int32 → Int32 → List Value → Prop) : Prop := match st with
  | .int y :: .int x :: r => f x y r
  | _ => False
def am_l (st : List Value) (f : Int64 → List Value → Prop) : Prop := match st with
  | .long x :: r => f x r
  | _ => False
def am_ll (st : List Value) (f : Int64 → Int64 → List Value → Prop) : Prop := match st with
  | .long y :: .long x :: r => f x y r
  | _ => False
def am_a (st : List Value) (f : Value → List Value → Prop) : Prop := match st with
  | .ref j :: r => f (.ref j) r
  | .retAddr j :: r => f (.retAddr j) r
  | _ => False
def am_cat1 : Value → Bool
  | .long _ => false
  | .double _ => false
  | _ => true
def am_c2 (c : ClassFile.Cond) (x y : Int32) (A B : Prop) : Prop := match c with
  | .eq => (x = y → A) ∧ (¬ x = y → B)
  | .ne => (¬ x = y → A) ∧ (x = y → B)
  | .lt => (x < y → A) ∧ (¬ x < y → B)
  | .ge => (y ≤ x → A) ∧ (¬ y ≤ x → B)
  | .gt => (y < x → A) ∧ (¬ y < x → B)
  | .le => (x ≤ y → A) ∧ (¬ x ≤ y → B)
def am_sw (x : Int32) (K : Nat → Prop) (D : Prop) : List (Int32 × Nat) → Prop
  | [] => D
  | q :: t => (x = q.1 → K q.2) ∧ (¬ x = q.1 → am_sw x K D t)
def am_sine (j : Nat) : Int32 := ([0, 259, 500, 707, 866, 966, 1000, 966, 866, 707, 500, 259, 0, -259, -500, -707, -866, -966, -1000, -966, -866, -707, -500, -259] : List Int32).getD j 0
/-- new worlds out of old ones -/
def am_u2 (C : Nat → Nat → Int32) (i k : Nat) (x : Int32) : Nat → Nat → Int32 := fun a b => if a = i then (if b = k then x else C a b) else C a b
def am_uF (F : Nat → Nat → Option Nat) (i k : Nat) (x : Option Nat) : Nat → Nat → Option Nat := fun a b => if a = i then (if b = k then x else F a b) else F a b
def am_uS (S : Nat → Nat × Nat) (i : Nat) (x : Nat × Nat) : Nat → Nat × Nat := fun a => if a = i then x else S a
def am_uR {α : Type} (C : Nat → α) (i : Nat) (x : α) : Nat → α := fun a => if a = i then x else C a
def am_wC (w : aW) (C : Nat → Nat → Int32) : aW := (w.1, w.2.1, C, w.2.2.2)
def am_wF (w : aW) (F : Nat → Nat → Option Nat) : aW := (w.1, w.2.1, w.2.2.1, F)
/-- one more cell -/
def am_wN (w : aW) (q : Nat × Nat) : aW := (w.1 + 1, am_uS w.2.1 w.1 q, am_uR w.2.2.1 w.1 (fun _ => 0), am_uR w.2.2.2 w.1 (fun _ => none))
def am_room (u cap : Nat × Nat) (f : Prop) : Prop := match Nat.ble u.1 cap.1 && Nat.ble u.2 cap.2 with
  | true => f
  | false => False
/-- the arguments off the stack, the last one on top -/
def am_pop : Nat → List Value → List Value → (List Value → List Value → Prop) → Prop
  | 0, st, acc, f => f acc st
  | _ + 1, [], _, _ => False
  | n + 1, v :: st, acc, f => am_pop n st (v :: acc) f
def am_cs : List Value → Nat
  | [] => 0
  | .long _ :: r => am_cs r + 2
  | .double _ :: r => am_cs r + 2
  | _ :: r => am_cs r + 1
def am_cs8 (r : List Value) (f : Prop) : Prop := match Nat.ble (am_cs r) 8 with
  | true => f
  | false => False
/-- an object of class ci -/
def am_ob (w : aW) (i ci : Nat) (f : Prop) : Prop := match Nat.blt i w.1, w.2.1 i with
  | true, (0, c) => (match Nat.beq c ci with
    | true => f
    | false => False)
  | _, _ => False
/-- an array of kind t: its length -/
def am_ar (w : aW) (i t : Nat) (f : Nat → Prop) : Prop := match Nat.blt i w.1, w.2.1 i with
  | true, (t' + 1, n) => (match Nat.beq t' t with
    | true => f n
    | false => False)
  | _, _ => False
def am_alen (w : aW) (i : Nat) (f : Nat → Prop) : Prop := match Nat.blt i w.1, w.2.1 i with
  | true, (t + 1, n) => (match Nat.blt t 4 with
    | true => f n
    | false => False)
  | _, _ => False
def am_at (t : Nat) : FieldType := match t with
  | 0 => .char
  | 1 => .int
  | 2 => .boolean
  | _ => .object "FaceRounds$State"
def am_nar (t : Nat) (x : Int32) : Int32 := match t with
  | 0 => vp_nar .char x
  | 1 => x
  | _ => vp_nar .boolean x
end
section
/-! the methods: name, bytes, locals, what is returned, parameters, new cells and slots, the place of its code word, its rows -/
def am_t0 : List aI := [(0, .aload_n 0, 1, 0, 0, 0, 0, 0, 0, []), (1, .invokespecial 3, 3, 0, 2, 93, 0, 0, 0, []), (4, .aload_n 0, 1, 0, 0, 0, 0, 0, 0, []), (5, .iconst 4, 1, 0, 0, 0, 0, 4, 0, []), (6, .anewarray 9, 3, 4, 3, 94, 0, 4, 0, []), (9, .putfield 11, 3, 0, 0, 97, 1, 0, 0, []), (12, .aload_n 0, 1, 0, 0, 0, 0, 0, 0, []), (13, .iconst 0, 1, 0, 0, 0, 0, 0, 0, []), (14, .putfield 17, 3, 0, 1, 98, 0, 0, 0, []), (17, .iconst 0, 1, 0, 0, 0, 0, 0, 0, []), (18, .istore_n 1, 1, 0, 0, 0, 0, 0, 0, []), (19, .iload_n 1, 1, 0, 0, 0, 0, 0, 0, []), (20, .iconst 4, 1, 0, 0, 0, 0, 4, 0, []), (21, .if_icmp .ge 22, 3, 43, 0, 0, 0, 0, 0, []), (24, .aload_n 0, 1, 0, 0, 0, 0, 0, 0, []), (25, .getfield 11, 3, 0, 0, 97, 1, 0, 0, []), (28, .iload_n 1, 1, 0, 0, 0, 0, 0, 0, []), (29, .new 9, 3, 3, 15, 94, 11, 32, 0, []), (32, .dup, 1, 0, 0, 0, 0, 0, 0, []), (33, .invokespecial 21, 3, 30, 0, 96, 0, 0, 0, []), (36, .aastore, 1, 0, 0, 0, 0, 0, 0, []), (37, .iinc 1 1, 3, 0, 0, 0, 0, 1, 0, []), (40, .goto (-21), 3, 19, 0, 0, 0, 0, 0, []), (43, .return_, 1, 0, 0, 0, 0, 0, 0, [])]
def am_t1 : List aI := [(0, .aload_n 0, 1, 0, 0, 0, 0, 0, 0, []), (1, .getfield 17, 3, 0, 1, 98, 0, 0, 0, []), (4, .iconst 4, 1, 0, 0, 0, 0, 4, 0, []), (5, .if_icmp .ne 7, 3, 12, 0, 0, 0, 0, 0, []), (8, .aload_n 0, 1, 0, 0, 0, 0, 0, 0, []), (9, .invokevirtual 22, 3, 3, 0, 193, 0, 0, 0, []), (12, .aload_n 0, 1, 0, 0, 0, 0, 0, 0, []), (13, .getfield 11, 3, 0, 0, 97, 1, 0, 0, []), (16, .aload_n 0, 1, 0, 0, 0, 0, 0, 0, []), (17, .getfield 17, 3, 0, 1, 98, 0, 0, 0, []), (20, .aaload, 1, 0, 0, 0, 0, 0, 0, []), (21, .aload_n 1, 1, 0, 0, 0, 0, 0, 0, []), (22, .invokevirtual 25, 3, 31, 3, 197, 0, 0, 0, []), (25, .aload_n 0, 1, 0, 0, 0, 0, 0, 0, []), (26, .dup, 1, 0, 0, 0, 0, 0, 0, []), (27, .getfield 17, 3, 0, 1, 98, 0, 0, 0, []), (30, .iconst 1, 1, 0, 0, 0, 0, 1, 0, []), (31, .iadd, 1, 0, 0, 0, 0, 0, 0, []), (32, .putfield 17, 3, 0, 1, 98, 0, 0, 0, []), (35, .return_, 1, 0, 0, 0, 0, 0, 0, [])]
def am_t2 : List aI := [(0, .aload_n 0, 1, 0, 0, 0, 0, 0, 0, []), (1, .getfield 17, 3, 0, 1, 98, 0, 0, 0, []), (4, .ifCond .ne 4, 3, 8, 0, 0, 0, 0, 0, []), (7, .return_, 1, 0, 0, 0, 0, 0, 0, []), (8, .aload_n 0, 1, 0, 0, 0, 0, 0, 0, []), (9, .dup, 1, 0, 0, 0, 0, 0, 0, []), (10, .getfield 17, 3, 0, 1, 98, 0, 0, 0, []), (13, .iconst 1, 1, 0, 0, 0, 0, 1, 0, []), (14, .isub, 1, 0, 0, 0, 0, 0, 0, []), (15, .putfield 17, 3, 0, 1, 98, 0, 0, 0, []), (18, .aload_n 1, 1, 0, 0, 0, 0, 0, 0, []), (19, .aload_n 0, 1, 0, 0, 0, 0, 0, 0, []), (20, .getfield 11, 3, 0, 0, 97, 1, 0, 0, []), (23, .aload_n 0, 1, 0, 0, 0, 0, 0, 0, []), (24, .getfield 17, 3, 0, 1, 98, 0, 0, 0, []), (27, .aaload, 1, 0, 0, 0, 0, 0, 0, []), (28, .invokevirtual 25, 3, 31, 3, 197, 0, 0, 0, []), (31, .return_, 1, 0, 0, 0, 0, 0, 0, [])]
def am_t3 : List aI := [(0, .aload_n 0, 1, 0, 0, 0, 0, 0, 0, []), (1, .getfield 11, 3, 0, 0, 97, 1, 0, 0, []), (4, .iconst 0, 1, 0, 0, 0, 0, 0, 0, []), (5, .aaload, 1, 0, 0, 0, 0, 0, 0, []), (6, .astore_n 1, 1, 0, 0, 0, 0, 0, 0, []), (7, .iconst 1, 1, 0, 0, 0, 0, 1, 0, []), (8, .istore_n 2, 1, 0, 0, 0, 0, 0, 0, []), (9, .iload_n 2, 1, 0, 0, 0, 0, 0, 0, []), (10, .iconst 4, 1, 0, 0, 0, 0, 4, 0, []), (11, .if_icmp .ge 23, 3, 34, 0, 0, 0, 0, 0, []), (14, .aload_n 0, 1, 0, 0, 0, 0, 0, 0, []), (15, .getfield 11, 3, 0, 0, 97, 1, 0, 0, []), (18, .iload_n 2, 1, 0, 0, 0, 0, 0, 0, []), (19, .iconst 1, 1, 0, 0, 0, 0, 1, 0, []), (20, .isub, 1, 0, 0, 0, 0, 0, 0, []), (21, .aload_n 0, 1, 0, 0, 0, 0, 0, 0, []), (22, .getfield 11, 3, 0, 0, 97, 1, 0, 0, []), (25, .iload_n 2, 1, 0, 0, 0, 0, 0, 0, []), (26, .aaload, 1, 0, 0, 0, 0, 0, 0, []), (27, .aastore, 1, 0, 0, 0, 0, 0, 0, []), (28, .iinc 2 1, 3, 0, 0, 0, 0, 1, 0, []), (31, .goto (-22), 3, 9, 0, 0, 0, 0, 0, []), (34, .aload_n 0, 1, 0, 0, 0, 0, 0, 0, []), (35, .getfield 11, 3, 0, 0, 97, 1, 0, 0, []), (38, .iconst 3, 1, 0, 0, 0, 0, 3, 0, []), (39, .aload_n 1, 1, 0, 0, 0, 0, 0, 0, []), (40, .aastore, 1, 0, 0, 0, 0, 0, 0, []), (41, .aload_n 0, 1, 0, 0, 0, 0, 0, 0, []), (42, .dup, 1, 0, 0, 0, 0, 0, 0, []), (43, .getfield 17, 3, 0, 1, 98, 0, 0, 0, []), (46, .iconst 1, 1, 0, 0, 0, 0, 1, 0, []), (47, .isub, 1, 0, 0, 0, 0, 0, 0, []), (48, .putfield 17, 3, 0, 1, 98, 0, 0, 0, []), (51, .return_, 1, 0, 0, 0, 0, 0, 0, [])]
def am_t4 : List aI := [(0, .aload_n 0, 1, 0, 0, 0, 0, 0, 0, []), (1, .invokespecial 3, 3, 0, 2, 110, 0, 0, 0, []), (4, .aload_n 0, 1, 0, 0, 0, 0, 0, 0, []), (5, .bipush 60, 2, 0, 0, 0, 0, 60, 0, []), (7, .newarray .char, 2, 60, 0, 134, 0, 60, 0, []), (9, .putfield 9, 3, 1, 0, 111, 1, 0, 0, []), (12, .aload_n 0, 1, 0, 0, 0, 0, 0, 0, []), (13, .iconst 0, 1, 0, 0, 0, 0, 0, 0, []), (14, .putfield 15, 3, 1, 1, 112, 0, 0, 0, []), (17, .aload_n 0, 1, 0, 0, 0, 0, 0, 0, []), (18, .bipush 7, 2, 0, 0, 0, 0, 7, 0, []), (20, .newarray .int, 2, 7, 1, 86, 0, 7, 0, []), (22, .putfield 19, 3, 1, 2, 114, 1, 0, 0, []), (25, .aload_n 0, 1, 0, 0, 0, 0, 0, 0, []), (26, .bipush 7, 2, 0, 0, 0, 0, 7, 0, []), (28, .newarray .int, 2, 7, 1, 86, 0, 7, 0, []), (30, .putfield 23, 3, 1, 3, 115, 1, 0, 0, []), (33, .aload_n 0, 1, 0, 0, 0, 0, 0, 0, []), (34, .bipush 7, 2, 0, 0, 0, 0, 7, 0, []), (36, .newarray .int, 2, 7, 1, 86, 0, 7, 0, []), (38, .putfield 26, 3, 1, 4, 116, 1, 0, 0, []), (41, .aload_n 0, 1, 0, 0, 0, 0, 0, 0, []), (42, .iconst 0, 1, 0, 0, 0, 0, 0, 0, []), (43, .putfield 29, 3, 1, 5, 117, 0, 0, 0, []), (46, .aload_n 0, 1, 0, 0, 0, 0, 0, 0, []), (47, .iconst 0, 1, 0, 0, 0, 0, 0, 0, []), (48, .putfield 32, 3, 1, 6, 118, 0, 0, 0, []), (51, .return_, 1, 0, 0, 0, 0, 0, 0, [])]
def am_t13 : List aI := [(0, .aload_n 0, 1, 0, 0, 0, 0, 0, 0, []), (1, .invokespecial 3, 3, 0, 2, 140, 0, 0, 0, []), (4, .aload_n 0, 1, 0, 0, 0, 0, 0, 0, []), (5, .iconst 0, 1, 0, 0, 0, 0, 0, 0, []), (6, .putfield 9, 3, 2, 0, 141, 0, 0, 0, []), (9, .aload_n 0, 1, 0, 0, 0, 0, 0, 0, []), (10, .bipush 6, 2, 0, 0, 0, 0, 6, 0, []), (12, .newarray .int, 2, 6, 1, 86, 0, 6, 0, []), (14, .putfield 15, 3, 2, 1, 142, 1, 0, 0, []), (17, .aload_n 0, 1, 0, 0, 0, 0, 0, 0, []), (18, .bipush 36, 2, 0, 0, 0, 0, 36, 0, []), (20, .newarray .int, 2, 36, 1, 86, 0, 36, 0, []), (22, .putfield 19, 3, 2, 2, 144, 1, 0, 0, []), (25, .aload_n 0, 1, 0, 0, 0, 0, 0, 0, []), (26, .bipush 36, 2, 0, 0, 0, 0, 36, 0, []), (28, .newarray .int, 2, 36, 1, 86, 0, 36, 0, []), (30, .putfield 22, 3, 2, 3, 146, 1, 0, 0, []), (33, .aload_n 0, 1, 0, 0, 0, 0, 0, 0, []), (34, .bipush 36, 2, 0, 0, 0, 0, 36, 0, []), (36, .newarray .int, 2, 36, 1, 86, 0, 36, 0, []), (38, .putfield 25, 3, 2, 4, 148, 1, 0, 0, []), (41, .aload_n 0, 1, 0, 0, 0, 0, 0, 0, []), (42, .bipush 6, 2, 0, 0, 0, 0, 6, 0, []), (44, .newarray .int, 2, 6, 1, 86, 0, 6, 0, []), (46, .putfield 28, 3, 2, 5, 150, 1, 0, 0, []), (49, .return_, 1, 0, 0, 0, 0, 0, 0, [])]
def am_t14 : List aI := [(0, .aload_n 0, 1, 0, 0, 0, 0, 0, 0, []), (1, .aload_n 1, 1, 0, 0, 0, 0, 0, 0, []), (2, .getfield 31, 3, 3, 2, 45, 1, 0, 0, []), (5, .iload_n 2, 1, 0, 0, 0, 0, 0, 0, []), (6, .iaload, 1, 0, 0, 0, 0, 0, 0, []), (7, .putfield 9, 3, 2, 0, 141, 0, 0, 0, []), (10, .iconst 0, 1, 0, 0, 0, 0, 0, 0, []), (11, .istore_n 3, 1, 0, 0, 0, 0, 0, 0, []), (12, .iload_n 3, 1, 0, 0, 0, 0, 0, 0, []), (13, .aload_n 0, 1, 0, 0, 0, 0, 0, 0, []), (14, .getfield 9, 3, 2, 0, 141, 0, 0, 0, []), (17, .if_icmp .ge 16, 3, 33, 0, 0, 0, 0, 0, []), (20, .aload_n 0, 1, 0, 0, 0, 0, 0, 0, []), (21, .aload_n 1, 1, 0, 0, 0, 0, 0, 0, []), (22, .iload_n 2, 1, 0, 0, 0, 0, 0, 0, []), (23, .iload_n 3, 1, 0, 0, 0, 0, 0, 0, []), (24, .invokevirtual 35, 3, 15, 2, 227, 0, 0, 0, []), (27, .iinc 3 1, 3, 0, 0, 0, 0, 1, 0, []), (30, .goto (-18), 3, 12, 0, 0, 0, 0, 0, []), (33, .iconst 0, 1, 0, 0, 0, 0, 0, 0, []), (34, .istore_n 3, 1, 0, 0, 0, 0, 0, 0, []), (35, .iload_n 3, 1, 0, 0, 0, 0, 0, 0, []), (36, .bipush 6, 2, 0, 0, 0, 0, 6, 0, []), (38, .if_icmp .ge 14, 3, 52, 0, 0, 0, 0, 0, []), (41, .aload_n 0, 1, 0, 0, 0, 0, 0, 0, []), (42, .iload_n 3, 1, 0, 0, 0, 0, 0, 0, []), (43, .invokevirtual 39, 3, 16, 2, 276, 0, 0, 0, []), (46, .iinc 3 1, 3, 0, 0, 0, 0, 1, 0, []), (49, .goto (-14), 3, 35, 0, 0, 0, 0, 0, []), (52, .return_, 1, 0, 0, 0, 0, 0, 0, [])]
def am_t15 : List aI := [(0, .iload_n 2, 1, 0, 0, 0, 0, 0, 0, []), (1, .iload_n 3, 1, 0, 0, 0, 0, 0, 0, []), (2, .iconst 0, 1, 0, 0, 0, 0, 0, 0, []), (3, .invokestatic 43, 3, 78, 1, 2, 1, 0, 0, []), (6, .istore 4, 2, 0, 0, 0, 0, 0, 0, []), (8, .iload_n 2, 1, 0, 0, 0, 0, 0, 0, []), (9, .iload_n 3, 1, 0, 0, 0, 0, 0, 0, []), (10, .iconst 1, 1, 0, 0, 0, 0, 1, 0, []), (11, .invokestatic 43, 3, 78, 1, 2, 1, 0, 0, []), (14, .istore 5, 2, 0, 0, 0, 0, 0, 0, []), (16, .aload_n 0, 1, 0, 0, 0, 0, 0, 0, []), (17, .getfield 15, 3, 2, 1, 142, 1, 0, 0, []), (20, .iload_n 3, 1, 0, 0, 0, 0, 0, 0, []), (21, .iconst 0, 1, 0, 0, 0, 0, 0, 0, []), (22, .iastore, 1, 0, 0, 0, 0, 0, 0, []), (23, .iconst 0, 1, 0, 0, 0, 0, 0, 0, []), (24, .istore 6, 2, 0, 0, 0, 0, 0, 0, []), (26, .iconst 0, 1, 0, 0, 0, 0, 0, 0, []), (27, .istore 7, 2, 0, 0, 0, 0, 0, 0, []), (29, .iload 7, 2, 0, 0, 0, 0, 0, 0, []), (31, .bipush 6, 2, 0, 0, 0, 0, 6, 0, []), (33, .if_icmp .ge 142, 3, 175, 0, 0, 0, 0, 0, []), (36, .aload_n 1, 1, 0, 0, 0, 0, 0, 0, []), (37, .iload_n 2, 1, 0, 0, 0, 0, 0, 0, []), (38, .iload_n 3, 1, 0, 0, 0, 0, 0, 0, []), (39, .iload 7, 2, 0, 0, 0, 0, 0, 0, []), (41, .invokevirtual 47, 3, 42, 3, 234, 1, 0, 0, []), (44, .ifCond .eq 6, 3, 50, 0, 0, 0, 0, 0, []), (47, .goto 122, 3, 169, 0, 0, 0, 0, 0, []), (50, .aload_n 1, 1, 0, 0, 0, 0, 0, 0, []), (51, .iload 4, 2, 0, 0, 0, 0, 0, 0, []), (53, .aload_n 1, 1, 0, 0, 0, 0, 0, 0, []), (54, .iload 4, 2, 0, 0, 0, 0, 0, 0, []), (56, .iload 7, 2, 0, 0, 0, 0, 0, 0, []), (58, .invokevirtual 50, 3, 35, 3, 247, 1, 0, 0, []), (61, .invokevirtual 54, 3, 41, 3, 248, 1, 0, 0, []), (64, .istore 8, 2, 0, 0, 0, 0, 0, 0, []), (66, .aload_n 1, 1, 0, 0, 0, 0, 0, 0, []), (67, .iload 5, 2, 0, 0, 0, 0, 0, 0, []), (69, .aload_n 1, 1, 0, 0, 0, 0, 0, 0, []), (70, .iload 5, 2, 0, 0, 0, 0, 0, 0, []), (72, .iload 7, 2, 0, 0, 0, 0, 0, 0, []), (74, .invokevirtual 50, 3, 35, 3, 247, 1, 0, 0, []), (77, .invokevirtual 54, 3, 41, 3, 248, 1, 0, 0, []), (80, .istore 9, 2, 0, 0, 0, 0, 0, 0, []), (82, .iload 9, 2, 0, 0, 0, 0, 0, 0, []), (84, .ldc 57, 2, 0, 0, 269, 0, 648000, 0, []), (86, .isub, 1, 0, 0, 0, 0, 0, 0, []), (87, .iload 8, 2, 0, 0, 0, 0, 0, 0, []), (89, .isub, 1, 0, 0, 0, 0, 0, 0, []), (90, .invokestatic 58, 3, 79, 1, 5, 1, 0, 0, []), (93, .istore 10, 2, 0, 0, 0, 0, 0, 0, []), (95, .iload 8, 2, 0, 0, 0, 0, 0, 0, []), (97, .iload 10, 2, 0, 0, 0, 0, 0, 0, []), (99, .iconst 2, 1, 0, 0, 0, 0, 2, 0, []), (100, .invokestatic 62, 3, 159, 0, 271, 1, 0, 0, []), (103, .iadd, 1, 0, 0, 0, 0, 0, 0, []), (104, .istore 11, 2, 0, 0, 0, 0, 0, 0, []), (106, .iload 7, 2, 0, 0, 0, 0, 0, 0, []), (108, .ifCond .ne 7, 3, 115, 0, 0, 0, 0, 0, []), (111, .iload 11, 2, 0, 0, 0, 0, 0, 0, []), (113, .istore 6, 2, 0, 0, 0, 0, 0, 0, []), (115, .aload_n 0, 1, 0, 0, 0, 0, 0, 0, []), (116, .getfield 15, 3, 2, 1, 142, 1, 0, 0, []), (119, .iload_n 3, 1, 0, 0, 0, 0, 0, 0, []), (120, .dup2, 1, 0, 0, 0, 0, 0, 0, []), (121, .iaload, 1, 0, 0, 0, 0, 0, 0, []), (122, .iconst 1, 1, 0, 0, 0, 0, 1, 0, []), (123, .iload 7, 2, 0, 0, 0, 0, 0, 0, []), (125, .ishl, 1, 0, 0, 0, 0, 0, 0, []), (126, .ior, 1, 0, 0, 0, 0, 0, 0, []), (127, .iastore, 1, 0, 0, 0, 0, 0, 0, []), (128, .aload_n 0, 1, 0, 0, 0, 0, 0, 0, []), (129, .getfield 22, 3, 2, 3, 146, 1, 0, 0, []), (132, .iload_n 3, 1, 0, 0, 0, 0, 0, 0, []), (133, .bipush 6, 2, 0, 0, 0, 0, 6, 0, []), (135, .imul, 1, 0, 0, 0, 0, 0, 0, []), (136, .iload 7, 2, 0, 0, 0, 0, 0, 0, []), (138, .iadd, 1, 0, 0, 0, 0, 0, 0, []), (139, .iload 10, 2, 0, 0, 0, 0, 0, 0, []), (141, .ineg, 1, 0, 0, 0, 0, 0, 0, []), (142, .iconst 2, 1, 0, 0, 0, 0, 2, 0, []), (143, .invokestatic 62, 3, 159, 0, 271, 1, 0, 0, []), (146, .iastore, 1, 0, 0, 0, 0, 0, 0, []), (147, .aload_n 0, 1, 0, 0, 0, 0, 0, 0, []), (148, .getfield 19, 3, 2, 2, 144, 1, 0, 0, []), (151, .iload_n 3, 1, 0, 0, 0, 0, 0, 0, []), (152, .bipush 6, 2, 0, 0, 0, 0, 6, 0, []), (154, .imul, 1, 0, 0, 0, 0, 0, 0, []), (155, .iload 7, 2, 0, 0, 0, 0, 0, 0, []), (157, .iadd, 1, 0, 0, 0, 0, 0, 0, []), (158, .iload 11, 2, 0, 0, 0, 0, 0, 0, []), (160, .iload 6, 2, 0, 0, 0, 0, 0, 0, []), (162, .isub, 1, 0, 0, 0, 0, 0, 0, []), (163, .ldc 67, 2, 0, 0, 272, 0, 1296000, 0, []), (165, .invokestatic 68, 3, 160, 0, 273, 1, 0, 0, []), (168, .iastore, 1, 0, 0, 0, 0, 0, 0, []), (169, .iinc 7 1, 3, 0, 0, 0, 0, 1, 0, []), (172, .goto (-143), 3, 29, 0, 0, 0, 0, 0, []), (175, .return_, 1, 0, 0, 0, 0, 0, 0, [])]
def am_t16 : List aI := [(0, .iconst 0, 1, 0, 0, 0, 0, 0, 0, []), (1, .istore_n 2, 1, 0, 0, 0, 0, 0, 0, []), (2, .iconst 0, 1, 0, 0, 0, 0, 0, 0, []), (3, .istore_n 3, 1, 0, 0, 0, 0, 0, 0, []), (4, .iconst 0, 1, 0, 0, 0, 0, 0, 0, []), (5, .istore 4, 2, 0, 0, 0, 0, 0, 0, []), (7, .iconst 0, 1, 0, 0, 0, 0, 0, 0, []), (8, .istore 5, 2, 0, 0, 0, 0, 0, 0, []), (10, .iload 5, 2, 0, 0, 0, 0, 0, 0, []), (12, .aload_n 0, 1, 0, 0, 0, 0, 0, 0, []), (13, .getfield 9, 3, 2, 0, 141, 0, 0, 0, []), (16, .if_icmp .ge 58, 3, 74, 0, 0, 0, 0, 0, []), (19, .aload_n 0, 1, 0, 0, 0, 0, 0, 0, []), (20, .iload 5, 2, 0, 0, 0, 0, 0, 0, []), (22, .iload_n 1, 1, 0, 0, 0, 0, 0, 0, []), (23, .invokevirtual 71, 3, 18, 2, 280, 1, 0, 0, []), (26, .ifCond .ne 6, 3, 32, 0, 0, 0, 0, 0, []), (29, .goto 39, 3, 68, 0, 0, 0, 0, 0, []), (32, .aload_n 0, 1, 0, 0, 0, 0, 0, 0, []), (33, .getfield 19, 3, 2, 2, 144, 1, 0, 0, []), (36, .iload 5, 2, 0, 0, 0, 0, 0, 0, []), (38, .bipush 6, 2, 0, 0, 0, 0, 6, 0, []), (40, .imul, 1, 0, 0, 0, 0, 0, 0, []), (41, .iload_n 1, 1, 0, 0, 0, 0, 0, 0, []), (42, .iadd, 1, 0, 0, 0, 0, 0, 0, []), (43, .iaload, 1, 0, 0, 0, 0, 0, 0, []), (44, .istore 6, 2, 0, 0, 0, 0, 0, 0, []), (46, .iload_n 2, 1, 0, 0, 0, 0, 0, 0, []), (47, .ifCond .ne 6, 3, 53, 0, 0, 0, 0, 0, []), (50, .iload 6, 2, 0, 0, 0, 0, 0, 0, []), (52, .istore_n 3, 1, 0, 0, 0, 0, 0, 0, []), (53, .iload 4, 2, 0, 0, 0, 0, 0, 0, []), (55, .iload 6, 2, 0, 0, 0, 0, 0, 0, []), (57, .iload_n 3, 1, 0, 0, 0, 0, 0, 0, []), (58, .isub, 1, 0, 0, 0, 0, 0, 0, []), (59, .invokestatic 58, 3, 79, 1, 5, 1, 0, 0, []), (62, .iadd, 1, 0, 0, 0, 0, 0, 0, []), (63, .istore 4, 2, 0, 0, 0, 0, 0, 0, []), (65, .iinc 2 1, 3, 0, 0, 0, 0, 1, 0, []), (68, .iinc 5 1, 3, 0, 0, 0, 0, 1, 0, []), (71, .goto (-61), 3, 10, 0, 0, 0, 0, 0, []), (74, .iload_n 2, 1, 0, 0, 0, 0, 0, 0, []), (75, .ifCond .ne 11, 3, 86, 0, 0, 0, 0, 0, []), (78, .aload_n 0, 1, 0, 0, 0, 0, 0, 0, []), (79, .getfield 28, 3, 2, 5, 150, 1, 0, 0, []), (82, .iload_n 1, 1, 0, 0, 0, 0, 0, 0, []), (83, .iconst (-1), 1, 0, 0, 0, 0, (-1), 0, []), (84, .iastore, 1, 0, 0, 0, 0, 0, 0, []), (85, .return_, 1, 0, 0, 0, 0, 0, 0, []), (86, .aload_n 0, 1, 0, 0, 0, 0, 0, 0, []), (87, .getfield 28, 3, 2, 5, 150, 1, 0, 0, []), (90, .iload_n 1, 1, 0, 0, 0, 0, 0, 0, []), (91, .iload_n 3, 1, 0, 0, 0, 0, 0, 0, []), (92, .iload 4, 2, 0, 0, 0, 0, 0, 0, []), (94, .iload_n 2, 1, 0, 0, 0, 0, 0, 0, []), (95, .invokestatic 62, 3, 159, 0, 271, 1, 0, 0, []), (98, .iadd, 1, 0, 0, 0, 0, 0, 0, []), (99, .ldc 67, 2, 0, 0, 272, 0, 1296000, 0, []), (101, .invokestatic 68, 3, 160, 0, 273, 1, 0, 0, []), (104, .iastore, 1, 0, 0, 0, 0, 0, 0, []), (105, .aload_n 0, 1, 0, 0, 0, 0, 0, 0, []), (106, .iload_n 1, 1, 0, 0, 0, 0, 0, 0, []), (107, .invokevirtual 75, 3, 17, 2, 284, 0, 0, 0, []), (110, .return_, 1, 0, 0, 0, 0, 0, 0, [])]
def am_t17 : List aI := [(0, .iconst 0, 1, 0, 0, 0, 0, 0, 0, []), (1, .istore_n 2, 1, 0, 0, 0, 0, 0, 0, []), (2, .iload_n 2, 1, 0, 0, 0, 0, 0, 0, []), (3, .aload_n 0, 1, 0, 0, 0, 0, 0, 0, []), (4, .getfield 9, 3, 2, 0, 141, 0, 0, 0, []), (7, .if_icmp .ge 47, 3, 54, 0, 0, 0, 0, 0, []), (10, .aload_n 0, 1, 0, 0, 0, 0, 0, 0, []), (11, .iload_n 2, 1, 0, 0, 0, 0, 0, 0, []), (12, .iload_n 1, 1, 0, 0, 0, 0, 0, 0, []), (13, .invokevirtual 71, 3, 18, 2, 280, 1, 0, 0, []), (16, .ifCond .eq 32, 3, 48, 0, 0, 0, 0, 0, []), (19, .iload_n 2, 1, 0, 0, 0, 0, 0, 0, []), (20, .bipush 6, 2, 0, 0, 0, 0, 6, 0, []), (22, .imul, 1, 0, 0, 0, 0, 0, 0, []), (23, .iload_n 1, 1, 0, 0, 0, 0, 0, 0, []), (24, .iadd, 1, 0, 0, 0, 0, 0, 0, []), (25, .istore_n 3, 1, 0, 0, 0, 0, 0, 0, []), (26, .aload_n 0, 1, 0, 0, 0, 0, 0, 0, []), (27, .getfield 25, 3, 2, 4, 148, 1, 0, 0, []), (30, .iload_n 3, 1, 0, 0, 0, 0, 0, 0, []), (31, .aload_n 0, 1, 0, 0, 0, 0, 0, 0, []), (32, .getfield 19, 3, 2, 2, 144, 1, 0, 0, []), (35, .iload_n 3, 1, 0, 0, 0, 0, 0, 0, []), (36, .iaload, 1, 0, 0, 0, 0, 0, 0, []), (37, .aload_n 0, 1, 0, 0, 0, 0, 0, 0, []), (38, .getfield 28, 3, 2, 5, 150, 1, 0, 0, []), (41, .iload_n 1, 1, 0, 0, 0, 0, 0, 0, []), (42, .iaload, 1, 0, 0, 0, 0, 0, 0, []), (43, .isub, 1, 0, 0, 0, 0, 0, 0, []), (44, .invokestatic 58, 3, 79, 1, 5, 1, 0, 0, []), (47, .iastore, 1, 0, 0, 0, 0, 0, 0, []), (48, .iinc 2 1, 3, 0, 0, 0, 0, 1, 0, []), (51, .goto (-49), 3, 2, 0, 0, 0, 0, 0, []), (54, .return_, 1, 0, 0, 0, 0, 0, 0, [])]
def am_t18 : List aI := [(0, .aload_n 0, 1, 0, 0, 0, 0, 0, 0, []), (1, .getfield 15, 3, 2, 1, 142, 1, 0, 0, []), (4, .iload_n 1, 1, 0, 0, 0, 0, 0, 0, []), (5, .iaload, 1, 0, 0, 0, 0, 0, 0, []), (6, .iconst 1, 1, 0, 0, 0, 0, 1, 0, []), (7, .iload_n 2, 1, 0, 0, 0, 0, 0, 0, []), (8, .ishl, 1, 0, 0, 0, 0, 0, 0, []), (9, .iand, 1, 0, 0, 0, 0, 0, 0, []), (10, .ifCond .eq 7, 3, 17, 0, 0, 0, 0, 0, []), (13, .iconst 1, 1, 0, 0, 0, 0, 1, 0, []), (14, .goto 4, 3, 18, 0, 0, 0, 0, 0, []), (17, .iconst 0, 1, 0, 0, 0, 0, 0, 0, []), (18, .ireturn, 1, 0, 0, 0, 1, 0, 0, [])]
def am_t19 : List aI := [(0, .aload_n 0, 1, 0, 0, 0, 0, 0, 0, []), (1, .getfield 28, 3, 2, 5, 150, 1, 0, 0, []), (4, .iload_n 1, 1, 0, 0, 0, 0, 0, 0, []), (5, .iaload, 1, 0, 0, 0, 0, 0, 0, []), (6, .iconst (-1), 1, 0, 0, 0, 0, (-1), 0, []), (7, .if_icmp .eq 7, 3, 14, 0, 0, 0, 0, 0, []), (10, .iconst 1, 1, 0, 0, 0, 0, 1, 0, []), (11, .goto 4, 3, 15, 0, 0, 0, 0, 0, []), (14, .iconst 0, 1, 0, 0, 0, 0, 0, 0, []), (15, .ireturn, 1, 0, 0, 0, 1, 0, 0, [])]
def am_t20 : List aI := [(0, .iconst 0, 1, 0, 0, 0, 0, 0, 0, []), (1, .istore_n 2, 1, 0, 0, 0, 0, 0, 0, []), (2, .iconst 0, 1, 0, 0, 0, 0, 0, 0, []), (3, .istore_n 3, 1, 0, 0, 0, 0, 0, 0, []), (4, .iload_n 3, 1, 0, 0, 0, 0, 0, 0, []), (5, .aload_n 0, 1, 0, 0, 0, 0, 0, 0, []), (6, .getfield 9, 3, 2, 0, 141, 0, 0, 0, []), (9, .if_icmp .ge 24, 3, 33, 0, 0, 0, 0, 0, []), (12, .aload_n 0, 1, 0, 0, 0, 0, 0, 0, []), (13, .iload_n 3, 1, 0, 0, 0, 0, 0, 0, []), (14, .iload_n 1, 1, 0, 0, 0, 0, 0, 0, []), (15, .invokevirtual 71, 3, 18, 2, 280, 1, 0, 0, []), (18, .ifCond .eq 9, 3, 27, 0, 0, 0, 0, 0, []), (21, .iload_n 2, 1, 0, 0, 0, 0, 0, 0, []), (22, .iconst 1, 1, 0, 0, 0, 0, 1, 0, []), (23, .iload_n 3, 1, 0, 0, 0, 0, 0, 0, []), (24, .ishl, 1, 0, 0, 0, 0, 0, 0, []), (25, .ior, 1, 0, 0, 0, 0, 0, 0, []), (26, .istore_n 2, 1, 0, 0, 0, 0, 0, 0, []), (27, .iinc 3 1, 3, 0, 0, 0, 0, 1, 0, []), (30, .goto (-26), 3, 4, 0, 0, 0, 0, 0, []), (33, .iload_n 2, 1, 0, 0, 0, 0, 0, 0, []), (34, .ireturn, 1, 0, 0, 0, 0, 0, 0, [])]
def am_t21 : List aI := [(0, .aload_n 0, 1, 0, 0, 0, 0, 0, 0, []), (1, .iload_n 1, 1, 0, 0, 0, 0, 0, 0, []), (2, .iload_n 2, 1, 0, 0, 0, 0, 0, 0, []), (3, .invokevirtual 71, 3, 18, 2, 280, 1, 0, 0, []), (6, .ifCond .eq 20, 3, 26, 0, 0, 0, 0, 0, []), (9, .aload_n 0, 1, 0, 0, 0, 0, 0, 0, []), (10, .getfield 25, 3, 2, 4, 148, 1, 0, 0, []), (13, .iload_n 1, 1, 0, 0, 0, 0, 0, 0, []), (14, .bipush 6, 2, 0, 0, 0, 0, 6, 0, []), (16, .imul, 1, 0, 0, 0, 0, 0, 0, []), (17, .iload_n 2, 1, 0, 0, 0, 0, 0, 0, []), (18, .iadd, 1, 0, 0, 0, 0, 0, 0, []), (19, .iaload, 1, 0, 0, 0, 0, 0, 0, []), (20, .invokestatic 78, 3, 0, 4, 323, 0, 0, 0, []), (23, .goto 4, 3, 27, 0, 0, 0, 0, 0, []), (26, .iconst 0, 1, 0, 0, 0, 0, 0, 0, []), (27, .ireturn, 1, 0, 0, 0, 0, 0, 0, [])]
def am_t22 : List aI := [(0, .iconst 0, 1, 0, 0, 0, 0, 0, 0, []), (1, .istore_n 2, 1, 0, 0, 0, 0, 0, 0, []), (2, .iconst 0, 1, 0, 0, 0, 0, 0, 0, []), (3, .istore_n 3, 1, 0, 0, 0, 0, 0, 0, []), (4, .iload_n 3, 1, 0, 0, 0, 0, 0, 0, []), (5, .aload_n 0, 1, 0, 0, 0, 0, 0, 0, []), (6, .getfield 9, 3, 2, 0, 141, 0, 0, 0, []), (9, .if_icmp .ge 20, 3, 29, 0, 0, 0, 0, 0, []), (12, .iload_n 2, 1, 0, 0, 0, 0, 0, 0, []), (13, .aload_n 0, 1, 0, 0, 0, 0, 0, 0, []), (14, .iload_n 3, 1, 0, 0, 0, 0, 0, 0, []), (15, .iload_n 1, 1, 0, 0, 0, 0, 0, 0, []), (16, .invokevirtual 81, 3, 21, 2, 319, 1, 0, 0, []), (19, .invokestatic 84, 3, 0, 3, 477, 0, 0, 0, []), (22, .istore_n 2, 1, 0, 0, 0, 0, 0, 0, []), (23, .iinc 3 1, 3, 0, 0, 0, 0, 1, 0, []), (26, .goto (-22), 3, 4, 0, 0, 0, 0, 0, []), (29, .iload_n 2, 1, 0, 0, 0, 0, 0, 0, []), (30, .ireturn, 1, 0, 0, 0, 0, 0, 0, [])]
def am_t23 : List aI := [(0, .iconst 0, 1, 0, 0, 0, 0, 0, 0, []), (1, .istore_n 3, 1, 0, 0, 0, 0, 0, 0, []), (2, .iconst 0, 1, 0, 0, 0, 0, 0, 0, []), (3, .istore 4, 2, 0, 0, 0, 0, 0, 0, []), (5, .iload 4, 2, 0, 0, 0, 0, 0, 0, []), (7, .bipush 6, 2, 0, 0, 0, 0, 6, 0, []), (9, .if_icmp .ge 27, 3, 36, 0, 0, 0, 0, 0, []), (12, .aload_n 0, 1, 0, 0, 0, 0, 0, 0, []), (13, .iload_n 1, 1, 0, 0, 0, 0, 0, 0, []), (14, .iload 4, 2, 0, 0, 0, 0, 0, 0, []), (16, .invokevirtual 81, 3, 21, 2, 319, 1, 0, 0, []), (19, .iload_n 2, 1, 0, 0, 0, 0, 0, 0, []), (20, .if_icmp .le 10, 3, 30, 0, 0, 0, 0, 0, []), (23, .iload_n 3, 1, 0, 0, 0, 0, 0, 0, []), (24, .iconst 1, 1, 0, 0, 0, 0, 1, 0, []), (25, .iload 4, 2, 0, 0, 0, 0, 0, 0, []), (27, .ishl, 1, 0, 0, 0, 0, 0, 0, []), (28, .ior, 1, 0, 0, 0, 0, 0, 0, []), (29, .istore_n 3, 1, 0, 0, 0, 0, 0, 0, []), (30, .iinc 4 1, 3, 0, 0, 0, 0, 1, 0, []), (33, .goto (-28), 3, 5, 0, 0, 0, 0, 0, []), (36, .iload_n 3, 1, 0, 0, 0, 0, 0, 0, []), (37, .ireturn, 1, 0, 0, 0, 0, 0, 0, [])]
def am_t24 : List aI := [(0, .iconst (-1), 1, 0, 0, 0, 0, (-1), 0, []), (1, .istore_n 2, 1, 0, 0, 0, 0, 0, 0, []), (2, .iload_n 1, 1, 0, 0, 0, 0, 0, 0, []), (3, .istore_n 3, 1, 0, 0, 0, 0, 0, 0, []), (4, .iconst 0, 1, 0, 0, 0, 0, 0, 0, []), (5, .istore 4, 2, 0, 0, 0, 0, 0, 0, []), (7, .iload 4, 2, 0, 0, 0, 0, 0, 0, []), (9, .aload_n 0, 1, 0, 0, 0, 0, 0, 0, []), (10, .getfield 9, 3, 2, 0, 141, 0, 0, 0, []), (13, .if_icmp .ge 53, 3, 66, 0, 0, 0, 0, 0, []), (16, .iconst 0, 1, 0, 0, 0, 0, 0, 0, []), (17, .istore 5, 2, 0, 0, 0, 0, 0, 0, []), (19, .iload 5, 2, 0, 0, 0, 0, 0, 0, []), (21, .bipush 6, 2, 0, 0, 0, 0, 6, 0, []), (23, .if_icmp .ge 37, 3, 60, 0, 0, 0, 0, 0, []), (26, .aload_n 0, 1, 0, 0, 0, 0, 0, 0, []), (27, .iload 4, 2, 0, 0, 0, 0, 0, 0, []), (29, .iload 5, 2, 0, 0, 0, 0, 0, 0, []), (31, .invokevirtual 81, 3, 21, 2, 319, 1, 0, 0, []), (34, .istore 6, 2, 0, 0, 0, 0, 0, 0, []), (36, .iload 6, 2, 0, 0, 0, 0, 0, 0, []), (38, .iload_n 3, 1, 0, 0, 0, 0, 0, 0, []), (39, .if_icmp .le 15, 3, 54, 0, 0, 0, 0, 0, []), (42, .iload 6, 2, 0, 0, 0, 0, 0, 0, []), (44, .istore_n 3, 1, 0, 0, 0, 0, 0, 0, []), (45, .iload 4, 2, 0, 0, 0, 0, 0, 0, []), (47, .bipush 6, 2, 0, 0, 0, 0, 6, 0, []), (49, .imul, 1, 0, 0, 0, 0, 0, 0, []), (50, .iload 5, 2, 0, 0, 0, 0, 0, 0, []), (52, .iadd, 1, 0, 0, 0, 0, 0, 0, []), (53, .istore_n 2, 1, 0, 0, 0, 0, 0, 0, []), (54, .iinc 5 1, 3, 0, 0, 0, 0, 1, 0, []), (57, .goto (-38), 3, 19, 0, 0, 0, 0, 0, []), (60, .iinc 4 1, 3, 0, 0, 0, 0, 1, 0, []), (63, .goto (-56), 3, 7, 0, 0, 0, 0, 0, []), (66, .iload_n 2, 1, 0, 0, 0, 0, 0, 0, []), (67, .ireturn, 1, 0, 0, 0, 0, 0, 0, [])]
def am_t25 : List aI := [(0, .aload_n 0, 1, 0, 0, 0, 0, 0, 0, []), (1, .getfield 15, 3, 2, 1, 142, 1, 0, 0, []), (4, .iload_n 1, 1, 0, 0, 0, 0, 0, 0, []), (5, .iaload, 1, 0, 0, 0, 0, 0, 0, []), (6, .invokestatic 87, 3, 158, 0, 308, 1, 0, 0, []), (9, .istore_n 2, 1, 0, 0, 0, 0, 0, 0, []), (10, .iload_n 2, 1, 0, 0, 0, 0, 0, 0, []), (11, .ifCond .ne 6, 3, 17, 0, 0, 0, 0, 0, []), (14, .ldc 92, 2, 0, 0, 314, 0, (-2000005), 0, []), (16, .ireturn, 1, 0, 0, 0, 0, 0, 0, []), (17, .iconst 0, 1, 0, 0, 0, 0, 0, 0, []), (18, .istore_n 3, 1, 0, 0, 0, 0, 0, 0, []), (19, .iconst 0, 1, 0, 0, 0, 0, 0, 0, []), (20, .istore 4, 2, 0, 0, 0, 0, 0, 0, []), (22, .iload 4, 2, 0, 0, 0, 0, 0, 0, []), (24, .bipush 6, 2, 0, 0, 0, 0, 6, 0, []), (26, .if_icmp .ge 34, 3, 60, 0, 0, 0, 0, 0, []), (29, .aload_n 0, 1, 0, 0, 0, 0, 0, 0, []), (30, .iload_n 1, 1, 0, 0, 0, 0, 0, 0, []), (31, .iload 4, 2, 0, 0, 0, 0, 0, 0, []), (33, .invokevirtual 71, 3, 18, 2, 280, 1, 0, 0, []), (36, .ifCond .eq 18, 3, 54, 0, 0, 0, 0, 0, []), (39, .iload_n 3, 1, 0, 0, 0, 0, 0, 0, []), (40, .aload_n 0, 1, 0, 0, 0, 0, 0, 0, []), (41, .getfield 22, 3, 2, 3, 146, 1, 0, 0, []), (44, .iload_n 1, 1, 0, 0, 0, 0, 0, 0, []), (45, .bipush 6, 2, 0, 0, 0, 0, 6, 0, []), (47, .imul, 1, 0, 0, 0, 0, 0, 0, []), (48, .iload 4, 2, 0, 0, 0, 0, 0, 0, []), (50, .iadd, 1, 0, 0, 0, 0, 0, 0, []), (51, .iaload, 1, 0, 0, 0, 0, 0, 0, []), (52, .iadd, 1, 0, 0, 0, 0, 0, 0, []), (53, .istore_n 3, 1, 0, 0, 0, 0, 0, 0, []), (54, .iinc 4 1, 3, 0, 0, 0, 0, 1, 0, []), (57, .goto (-35), 3, 22, 0, 0, 0, 0, 0, []), (60, .iload_n 3, 1, 0, 0, 0, 0, 0, 0, []), (61, .iload_n 2, 1, 0, 0, 0, 0, 0, 0, []), (62, .invokestatic 62, 3, 159, 0, 271, 1, 0, 0, []), (65, .ireturn, 1, 0, 0, 0, 0, 0, 0, [])]
def am_t26 : List aI := [(0, .aload_n 0, 1, 0, 0, 0, 0, 0, 0, []), (1, .getfield 28, 3, 2, 5, 150, 1, 0, 0, []), (4, .iload_n 2, 1, 0, 0, 0, 0, 0, 0, []), (5, .iaload, 1, 0, 0, 0, 0, 0, 0, []), (6, .aload_n 0, 1, 0, 0, 0, 0, 0, 0, []), (7, .getfield 28, 3, 2, 5, 150, 1, 0, 0, []), (10, .iload_n 1, 1, 0, 0, 0, 0, 0, 0, []), (11, .iaload, 1, 0, 0, 0, 0, 0, 0, []), (12, .isub, 1, 0, 0, 0, 0, 0, 0, []), (13, .ldc 67, 2, 0, 0, 272, 0, 1296000, 0, []), (15, .invokestatic 68, 3, 160, 0, 273, 1, 0, 0, []), (18, .ireturn, 1, 0, 0, 0, 0, 0, 0, [])]
def am_t27 : List aI := [(0, .iconst 0, 1, 0, 0, 0, 0, 0, 0, []), (1, .istore_n 2, 1, 0, 0, 0, 0, 0, 0, []), (2, .iconst 0, 1, 0, 0, 0, 0, 0, 0, []), (3, .istore_n 3, 1, 0, 0, 0, 0, 0, 0, []), (4, .iconst 0, 1, 0, 0, 0, 0, 0, 0, []), (5, .istore 4, 2, 0, 0, 0, 0, 0, 0, []), (7, .iload 4, 2, 0, 0, 0, 0, 0, 0, []), (9, .bipush 6, 2, 0, 0, 0, 0, 6, 0, []), (11, .if_icmp .ge 42, 3, 53, 0, 0, 0, 0, 0, []), (14, .iload_n 3, 1, 0, 0, 0, 0, 0, 0, []), (15, .iload_n 1, 1, 0, 0, 0, 0, 0, 0, []), (16, .if_icmp .eq 37, 3, 53, 0, 0, 0, 0, 0, []), (19, .aload_n 0, 1, 0, 0, 0, 0, 0, 0, []), (20, .iload_n 3, 1, 0, 0, 0, 0, 0, 0, []), (21, .invokevirtual 93, 3, 28, 2, 498, 1, 0, 0, []), (24, .istore 5, 2, 0, 0, 0, 0, 0, 0, []), (26, .iload 5, 2, 0, 0, 0, 0, 0, 0, []), (28, .iconst (-1), 1, 0, 0, 0, 0, (-1), 0, []), (29, .if_icmp .ne 5, 3, 34, 0, 0, 0, 0, 0, []), (32, .iload_n 2, 1, 0, 0, 0, 0, 0, 0, []), (33, .ireturn, 1, 0, 0, 0, 0, 0, 0, []), (34, .iload_n 2, 1, 0, 0, 0, 0, 0, 0, []), (35, .aload_n 0, 1, 0, 0, 0, 0, 0, 0, []), (36, .iload_n 3, 1, 0, 0, 0, 0, 0, 0, []), (37, .iload 5, 2, 0, 0, 0, 0, 0, 0, []), (39, .invokevirtual 96, 3, 26, 2, 507, 1, 0, 0, []), (42, .iadd, 1, 0, 0, 0, 0, 0, 0, []), (43, .istore_n 2, 1, 0, 0, 0, 0, 0, 0, []), (44, .iload 5, 2, 0, 0, 0, 0, 0, 0, []), (46, .istore_n 3, 1, 0, 0, 0, 0, 0, 0, []), (47, .iinc 4 1, 3, 0, 0, 0, 0, 1, 0, []), (50, .goto (-43), 3, 7, 0, 0, 0, 0, 0, []), (53, .iload_n 2, 1, 0, 0, 0, 0, 0, 0, []), (54, .ireturn, 1, 0, 0, 0, 0, 0, 0, [])]
def am_t28 : List aI := [(0, .iconst (-1), 1, 0, 0, 0, 0, (-1), 0, []), (1, .istore_n 2, 1, 0, 0, 0, 0, 0, 0, []), (2, .iconst 0, 1, 0, 0, 0, 0, 0, 0, []), (3, .istore_n 3, 1, 0, 0, 0, 0, 0, 0, []), (4, .iload_n 3, 1, 0, 0, 0, 0, 0, 0, []), (5, .bipush 6, 2, 0, 0, 0, 0, 6, 0, []), (7, .if_icmp .ge 60, 3, 67, 0, 0, 0, 0, 0, []), (10, .aload_n 0, 1, 0, 0, 0, 0, 0, 0, []), (11, .iload_n 3, 1, 0, 0, 0, 0, 0, 0, []), (12, .invokevirtual 99, 3, 19, 2, 502, 1, 0, 0, []), (15, .ifCond .eq 16, 3, 31, 0, 0, 0, 0, 0, []), (18, .aload_n 0, 1, 0, 0, 0, 0, 0, 0, []), (19, .iload_n 3, 1, 0, 0, 0, 0, 0, 0, []), (20, .iload_n 1, 1, 0, 0, 0, 0, 0, 0, []), (21, .invokevirtual 103, 3, 29, 2, 503, 1, 0, 0, []), (24, .ifCond .eq 7, 3, 31, 0, 0, 0, 0, 0, []), (27, .iconst 1, 1, 0, 0, 0, 0, 1, 0, []), (28, .goto 4, 3, 32, 0, 0, 0, 0, 0, []), (31, .iconst 0, 1, 0, 0, 0, 0, 0, 0, []), (32, .istore 4, 2, 0, 0, 0, 0, 0, 0, []), (34, .iload 4, 2, 0, 0, 0, 0, 0, 0, []), (36, .ifCond .eq 25, 3, 61, 0, 0, 0, 0, 0, []), (39, .iload_n 2, 1, 0, 0, 0, 0, 0, 0, []), (40, .iconst (-1), 1, 0, 0, 0, 0, (-1), 0, []), (41, .if_icmp .eq 18, 3, 59, 0, 0, 0, 0, 0, []), (44, .aload_n 0, 1, 0, 0, 0, 0, 0, 0, []), (45, .getfield 28, 3, 2, 5, 150, 1, 0, 0, []), (48, .iload_n 3, 1, 0, 0, 0, 0, 0, 0, []), (49, .iaload, 1, 0, 0, 0, 0, 0, 0, []), (50, .aload_n 0, 1, 0, 0, 0, 0, 0, 0, []), (51, .getfield 28, 3, 2, 5, 150, 1, 0, 0, []), (54, .iload_n 2, 1, 0, 0, 0, 0, 0, 0, []), (55, .iaload, 1, 0, 0, 0, 0, 0, 0, []), (56, .if_icmp .ge 5, 3, 61, 0, 0, 0, 0, 0, []), (59, .iload_n 3, 1, 0, 0, 0, 0, 0, 0, []), (60, .istore_n 2, 1, 0, 0, 0, 0, 0, 0, []), (61, .iinc 3 1, 3, 0, 0, 0, 0, 1, 0, []), (64, .goto (-60), 3, 4, 0, 0, 0, 0, 0, []), (67, .iload_n 2, 1, 0, 0, 0, 0, 0, 0, []), (68, .ireturn, 1, 0, 0, 0, 0, 0, 0, [])]
def am_t29 : List aI := [(0, .aload_n 0, 1, 0, 0, 0, 0, 0, 0, []), (1, .getfield 28, 3, 2, 5, 150, 1, 0, 0, []), (4, .iload_n 1, 1, 0, 0, 0, 0, 0, 0, []), (5, .iaload, 1, 0, 0, 0, 0, 0, 0, []), (6, .aload_n 0, 1, 0, 0, 0, 0, 0, 0, []), (7, .getfield 28, 3, 2, 5, 150, 1, 0, 0, []), (10, .iload_n 2, 1, 0, 0, 0, 0, 0, 0, []), (11, .iaload, 1, 0, 0, 0, 0, 0, 0, []), (12, .if_icmp .ne 14, 3, 26, 0, 0, 0, 0, 0, []), (15, .iload_n 1, 1, 0, 0, 0, 0, 0, 0, []), (16, .iload_n 2, 1, 0, 0, 0, 0, 0, 0, []), (17, .if_icmp .le 7, 3, 24, 0, 0, 0, 0, 0, []), (20, .iconst 1, 1, 0, 0, 0, 0, 1, 0, []), (21, .goto 4, 3, 25, 0, 0, 0, 0, 0, []), (24, .iconst 0, 1, 0, 0, 0, 0, 0, 0, []), (25, .ireturn, 1, 0, 0, 0, 1, 0, 0, []), (26, .aload_n 0, 1, 0, 0, 0, 0, 0, 0, []), (27, .getfield 28, 3, 2, 5, 150, 1, 0, 0, []), (30, .iload_n 1, 1, 0, 0, 0, 0, 0, 0, []), (31, .iaload, 1, 0, 0, 0, 0, 0, 0, []), (32, .aload_n 0, 1, 0, 0, 0, 0, 0, 0, []), (33, .getfield 28, 3, 2, 5, 150, 1, 0, 0, []), (36, .iload_n 2, 1, 0, 0, 0, 0, 0, 0, []), (37, .iaload, 1, 0, 0, 0, 0, 0, 0, []), (38, .if_icmp .le 7, 3, 45, 0, 0, 0, 0, 0, []), (41, .iconst 1, 1, 0, 0, 0, 0, 1, 0, []), (42, .goto 4, 3, 46, 0, 0, 0, 0, 0, []), (45, .iconst 0, 1, 0, 0, 0, 0, 0, 0, []), (46, .ireturn, 1, 0, 0, 0, 1, 0, 0, [])]
def am_t30 : List aI := [(0, .aload_n 0, 1, 0, 0, 0, 0, 0, 0, []), (1, .invokespecial 3, 3, 0, 2, 36, 0, 0, 0, []), (4, .aload_n 0, 1, 0, 0, 0, 0, 0, 0, []), (5, .iconst 0, 1, 0, 0, 0, 0, 0, 0, []), (6, .putfield 9, 3, 3, 0, 40, 0, 0, 0, []), (9, .aload_n 0, 1, 0, 0, 0, 0, 0, 0, []), (10, .bipush 20, 2, 0, 0, 0, 0, 20, 0, []), (12, .putfield 15, 3, 3, 1, 42, 0, 0, 0, []), (15, .aload_n 0, 1, 0, 0, 0, 0, 0, 0, []), (16, .iconst 4, 1, 0, 0, 0, 0, 4, 0, []), (17, .newarray .int, 2, 4, 1, 86, 0, 4, 0, []), (19, .putfield 18, 3, 3, 2, 44, 1, 0, 0, []), (22, .aload_n 0, 1, 0, 0, 0, 0, 0, 0, []), (23, .iconst 4, 1, 0, 0, 0, 0, 4, 0, []), (24, .newarray .int, 2, 4, 1, 86, 0, 4, 0, []), (26, .putfield 22, 3, 3, 3, 47, 1, 0, 0, []), (29, .aload_n 0, 1, 0, 0, 0, 0, 0, 0, []), (30, .iconst 4, 1, 0, 0, 0, 0, 4, 0, []), (31, .newarray .int, 2, 4, 1, 86, 0, 4, 0, []), (33, .putfield 25, 3, 3, 4, 49, 1, 0, 0, []), (36, .aload_n 0, 1, 0, 0, 0, 0, 0, 0, []), (37, .bipush 6, 2, 0, 0, 0, 0, 6, 0, []), (39, .newarray .int, 2, 6, 1, 86, 0, 6, 0, []), (41, .putfield 28, 3, 3, 5, 51, 1, 0, 0, []), (44, .aload_n 0, 1, 0, 0, 0, 0, 0, 0, []), (45, .bipush 48, 2, 0, 0, 0, 0, 48, 0, []), (47, .newarray .int, 2, 48, 1, 86, 0, 48, 0, []), (49, .putfield 31, 3, 3, 6, 53, 1, 0, 0, []), (52, .aload_n 0, 1, 0, 0, 0, 0, 0, 0, []), (53, .bipush 48, 2, 0, 0, 0, 0, 48, 0, []), (55, .newarray .int, 2, 48, 1, 86, 0, 48, 0, []), (57, .putfield 34, 3, 3, 7, 55, 1, 0, 0, []), (60, .aload_n 0, 1, 0, 0, 0, 0, 0, 0, []), (61, .sipush 288, 3, 0, 0, 0, 0, 288, 0, []), (64, .newarray .int, 2, 288, 1, 86, 0, 288, 0, []), (66, .putfield 37, 3, 3, 8, 57, 1, 0, 0, []), (69, .aload_n 0, 1, 0, 0, 0, 0, 0, 0, []), (70, .sipush 288, 3, 0, 0, 0, 0, 288, 0, []), (73, .newarray .int, 2, 288, 1, 86, 0, 288, 0, []), (75, .putfield 40, 3, 3, 9, 59, 1, 0, 0, []), (78, .aload_n 0, 1, 0, 0, 0, 0, 0, 0, []), (79, .sipush 288, 3, 0, 0, 0, 0, 288, 0, []), (82, .newarray .boolean, 2, 288, 2, 87, 0, 288, 0, []), (84, .putfield 43, 3, 3, 10, 61, 1, 0, 0, []), (87, .aload_n 0, 1, 0, 0, 0, 0, 0, 0, []), (88, .getfield 28, 3, 3, 5, 51, 1, 0, 0, []), (91, .bipush 100, 2, 0, 0, 0, 0, 100, 0, []), (93, .invokestatic 47, 3, 163, 0, 37, 0, 0, 0, []), (96, .aload_n 0, 1, 0, 0, 0, 0, 0, 0, []), (97, .getfield 34, 3, 3, 7, 55, 1, 0, 0, []), (100, .iconst (-1), 1, 0, 0, 0, 0, (-1), 0, []), (101, .invokestatic 47, 3, 163, 0, 37, 0, 0, 0, []), (104, .return_, 1, 0, 0, 0, 0, 0, 0, [])]
def am_t31 : List aI := [(0, .aload_n 0, 1, 0, 0, 0, 0, 0, 0, []), (1, .aload_n 1, 1, 0, 0, 0, 0, 0, 0, []), (2, .getfield 9, 3, 3, 0, 40, 0, 0, 0, []), (5, .putfield 9, 3, 3, 0, 40, 0, 0, 0, []), (8, .aload_n 0, 1, 0, 0, 0, 0, 0, 0, []), (9, .aload_n 1, 1, 0, 0, 0, 0, 0, 0, []), (10, .getfield 15, 3, 3, 1, 42, 0, 0, 0, []), (13, .putfield 15, 3, 3, 1, 42, 0, 0, 0, []), (16, .aload_n 1, 1, 0, 0, 0, 0, 0, 0, []), (17, .getfield 18, 3, 3, 2, 44, 1, 0, 0, []), (20, .iconst 0, 1, 0, 0, 0, 0, 0, 0, []), (21, .aload_n 0, 1, 0, 0, 0, 0, 0, 0, []), (22, .getfield 18, 3, 3, 2, 44, 1, 0, 0, []), (25, .iconst 0, 1, 0, 0, 0, 0, 0, 0, []), (26, .iconst 4, 1, 0, 0, 0, 0, 4, 0, []), (27, .invokestatic 53, 3, 0, 2, 201, 0, 0, 0, []), (30, .aload_n 1, 1, 0, 0, 0, 0, 0, 0, []), (31, .getfield 22, 3, 3, 3, 47, 1, 0, 0, []), (34, .iconst 0, 1, 0, 0, 0, 0, 0, 0, []), (35, .aload_n 0, 1, 0, 0, 0, 0, 0, 0, []), (36, .getfield 22, 3, 3, 3, 47, 1, 0, 0, []), (39, .iconst 0, 1, 0, 0, 0, 0, 0, 0, []), (40, .iconst 4, 1, 0, 0, 0, 0, 4, 0, []), (41, .invokestatic 53, 3, 0, 2, 201, 0, 0, 0, []), (44, .aload_n 1, 1, 0, 0, 0, 0, 0, 0, []), (45, .getfield 25, 3, 3, 4, 49, 1, 0, 0, []), (48, .iconst 0, 1, 0, 0, 0, 0, 0, 0, []), (49, .aload_n 0, 1, 0, 0, 0, 0, 0, 0, []), (50, .getfield 25, 3, 3, 4, 49, 1, 0, 0, []), (53, .iconst 0, 1, 0, 0, 0, 0, 0, 0, []), (54, .iconst 4, 1, 0, 0, 0, 0, 4, 0, []), (55, .invokestatic 53, 3, 0, 2, 201, 0, 0, 0, []), (58, .aload_n 1, 1, 0, 0, 0, 0, 0, 0, []), (59, .getfield 28, 3, 3, 5, 51, 1, 0, 0, []), (62, .iconst 0, 1, 0, 0, 0, 0, 0, 0, []), (63, .aload_n 0, 1, 0, 0, 0, 0, 0, 0, []), (64, .getfield 28, 3, 3, 5, 51, 1, 0, 0, []), (67, .iconst 0, 1, 0, 0, 0, 0, 0, 0, []), (68, .bipush 6, 2, 0, 0, 0, 0, 6, 0, []), (70, .invokestatic 53, 3, 0, 2, 201, 0, 0, 0, []), (73, .aload_n 1, 1, 0, 0, 0, 0, 0, 0, []), (74, .getfield 31, 3, 3, 6, 53, 1, 0, 0, []), (77, .iconst 0, 1, 0, 0, 0, 0, 0, 0, []), (78, .aload_n 0, 1, 0, 0, 0, 0, 0, 0, []), (79, .getfield 31, 3, 3, 6, 53, 1, 0, 0, []), (82, .iconst 0, 1, 0, 0, 0, 0, 0, 0, []), (83, .bipush 48, 2, 0, 0, 0, 0, 48, 0, []), (85, .invokestatic 53, 3, 0, 2, 201, 0, 0, 0, []), (88, .aload_n 1, 1, 0, 0, 0, 0, 0, 0, []), (89, .getfield 34, 3, 3, 7, 55, 1, 0, 0, []), (92, .iconst 0, 1, 0, 0, 0, 0, 0, 0, []), (93, .aload_n 0, 1, 0, 0, 0, 0, 0, 0, []), (94, .getfield 34, 3, 3, 7, 55, 1, 0, 0, []), (97, .iconst 0, 1, 0, 0, 0, 0, 0, 0, []), (98, .bipush 48, 2, 0, 0, 0, 0, 48, 0, []), (100, .invokestatic 53, 3, 0, 2, 201, 0, 0, 0, []), (103, .aload_n 1, 1, 0, 0, 0, 0, 0, 0, []), (104, .getfield 37, 3, 3, 8, 57, 1, 0, 0, []), (107, .iconst 0, 1, 0, 0, 0, 0, 0, 0, []), (108, .aload_n 0, 1, 0, 0, 0, 0, 0, 0, []), (109, .getfield 37, 3, 3, 8, 57, 1, 0, 0, []), (112, .iconst 0, 1, 0, 0, 0, 0, 0, 0, []), (113, .sipush 288, 3, 0, 0, 0, 0, 288, 0, []), (116, .invokestatic 53, 3, 0, 2, 201, 0, 0, 0, []), (119, .aload_n 1, 1, 0, 0, 0, 0, 0, 0, []), (120, .getfield 40, 3, 3, 9, 59, 1, 0, 0, []), (123, .iconst 0, 1, 0, 0, 0, 0, 0, 0, []), (124, .aload_n 0, 1, 0, 0, 0, 0, 0, 0, []), (125, .getfield 40, 3, 3, 9, 59, 1, 0, 0, []), (128, .iconst 0, 1, 0, 0, 0, 0, 0, 0, []), (129, .sipush 288, 3, 0, 0, 0, 0, 288, 0, []), (132, .invokestatic 53, 3, 0, 2, 201, 0, 0, 0, []), (135, .aload_n 1, 1, 0, 0, 0, 0, 0, 0, []), (136, .getfield 43, 3, 3, 10, 61, 1, 0, 0, []), (139, .iconst 0, 1, 0, 0, 0, 0, 0, 0, []), (140, .aload_n 0, 1, 0, 0, 0, 0, 0, 0, []), (141, .getfield 43, 3, 3, 10, 61, 1, 0, 0, []), (144, .iconst 0, 1, 0, 0, 0, 0, 0, 0, []), (145, .sipush 288, 3, 0, 0, 0, 0, 288, 0, []), (148, .invokestatic 53, 3, 0, 2, 201, 0, 0, 0, []), (151, .return_, 1, 0, 0, 0, 0, 0, 0, [])]
def am_t32 : List aI := [(0, .iload_n 1, 1, 0, 0, 0, 0, 0, 0, []), (1, .ifCond .lt 15, 3, 16, 0, 0, 0, 0, 0, []), (4, .iload_n 1, 1, 0, 0, 0, 0, 0, 0, []), (5, .aload_n 0, 1, 0, 0, 0, 0, 0, 0, []), (6, .getfield 9, 3, 3, 0, 40, 0, 0, 0, []), (9, .if_icmp .ge 7, 3, 16, 0, 0, 0, 0, 0, []), (12, .iconst 1, 1, 0, 0, 0, 0, 1, 0, []), (13, .goto 4, 3, 17, 0, 0, 0, 0, 0, []), (16, .iconst 0, 1, 0, 0, 0, 0, 0, 0, []), (17, .ireturn, 1, 0, 0, 0, 1, 0, 0, [])]
def am_t33 : List aI := [(0, .aload_n 0, 1, 0, 0, 0, 0, 0, 0, []), (1, .iload_n 1, 1, 0, 0, 0, 0, 0, 0, []), (2, .invokevirtual 59, 3, 32, 3, 221, 1, 0, 0, []), (5, .ifCond .eq 21, 3, 26, 0, 0, 0, 0, 0, []), (8, .iload_n 2, 1, 0, 0, 0, 0, 0, 0, []), (9, .ifCond .lt 17, 3, 26, 0, 0, 0, 0, 0, []), (12, .iload_n 2, 1, 0, 0, 0, 0, 0, 0, []), (13, .aload_n 0, 1, 0, 0, 0, 0, 0, 0, []), (14, .getfield 18, 3, 3, 2, 44, 1, 0, 0, []), (17, .iload_n 1, 1, 0, 0, 0, 0, 0, 0, []), (18, .iaload, 1, 0, 0, 0, 0, 0, 0, []), (19, .if_icmp .ge 7, 3, 26, 0, 0, 0, 0, 0, []), (22, .iconst 1, 1, 0, 0, 0, 0, 1, 0, []), (23, .goto 4, 3, 27, 0, 0, 0, 0, 0, []), (26, .iconst 0, 1, 0, 0, 0, 0, 0, 0, []), (27, .ireturn, 1, 0, 0, 0, 1, 0, 0, [])]
def am_t34 : List aI := [(0, .aload_n 0, 1, 0, 0, 0, 0, 0, 0, []), (1, .getfield 34, 3, 3, 7, 55, 1, 0, 0, []), (4, .iload_n 1, 1, 0, 0, 0, 0, 0, 0, []), (5, .iaload, 1, 0, 0, 0, 0, 0, 0, []), (6, .iconst (-1), 1, 0, 0, 0, 0, (-1), 0, []), (7, .if_icmp .eq 7, 3, 14, 0, 0, 0, 0, 0, []), (10, .iconst 1, 1, 0, 0, 0, 0, 1, 0, []), (11, .goto 4, 3, 15, 0, 0, 0, 0, 0, []), (14, .iconst 0, 1, 0, 0, 0, 0, 0, 0, []), (15, .ireturn, 1, 0, 0, 0, 1, 0, 0, [])]
def am_t35 : List aI := [(0, .iconst 0, 1, 0, 0, 0, 0, 0, 0, []), (1, .istore_n 3, 1, 0, 0, 0, 0, 0, 0, []), (2, .iload_n 3, 1, 0, 0, 0, 0, 0, 0, []), (3, .aload_n 0, 1, 0, 0, 0, 0, 0, 0, []), (4, .getfield 31, 3, 3, 6, 53, 1, 0, 0, []), (7, .iload_n 1, 1, 0, 0, 0, 0, 0, 0, []), (8, .iaload, 1, 0, 0, 0, 0, 0, 0, []), (9, .if_icmp .ge 26, 3, 35, 0, 0, 0, 0, 0, []), (12, .aload_n 0, 1, 0, 0, 0, 0, 0, 0, []), (13, .getfield 37, 3, 3, 8, 57, 1, 0, 0, []), (16, .iload_n 1, 1, 0, 0, 0, 0, 0, 0, []), (17, .bipush 6, 2, 0, 0, 0, 0, 6, 0, []), (19, .imul, 1, 0, 0, 0, 0, 0, 0, []), (20, .iload_n 3, 1, 0, 0, 0, 0, 0, 0, []), (21, .iadd, 1, 0, 0, 0, 0, 0, 0, []), (22, .iaload, 1, 0, 0, 0, 0, 0, 0, []), (23, .iload_n 2, 1, 0, 0, 0, 0, 0, 0, []), (24, .if_icmp .ne 5, 3, 29, 0, 0, 0, 0, 0, []), (27, .iload_n 3, 1, 0, 0, 0, 0, 0, 0, []), (28, .ireturn, 1, 0, 0, 0, 0, 0, 0, []), (29, .iinc 3 1, 3, 0, 0, 0, 0, 1, 0, []), (32, .goto (-30), 3, 2, 0, 0, 0, 0, 0, []), (35, .iconst (-1), 1, 0, 0, 0, 0, (-1), 0, []), (36, .ireturn, 1, 0, 0, 0, 0, 0, 0, [])]
def am_t36 : List aI := [(0, .aload_n 0, 1, 0, 0, 0, 0, 0, 0, []), (1, .iload_n 1, 1, 0, 0, 0, 0, 0, 0, []), (2, .invokevirtual 63, 3, 34, 3, 252, 1, 0, 0, []), (5, .ifCond .ne 17, 3, 22, 0, 0, 0, 0, 0, []), (8, .aload_n 0, 1, 0, 0, 0, 0, 0, 0, []), (9, .iload_n 1, 1, 0, 0, 0, 0, 0, 0, []), (10, .iload_n 2, 1, 0, 0, 0, 0, 0, 0, []), (11, .invokevirtual 66, 3, 35, 3, 243, 1, 0, 0, []), (14, .iconst (-1), 1, 0, 0, 0, 0, (-1), 0, []), (15, .if_icmp .ne 7, 3, 22, 0, 0, 0, 0, 0, []), (18, .iconst 1, 1, 0, 0, 0, 0, 1, 0, []), (19, .goto 4, 3, 23, 0, 0, 0, 0, 0, []), (22, .iconst 0, 1, 0, 0, 0, 0, 0, 0, []), (23, .ireturn, 1, 0, 0, 0, 1, 0, 0, [])]
def am_t37 : List aI := [(0, .aload_n 0, 1, 0, 0, 0, 0, 0, 0, []), (1, .getfield 31, 3, 3, 6, 53, 1, 0, 0, []), (4, .iload_n 1, 1, 0, 0, 0, 0, 0, 0, []), (5, .iaload, 1, 0, 0, 0, 0, 0, 0, []), (6, .bipush 6, 2, 0, 0, 0, 0, 6, 0, []), (8, .if_icmp .lt 4, 3, 12, 0, 0, 0, 0, 0, []), (11, .return_, 1, 0, 0, 0, 0, 0, 0, []), (12, .iload_n 1, 1, 0, 0, 0, 0, 0, 0, []), (13, .bipush 6, 2, 0, 0, 0, 0, 6, 0, []), (15, .imul, 1, 0, 0, 0, 0, 0, 0, []), (16, .aload_n 0, 1, 0, 0, 0, 0, 0, 0, []), (17, .getfield 31, 3, 3, 6, 53, 1, 0, 0, []), (20, .iload_n 1, 1, 0, 0, 0, 0, 0, 0, []), (21, .iaload, 1, 0, 0, 0, 0, 0, 0, []), (22, .iadd, 1, 0, 0, 0, 0, 0, 0, []), (23, .istore 4, 2, 0, 0, 0, 0, 0, 0, []), (25, .aload_n 0, 1, 0, 0, 0, 0, 0, 0, []), (26, .getfield 37, 3, 3, 8, 57, 1, 0, 0, []), (29, .iload 4, 2, 0, 0, 0, 0, 0, 0, []), (31, .iload_n 2, 1, 0, 0, 0, 0, 0, 0, []), (32, .iastore, 1, 0, 0, 0, 0, 0, 0, []), (33, .aload_n 0, 1, 0, 0, 0, 0, 0, 0, []), (34, .getfield 40, 3, 3, 9, 59, 1, 0, 0, []), (37, .iload 4, 2, 0, 0, 0, 0, 0, 0, []), (39, .iload_n 3, 1, 0, 0, 0, 0, 0, 0, []), (40, .iastore, 1, 0, 0, 0, 0, 0, 0, []), (41, .aload_n 0, 1, 0, 0, 0, 0, 0, 0, []), (42, .getfield 43, 3, 3, 10, 61, 1, 0, 0, []), (45, .iload 4, 2, 0, 0, 0, 0, 0, 0, []), (47, .iconst 0, 1, 0, 0, 0, 0, 0, 0, []), (48, .bastore, 1, 0, 0, 0, 0, 0, 0, []), (49, .aload_n 0, 1, 0, 0, 0, 0, 0, 0, []), (50, .getfield 31, 3, 3, 6, 53, 1, 0, 0, []), (53, .iload_n 1, 1, 0, 0, 0, 0, 0, 0, []), (54, .dup2, 1, 0, 0, 0, 0, 0, 0, []), (55, .iaload, 1, 0, 0, 0, 0, 0, 0, []), (56, .iconst 1, 1, 0, 0, 0, 0, 1, 0, []), (57, .iadd, 1, 0, 0, 0, 0, 0, 0, []), (58, .iastore, 1, 0, 0, 0, 0, 0, 0, []), (59, .return_, 1, 0, 0, 0, 0, 0, 0, [])]
def am_t38 : List aI := [(0, .aload_n 0, 1, 0, 0, 0, 0, 0, 0, []), (1, .iload_n 1, 1, 0, 0, 0, 0, 0, 0, []), (2, .iload_n 2, 1, 0, 0, 0, 0, 0, 0, []), (3, .invokevirtual 66, 3, 35, 3, 243, 1, 0, 0, []), (6, .istore_n 3, 1, 0, 0, 0, 0, 0, 0, []), (7, .iload_n 3, 1, 0, 0, 0, 0, 0, 0, []), (8, .iconst (-1), 1, 0, 0, 0, 0, (-1), 0, []), (9, .if_icmp .ne 4, 3, 13, 0, 0, 0, 0, 0, []), (12, .return_, 1, 0, 0, 0, 0, 0, 0, []), (13, .aload_n 0, 1, 0, 0, 0, 0, 0, 0, []), (14, .getfield 31, 3, 3, 6, 53, 1, 0, 0, []), (17, .iload_n 1, 1, 0, 0, 0, 0, 0, 0, []), (18, .dup2, 1, 0, 0, 0, 0, 0, 0, []), (19, .iaload, 1, 0, 0, 0, 0, 0, 0, []), (20, .iconst 1, 1, 0, 0, 0, 0, 1, 0, []), (21, .isub, 1, 0, 0, 0, 0, 0, 0, []), (22, .iastore, 1, 0, 0, 0, 0, 0, 0, []), (23, .iload_n 1, 1, 0, 0, 0, 0, 0, 0, []), (24, .bipush 6, 2, 0, 0, 0, 0, 6, 0, []), (26, .imul, 1, 0, 0, 0, 0, 0, 0, []), (27, .iload_n 3, 1, 0, 0, 0, 0, 0, 0, []), (28, .iadd, 1, 0, 0, 0, 0, 0, 0, []), (29, .istore 4, 2, 0, 0, 0, 0, 0, 0, []), (31, .iload 4, 2, 0, 0, 0, 0, 0, 0, []), (33, .iload_n 1, 1, 0, 0, 0, 0, 0, 0, []), (34, .bipush 6, 2, 0, 0, 0, 0, 6, 0, []), (36, .imul, 1, 0, 0, 0, 0, 0, 0, []), (37, .aload_n 0, 1, 0, 0, 0, 0, 0, 0, []), (38, .getfield 31, 3, 3, 6, 53, 1, 0, 0, []), (41, .iload_n 1, 1, 0, 0, 0, 0, 0, 0, []), (42, .iaload, 1, 0, 0, 0, 0, 0, 0, []), (43, .iadd, 1, 0, 0, 0, 0, 0, 0, []), (44, .if_icmp .ge 57, 3, 101, 0, 0, 0, 0, 0, []), (47, .aload_n 0, 1, 0, 0, 0, 0, 0, 0, []), (48, .getfield 37, 3, 3, 8, 57, 1, 0, 0, []), (51, .iload 4, 2, 0, 0, 0, 0, 0, 0, []), (53, .aload_n 0, 1, 0, 0, 0, 0, 0, 0, []), (54, .getfield 37, 3, 3, 8, 57, 1, 0, 0, []), (57, .iload 4, 2, 0, 0, 0, 0, 0, 0, []), (59, .iconst 1, 1, 0, 0, 0, 0, 1, 0, []), (60, .iadd, 1, 0, 0, 0, 0, 0, 0, []), (61, .iaload, 1, 0, 0, 0, 0, 0, 0, []), (62, .iastore, 1, 0, 0, 0, 0, 0, 0, []), (63, .aload_n 0, 1, 0, 0, 0, 0, 0, 0, []), (64, .getfield 40, 3, 3, 9, 59, 1, 0, 0, []), (67, .iload 4, 2, 0, 0, 0, 0, 0, 0, []), (69, .aload_n 0, 1, 0, 0, 0, 0, 0, 0, []), (70, .getfield 40, 3, 3, 9, 59, 1, 0, 0, []), (73, .iload 4, 2, 0, 0, 0, 0, 0, 0, []), (75, .iconst 1, 1, 0, 0, 0, 0, 1, 0, []), (76, .iadd, 1, 0, 0, 0, 0, 0, 0, []), (77, .iaload, 1, 0, 0, 0, 0, 0, 0, []), (78, .iastore, 1, 0, 0, 0, 0, 0, 0, []), (79, .aload_n 0, 1, 0, 0, 0, 0, 0, 0, []), (80, .getfield 43, 3, 3, 10, 61, 1, 0, 0, []), (83, .iload 4, 2, 0, 0, 0, 0, 0, 0, []), (85, .aload_n 0, 1, 0, 0, 0, 0, 0, 0, []), (86, .getfield 43, 3, 3, 10, 61, 1, 0, 0, []), (89, .iload 4, 2, 0, 0, 0, 0, 0, 0, []), (91, .iconst 1, 1, 0, 0, 0, 0, 1, 0, []), (92, .iadd, 1, 0, 0, 0, 0, 0, 0, []), (93, .baload, 1, 0, 0, 0, 0, 0, 0, []), (94, .bastore, 1, 0, 0, 0, 0, 0, 0, []), (95, .iinc 4 1, 3, 0, 0, 0, 0, 1, 0, []), (98, .goto (-67), 3, 31, 0, 0, 0, 0, 0, []), (101, .return_, 1, 0, 0, 0, 0, 0, 0, [])]
def am_t39 : List aI := [(0, .iconst 0, 1, 0, 0, 0, 0, 0, 0, []), (1, .istore 4, 2, 0, 0, 0, 0, 0, 0, []), (3, .iload 4, 2, 0, 0, 0, 0, 0, 0, []), (5, .iconst 2, 1, 0, 0, 0, 0, 2, 0, []), (6, .if_icmp .ge 47, 3, 53, 0, 0, 0, 0, 0, []), (9, .iload_n 1, 1, 0, 0, 0, 0, 0, 0, []), (10, .iload_n 2, 1, 0, 0, 0, 0, 0, 0, []), (11, .iload 4, 2, 0, 0, 0, 0, 0, 0, []), (13, .invokestatic 70, 3, 78, 1, 3, 1, 0, 0, []), (16, .istore 5, 2, 0, 0, 0, 0, 0, 0, []), (18, .aload_n 0, 1, 0, 0, 0, 0, 0, 0, []), (19, .iload 5, 2, 0, 0, 0, 0, 0, 0, []), (21, .iload_n 3, 1, 0, 0, 0, 0, 0, 0, []), (22, .invokevirtual 66, 3, 35, 3, 243, 1, 0, 0, []), (25, .istore 6, 2, 0, 0, 0, 0, 0, 0, []), (27, .iload 6, 2, 0, 0, 0, 0, 0, 0, []), (29, .iconst (-1), 1, 0, 0, 0, 0, (-1), 0, []), (30, .if_icmp .eq 17, 3, 47, 0, 0, 0, 0, 0, []), (33, .aload_n 0, 1, 0, 0, 0, 0, 0, 0, []), (34, .getfield 43, 3, 3, 10, 61, 1, 0, 0, []), (37, .iload 5, 2, 0, 0, 0, 0, 0, 0, []), (39, .bipush 6, 2, 0, 0, 0, 0, 6, 0, []), (41, .imul, 1, 0, 0, 0, 0, 0, 0, []), (42, .iload 6, 2, 0, 0, 0, 0, 0, 0, []), (44, .iadd, 1, 0, 0, 0, 0, 0, 0, []), (45, .iconst 1, 1, 0, 0, 0, 0, 1, 0, []), (46, .bastore, 1, 0, 0, 0, 0, 0, 0, []), (47, .iinc 4 1, 3, 0, 0, 0, 0, 1, 0, []), (50, .goto (-47), 3, 3, 0, 0, 0, 0, 0, []), (53, .return_, 1, 0, 0, 0, 0, 0, 0, [])]
def am_t40 : List aI := [(0, .aload_n 0, 1, 0, 0, 0, 0, 0, 0, []), (1, .getfield 34, 3, 3, 7, 55, 1, 0, 0, []), (4, .iload_n 1, 1, 0, 0, 0, 0, 0, 0, []), (5, .iaload, 1, 0, 0, 0, 0, 0, 0, []), (6, .aload_n 0, 1, 0, 0, 0, 0, 0, 0, []), (7, .getfield 40, 3, 3, 9, 59, 1, 0, 0, []), (10, .iload_n 1, 1, 0, 0, 0, 0, 0, 0, []), (11, .bipush 6, 2, 0, 0, 0, 0, 6, 0, []), (13, .imul, 1, 0, 0, 0, 0, 0, 0, []), (14, .iaload, 1, 0, 0, 0, 0, 0, 0, []), (15, .isub, 1, 0, 0, 0, 0, 0, 0, []), (16, .invokestatic 74, 3, 79, 1, 4, 1, 0, 0, []), (19, .ireturn, 1, 0, 0, 0, 0, 0, 0, [])]
def am_t41 : List aI := [(0, .iload_n 2, 1, 0, 0, 0, 0, 0, 0, []), (1, .ifCond .lt 13, 3, 14, 0, 0, 0, 0, 0, []), (4, .iload_n 2, 1, 0, 0, 0, 0, 0, 0, []), (5, .aload_n 0, 1, 0, 0, 0, 0, 0, 0, []), (6, .getfield 31, 3, 3, 6, 53, 1, 0, 0, []), (9, .iload_n 1, 1, 0, 0, 0, 0, 0, 0, []), (10, .iaload, 1, 0, 0, 0, 0, 0, 0, []), (11, .if_icmp .lt 5, 3, 16, 0, 0, 0, 0, 0, []), (14, .iconst 0, 1, 0, 0, 0, 0, 0, 0, []), (15, .ireturn, 1, 0, 0, 0, 0, 0, 0, []), (16, .aload_n 0, 1, 0, 0, 0, 0, 0, 0, []), (17, .getfield 40, 3, 3, 9, 59, 1, 0, 0, []), (20, .iload_n 1, 1, 0, 0, 0, 0, 0, 0, []), (21, .bipush 6, 2, 0, 0, 0, 0, 6, 0, []), (23, .imul, 1, 0, 0, 0, 0, 0, 0, []), (24, .iload_n 2, 1, 0, 0, 0, 0, 0, 0, []), (25, .iadd, 1, 0, 0, 0, 0, 0, 0, []), (26, .iaload, 1, 0, 0, 0, 0, 0, 0, []), (27, .istore_n 3, 1, 0, 0, 0, 0, 0, 0, []), (28, .aload_n 0, 1, 0, 0, 0, 0, 0, 0, []), (29, .iload_n 1, 1, 0, 0, 0, 0, 0, 0, []), (30, .invokevirtual 63, 3, 34, 3, 252, 1, 0, 0, []), (33, .ifCond .ne 5, 3, 38, 0, 0, 0, 0, 0, []), (36, .iload_n 3, 1, 0, 0, 0, 0, 0, 0, []), (37, .ireturn, 1, 0, 0, 0, 0, 0, 0, []), (38, .iload_n 3, 1, 0, 0, 0, 0, 0, 0, []), (39, .aload_n 0, 1, 0, 0, 0, 0, 0, 0, []), (40, .iload_n 1, 1, 0, 0, 0, 0, 0, 0, []), (41, .invokevirtual 78, 3, 40, 3, 256, 1, 0, 0, []), (44, .iload_n 2, 1, 0, 0, 0, 0, 0, 0, []), (45, .imul, 1, 0, 0, 0, 0, 0, 0, []), (46, .aload_n 0, 1, 0, 0, 0, 0, 0, 0, []), (47, .getfield 31, 3, 3, 6, 53, 1, 0, 0, []), (50, .iload_n 1, 1, 0, 0, 0, 0, 0, 0, []), (51, .iaload, 1, 0, 0, 0, 0, 0, 0, []), (52, .invokestatic 81, 3, 159, 0, 266, 1, 0, 0, []), (55, .isub, 1, 0, 0, 0, 0, 0, 0, []), (56, .ireturn, 1, 0, 0, 0, 0, 0, 0, [])]
def am_t42 : List aI := [(0, .aload_n 0, 1, 0, 0, 0, 0, 0, 0, []), (1, .iload_n 1, 1, 0, 0, 0, 0, 0, 0, []), (2, .iload_n 2, 1, 0, 0, 0, 0, 0, 0, []), (3, .iload_n 3, 1, 0, 0, 0, 0, 0, 0, []), (4, .invokevirtual 86, 3, 43, 3, 238, 1, 0, 0, []), (7, .istore 4, 2, 0, 0, 0, 0, 0, 0, []), (9, .iload 4, 2, 0, 0, 0, 0, 0, 0, []), (11, .ifCond .ne 7, 3, 18, 0, 0, 0, 0, 0, []), (14, .iload_n 3, 1, 0, 0, 0, 0, 0, 0, []), (15, .ifCond .ne 6, 3, 21, 0, 0, 0, 0, 0, []), (18, .iload 4, 2, 0, 0, 0, 0, 0, 0, []), (20, .ireturn, 1, 0, 0, 0, 0, 0, 0, []), (21, .aload_n 0, 1, 0, 0, 0, 0, 0, 0, []), (22, .iload_n 1, 1, 0, 0, 0, 0, 0, 0, []), (23, .iload_n 2, 1, 0, 0, 0, 0, 0, 0, []), (24, .iconst 0, 1, 0, 0, 0, 0, 0, 0, []), (25, .invokevirtual 86, 3, 43, 3, 238, 1, 0, 0, []), (28, .ifCond .ne 7, 3, 35, 0, 0, 0, 0, 0, []), (31, .iconst 0, 1, 0, 0, 0, 0, 0, 0, []), (32, .goto 4, 3, 36, 0, 0, 0, 0, 0, []), (35, .iconst 4, 1, 0, 0, 0, 0, 4, 0, []), (36, .ireturn, 1, 0, 0, 0, 0, 0, 0, [])]
def am_t43 : List aI := [(0, .iload_n 1, 1, 0, 0, 0, 0, 0, 0, []), (1, .iload_n 2, 1, 0, 0, 0, 0, 0, 0, []), (2, .iconst 0, 1, 0, 0, 0, 0, 0, 0, []), (3, .invokestatic 70, 3, 78, 1, 3, 1, 0, 0, []), (6, .istore 4, 2, 0, 0, 0, 0, 0, 0, []), (8, .iload_n 1, 1, 0, 0, 0, 0, 0, 0, []), (9, .iload_n 2, 1, 0, 0, 0, 0, 0, 0, []), (10, .iconst 1, 1, 0, 0, 0, 0, 1, 0, []), (11, .invokestatic 70, 3, 78, 1, 3, 1, 0, 0, []), (14, .istore 5, 2, 0, 0, 0, 0, 0, 0, []), (16, .aload_n 0, 1, 0, 0, 0, 0, 0, 0, []), (17, .iload 4, 2, 0, 0, 0, 0, 0, 0, []), (19, .iload_n 3, 1, 0, 0, 0, 0, 0, 0, []), (20, .invokevirtual 66, 3, 35, 3, 243, 1, 0, 0, []), (23, .istore 6, 2, 0, 0, 0, 0, 0, 0, []), (25, .aload_n 0, 1, 0, 0, 0, 0, 0, 0, []), (26, .iload 5, 2, 0, 0, 0, 0, 0, 0, []), (28, .iload_n 3, 1, 0, 0, 0, 0, 0, 0, []), (29, .invokevirtual 66, 3, 35, 3, 243, 1, 0, 0, []), (32, .istore 7, 2, 0, 0, 0, 0, 0, 0, []), (34, .iload 6, 2, 0, 0, 0, 0, 0, 0, []), (36, .iconst (-1), 1, 0, 0, 0, 0, (-1), 0, []), (37, .if_icmp .ne 5, 3, 42, 0, 0, 0, 0, 0, []), (40, .iconst 1, 1, 0, 0, 0, 0, 1, 0, []), (41, .ireturn, 1, 0, 0, 0, 0, 0, 0, []), (42, .iload 7, 2, 0, 0, 0, 0, 0, 0, []), (44, .iconst (-1), 1, 0, 0, 0, 0, (-1), 0, []), (45, .if_icmp .ne 5, 3, 50, 0, 0, 0, 0, 0, []), (48, .iconst 2, 1, 0, 0, 0, 0, 2, 0, []), (49, .ireturn, 1, 0, 0, 0, 0, 0, 0, []), (50, .aload_n 0, 1, 0, 0, 0, 0, 0, 0, []), (51, .getfield 43, 3, 3, 10, 61, 1, 0, 0, []), (54, .iload 4, 2, 0, 0, 0, 0, 0, 0, []), (56, .bipush 6, 2, 0, 0, 0, 0, 6, 0, []), (58, .imul, 1, 0, 0, 0, 0, 0, 0, []), (59, .iload 6, 2, 0, 0, 0, 0, 0, 0, []), (61, .iadd, 1, 0, 0, 0, 0, 0, 0, []), (62, .baload, 1, 0, 0, 0, 0, 0, 0, []), (63, .ifCond .ne 19, 3, 82, 0, 0, 0, 0, 0, []), (66, .aload_n 0, 1, 0, 0, 0, 0, 0, 0, []), (67, .getfield 43, 3, 3, 10, 61, 1, 0, 0, []), (70, .iload 5, 2, 0, 0, 0, 0, 0, 0, []), (72, .bipush 6, 2, 0, 0, 0, 0, 6, 0, []), (74, .imul, 1, 0, 0, 0, 0, 0, 0, []), (75, .iload 7, 2, 0, 0, 0, 0, 0, 0, []), (77, .iadd, 1, 0, 0, 0, 0, 0, 0, []), (78, .baload, 1, 0, 0, 0, 0, 0, 0, []), (79, .ifCond .eq 7, 3, 86, 0, 0, 0, 0, 0, []), (82, .iconst 1, 1, 0, 0, 0, 0, 1, 0, []), (83, .goto 4, 3, 87, 0, 0, 0, 0, 0, []), (86, .iconst 0, 1, 0, 0, 0, 0, 0, 0, []), (87, .istore 8, 2, 0, 0, 0, 0, 0, 0, []), (89, .iload 8, 2, 0, 0, 0, 0, 0, 0, []), (91, .ifCond .eq 7, 3, 98, 0, 0, 0, 0, 0, []), (94, .iconst 3, 1, 0, 0, 0, 0, 3, 0, []), (95, .goto 4, 3, 99, 0, 0, 0, 0, 0, []), (98, .iconst 0, 1, 0, 0, 0, 0, 0, 0, []), (99, .ireturn, 1, 0, 0, 0, 0, 0, 0, [])]
def am_t44 : List aI := [(0, .iconst 0, 1, 0, 0, 0, 0, 0, 0, []), (1, .istore_n 2, 1, 0, 0, 0, 0, 0, 0, []), (2, .iconst 0, 1, 0, 0, 0, 0, 0, 0, []), (3, .istore_n 3, 1, 0, 0, 0, 0, 0, 0, []), (4, .iload_n 3, 1, 0, 0, 0, 0, 0, 0, []), (5, .aload_n 0, 1, 0, 0, 0, 0, 0, 0, []), (6, .getfield 31, 3, 3, 6, 53, 1, 0, 0, []), (9, .iload_n 1, 1, 0, 0, 0, 0, 0, 0, []), (10, .iaload, 1, 0, 0, 0, 0, 0, 0, []), (11, .if_icmp .ge 26, 3, 37, 0, 0, 0, 0, 0, []), (14, .aload_n 0, 1, 0, 0, 0, 0, 0, 0, []), (15, .getfield 43, 3, 3, 10, 61, 1, 0, 0, []), (18, .iload_n 1, 1, 0, 0, 0, 0, 0, 0, []), (19, .bipush 6, 2, 0, 0, 0, 0, 6, 0, []), (21, .imul, 1, 0, 0, 0, 0, 0, 0, []), (22, .iload_n 3, 1, 0, 0, 0, 0, 0, 0, []), (23, .iadd, 1, 0, 0, 0, 0, 0, 0, []), (24, .baload, 1, 0, 0, 0, 0, 0, 0, []), (25, .ifCond .eq 6, 3, 31, 0, 0, 0, 0, 0, []), (28, .iinc 2 1, 3, 0, 0, 0, 0, 1, 0, []), (31, .iinc 3 1, 3, 0, 0, 0, 0, 1, 0, []), (34, .goto (-30), 3, 4, 0, 0, 0, 0, 0, []), (37, .iload_n 2, 1, 0, 0, 0, 0, 0, 0, []), (38, .ireturn, 1, 0, 0, 0, 0, 0, 0, [])]
def am_t45 : List aI := [(0, .aload_n 0, 1, 0, 0, 0, 0, 0, 0, []), (1, .iload_n 1, 1, 0, 0, 0, 0, 0, 0, []), (2, .iload_n 2, 1, 0, 0, 0, 0, 0, 0, []), (3, .iconst 0, 1, 0, 0, 0, 0, 0, 0, []), (4, .invokestatic 70, 3, 78, 1, 3, 1, 0, 0, []), (7, .invokevirtual 89, 3, 44, 3, 300, 1, 0, 0, []), (10, .aload_n 0, 1, 0, 0, 0, 0, 0, 0, []), (11, .iload_n 1, 1, 0, 0, 0, 0, 0, 0, []), (12, .iload_n 2, 1, 0, 0, 0, 0, 0, 0, []), (13, .iconst 1, 1, 0, 0, 0, 0, 1, 0, []), (14, .invokestatic 70, 3, 78, 1, 3, 1, 0, 0, []), (17, .invokevirtual 89, 3, 44, 3, 300, 1, 0, 0, []), (20, .iadd, 1, 0, 0, 0, 0, 0, 0, []), (21, .ireturn, 1, 0, 0, 0, 0, 0, 0, [])]
def am_t46 : List aI := [(0, .iconst 0, 1, 0, 0, 0, 0, 0, 0, []), (1, .istore_n 1, 1, 0, 0, 0, 0, 0, 0, []), (2, .iconst 0, 1, 0, 0, 0, 0, 0, 0, []), (3, .istore_n 2, 1, 0, 0, 0, 0, 0, 0, []), (4, .iload_n 2, 1, 0, 0, 0, 0, 0, 0, []), (5, .aload_n 0, 1, 0, 0, 0, 0, 0, 0, []), (6, .getfield 9, 3, 3, 0, 40, 0, 0, 0, []), (9, .if_icmp .ge 18, 3, 27, 0, 0, 0, 0, 0, []), (12, .iload_n 1, 1, 0, 0, 0, 0, 0, 0, []), (13, .aload_n 0, 1, 0, 0, 0, 0, 0, 0, []), (14, .getfield 18, 3, 3, 2, 44, 1, 0, 0, []), (17, .iload_n 2, 1, 0, 0, 0, 0, 0, 0, []), (18, .iaload, 1, 0, 0, 0, 0, 0, 0, []), (19, .iadd, 1, 0, 0, 0, 0, 0, 0, []), (20, .istore_n 1, 1, 0, 0, 0, 0, 0, 0, []), (21, .iinc 2 1, 3, 0, 0, 0, 0, 1, 0, []), (24, .goto (-20), 3, 4, 0, 0, 0, 0, 0, []), (27, .iload_n 1, 1, 0, 0, 0, 0, 0, 0, []), (28, .ireturn, 1, 0, 0, 0, 0, 0, 0, [])]
def am_t47 : List aI := [(0, .iconst 0, 1, 0, 0, 0, 0, 0, 0, []), (1, .istore_n 1, 1, 0, 0, 0, 0, 0, 0, []), (2, .iconst 0, 1, 0, 0, 0, 0, 0, 0, []), (3, .istore_n 2, 1, 0, 0, 0, 0, 0, 0, []), (4, .iload_n 2, 1, 0, 0, 0, 0, 0, 0, []), (5, .bipush 48, 2, 0, 0, 0, 0, 48, 0, []), (7, .if_icmp .ge 18, 3, 25, 0, 0, 0, 0, 0, []), (10, .iload_n 1, 1, 0, 0, 0, 0, 0, 0, []), (11, .aload_n 0, 1, 0, 0, 0, 0, 0, 0, []), (12, .getfield 31, 3, 3, 6, 53, 1, 0, 0, []), (15, .iload_n 2, 1, 0, 0, 0, 0, 0, 0, []), (16, .iaload, 1, 0, 0, 0, 0, 0, 0, []), (17, .iadd, 1, 0, 0, 0, 0, 0, 0, []), (18, .istore_n 1, 1, 0, 0, 0, 0, 0, 0, []), (19, .iinc 2 1, 3, 0, 0, 0, 0, 1, 0, []), (22, .goto (-18), 3, 4, 0, 0, 0, 0, 0, []), (25, .iload_n 1, 1, 0, 0, 0, 0, 0, 0, []), (26, .ireturn, 1, 0, 0, 0, 0, 0, 0, [])]
def am_t48 : List aI := [(0, .iconst 0, 1, 0, 0, 0, 0, 0, 0, []), (1, .istore_n 1, 1, 0, 0, 0, 0, 0, 0, []), (2, .iconst 0, 1, 0, 0, 0, 0, 0, 0, []), (3, .istore_n 2, 1, 0, 0, 0, 0, 0, 0, []), (4, .iload_n 2, 1, 0, 0, 0, 0, 0, 0, []), (5, .bipush 48, 2, 0, 0, 0, 0, 48, 0, []), (7, .if_icmp .ge 17, 3, 24, 0, 0, 0, 0, 0, []), (10, .iload_n 1, 1, 0, 0, 0, 0, 0, 0, []), (11, .aload_n 0, 1, 0, 0, 0, 0, 0, 0, []), (12, .iload_n 2, 1, 0, 0, 0, 0, 0, 0, []), (13, .invokevirtual 89, 3, 44, 3, 300, 1, 0, 0, []), (16, .iadd, 1, 0, 0, 0, 0, 0, 0, []), (17, .istore_n 1, 1, 0, 0, 0, 0, 0, 0, []), (18, .iinc 2 1, 3, 0, 0, 0, 0, 1, 0, []), (21, .goto (-17), 3, 4, 0, 0, 0, 0, 0, []), (24, .iload_n 1, 1, 0, 0, 0, 0, 0, 0, []), (25, .ireturn, 1, 0, 0, 0, 0, 0, 0, [])]
def am_t49 : List aI := [(0, .iconst 0, 1, 0, 0, 0, 0, 0, 0, []), (1, .istore_n 1, 1, 0, 0, 0, 0, 0, 0, []), (2, .iconst 0, 1, 0, 0, 0, 0, 0, 0, []), (3, .istore_n 2, 1, 0, 0, 0, 0, 0, 0, []), (4, .iload_n 2, 1, 0, 0, 0, 0, 0, 0, []), (5, .bipush 48, 2, 0, 0, 0, 0, 48, 0, []), (7, .if_icmp .ge 20, 3, 27, 0, 0, 0, 0, 0, []), (10, .aload_n 0, 1, 0, 0, 0, 0, 0, 0, []), (11, .iload_n 2, 1, 0, 0, 0, 0, 0, 0, []), (12, .invokevirtual 63, 3, 34, 3, 252, 1, 0, 0, []), (15, .ifCond .eq 6, 3, 21, 0, 0, 0, 0, 0, []), (18, .iinc 1 1, 3, 0, 0, 0, 0, 1, 0, []), (21, .iinc 2 1, 3, 0, 0, 0, 0, 1, 0, []), (24, .goto (-20), 3, 4, 0, 0, 0, 0, 0, []), (27, .iload_n 1, 1, 0, 0, 0, 0, 0, 0, []), (28, .ireturn, 1, 0, 0, 0, 0, 0, 0, [])]
def am_t50 : List aI := [(0, .aload_n 0, 1, 0, 0, 0, 0, 0, 0, []), (1, .invokespecial 3, 3, 0, 2, 28, 0, 0, 0, []), (4, .aload_n 0, 1, 0, 0, 0, 0, 0, 0, []), (5, .new 9, 3, 3, 15, 31, 11, 32, 0, []), (8, .dup, 1, 0, 0, 0, 0, 0, 0, []), (9, .invokespecial 11, 3, 30, 0, 33, 0, 0, 0, []), (12, .putfield 12, 3, 4, 0, 165, 1, 0, 0, []), (15, .aload_n 0, 1, 0, 0, 0, 0, 0, 0, []), (16, .new 9, 3, 3, 15, 31, 11, 32, 0, []), (19, .dup, 1, 0, 0, 0, 0, 0, 0, []), (20, .invokespecial 11, 3, 30, 0, 33, 0, 0, 0, []), (23, .putfield 16, 3, 4, 1, 166, 1, 0, 0, []), (26, .aload_n 0, 1, 0, 0, 0, 0, 0, 0, []), (27, .iconst 0, 1, 0, 0, 0, 0, 0, 0, []), (28, .putfield 19, 3, 4, 2, 167, 2, 0, 0, []), (31, .aload_n 0, 1, 0, 0, 0, 0, 0, 0, []), (32, .new 23, 3, 0, 17, 88, 2, 89, 0, []), (35, .dup, 1, 0, 0, 0, 0, 0, 0, []), (36, .invokespecial 25, 3, 0, 0, 90, 0, 0, 0, []), (39, .putfield 26, 3, 4, 3, 168, 1, 0, 0, []), (42, .aload_n 0, 1, 0, 0, 0, 0, 0, 0, []), (43, .new 30, 3, 1, 18, 105, 7, 106, 0, []), (46, .dup, 1, 0, 0, 0, 0, 0, 0, []), (47, .invokespecial 32, 3, 4, 1, 0, 0, 0, 0, []), (50, .putfield 33, 3, 4, 4, 169, 1, 0, 0, []), (53, .aload_n 0, 1, 0, 0, 0, 0, 0, 0, []), (54, .new 37, 3, 2, 19, 135, 6, 136, 0, []), (57, .dup, 1, 0, 0, 0, 0, 0, 0, []), (58, .invokespecial 39, 3, 13, 1, 1, 0, 0, 0, []), (61, .putfield 40, 3, 4, 5, 170, 1, 0, 0, []), (64, .return_, 1, 0, 0, 0, 0, 0, 0, [])]
def am_t51 : List aI := [(0, .aload_n 0, 1, 0, 0, 0, 0, 0, 0, []), (1, .getfield 12, 3, 4, 0, 165, 1, 0, 0, []), (4, .getfield 44, 3, 3, 0, 41, 0, 0, 0, []), (7, .iconst 4, 1, 0, 0, 0, 0, 4, 0, []), (8, .if_icmp .lt 6, 3, 14, 0, 0, 0, 0, 0, []), (11, .ldc 48, 2, 0, 0, 188, 0, (-2000003), 0, []), (13, .ireturn, 1, 0, 0, 0, 0, 0, 0, []), (14, .aload_n 0, 1, 0, 0, 0, 0, 0, 0, []), (15, .getfield 26, 3, 4, 3, 168, 1, 0, 0, []), (18, .aload_n 0, 1, 0, 0, 0, 0, 0, 0, []), (19, .getfield 12, 3, 4, 0, 165, 1, 0, 0, []), (22, .invokevirtual 49, 3, 1, 0, 189, 0, 0, 0, []), (25, .aload_n 0, 1, 0, 0, 0, 0, 0, 0, []), (26, .getfield 12, 3, 4, 0, 165, 1, 0, 0, []), (29, .dup, 1, 0, 0, 0, 0, 0, 0, []), (30, .getfield 44, 3, 3, 0, 41, 0, 0, 0, []), (33, .iconst 1, 1, 0, 0, 0, 0, 1, 0, []), (34, .iadd, 1, 0, 0, 0, 0, 0, 0, []), (35, .putfield 44, 3, 3, 0, 41, 0, 0, 0, []), (38, .aload_n 0, 1, 0, 0, 0, 0, 0, 0, []), (39, .getfield 12, 3, 4, 0, 165, 1, 0, 0, []), (42, .getfield 44, 3, 3, 0, 41, 0, 0, 0, []), (45, .iconst 1, 1, 0, 0, 0, 0, 1, 0, []), (46, .isub, 1, 0, 0, 0, 0, 0, 0, []), (47, .ireturn, 1, 0, 0, 0, 0, 0, 0, [])]
def am_t52 : List aI := [(0, .aload_n 0, 1, 0, 0, 0, 0, 0, 0, []), (1, .getfield 12, 3, 4, 0, 165, 1, 0, 0, []), (4, .iload_n 1, 1, 0, 0, 0, 0, 0, 0, []), (5, .invokevirtual 53, 3, 32, 3, 208, 1, 0, 0, []), (8, .ifCond .ne 6, 3, 14, 0, 0, 0, 0, 0, []), (11, .ldc 57, 2, 0, 0, 212, 0, (-2000001), 0, []), (13, .ireturn, 1, 0, 0, 0, 0, 0, 0, []), (14, .aload_n 0, 1, 0, 0, 0, 0, 0, 0, []), (15, .getfield 12, 3, 4, 0, 165, 1, 0, 0, []), (18, .getfield 58, 3, 3, 2, 46, 1, 0, 0, []), (21, .iload_n 1, 1, 0, 0, 0, 0, 0, 0, []), (22, .iaload, 1, 0, 0, 0, 0, 0, 0, []), (23, .bipush 6, 2, 0, 0, 0, 0, 6, 0, []), (25, .if_icmp .lt 6, 3, 31, 0, 0, 0, 0, 0, []), (28, .ldc 48, 2, 0, 0, 188, 0, (-2000003), 0, []), (30, .ireturn, 1, 0, 0, 0, 0, 0, 0, []), (31, .aload_n 0, 1, 0, 0, 0, 0, 0, 0, []), (32, .getfield 26, 3, 4, 3, 168, 1, 0, 0, []), (35, .aload_n 0, 1, 0, 0, 0, 0, 0, 0, []), (36, .getfield 12, 3, 4, 0, 165, 1, 0, 0, []), (39, .invokevirtual 49, 3, 1, 0, 189, 0, 0, 0, []), (42, .aload_n 0, 1, 0, 0, 0, 0, 0, 0, []), (43, .getfield 12, 3, 4, 0, 165, 1, 0, 0, []), (46, .getfield 58, 3, 3, 2, 46, 1, 0, 0, []), (49, .iload_n 1, 1, 0, 0, 0, 0, 0, 0, []), (50, .dup2, 1, 0, 0, 0, 0, 0, 0, []), (51, .iaload, 1, 0, 0, 0, 0, 0, 0, []), (52, .iconst 1, 1, 0, 0, 0, 0, 1, 0, []), (53, .iadd, 1, 0, 0, 0, 0, 0, 0, []), (54, .iastore, 1, 0, 0, 0, 0, 0, 0, []), (55, .aload_n 0, 1, 0, 0, 0, 0, 0, 0, []), (56, .getfield 12, 3, 4, 0, 165, 1, 0, 0, []), (59, .getfield 58, 3, 3, 2, 46, 1, 0, 0, []), (62, .iload_n 1, 1, 0, 0, 0, 0, 0, 0, []), (63, .iaload, 1, 0, 0, 0, 0, 0, 0, []), (64, .iconst 1, 1, 0, 0, 0, 0, 1, 0, []), (65, .isub, 1, 0, 0, 0, 0, 0, 0, []), (66, .ireturn, 1, 0, 0, 0, 0, 0, 0, [])]
def am_t53 : List aI := [(0, .aload_n 0, 1, 0, 0, 0, 0, 0, 0, []), (1, .getfield 12, 3, 4, 0, 165, 1, 0, 0, []), (4, .iload_n 1, 1, 0, 0, 0, 0, 0, 0, []), (5, .iload_n 2, 1, 0, 0, 0, 0, 0, 0, []), (6, .invokevirtual 62, 3, 33, 3, 217, 1, 0, 0, []), (9, .ifCond .eq 10, 3, 19, 0, 0, 0, 0, 0, []), (12, .iload_n 3, 1, 0, 0, 0, 0, 0, 0, []), (13, .invokestatic 66, 3, 75, 0, 372, 1, 0, 0, []), (16, .ifCond .ne 6, 3, 22, 0, 0, 0, 0, 0, []), (19, .ldc 57, 2, 0, 0, 212, 0, (-2000001), 0, []), (21, .ireturn, 1, 0, 0, 0, 0, 0, 0, []), (22, .iload 4, 2, 0, 0, 0, 0, 0, 0, []), (24, .invokestatic 69, 3, 76, 0, 375, 1, 0, 0, []), (27, .ifCond .eq 11, 3, 38, 0, 0, 0, 0, 0, []), (30, .iload 5, 2, 0, 0, 0, 0, 0, 0, []), (32, .invokestatic 72, 3, 77, 0, 378, 1, 0, 0, []), (35, .ifCond .ne 6, 3, 41, 0, 0, 0, 0, 0, []), (38, .ldc 75, 2, 0, 0, 222, 0, (-2000002), 0, []), (40, .ireturn, 1, 0, 0, 0, 0, 0, 0, []), (41, .iload_n 1, 1, 0, 0, 0, 0, 0, 0, []), (42, .iload_n 2, 1, 0, 0, 0, 0, 0, 0, []), (43, .iload 4, 2, 0, 0, 0, 0, 0, 0, []), (45, .invokestatic 76, 3, 78, 0, 288, 1, 0, 0, []), (48, .istore 6, 2, 0, 0, 0, 0, 0, 0, []), (50, .aload_n 0, 1, 0, 0, 0, 0, 0, 0, []), (51, .getfield 12, 3, 4, 0, 165, 1, 0, 0, []), (54, .iload 6, 2, 0, 0, 0, 0, 0, 0, []), (56, .iload_n 3, 1, 0, 0, 0, 0, 0, 0, []), (57, .invokevirtual 80, 3, 36, 3, 381, 1, 0, 0, []), (60, .ifCond .ne 6, 3, 66, 0, 0, 0, 0, 0, []), (63, .ldc 83, 2, 0, 0, 385, 0, (-2000004), 0, []), (65, .ireturn, 1, 0, 0, 0, 0, 0, 0, []), (66, .aload_n 0, 1, 0, 0, 0, 0, 0, 0, []), (67, .getfield 26, 3, 4, 3, 168, 1, 0, 0, []), (70, .aload_n 0, 1, 0, 0, 0, 0, 0, 0, []), (71, .getfield 12, 3, 4, 0, 165, 1, 0, 0, []), (74, .invokevirtual 49, 3, 1, 0, 189, 0, 0, 0, []), (77, .aload_n 0, 1, 0, 0, 0, 0, 0, 0, []), (78, .getfield 12, 3, 4, 0, 165, 1, 0, 0, []), (81, .iload 6, 2, 0, 0, 0, 0, 0, 0, []), (83, .iload_n 3, 1, 0, 0, 0, 0, 0, 0, []), (84, .iload 5, 2, 0, 0, 0, 0, 0, 0, []), (86, .invokevirtual 84, 3, 37, 3, 386, 0, 0, 0, []), (89, .aload_n 0, 1, 0, 0, 0, 0, 0, 0, []), (90, .getfield 12, 3, 4, 0, 165, 1, 0, 0, []), (93, .getfield 88, 3, 3, 6, 54, 1, 0, 0, []), (96, .iload 6, 2, 0, 0, 0, 0, 0, 0, []), (98, .iaload, 1, 0, 0, 0, 0, 0, 0, []), (99, .ireturn, 1, 0, 0, 0, 0, 0, 0, [])]
def am_t55 : List aI := [(0, .aload_n 0, 1, 0, 0, 0, 0, 0, 0, []), (1, .getfield 12, 3, 4, 0, 165, 1, 0, 0, []), (4, .iload_n 1, 1, 0, 0, 0, 0, 0, 0, []), (5, .iload_n 2, 1, 0, 0, 0, 0, 0, 0, []), (6, .invokevirtual 62, 3, 33, 3, 217, 1, 0, 0, []), (9, .ifCond .ne 6, 3, 15, 0, 0, 0, 0, 0, []), (12, .ldc 57, 2, 0, 0, 212, 0, (-2000001), 0, []), (14, .ireturn, 1, 0, 0, 0, 0, 0, 0, []), (15, .iload_n 3, 1, 0, 0, 0, 0, 0, 0, []), (16, .invokestatic 69, 3, 76, 0, 375, 1, 0, 0, []), (19, .ifCond .eq 11, 3, 30, 0, 0, 0, 0, 0, []), (22, .iload 4, 2, 0, 0, 0, 0, 0, 0, []), (24, .invokestatic 72, 3, 77, 0, 378, 1, 0, 0, []), (27, .ifCond .ne 6, 3, 33, 0, 0, 0, 0, 0, []), (30, .ldc 75, 2, 0, 0, 222, 0, (-2000002), 0, []), (32, .ireturn, 1, 0, 0, 0, 0, 0, 0, []), (33, .iload_n 1, 1, 0, 0, 0, 0, 0, 0, []), (34, .iload_n 2, 1, 0, 0, 0, 0, 0, 0, []), (35, .iload_n 3, 1, 0, 0, 0, 0, 0, 0, []), (36, .invokestatic 76, 3, 78, 0, 288, 1, 0, 0, []), (39, .istore 5, 2, 0, 0, 0, 0, 0, 0, []), (41, .aload_n 0, 1, 0, 0, 0, 0, 0, 0, []), (42, .getfield 12, 3, 4, 0, 165, 1, 0, 0, []), (45, .iload 5, 2, 0, 0, 0, 0, 0, 0, []), (47, .invokevirtual 111, 3, 34, 3, 293, 1, 0, 0, []), (50, .ifCond .ne 16, 3, 66, 0, 0, 0, 0, 0, []), (53, .aload_n 0, 1, 0, 0, 0, 0, 0, 0, []), (54, .getfield 12, 3, 4, 0, 165, 1, 0, 0, []), (57, .getfield 88, 3, 3, 6, 54, 1, 0, 0, []), (60, .iload 5, 2, 0, 0, 0, 0, 0, 0, []), (62, .iaload, 1, 0, 0, 0, 0, 0, 0, []), (63, .ifCond .ne 6, 3, 69, 0, 0, 0, 0, 0, []), (66, .ldc 83, 2, 0, 0, 385, 0, (-2000004), 0, []), (68, .ireturn, 1, 0, 0, 0, 0, 0, 0, []), (69, .aload_n 0, 1, 0, 0, 0, 0, 0, 0, []), (70, .getfield 26, 3, 4, 3, 168, 1, 0, 0, []), (73, .aload_n 0, 1, 0, 0, 0, 0, 0, 0, []), (74, .getfield 12, 3, 4, 0, 165, 1, 0, 0, []), (77, .invokevirtual 49, 3, 1, 0, 189, 0, 0, 0, []), (80, .aload_n 0, 1, 0, 0, 0, 0, 0, 0, []), (81, .getfield 12, 3, 4, 0, 165, 1, 0, 0, []), (84, .getfield 114, 3, 3, 7, 56, 1, 0, 0, []), (87, .iload 5, 2, 0, 0, 0, 0, 0, 0, []), (89, .iload 4, 2, 0, 0, 0, 0, 0, 0, []), (91, .iastore, 1, 0, 0, 0, 0, 0, 0, []), (92, .aload_n 0, 1, 0, 0, 0, 0, 0, 0, []), (93, .getfield 12, 3, 4, 0, 165, 1, 0, 0, []), (96, .iload 5, 2, 0, 0, 0, 0, 0, 0, []), (98, .invokevirtual 117, 3, 40, 3, 294, 1, 0, 0, []), (101, .ireturn, 1, 0, 0, 0, 0, 0, 0, [])]
def am_t56 : List aI := [(0, .aload_n 0, 1, 0, 0, 0, 0, 0, 0, []), (1, .getfield 12, 3, 4, 0, 165, 1, 0, 0, []), (4, .iload_n 1, 1, 0, 0, 0, 0, 0, 0, []), (5, .iload_n 2, 1, 0, 0, 0, 0, 0, 0, []), (6, .invokevirtual 62, 3, 33, 3, 217, 1, 0, 0, []), (9, .ifCond .ne 6, 3, 15, 0, 0, 0, 0, 0, []), (12, .ldc 57, 2, 0, 0, 212, 0, (-2000001), 0, []), (14, .ireturn, 1, 0, 0, 0, 0, 0, 0, []), (15, .iload 4, 2, 0, 0, 0, 0, 0, 0, []), (17, .invokestatic 69, 3, 76, 0, 375, 1, 0, 0, []), (20, .ifCond .ne 6, 3, 26, 0, 0, 0, 0, 0, []), (23, .ldc 75, 2, 0, 0, 222, 0, (-2000002), 0, []), (25, .ireturn, 1, 0, 0, 0, 0, 0, 0, []), (26, .iload_n 1, 1, 0, 0, 0, 0, 0, 0, []), (27, .iload_n 2, 1, 0, 0, 0, 0, 0, 0, []), (28, .iload 4, 2, 0, 0, 0, 0, 0, 0, []), (30, .invokestatic 76, 3, 78, 0, 288, 1, 0, 0, []), (33, .istore 6, 2, 0, 0, 0, 0, 0, 0, []), (35, .aload_n 0, 1, 0, 0, 0, 0, 0, 0, []), (36, .getfield 12, 3, 4, 0, 165, 1, 0, 0, []), (39, .iload 6, 2, 0, 0, 0, 0, 0, 0, []), (41, .iload_n 3, 1, 0, 0, 0, 0, 0, 0, []), (42, .invokevirtual 121, 3, 35, 3, 398, 1, 0, 0, []), (45, .istore 7, 2, 0, 0, 0, 0, 0, 0, []), (47, .iload 7, 2, 0, 0, 0, 0, 0, 0, []), (49, .iconst (-1), 1, 0, 0, 0, 0, (-1), 0, []), (50, .if_icmp .ne 6, 3, 56, 0, 0, 0, 0, 0, []), (53, .ldc 57, 2, 0, 0, 212, 0, (-2000001), 0, []), (55, .ireturn, 1, 0, 0, 0, 0, 0, 0, []), (56, .aload_n 0, 1, 0, 0, 0, 0, 0, 0, []), (57, .getfield 12, 3, 4, 0, 165, 1, 0, 0, []), (60, .getfield 125, 3, 3, 10, 62, 1, 0, 0, []), (63, .iload 6, 2, 0, 0, 0, 0, 0, 0, []), (65, .bipush 6, 2, 0, 0, 0, 0, 6, 0, []), (67, .imul, 1, 0, 0, 0, 0, 0, 0, []), (68, .iload 7, 2, 0, 0, 0, 0, 0, 0, []), (70, .iadd, 1, 0, 0, 0, 0, 0, 0, []), (71, .baload, 1, 0, 0, 0, 0, 0, 0, []), (72, .iload 5, 2, 0, 0, 0, 0, 0, 0, []), (74, .if_icmp .ne 6, 3, 80, 0, 0, 0, 0, 0, []), (77, .ldc 129, 2, 0, 0, 295, 0, (-2000005), 0, []), (79, .ireturn, 1, 0, 0, 0, 0, 0, 0, []), (80, .aload_n 0, 1, 0, 0, 0, 0, 0, 0, []), (81, .getfield 26, 3, 4, 3, 168, 1, 0, 0, []), (84, .aload_n 0, 1, 0, 0, 0, 0, 0, 0, []), (85, .getfield 12, 3, 4, 0, 165, 1, 0, 0, []), (88, .invokevirtual 49, 3, 1, 0, 189, 0, 0, 0, []), (91, .aload_n 0, 1, 0, 0, 0, 0, 0, 0, []), (92, .getfield 12, 3, 4, 0, 165, 1, 0, 0, []), (95, .getfield 125, 3, 3, 10, 62, 1, 0, 0, []), (98, .iload 6, 2, 0, 0, 0, 0, 0, 0, []), (100, .bipush 6, 2, 0, 0, 0, 0, 6, 0, []), (102, .imul, 1, 0, 0, 0, 0, 0, 0, []), (103, .iload 7, 2, 0, 0, 0, 0, 0, 0, []), (105, .iadd, 1, 0, 0, 0, 0, 0, 0, []), (106, .iload 5, 2, 0, 0, 0, 0, 0, 0, []), (108, .bastore, 1, 0, 0, 0, 0, 0, 0, []), (109, .aload_n 0, 1, 0, 0, 0, 0, 0, 0, []), (110, .getfield 12, 3, 4, 0, 165, 1, 0, 0, []), (113, .iload_n 1, 1, 0, 0, 0, 0, 0, 0, []), (114, .iload_n 2, 1, 0, 0, 0, 0, 0, 0, []), (115, .invokevirtual 130, 3, 45, 3, 296, 1, 0, 0, []), (118, .ireturn, 1, 0, 0, 0, 0, 0, 0, [])]
def am_t57 : List aI := [(0, .aload_n 0, 1, 0, 0, 0, 0, 0, 0, []), (1, .getfield 12, 3, 4, 0, 165, 1, 0, 0, []), (4, .iload_n 1, 1, 0, 0, 0, 0, 0, 0, []), (5, .iload_n 2, 1, 0, 0, 0, 0, 0, 0, []), (6, .invokevirtual 62, 3, 33, 3, 217, 1, 0, 0, []), (9, .ifCond .eq 10, 3, 19, 0, 0, 0, 0, 0, []), (12, .iload_n 3, 1, 0, 0, 0, 0, 0, 0, []), (13, .invokestatic 66, 3, 75, 0, 372, 1, 0, 0, []), (16, .ifCond .ne 6, 3, 22, 0, 0, 0, 0, 0, []), (19, .ldc 57, 2, 0, 0, 212, 0, (-2000001), 0, []), (21, .ireturn, 1, 0, 0, 0, 0, 0, 0, []), (22, .iconst 0, 1, 0, 0, 0, 0, 0, 0, []), (23, .istore 4, 2, 0, 0, 0, 0, 0, 0, []), (25, .iconst 0, 1, 0, 0, 0, 0, 0, 0, []), (26, .istore 5, 2, 0, 0, 0, 0, 0, 0, []), (28, .iload 5, 2, 0, 0, 0, 0, 0, 0, []), (30, .iconst 2, 1, 0, 0, 0, 0, 2, 0, []), (31, .if_icmp .ge 59, 3, 90, 0, 0, 0, 0, 0, []), (34, .iload_n 1, 1, 0, 0, 0, 0, 0, 0, []), (35, .iload_n 2, 1, 0, 0, 0, 0, 0, 0, []), (36, .iload 5, 2, 0, 0, 0, 0, 0, 0, []), (38, .invokestatic 76, 3, 78, 0, 288, 1, 0, 0, []), (41, .istore 6, 2, 0, 0, 0, 0, 0, 0, []), (43, .aload_n 0, 1, 0, 0, 0, 0, 0, 0, []), (44, .getfield 12, 3, 4, 0, 165, 1, 0, 0, []), (47, .iload 6, 2, 0, 0, 0, 0, 0, 0, []), (49, .iload_n 3, 1, 0, 0, 0, 0, 0, 0, []), (50, .invokevirtual 121, 3, 35, 3, 398, 1, 0, 0, []), (53, .istore 7, 2, 0, 0, 0, 0, 0, 0, []), (55, .iload 7, 2, 0, 0, 0, 0, 0, 0, []), (57, .ifCond .ne 18, 3, 75, 0, 0, 0, 0, 0, []), (60, .aload_n 0, 1, 0, 0, 0, 0, 0, 0, []), (61, .getfield 12, 3, 4, 0, 165, 1, 0, 0, []), (64, .iload 6, 2, 0, 0, 0, 0, 0, 0, []), (66, .invokevirtual 111, 3, 34, 3, 293, 1, 0, 0, []), (69, .ifCond .eq 6, 3, 75, 0, 0, 0, 0, 0, []), (72, .ldc 83, 2, 0, 0, 385, 0, (-2000004), 0, []), (74, .ireturn, 1, 0, 0, 0, 0, 0, 0, []), (75, .iload 7, 2, 0, 0, 0, 0, 0, 0, []), (77, .iconst (-1), 1, 0, 0, 0, 0, (-1), 0, []), (78, .if_icmp .eq 6, 3, 84, 0, 0, 0, 0, 0, []), (81, .iinc 4 1, 3, 0, 0, 0, 0, 1, 0, []), (84, .iinc 5 1, 3, 0, 0, 0, 0, 1, 0, []), (87, .goto (-59), 3, 28, 0, 0, 0, 0, 0, []), (90, .iload 4, 2, 0, 0, 0, 0, 0, 0, []), (92, .ifCond .ne 6, 3, 98, 0, 0, 0, 0, 0, []), (95, .ldc 129, 2, 0, 0, 295, 0, (-2000005), 0, []), (97, .ireturn, 1, 0, 0, 0, 0, 0, 0, []), (98, .aload_n 0, 1, 0, 0, 0, 0, 0, 0, []), (99, .getfield 26, 3, 4, 3, 168, 1, 0, 0, []), (102, .aload_n 0, 1, 0, 0, 0, 0, 0, 0, []), (103, .getfield 12, 3, 4, 0, 165, 1, 0, 0, []), (106, .invokevirtual 49, 3, 1, 0, 189, 0, 0, 0, []), (109, .iconst 0, 1, 0, 0, 0, 0, 0, 0, []), (110, .istore 5, 2, 0, 0, 0, 0, 0, 0, []), (112, .iload 5, 2, 0, 0, 0, 0, 0, 0, []), (114, .iconst 2, 1, 0, 0, 0, 0, 2, 0, []), (115, .if_icmp .ge 24, 3, 139, 0, 0, 0, 0, 0, []), (118, .aload_n 0, 1, 0, 0, 0, 0, 0, 0, []), (119, .getfield 12, 3, 4, 0, 165, 1, 0, 0, []), (122, .iload_n 1, 1, 0, 0, 0, 0, 0, 0, []), (123, .iload_n 2, 1, 0, 0, 0, 0, 0, 0, []), (124, .iload 5, 2, 0, 0, 0, 0, 0, 0, []), (126, .invokestatic 76, 3, 78, 0, 288, 1, 0, 0, []), (129, .iload_n 3, 1, 0, 0, 0, 0, 0, 0, []), (130, .invokevirtual 133, 3, 38, 3, 403, 0, 0, 0, []), (133, .iinc 5 1, 3, 0, 0, 0, 0, 1, 0, []), (136, .goto (-24), 3, 112, 0, 0, 0, 0, 0, []), (139, .iload 4, 2, 0, 0, 0, 0, 0, 0, []), (141, .ireturn, 1, 0, 0, 0, 0, 0, 0, [])]
def am_t58 : List aI := [(0, .aload_n 0, 1, 0, 0, 0, 0, 0, 0, []), (1, .getfield 12, 3, 4, 0, 165, 1, 0, 0, []), (4, .iload_n 1, 1, 0, 0, 0, 0, 0, 0, []), (5, .invokevirtual 53, 3, 32, 3, 208, 1, 0, 0, []), (8, .ifCond .ne 6, 3, 14, 0, 0, 0, 0, 0, []), (11, .ldc 57, 2, 0, 0, 212, 0, (-2000001), 0, []), (13, .ireturn, 1, 0, 0, 0, 0, 0, 0, []), (14, .aload_n 0, 1, 0, 0, 0, 0, 0, 0, []), (15, .getfield 40, 3, 4, 5, 170, 1, 0, 0, []), (18, .aload_n 0, 1, 0, 0, 0, 0, 0, 0, []), (19, .getfield 12, 3, 4, 0, 165, 1, 0, 0, []), (22, .iload_n 1, 1, 0, 0, 0, 0, 0, 0, []), (23, .invokevirtual 137, 3, 14, 2, 223, 0, 0, 0, []), (26, .aload_n 0, 1, 0, 0, 0, 0, 0, 0, []), (27, .getfield 40, 3, 4, 5, 170, 1, 0, 0, []), (30, .aload_n 0, 1, 0, 0, 0, 0, 0, 0, []), (31, .getfield 12, 3, 4, 0, 165, 1, 0, 0, []), (34, .getfield 141, 3, 3, 1, 43, 0, 0, 0, []), (37, .invokevirtual 144, 3, 24, 2, 411, 1, 0, 0, []), (40, .istore_n 2, 1, 0, 0, 0, 0, 0, 0, []), (41, .iload_n 2, 1, 0, 0, 0, 0, 0, 0, []), (42, .iconst (-1), 1, 0, 0, 0, 0, (-1), 0, []), (43, .if_icmp .ne 6, 3, 49, 0, 0, 0, 0, 0, []), (46, .ldc 129, 2, 0, 0, 295, 0, (-2000005), 0, []), (48, .ireturn, 1, 0, 0, 0, 0, 0, 0, []), (49, .aload_n 0, 1, 0, 0, 0, 0, 0, 0, []), (50, .getfield 26, 3, 4, 3, 168, 1, 0, 0, []), (53, .aload_n 0, 1, 0, 0, 0, 0, 0, 0, []), (54, .getfield 12, 3, 4, 0, 165, 1, 0, 0, []), (57, .invokevirtual 49, 3, 1, 0, 189, 0, 0, 0, []), (60, .iconst 0, 1, 0, 0, 0, 0, 0, 0, []), (61, .istore_n 3, 1, 0, 0, 0, 0, 0, 0, []), (62, .iload_n 2, 1, 0, 0, 0, 0, 0, 0, []), (63, .iconst (-1), 1, 0, 0, 0, 0, (-1), 0, []), (64, .if_icmp .eq 58, 3, 122, 0, 0, 0, 0, 0, []), (67, .iload_n 3, 1, 0, 0, 0, 0, 0, 0, []), (68, .bipush 36, 2, 0, 0, 0, 0, 36, 0, []), (70, .if_icmp .ge 52, 3, 122, 0, 0, 0, 0, 0, []), (73, .aload_n 0, 1, 0, 0, 0, 0, 0, 0, []), (74, .getfield 12, 3, 4, 0, 165, 1, 0, 0, []), (77, .iload_n 1, 1, 0, 0, 0, 0, 0, 0, []), (78, .iload_n 2, 1, 0, 0, 0, 0, 0, 0, []), (79, .bipush 6, 2, 0, 0, 0, 0, 6, 0, []), (81, .idiv, 1, 0, 0, 0, 0, 0, 0, []), (82, .iload_n 2, 1, 0, 0, 0, 0, 0, 0, []), (83, .bipush 6, 2, 0, 0, 0, 0, 6, 0, []), (85, .irem, 1, 0, 0, 0, 0, 0, 0, []), (86, .invokevirtual 147, 3, 39, 3, 415, 0, 0, 0, []), (89, .iinc 3 1, 3, 0, 0, 0, 0, 1, 0, []), (92, .aload_n 0, 1, 0, 0, 0, 0, 0, 0, []), (93, .getfield 40, 3, 4, 5, 170, 1, 0, 0, []), (96, .aload_n 0, 1, 0, 0, 0, 0, 0, 0, []), (97, .getfield 12, 3, 4, 0, 165, 1, 0, 0, []), (100, .iload_n 1, 1, 0, 0, 0, 0, 0, 0, []), (101, .invokevirtual 137, 3, 14, 2, 223, 0, 0, 0, []), (104, .aload_n 0, 1, 0, 0, 0, 0, 0, 0, []), (105, .getfield 40, 3, 4, 5, 170, 1, 0, 0, []), (108, .aload_n 0, 1, 0, 0, 0, 0, 0, 0, []), (109, .getfield 12, 3, 4, 0, 165, 1, 0, 0, []), (112, .getfield 141, 3, 3, 1, 43, 0, 0, 0, []), (115, .invokevirtual 144, 3, 24, 2, 411, 1, 0, 0, []), (118, .istore_n 2, 1, 0, 0, 0, 0, 0, 0, []), (119, .goto (-57), 3, 62, 0, 0, 0, 0, 0, []), (122, .iload_n 3, 1, 0, 0, 0, 0, 0, 0, []), (123, .ireturn, 1, 0, 0, 0, 0, 0, 0, [])]
def am_t59 : List aI := [(0, .iload_n 1, 1, 0, 0, 0, 0, 0, 0, []), (1, .iconst 1, 1, 0, 0, 0, 0, 1, 0, []), (2, .if_icmp .lt 10, 3, 12, 0, 0, 0, 0, 0, []), (5, .iload_n 1, 1, 0, 0, 0, 0, 0, 0, []), (6, .sipush 600, 3, 0, 0, 0, 0, 600, 0, []), (9, .if_icmp .le 6, 3, 15, 0, 0, 0, 0, 0, []), (12, .ldc 75, 2, 0, 0, 222, 0, (-2000002), 0, []), (14, .ireturn, 1, 0, 0, 0, 0, 0, 0, []), (15, .aload_n 0, 1, 0, 0, 0, 0, 0, 0, []), (16, .getfield 12, 3, 4, 0, 165, 1, 0, 0, []), (19, .getfield 141, 3, 3, 1, 43, 0, 0, 0, []), (22, .istore_n 2, 1, 0, 0, 0, 0, 0, 0, []), (23, .iload_n 2, 1, 0, 0, 0, 0, 0, 0, []), (24, .iload_n 1, 1, 0, 0, 0, 0, 0, 0, []), (25, .if_icmp .ne 6, 3, 31, 0, 0, 0, 0, 0, []), (28, .ldc 129, 2, 0, 0, 295, 0, (-2000005), 0, []), (30, .ireturn, 1, 0, 0, 0, 0, 0, 0, []), (31, .aload_n 0, 1, 0, 0, 0, 0, 0, 0, []), (32, .getfield 26, 3, 4, 3, 168, 1, 0, 0, []), (35, .aload_n 0, 1, 0, 0, 0, 0, 0, 0, []), (36, .getfield 12, 3, 4, 0, 165, 1, 0, 0, []), (39, .invokevirtual 49, 3, 1, 0, 189, 0, 0, 0, []), (42, .aload_n 0, 1, 0, 0, 0, 0, 0, 0, []), (43, .getfield 12, 3, 4, 0, 165, 1, 0, 0, []), (46, .iload_n 1, 1, 0, 0, 0, 0, 0, 0, []), (47, .putfield 141, 3, 3, 1, 43, 0, 0, 0, []), (50, .iload_n 2, 1, 0, 0, 0, 0, 0, 0, []), (51, .ireturn, 1, 0, 0, 0, 0, 0, 0, [])]
def am_t60 : List aI := [(0, .aload_n 0, 1, 0, 0, 0, 0, 0, 0, []), (1, .getfield 12, 3, 4, 0, 165, 1, 0, 0, []), (4, .iload_n 1, 1, 0, 0, 0, 0, 0, 0, []), (5, .invokevirtual 53, 3, 32, 3, 208, 1, 0, 0, []), (8, .ifCond .ne 6, 3, 14, 0, 0, 0, 0, 0, []), (11, .ldc 57, 2, 0, 0, 212, 0, (-2000001), 0, []), (13, .ireturn, 1, 0, 0, 0, 0, 0, 0, []), (14, .iload_n 2, 1, 0, 0, 0, 0, 0, 0, []), (15, .ifCond .lt 19, 3, 34, 0, 0, 0, 0, 0, []), (18, .iload_n 2, 1, 0, 0, 0, 0, 0, 0, []), (19, .bipush 99, 2, 0, 0, 0, 0, 99, 0, []), (21, .if_icmp .gt 13, 3, 34, 0, 0, 0, 0, 0, []), (24, .iload_n 3, 1, 0, 0, 0, 0, 0, 0, []), (25, .ifCond .lt 9, 3, 34, 0, 0, 0, 0, 0, []), (28, .iload_n 3, 1, 0, 0, 0, 0, 0, 0, []), (29, .bipush 24, 2, 0, 0, 0, 0, 24, 0, []), (31, .if_icmp .lt 6, 3, 37, 0, 0, 0, 0, 0, []), (34, .ldc 75, 2, 0, 0, 222, 0, (-2000002), 0, []), (36, .ireturn, 1, 0, 0, 0, 0, 0, 0, []), (37, .aload_n 0, 1, 0, 0, 0, 0, 0, 0, []), (38, .getfield 12, 3, 4, 0, 165, 1, 0, 0, []), (41, .getfield 150, 3, 3, 3, 48, 1, 0, 0, []), (44, .iload_n 1, 1, 0, 0, 0, 0, 0, 0, []), (45, .iaload, 1, 0, 0, 0, 0, 0, 0, []), (46, .istore 4, 2, 0, 0, 0, 0, 0, 0, []), (48, .aload_n 0, 1, 0, 0, 0, 0, 0, 0, []), (49, .getfield 12, 3, 4, 0, 165, 1, 0, 0, []), (52, .getfield 153, 3, 3, 4, 50, 1, 0, 0, []), (55, .iload_n 1, 1, 0, 0, 0, 0, 0, 0, []), (56, .iaload, 1, 0, 0, 0, 0, 0, 0, []), (57, .istore 5, 2, 0, 0, 0, 0, 0, 0, []), (59, .iload 4, 2, 0, 0, 0, 0, 0, 0, []), (61, .iload_n 2, 1, 0, 0, 0, 0, 0, 0, []), (62, .if_icmp .ne 12, 3, 74, 0, 0, 0, 0, 0, []), (65, .iload 5, 2, 0, 0, 0, 0, 0, 0, []), (67, .iload_n 3, 1, 0, 0, 0, 0, 0, 0, []), (68, .if_icmp .ne 6, 3, 74, 0, 0, 0, 0, 0, []), (71, .ldc 129, 2, 0, 0, 295, 0, (-2000005), 0, []), (73, .ireturn, 1, 0, 0, 0, 0, 0, 0, []), (74, .aload_n 0, 1, 0, 0, 0, 0, 0, 0, []), (75, .getfield 26, 3, 4, 3, 168, 1, 0, 0, []), (78, .aload_n 0, 1, 0, 0, 0, 0, 0, 0, []), (79, .getfield 12, 3, 4, 0, 165, 1, 0, 0, []), (82, .invokevirtual 49, 3, 1, 0, 189, 0, 0, 0, []), (85, .aload_n 0, 1, 0, 0, 0, 0, 0, 0, []), (86, .getfield 12, 3, 4, 0, 165, 1, 0, 0, []), (89, .getfield 150, 3, 3, 3, 48, 1, 0, 0, []), (92, .iload_n 1, 1, 0, 0, 0, 0, 0, 0, []), (93, .iload_n 2, 1, 0, 0, 0, 0, 0, 0, []), (94, .iastore, 1, 0, 0, 0, 0, 0, 0, []), (95, .aload_n 0, 1, 0, 0, 0, 0, 0, 0, []), (96, .getfield 12, 3, 4, 0, 165, 1, 0, 0, []), (99, .getfield 153, 3, 3, 4, 50, 1, 0, 0, []), (102, .iload_n 1, 1, 0, 0, 0, 0, 0, 0, []), (103, .iload_n 3, 1, 0, 0, 0, 0, 0, 0, []), (104, .iastore, 1, 0, 0, 0, 0, 0, 0, []), (105, .iload 4, 2, 0, 0, 0, 0, 0, 0, []), (107, .bipush 100, 2, 0, 0, 0, 0, 100, 0, []), (109, .imul, 1, 0, 0, 0, 0, 0, 0, []), (110, .iload 5, 2, 0, 0, 0, 0, 0, 0, []), (112, .iadd, 1, 0, 0, 0, 0, 0, 0, []), (113, .ireturn, 1, 0, 0, 0, 0, 0, 0, [])]
def am_t61 : List aI := [(0, .iload_n 1, 1, 0, 0, 0, 0, 0, 0, []), (1, .invokestatic 66, 3, 75, 0, 372, 1, 0, 0, []), (4, .ifCond .ne 6, 3, 10, 0, 0, 0, 0, 0, []), (7, .ldc 57, 2, 0, 0, 212, 0, (-2000001), 0, []), (9, .ireturn, 1, 0, 0, 0, 0, 0, 0, []), (10, .iload_n 2, 1, 0, 0, 0, 0, 0, 0, []), (11, .iconst 1, 1, 0, 0, 0, 0, 1, 0, []), (12, .if_icmp .lt 10, 3, 22, 0, 0, 0, 0, 0, []), (15, .iload_n 2, 1, 0, 0, 0, 0, 0, 0, []), (16, .sipush 9999, 3, 0, 0, 0, 0, 9999, 0, []), (19, .if_icmp .le 6, 3, 25, 0, 0, 0, 0, 0, []), (22, .ldc 75, 2, 0, 0, 222, 0, (-2000002), 0, []), (24, .ireturn, 1, 0, 0, 0, 0, 0, 0, []), (25, .aload_n 0, 1, 0, 0, 0, 0, 0, 0, []), (26, .getfield 12, 3, 4, 0, 165, 1, 0, 0, []), (29, .getfield 156, 3, 3, 5, 52, 1, 0, 0, []), (32, .iload_n 1, 1, 0, 0, 0, 0, 0, 0, []), (33, .iaload, 1, 0, 0, 0, 0, 0, 0, []), (34, .istore_n 3, 1, 0, 0, 0, 0, 0, 0, []), (35, .iload_n 3, 1, 0, 0, 0, 0, 0, 0, []), (36, .iload_n 2, 1, 0, 0, 0, 0, 0, 0, []), (37, .if_icmp .ne 6, 3, 43, 0, 0, 0, 0, 0, []), (40, .ldc 129, 2, 0, 0, 295, 0, (-2000005), 0, []), (42, .ireturn, 1, 0, 0, 0, 0, 0, 0, []), (43, .aload_n 0, 1, 0, 0, 0, 0, 0, 0, []), (44, .getfield 26, 3, 4, 3, 168, 1, 0, 0, []), (47, .aload_n 0, 1, 0, 0, 0, 0, 0, 0, []), (48, .getfield 12, 3, 4, 0, 165, 1, 0, 0, []), (51, .invokevirtual 49, 3, 1, 0, 189, 0, 0, 0, []), (54, .aload_n 0, 1, 0, 0, 0, 0, 0, 0, []), (55, .getfield 12, 3, 4, 0, 165, 1, 0, 0, []), (58, .getfield 156, 3, 3, 5, 52, 1, 0, 0, []), (61, .iload_n 1, 1, 0, 0, 0, 0, 0, 0, []), (62, .iload_n 2, 1, 0, 0, 0, 0, 0, 0, []), (63, .iastore, 1, 0, 0, 0, 0, 0, 0, []), (64, .iload_n 3, 1, 0, 0, 0, 0, 0, 0, []), (65, .ireturn, 1, 0, 0, 0, 0, 0, 0, [])]
def am_t64 : List aI := [(0, .aload_n 0, 1, 0, 0, 0, 0, 0, 0, []), (1, .getfield 26, 3, 4, 3, 168, 1, 0, 0, []), (4, .getfield 166, 3, 0, 1, 99, 0, 0, 0, []), (7, .ifCond .ne 6, 3, 13, 0, 0, 0, 0, 0, []), (10, .ldc 129, 2, 0, 0, 295, 0, (-2000005), 0, []), (12, .ireturn, 1, 0, 0, 0, 0, 0, 0, []), (13, .aload_n 0, 1, 0, 0, 0, 0, 0, 0, []), (14, .getfield 26, 3, 4, 3, 168, 1, 0, 0, []), (17, .aload_n 0, 1, 0, 0, 0, 0, 0, 0, []), (18, .getfield 12, 3, 4, 0, 165, 1, 0, 0, []), (21, .invokevirtual 169, 3, 2, 0, 527, 0, 0, 0, []), (24, .aload_n 0, 1, 0, 0, 0, 0, 0, 0, []), (25, .getfield 26, 3, 4, 3, 168, 1, 0, 0, []), (28, .getfield 166, 3, 0, 1, 99, 0, 0, 0, []), (31, .ireturn, 1, 0, 0, 0, 0, 0, 0, [])]
def am_t67 : List aI := [(0, .aload_n 0, 1, 0, 0, 0, 0, 0, 0, []), (1, .getfield 12, 3, 4, 0, 165, 1, 0, 0, []), (4, .iload_n 1, 1, 0, 0, 0, 0, 0, 0, []), (5, .iload_n 2, 1, 0, 0, 0, 0, 0, 0, []), (6, .invokevirtual 62, 3, 33, 3, 217, 1, 0, 0, []), (9, .ifCond .ne 6, 3, 15, 0, 0, 0, 0, 0, []), (12, .ldc 57, 2, 0, 0, 212, 0, (-2000001), 0, []), (14, .ireturn, 1, 0, 0, 0, 0, 0, 0, []), (15, .iload_n 3, 1, 0, 0, 0, 0, 0, 0, []), (16, .invokestatic 69, 3, 76, 0, 375, 1, 0, 0, []), (19, .ifCond .eq 19, 3, 38, 0, 0, 0, 0, 0, []), (22, .iload 4, 2, 0, 0, 0, 0, 0, 0, []), (24, .ifCond .lt 14, 3, 38, 0, 0, 0, 0, 0, []), (27, .iload 5, 2, 0, 0, 0, 0, 0, 0, []), (29, .ifCond .lt 9, 3, 38, 0, 0, 0, 0, 0, []), (32, .iload 5, 2, 0, 0, 0, 0, 0, 0, []), (34, .iconst 3, 1, 0, 0, 0, 0, 3, 0, []), (35, .if_icmp .le 6, 3, 41, 0, 0, 0, 0, 0, []), (38, .ldc 75, 2, 0, 0, 222, 0, (-2000002), 0, []), (40, .ireturn, 1, 0, 0, 0, 0, 0, 0, []), (41, .iload_n 1, 1, 0, 0, 0, 0, 0, 0, []), (42, .iload_n 2, 1, 0, 0, 0, 0, 0, 0, []), (43, .iload_n 3, 1, 0, 0, 0, 0, 0, 0, []), (44, .invokestatic 76, 3, 78, 0, 288, 1, 0, 0, []), (47, .istore 6, 2, 0, 0, 0, 0, 0, 0, []), (49, .iload 4, 2, 0, 0, 0, 0, 0, 0, []), (51, .aload_n 0, 1, 0, 0, 0, 0, 0, 0, []), (52, .getfield 12, 3, 4, 0, 165, 1, 0, 0, []), (55, .getfield 88, 3, 3, 6, 54, 1, 0, 0, []), (58, .iload 6, 2, 0, 0, 0, 0, 0, 0, []), (60, .iaload, 1, 0, 0, 0, 0, 0, 0, []), (61, .if_icmp .lt 6, 3, 67, 0, 0, 0, 0, 0, []), (64, .ldc 129, 2, 0, 0, 295, 0, (-2000005), 0, []), (66, .ireturn, 1, 0, 0, 0, 0, 0, 0, []), (67, .iload 6, 2, 0, 0, 0, 0, 0, 0, []), (69, .bipush 6, 2, 0, 0, 0, 0, 6, 0, []), (71, .imul, 1, 0, 0, 0, 0, 0, 0, []), (72, .iload 4, 2, 0, 0, 0, 0, 0, 0, []), (74, .iadd, 1, 0, 0, 0, 0, 0, 0, []), (75, .istore 7, 2, 0, 0, 0, 0, 0, 0, []), (77, .iload 5, 2, 0, 0, 0, 0, 0, 0, []), (79, .tableswitch 66 0 2 #[25, 36, 47], 25, 145, 0, 0, 0, 0, 0, [(0, 104), (1, 115), (2, 126)]), (104, .aload_n 0, 1, 0, 0, 0, 0, 0, 0, []), (105, .getfield 12, 3, 4, 0, 165, 1, 0, 0, []), (108, .getfield 175, 3, 3, 8, 58, 1, 0, 0, []), (111, .iload 7, 2, 0, 0, 0, 0, 0, 0, []), (113, .iaload, 1, 0, 0, 0, 0, 0, 0, []), (114, .ireturn, 1, 0, 0, 0, 0, 0, 0, []), (115, .aload_n 0, 1, 0, 0, 0, 0, 0, 0, []), (116, .getfield 12, 3, 4, 0, 165, 1, 0, 0, []), (119, .getfield 176, 3, 3, 9, 60, 1, 0, 0, []), (122, .iload 7, 2, 0, 0, 0, 0, 0, 0, []), (124, .iaload, 1, 0, 0, 0, 0, 0, 0, []), (125, .ireturn, 1, 0, 0, 0, 0, 0, 0, []), (126, .aload_n 0, 1, 0, 0, 0, 0, 0, 0, []), (127, .getfield 12, 3, 4, 0, 165, 1, 0, 0, []), (130, .getfield 125, 3, 3, 10, 62, 1, 0, 0, []), (133, .iload 7, 2, 0, 0, 0, 0, 0, 0, []), (135, .baload, 1, 0, 0, 0, 0, 0, 0, []), (136, .ifCond .eq 7, 3, 143, 0, 0, 0, 0, 0, []), (139, .iconst 1, 1, 0, 0, 0, 0, 1, 0, []), (140, .goto 4, 3, 144, 0, 0, 0, 0, 0, []), (143, .iconst 0, 1, 0, 0, 0, 0, 0, 0, []), (144, .ireturn, 1, 0, 0, 0, 0, 0, 0, []), (145, .aload_n 0, 1, 0, 0, 0, 0, 0, 0, []), (146, .getfield 12, 3, 4, 0, 165, 1, 0, 0, []), (149, .iload 6, 2, 0, 0, 0, 0, 0, 0, []), (151, .iload 4, 2, 0, 0, 0, 0, 0, 0, []), (153, .invokevirtual 177, 3, 41, 3, 438, 1, 0, 0, []), (156, .ireturn, 1, 0, 0, 0, 0, 0, 0, [])]
def am_t68 : List aI := [(0, .aload_n 0, 1, 0, 0, 0, 0, 0, 0, []), (1, .getfield 12, 3, 4, 0, 165, 1, 0, 0, []), (4, .iload_n 1, 1, 0, 0, 0, 0, 0, 0, []), (5, .iload_n 2, 1, 0, 0, 0, 0, 0, 0, []), (6, .invokevirtual 62, 3, 33, 3, 217, 1, 0, 0, []), (9, .ifCond .ne 6, 3, 15, 0, 0, 0, 0, 0, []), (12, .ldc 57, 2, 0, 0, 212, 0, (-2000001), 0, []), (14, .ireturn, 1, 0, 0, 0, 0, 0, 0, []), (15, .iload_n 3, 1, 0, 0, 0, 0, 0, 0, []), (16, .ifCond .lt 9, 3, 25, 0, 0, 0, 0, 0, []), (19, .iload_n 3, 1, 0, 0, 0, 0, 0, 0, []), (20, .bipush 7, 2, 0, 0, 0, 0, 7, 0, []), (22, .if_icmp .le 6, 3, 28, 0, 0, 0, 0, 0, []), (25, .ldc 75, 2, 0, 0, 222, 0, (-2000002), 0, []), (27, .ireturn, 1, 0, 0, 0, 0, 0, 0, []), (28, .aload_n 0, 1, 0, 0, 0, 0, 0, 0, []), (29, .getfield 40, 3, 4, 5, 170, 1, 0, 0, []), (32, .aload_n 0, 1, 0, 0, 0, 0, 0, 0, []), (33, .getfield 12, 3, 4, 0, 165, 1, 0, 0, []), (36, .iload_n 1, 1, 0, 0, 0, 0, 0, 0, []), (37, .invokevirtual 137, 3, 14, 2, 223, 0, 0, 0, []), (40, .iload_n 3, 1, 0, 0, 0, 0, 0, 0, []), (41, .tableswitch 100 0 6 #[43, 43, 58, 58, 71, 81, 91], 43, 141, 0, 0, 0, 0, 0, [(0, 84), (1, 84), (2, 99), (3, 99), (4, 112), (5, 122), (6, 132)]), (84, .aload_n 0, 1, 0, 0, 0, 0, 0, 0, []), (85, .getfield 12, 3, 4, 0, 165, 1, 0, 0, []), (88, .getfield 88, 3, 3, 6, 54, 1, 0, 0, []), (91, .iload_n 1, 1, 0, 0, 0, 0, 0, 0, []), (92, .iload_n 2, 1, 0, 0, 0, 0, 0, 0, []), (93, .iload_n 3, 1, 0, 0, 0, 0, 0, 0, []), (94, .invokestatic 76, 3, 78, 0, 288, 1, 0, 0, []), (97, .iaload, 1, 0, 0, 0, 0, 0, 0, []), (98, .ireturn, 1, 0, 0, 0, 0, 0, 0, []), (99, .aload_n 0, 1, 0, 0, 0, 0, 0, 0, []), (100, .iload_n 1, 1, 0, 0, 0, 0, 0, 0, []), (101, .iload_n 2, 1, 0, 0, 0, 0, 0, 0, []), (102, .iload_n 3, 1, 0, 0, 0, 0, 0, 0, []), (103, .iconst 2, 1, 0, 0, 0, 0, 2, 0, []), (104, .isub, 1, 0, 0, 0, 0, 0, 0, []), (105, .invokestatic 76, 3, 78, 0, 288, 1, 0, 0, []), (108, .invokevirtual 180, 3, 81, 4, 289, 1, 0, 0, []), (111, .ireturn, 1, 0, 0, 0, 0, 0, 0, []), (112, .aload_n 0, 1, 0, 0, 0, 0, 0, 0, []), (113, .getfield 40, 3, 4, 5, 170, 1, 0, 0, []), (116, .getfield 183, 3, 2, 1, 143, 1, 0, 0, []), (119, .iload_n 2, 1, 0, 0, 0, 0, 0, 0, []), (120, .iaload, 1, 0, 0, 0, 0, 0, 0, []), (121, .ireturn, 1, 0, 0, 0, 0, 0, 0, []), (122, .aload_n 0, 1, 0, 0, 0, 0, 0, 0, []), (123, .getfield 12, 3, 4, 0, 165, 1, 0, 0, []), (126, .iload_n 1, 1, 0, 0, 0, 0, 0, 0, []), (127, .iload_n 2, 1, 0, 0, 0, 0, 0, 0, []), (128, .invokevirtual 130, 3, 45, 3, 296, 1, 0, 0, []), (131, .ireturn, 1, 0, 0, 0, 0, 0, 0, []), (132, .aload_n 0, 1, 0, 0, 0, 0, 0, 0, []), (133, .getfield 40, 3, 4, 5, 170, 1, 0, 0, []), (136, .iload_n 2, 1, 0, 0, 0, 0, 0, 0, []), (137, .invokevirtual 186, 3, 25, 2, 304, 1, 0, 0, []), (140, .ireturn, 1, 0, 0, 0, 0, 0, 0, []), (141, .aload_n 0, 1, 0, 0, 0, 0, 0, 0, []), (142, .getfield 40, 3, 4, 5, 170, 1, 0, 0, []), (145, .iload_n 2, 1, 0, 0, 0, 0, 0, 0, []), (146, .aload_n 0, 1, 0, 0, 0, 0, 0, 0, []), (147, .getfield 12, 3, 4, 0, 165, 1, 0, 0, []), (150, .getfield 141, 3, 3, 1, 43, 0, 0, 0, []), (153, .invokevirtual 189, 3, 23, 2, 315, 1, 0, 0, []), (156, .ireturn, 1, 0, 0, 0, 0, 0, 0, [])]
def am_t69 : List aI := [(0, .aload_n 0, 1, 0, 0, 0, 0, 0, 0, []), (1, .getfield 12, 3, 4, 0, 165, 1, 0, 0, []), (4, .iload_n 1, 1, 0, 0, 0, 0, 0, 0, []), (5, .iload_n 2, 1, 0, 0, 0, 0, 0, 0, []), (6, .invokevirtual 62, 3, 33, 3, 217, 1, 0, 0, []), (9, .ifCond .eq 10, 3, 19, 0, 0, 0, 0, 0, []), (12, .iload_n 3, 1, 0, 0, 0, 0, 0, 0, []), (13, .invokestatic 66, 3, 75, 0, 372, 1, 0, 0, []), (16, .ifCond .ne 6, 3, 22, 0, 0, 0, 0, 0, []), (19, .ldc 57, 2, 0, 0, 212, 0, (-2000001), 0, []), (21, .ireturn, 1, 0, 0, 0, 0, 0, 0, []), (22, .iload 4, 2, 0, 0, 0, 0, 0, 0, []), (24, .ifCond .lt 9, 3, 33, 0, 0, 0, 0, 0, []), (27, .iload 4, 2, 0, 0, 0, 0, 0, 0, []), (29, .iconst 3, 1, 0, 0, 0, 0, 3, 0, []), (30, .if_icmp .le 6, 3, 36, 0, 0, 0, 0, 0, []), (33, .ldc 75, 2, 0, 0, 222, 0, (-2000002), 0, []), (35, .ireturn, 1, 0, 0, 0, 0, 0, 0, []), (36, .iload 4, 2, 0, 0, 0, 0, 0, 0, []), (38, .iconst 3, 1, 0, 0, 0, 0, 3, 0, []), (39, .if_icmp .ne 14, 3, 53, 0, 0, 0, 0, 0, []), (42, .aload_n 0, 1, 0, 0, 0, 0, 0, 0, []), (43, .getfield 12, 3, 4, 0, 165, 1, 0, 0, []), (46, .iload_n 1, 1, 0, 0, 0, 0, 0, 0, []), (47, .iload_n 2, 1, 0, 0, 0, 0, 0, 0, []), (48, .iload_n 3, 1, 0, 0, 0, 0, 0, 0, []), (49, .invokevirtual 192, 3, 42, 3, 445, 1, 0, 0, []), (52, .ireturn, 1, 0, 0, 0, 0, 0, 0, []), (53, .aload_n 0, 1, 0, 0, 0, 0, 0, 0, []), (54, .getfield 40, 3, 4, 5, 170, 1, 0, 0, []), (57, .aload_n 0, 1, 0, 0, 0, 0, 0, 0, []), (58, .getfield 12, 3, 4, 0, 165, 1, 0, 0, []), (61, .iload_n 1, 1, 0, 0, 0, 0, 0, 0, []), (62, .invokevirtual 137, 3, 14, 2, 223, 0, 0, 0, []), (65, .aload_n 0, 1, 0, 0, 0, 0, 0, 0, []), (66, .getfield 40, 3, 4, 5, 170, 1, 0, 0, []), (69, .iload_n 2, 1, 0, 0, 0, 0, 0, 0, []), (70, .iload_n 3, 1, 0, 0, 0, 0, 0, 0, []), (71, .invokevirtual 195, 3, 18, 2, 446, 1, 0, 0, []), (74, .ifCond .ne 6, 3, 80, 0, 0, 0, 0, 0, []), (77, .ldc 129, 2, 0, 0, 295, 0, (-2000005), 0, []), (79, .ireturn, 1, 0, 0, 0, 0, 0, 0, []), (80, .iload_n 2, 1, 0, 0, 0, 0, 0, 0, []), (81, .bipush 6, 2, 0, 0, 0, 0, 6, 0, []), (83, .imul, 1, 0, 0, 0, 0, 0, 0, []), (84, .iload_n 3, 1, 0, 0, 0, 0, 0, 0, []), (85, .iadd, 1, 0, 0, 0, 0, 0, 0, []), (86, .istore 5, 2, 0, 0, 0, 0, 0, 0, []), (88, .iload 4, 2, 0, 0, 0, 0, 0, 0, []), (90, .lookupswitch 48 #[(0, 26), (1, 37)], 26, 138, 0, 0, 0, 0, 0, [(0, 116), (1, 127)]), (116, .aload_n 0, 1, 0, 0, 0, 0, 0, 0, []), (117, .getfield 40, 3, 4, 5, 170, 1, 0, 0, []), (120, .getfield 198, 3, 2, 2, 145, 1, 0, 0, []), (123, .iload 5, 2, 0, 0, 0, 0, 0, 0, []), (125, .iaload, 1, 0, 0, 0, 0, 0, 0, []), (126, .ireturn, 1, 0, 0, 0, 0, 0, 0, []), (127, .aload_n 0, 1, 0, 0, 0, 0, 0, 0, []), (128, .getfield 40, 3, 4, 5, 170, 1, 0, 0, []), (131, .getfield 201, 3, 2, 4, 149, 1, 0, 0, []), (134, .iload 5, 2, 0, 0, 0, 0, 0, 0, []), (136, .iaload, 1, 0, 0, 0, 0, 0, 0, []), (137, .ireturn, 1, 0, 0, 0, 0, 0, 0, []), (138, .aload_n 0, 1, 0, 0, 0, 0, 0, 0, []), (139, .getfield 40, 3, 4, 5, 170, 1, 0, 0, []), (142, .getfield 204, 3, 2, 3, 147, 1, 0, 0, []), (145, .iload 5, 2, 0, 0, 0, 0, 0, 0, []), (147, .iaload, 1, 0, 0, 0, 0, 0, 0, []), (148, .ireturn, 1, 0, 0, 0, 0, 0, 0, [])]
def am_t70 : List aI := [(0, .aload_n 0, 1, 0, 0, 0, 0, 0, 0, []), (1, .getfield 12, 3, 4, 0, 165, 1, 0, 0, []), (4, .iload_n 1, 1, 0, 0, 0, 0, 0, 0, []), (5, .invokevirtual 53, 3, 32, 3, 208, 1, 0, 0, []), (8, .ifCond .eq 10, 3, 18, 0, 0, 0, 0, 0, []), (11, .iload_n 2, 1, 0, 0, 0, 0, 0, 0, []), (12, .invokestatic 66, 3, 75, 0, 372, 1, 0, 0, []), (15, .ifCond .ne 6, 3, 21, 0, 0, 0, 0, 0, []), (18, .ldc 57, 2, 0, 0, 212, 0, (-2000001), 0, []), (20, .ireturn, 1, 0, 0, 0, 0, 0, 0, []), (21, .iload_n 3, 1, 0, 0, 0, 0, 0, 0, []), (22, .ifCond .lt 8, 3, 30, 0, 0, 0, 0, 0, []), (25, .iload_n 3, 1, 0, 0, 0, 0, 0, 0, []), (26, .iconst 4, 1, 0, 0, 0, 0, 4, 0, []), (27, .if_icmp .le 6, 3, 33, 0, 0, 0, 0, 0, []), (30, .ldc 75, 2, 0, 0, 222, 0, (-2000002), 0, []), (32, .ireturn, 1, 0, 0, 0, 0, 0, 0, []), (33, .aload_n 0, 1, 0, 0, 0, 0, 0, 0, []), (34, .getfield 40, 3, 4, 5, 170, 1, 0, 0, []), (37, .aload_n 0, 1, 0, 0, 0, 0, 0, 0, []), (38, .getfield 12, 3, 4, 0, 165, 1, 0, 0, []), (41, .iload_n 1, 1, 0, 0, 0, 0, 0, 0, []), (42, .invokevirtual 137, 3, 14, 2, 223, 0, 0, 0, []), (45, .iload_n 3, 1, 0, 0, 0, 0, 0, 0, []), (46, .iconst 4, 1, 0, 0, 0, 0, 4, 0, []), (47, .if_icmp .ne 12, 3, 59, 0, 0, 0, 0, 0, []), (50, .aload_n 0, 1, 0, 0, 0, 0, 0, 0, []), (51, .getfield 40, 3, 4, 5, 170, 1, 0, 0, []), (54, .iload_n 2, 1, 0, 0, 0, 0, 0, 0, []), (55, .invokevirtual 207, 3, 20, 2, 451, 1, 0, 0, []), (58, .ireturn, 1, 0, 0, 0, 0, 0, 0, []), (59, .aload_n 0, 1, 0, 0, 0, 0, 0, 0, []), (60, .getfield 40, 3, 4, 5, 170, 1, 0, 0, []), (63, .iload_n 2, 1, 0, 0, 0, 0, 0, 0, []), (64, .invokevirtual 210, 3, 19, 2, 455, 1, 0, 0, []), (67, .ifCond .ne 6, 3, 73, 0, 0, 0, 0, 0, []), (70, .ldc 129, 2, 0, 0, 295, 0, (-2000005), 0, []), (72, .ireturn, 1, 0, 0, 0, 0, 0, 0, []), (73, .iload_n 3, 1, 0, 0, 0, 0, 0, 0, []), (74, .tableswitch 50 0 2 #[26, 36, 43], 26, 124, 0, 0, 0, 0, 0, [(0, 100), (1, 110), (2, 117)]), (100, .aload_n 0, 1, 0, 0, 0, 0, 0, 0, []), (101, .getfield 40, 3, 4, 5, 170, 1, 0, 0, []), (104, .getfield 213, 3, 2, 5, 151, 1, 0, 0, []), (107, .iload_n 2, 1, 0, 0, 0, 0, 0, 0, []), (108, .iaload, 1, 0, 0, 0, 0, 0, 0, []), (109, .ireturn, 1, 0, 0, 0, 0, 0, 0, []), (110, .aload_n 0, 1, 0, 0, 0, 0, 0, 0, []), (111, .iload_n 1, 1, 0, 0, 0, 0, 0, 0, []), (112, .iload_n 2, 1, 0, 0, 0, 0, 0, 0, []), (113, .invokevirtual 216, 3, 83, 4, 459, 1, 0, 0, []), (116, .ireturn, 1, 0, 0, 0, 0, 0, 0, []), (117, .aload_n 0, 1, 0, 0, 0, 0, 0, 0, []), (118, .iload_n 1, 1, 0, 0, 0, 0, 0, 0, []), (119, .iload_n 2, 1, 0, 0, 0, 0, 0, 0, []), (120, .invokevirtual 219, 3, 84, 4, 469, 1, 0, 0, []), (123, .ireturn, 1, 0, 0, 0, 0, 0, 0, []), (124, .aload_n 0, 1, 0, 0, 0, 0, 0, 0, []), (125, .getfield 40, 3, 4, 5, 170, 1, 0, 0, []), (128, .iload_n 2, 1, 0, 0, 0, 0, 0, 0, []), (129, .invokevirtual 222, 3, 22, 2, 473, 1, 0, 0, []), (132, .ireturn, 1, 0, 0, 0, 0, 0, 0, [])]
def am_t71 : List aI := [(0, .aload_n 0, 1, 0, 0, 0, 0, 0, 0, []), (1, .getfield 12, 3, 4, 0, 165, 1, 0, 0, []), (4, .iload_n 1, 1, 0, 0, 0, 0, 0, 0, []), (5, .invokevirtual 53, 3, 32, 3, 208, 1, 0, 0, []), (8, .ifCond .eq 17, 3, 25, 0, 0, 0, 0, 0, []), (11, .iload_n 2, 1, 0, 0, 0, 0, 0, 0, []), (12, .invokestatic 66, 3, 75, 0, 372, 1, 0, 0, []), (15, .ifCond .eq 10, 3, 25, 0, 0, 0, 0, 0, []), (18, .iload_n 3, 1, 0, 0, 0, 0, 0, 0, []), (19, .invokestatic 66, 3, 75, 0, 372, 1, 0, 0, []), (22, .ifCond .ne 6, 3, 28, 0, 0, 0, 0, 0, []), (25, .ldc 57, 2, 0, 0, 212, 0, (-2000001), 0, []), (27, .ireturn, 1, 0, 0, 0, 0, 0, 0, []), (28, .aload_n 0, 1, 0, 0, 0, 0, 0, 0, []), (29, .getfield 40, 3, 4, 5, 170, 1, 0, 0, []), (32, .aload_n 0, 1, 0, 0, 0, 0, 0, 0, []), (33, .getfield 12, 3, 4, 0, 165, 1, 0, 0, []), (36, .iload_n 1, 1, 0, 0, 0, 0, 0, 0, []), (37, .invokevirtual 137, 3, 14, 2, 223, 0, 0, 0, []), (40, .aload_n 0, 1, 0, 0, 0, 0, 0, 0, []), (41, .getfield 40, 3, 4, 5, 170, 1, 0, 0, []), (44, .iload_n 2, 1, 0, 0, 0, 0, 0, 0, []), (45, .invokevirtual 210, 3, 19, 2, 455, 1, 0, 0, []), (48, .ifCond .eq 14, 3, 62, 0, 0, 0, 0, 0, []), (51, .aload_n 0, 1, 0, 0, 0, 0, 0, 0, []), (52, .getfield 40, 3, 4, 5, 170, 1, 0, 0, []), (55, .iload_n 3, 1, 0, 0, 0, 0, 0, 0, []), (56, .invokevirtual 210, 3, 19, 2, 455, 1, 0, 0, []), (59, .ifCond .ne 6, 3, 65, 0, 0, 0, 0, 0, []), (62, .ldc 129, 2, 0, 0, 295, 0, (-2000005), 0, []), (64, .ireturn, 1, 0, 0, 0, 0, 0, 0, []), (65, .iload 4, 2, 0, 0, 0, 0, 0, 0, []), (67, .ifCond .eq 22, 3, 89, 0, 0, 0, 0, 0, []), (70, .aload_n 0, 1, 0, 0, 0, 0, 0, 0, []), (71, .iload_n 1, 1, 0, 0, 0, 0, 0, 0, []), (72, .iload_n 3, 1, 0, 0, 0, 0, 0, 0, []), (73, .invokevirtual 219, 3, 84, 4, 469, 1, 0, 0, []), (76, .aload_n 0, 1, 0, 0, 0, 0, 0, 0, []), (77, .iload_n 1, 1, 0, 0, 0, 0, 0, 0, []), (78, .iload_n 2, 1, 0, 0, 0, 0, 0, 0, []), (79, .invokevirtual 219, 3, 84, 4, 469, 1, 0, 0, []), (82, .isub, 1, 0, 0, 0, 0, 0, 0, []), (83, .ldc 225, 2, 0, 0, 263, 0, 1296000, 0, []), (85, .invokestatic 226, 3, 160, 0, 464, 1, 0, 0, []), (88, .ireturn, 1, 0, 0, 0, 0, 0, 0, []), (89, .aload_n 0, 1, 0, 0, 0, 0, 0, 0, []), (90, .getfield 40, 3, 4, 5, 170, 1, 0, 0, []), (93, .iload_n 2, 1, 0, 0, 0, 0, 0, 0, []), (94, .iload_n 3, 1, 0, 0, 0, 0, 0, 0, []), (95, .invokevirtual 231, 3, 26, 2, 519, 1, 0, 0, []), (98, .ireturn, 1, 0, 0, 0, 0, 0, 0, [])]
def am_t72 : List aI := [(0, .aload_n 0, 1, 0, 0, 0, 0, 0, 0, []), (1, .getfield 12, 3, 4, 0, 165, 1, 0, 0, []), (4, .iload_n 1, 1, 0, 0, 0, 0, 0, 0, []), (5, .invokevirtual 53, 3, 32, 3, 208, 1, 0, 0, []), (8, .ifCond .eq 10, 3, 18, 0, 0, 0, 0, 0, []), (11, .iload_n 2, 1, 0, 0, 0, 0, 0, 0, []), (12, .invokestatic 66, 3, 75, 0, 372, 1, 0, 0, []), (15, .ifCond .ne 6, 3, 21, 0, 0, 0, 0, 0, []), (18, .ldc 57, 2, 0, 0, 212, 0, (-2000001), 0, []), (20, .ireturn, 1, 0, 0, 0, 0, 0, 0, []), (21, .aload_n 0, 1, 0, 0, 0, 0, 0, 0, []), (22, .getfield 40, 3, 4, 5, 170, 1, 0, 0, []), (25, .aload_n 0, 1, 0, 0, 0, 0, 0, 0, []), (26, .getfield 12, 3, 4, 0, 165, 1, 0, 0, []), (29, .iload_n 1, 1, 0, 0, 0, 0, 0, 0, []), (30, .invokevirtual 137, 3, 14, 2, 223, 0, 0, 0, []), (33, .aload_n 0, 1, 0, 0, 0, 0, 0, 0, []), (34, .getfield 40, 3, 4, 5, 170, 1, 0, 0, []), (37, .iload_n 2, 1, 0, 0, 0, 0, 0, 0, []), (38, .invokevirtual 210, 3, 19, 2, 455, 1, 0, 0, []), (41, .ifCond .ne 6, 3, 47, 0, 0, 0, 0, 0, []), (44, .ldc 129, 2, 0, 0, 295, 0, (-2000005), 0, []), (46, .ireturn, 1, 0, 0, 0, 0, 0, 0, []), (47, .aload_n 0, 1, 0, 0, 0, 0, 0, 0, []), (48, .getfield 40, 3, 4, 5, 170, 1, 0, 0, []), (51, .iload_n 2, 1, 0, 0, 0, 0, 0, 0, []), (52, .invokevirtual 234, 3, 27, 2, 494, 1, 0, 0, []), (55, .ireturn, 1, 0, 0, 0, 0, 0, 0, [])]
def am_t73 : List aI := [(0, .iload_n 1, 1, 0, 0, 0, 0, 0, 0, []), (1, .tableswitch 120 0 8 #[51, 59, 67, 75, 83, 88, 96, 104, 112], 51, 121, 0, 0, 0, 0, 0, [(0, 52), (1, 60), (2, 68), (3, 76), (4, 84), (5, 89), (6, 97), (7, 105), (8, 113)]), (52, .aload_n 0, 1, 0, 0, 0, 0, 0, 0, []), (53, .getfield 12, 3, 4, 0, 165, 1, 0, 0, []), (56, .getfield 44, 3, 3, 0, 41, 0, 0, 0, []), (59, .ireturn, 1, 0, 0, 0, 0, 0, 0, []), (60, .aload_n 0, 1, 0, 0, 0, 0, 0, 0, []), (61, .getfield 12, 3, 4, 0, 165, 1, 0, 0, []), (64, .invokevirtual 237, 3, 46, 3, 330, 1, 0, 0, []), (67, .ireturn, 1, 0, 0, 0, 0, 0, 0, []), (68, .aload_n 0, 1, 0, 0, 0, 0, 0, 0, []), (69, .getfield 12, 3, 4, 0, 165, 1, 0, 0, []), (72, .invokevirtual 240, 3, 47, 3, 334, 1, 0, 0, []), (75, .ireturn, 1, 0, 0, 0, 0, 0, 0, []), (76, .aload_n 0, 1, 0, 0, 0, 0, 0, 0, []), (77, .getfield 12, 3, 4, 0, 165, 1, 0, 0, []), (80, .invokevirtual 243, 3, 48, 3, 338, 1, 0, 0, []), (83, .ireturn, 1, 0, 0, 0, 0, 0, 0, []), (84, .aload_n 0, 1, 0, 0, 0, 0, 0, 0, []), (85, .invokevirtual 246, 3, 82, 4, 342, 1, 0, 0, []), (88, .ireturn, 1, 0, 0, 0, 0, 0, 0, []), (89, .aload_n 0, 1, 0, 0, 0, 0, 0, 0, []), (90, .getfield 12, 3, 4, 0, 165, 1, 0, 0, []), (93, .getfield 141, 3, 3, 1, 43, 0, 0, 0, []), (96, .ireturn, 1, 0, 0, 0, 0, 0, 0, []), (97, .aload_n 0, 1, 0, 0, 0, 0, 0, 0, []), (98, .getfield 12, 3, 4, 0, 165, 1, 0, 0, []), (101, .invokevirtual 249, 3, 49, 3, 347, 1, 0, 0, []), (104, .ireturn, 1, 0, 0, 0, 0, 0, 0, []), (105, .aload_n 0, 1, 0, 0, 0, 0, 0, 0, []), (106, .getfield 26, 3, 4, 3, 168, 1, 0, 0, []), (109, .getfield 166, 3, 0, 1, 99, 0, 0, 0, []), (112, .ireturn, 1, 0, 0, 0, 0, 0, 0, []), (113, .aload_n 0, 1, 0, 0, 0, 0, 0, 0, []), (114, .getfield 33, 3, 4, 4, 169, 1, 0, 0, []), (117, .getfield 159, 3, 1, 1, 113, 0, 0, 0, []), (120, .ireturn, 1, 0, 0, 0, 0, 0, 0, []), (121, .ldc 75, 2, 0, 0, 222, 0, (-2000002), 0, []), (123, .ireturn, 1, 0, 0, 0, 0, 0, 0, [])]
def am_t74 : List aI := [(0, .aload_n 0, 1, 0, 0, 0, 0, 0, 0, []), (1, .getfield 12, 3, 4, 0, 165, 1, 0, 0, []), (4, .iload_n 1, 1, 0, 0, 0, 0, 0, 0, []), (5, .invokevirtual 53, 3, 32, 3, 208, 1, 0, 0, []), (8, .ifCond .ne 6, 3, 14, 0, 0, 0, 0, 0, []), (11, .ldc 57, 2, 0, 0, 212, 0, (-2000001), 0, []), (13, .ireturn, 1, 0, 0, 0, 0, 0, 0, []), (14, .iload_n 2, 1, 0, 0, 0, 0, 0, 0, []), (15, .ifCond .eq 15, 3, 30, 0, 0, 0, 0, 0, []), (18, .aload_n 0, 1, 0, 0, 0, 0, 0, 0, []), (19, .getfield 12, 3, 4, 0, 165, 1, 0, 0, []), (22, .getfield 153, 3, 3, 4, 50, 1, 0, 0, []), (25, .iload_n 1, 1, 0, 0, 0, 0, 0, 0, []), (26, .iaload, 1, 0, 0, 0, 0, 0, 0, []), (27, .goto 12, 3, 39, 0, 0, 0, 0, 0, []), (30, .aload_n 0, 1, 0, 0, 0, 0, 0, 0, []), (31, .getfield 12, 3, 4, 0, 165, 1, 0, 0, []), (34, .getfield 150, 3, 3, 3, 48, 1, 0, 0, []), (37, .iload_n 1, 1, 0, 0, 0, 0, 0, 0, []), (38, .iaload, 1, 0, 0, 0, 0, 0, 0, []), (39, .ireturn, 1, 0, 0, 0, 0, 0, 0, [])]
def am_t75 : List aI := [(0, .iload_n 0, 1, 0, 0, 0, 0, 0, 0, []), (1, .ifCond .lt 13, 3, 14, 0, 0, 0, 0, 0, []), (4, .iload_n 0, 1, 0, 0, 0, 0, 0, 0, []), (5, .bipush 6, 2, 0, 0, 0, 0, 6, 0, []), (7, .if_icmp .ge 7, 3, 14, 0, 0, 0, 0, 0, []), (10, .iconst 1, 1, 0, 0, 0, 0, 1, 0, []), (11, .goto 4, 3, 15, 0, 0, 0, 0, 0, []), (14, .iconst 0, 1, 0, 0, 0, 0, 0, 0, []), (15, .ireturn, 1, 0, 0, 0, 1, 0, 0, [])]
def am_t76 : List aI := [(0, .iload_n 0, 1, 0, 0, 0, 0, 0, 0, []), (1, .ifCond .lt 12, 3, 13, 0, 0, 0, 0, 0, []), (4, .iload_n 0, 1, 0, 0, 0, 0, 0, 0, []), (5, .iconst 2, 1, 0, 0, 0, 0, 2, 0, []), (6, .if_icmp .ge 7, 3, 13, 0, 0, 0, 0, 0, []), (9, .iconst 1, 1, 0, 0, 0, 0, 1, 0, []), (10, .goto 4, 3, 14, 0, 0, 0, 0, 0, []), (13, .iconst 0, 1, 0, 0, 0, 0, 0, 0, []), (14, .ireturn, 1, 0, 0, 0, 1, 0, 0, [])]
def am_t77 : List aI := [(0, .iload_n 0, 1, 0, 0, 0, 0, 0, 0, []), (1, .ifCond .lt 13, 3, 14, 0, 0, 0, 0, 0, []), (4, .iload_n 0, 1, 0, 0, 0, 0, 0, 0, []), (5, .ldc 225, 2, 0, 0, 263, 0, 1296000, 0, []), (7, .if_icmp .ge 7, 3, 14, 0, 0, 0, 0, 0, []), (10, .iconst 1, 1, 0, 0, 0, 0, 1, 0, []), (11, .goto 4, 3, 15, 0, 0, 0, 0, 0, []), (14, .iconst 0, 1, 0, 0, 0, 0, 0, 0, []), (15, .ireturn, 1, 0, 0, 0, 1, 0, 0, [])]
def am_t78 : List aI := [(0, .iload_n 0, 1, 0, 0, 0, 0, 0, 0, []), (1, .bipush 6, 2, 0, 0, 0, 0, 6, 0, []), (3, .imul, 1, 0, 0, 0, 0, 0, 0, []), (4, .iload_n 1, 1, 0, 0, 0, 0, 0, 0, []), (5, .iadd, 1, 0, 0, 0, 0, 0, 0, []), (6, .iconst 2, 1, 0, 0, 0, 0, 2, 0, []), (7, .imul, 1, 0, 0, 0, 0, 0, 0, []), (8, .iload_n 2, 1, 0, 0, 0, 0, 0, 0, []), (9, .iadd, 1, 0, 0, 0, 0, 0, 0, []), (10, .ireturn, 1, 0, 0, 0, 0, 0, 0, [])]
def am_t79 : List aI := [(0, .iload_n 0, 1, 0, 0, 0, 0, 0, 0, []), (1, .ldc 225, 2, 0, 0, 263, 0, 1296000, 0, []), (3, .irem, 1, 0, 0, 0, 0, 0, 0, []), (4, .istore_n 1, 1, 0, 0, 0, 0, 0, 0, []), (5, .iload_n 1, 1, 0, 0, 0, 0, 0, 0, []), (6, .ldc 252, 2, 0, 0, 264, 0, 648000, 0, []), (8, .if_icmp .le 8, 3, 16, 0, 0, 0, 0, 0, []), (11, .iload_n 1, 1, 0, 0, 0, 0, 0, 0, []), (12, .ldc 225, 2, 0, 0, 263, 0, 1296000, 0, []), (14, .isub, 1, 0, 0, 0, 0, 0, 0, []), (15, .ireturn, 1, 0, 0, 0, 0, 0, 0, []), (16, .iload_n 1, 1, 0, 0, 0, 0, 0, 0, []), (17, .ldc 253, 2, 0, 0, 265, 0, (-648000), 0, []), (19, .if_icmp .gt 10, 3, 29, 0, 0, 0, 0, 0, []), (22, .iload_n 1, 1, 0, 0, 0, 0, 0, 0, []), (23, .ldc 225, 2, 0, 0, 263, 0, 1296000, 0, []), (25, .iadd, 1, 0, 0, 0, 0, 0, 0, []), (26, .goto 4, 3, 30, 0, 0, 0, 0, 0, []), (29, .iload_n 1, 1, 0, 0, 0, 0, 0, 0, []), (30, .ireturn, 1, 0, 0, 0, 0, 0, 0, [])]
def am_t81 : List aI := [(0, .aload_n 0, 1, 0, 0, 0, 0, 0, 0, []), (1, .getfield 12, 3, 4, 0, 165, 1, 0, 0, []), (4, .iload_n 1, 1, 0, 0, 0, 0, 0, 0, []), (5, .invokevirtual 111, 3, 34, 3, 293, 1, 0, 0, []), (8, .ifCond .eq 14, 3, 22, 0, 0, 0, 0, 0, []), (11, .aload_n 0, 1, 0, 0, 0, 0, 0, 0, []), (12, .getfield 12, 3, 4, 0, 165, 1, 0, 0, []), (15, .iload_n 1, 1, 0, 0, 0, 0, 0, 0, []), (16, .invokevirtual 117, 3, 40, 3, 294, 1, 0, 0, []), (19, .goto 5, 3, 24, 0, 0, 0, 0, 0, []), (22, .ldc 129, 2, 0, 0, 295, 0, (-2000005), 0, []), (24, .ireturn, 1, 0, 0, 0, 0, 0, 0, [])]
def am_t82 : List aI := [(0, .iconst 0, 1, 0, 0, 0, 0, 0, 0, []), (1, .istore_n 1, 1, 0, 0, 0, 0, 0, 0, []), (2, .iconst 0, 1, 0, 0, 0, 0, 0, 0, []), (3, .istore_n 2, 1, 0, 0, 0, 0, 0, 0, []), (4, .iload_n 2, 1, 0, 0, 0, 0, 0, 0, []), (5, .aload_n 0, 1, 0, 0, 0, 0, 0, 0, []), (6, .getfield 12, 3, 4, 0, 165, 1, 0, 0, []), (9, .getfield 44, 3, 3, 0, 41, 0, 0, 0, []), (12, .if_icmp .ge 63, 3, 75, 0, 0, 0, 0, 0, []), (15, .aload_n 0, 1, 0, 0, 0, 0, 0, 0, []), (16, .getfield 40, 3, 4, 5, 170, 1, 0, 0, []), (19, .aload_n 0, 1, 0, 0, 0, 0, 0, 0, []), (20, .getfield 12, 3, 4, 0, 165, 1, 0, 0, []), (23, .iload_n 2, 1, 0, 0, 0, 0, 0, 0, []), (24, .invokevirtual 137, 3, 14, 2, 223, 0, 0, 0, []), (27, .iconst 0, 1, 0, 0, 0, 0, 0, 0, []), (28, .istore_n 3, 1, 0, 0, 0, 0, 0, 0, []), (29, .iload_n 3, 1, 0, 0, 0, 0, 0, 0, []), (30, .aload_n 0, 1, 0, 0, 0, 0, 0, 0, []), (31, .getfield 12, 3, 4, 0, 165, 1, 0, 0, []), (34, .getfield 58, 3, 3, 2, 46, 1, 0, 0, []), (37, .iload_n 2, 1, 0, 0, 0, 0, 0, 0, []), (38, .iaload, 1, 0, 0, 0, 0, 0, 0, []), (39, .if_icmp .ge 30, 3, 69, 0, 0, 0, 0, 0, []), (42, .iload_n 1, 1, 0, 0, 0, 0, 0, 0, []), (43, .aload_n 0, 1, 0, 0, 0, 0, 0, 0, []), (44, .getfield 40, 3, 4, 5, 170, 1, 0, 0, []), (47, .iload_n 3, 1, 0, 0, 0, 0, 0, 0, []), (48, .aload_n 0, 1, 0, 0, 0, 0, 0, 0, []), (49, .getfield 12, 3, 4, 0, 165, 1, 0, 0, []), (52, .getfield 141, 3, 3, 1, 43, 0, 0, 0, []), (55, .invokevirtual 189, 3, 23, 2, 315, 1, 0, 0, []), (58, .invokestatic 254, 3, 158, 0, 346, 1, 0, 0, []), (61, .iadd, 1, 0, 0, 0, 0, 0, 0, []), (62, .istore_n 1, 1, 0, 0, 0, 0, 0, 0, []), (63, .iinc 3 1, 3, 0, 0, 0, 0, 1, 0, []), (66, .goto (-37), 3, 29, 0, 0, 0, 0, 0, []), (69, .iinc 2 1, 3, 0, 0, 0, 0, 1, 0, []), (72, .goto (-68), 3, 4, 0, 0, 0, 0, 0, []), (75, .iload_n 1, 1, 0, 0, 0, 0, 0, 0, []), (76, .ireturn, 1, 0, 0, 0, 0, 0, 0, [])]
def am_t83 : List aI := [(0, .aload_n 0, 1, 0, 0, 0, 0, 0, 0, []), (1, .getfield 12, 3, 4, 0, 165, 1, 0, 0, []), (4, .getfield 153, 3, 3, 4, 50, 1, 0, 0, []), (7, .iload_n 1, 1, 0, 0, 0, 0, 0, 0, []), (8, .iaload, 1, 0, 0, 0, 0, 0, 0, []), (9, .ldc_w 259, 3, 0, 0, 463, 0, 54000, 0, []), (12, .imul, 1, 0, 0, 0, 0, 0, 0, []), (13, .aload_n 0, 1, 0, 0, 0, 0, 0, 0, []), (14, .getfield 40, 3, 4, 5, 170, 1, 0, 0, []), (17, .getfield 213, 3, 2, 5, 151, 1, 0, 0, []), (20, .iload_n 2, 1, 0, 0, 0, 0, 0, 0, []), (21, .iaload, 1, 0, 0, 0, 0, 0, 0, []), (22, .isub, 1, 0, 0, 0, 0, 0, 0, []), (23, .istore_n 3, 1, 0, 0, 0, 0, 0, 0, []), (24, .iload_n 3, 1, 0, 0, 0, 0, 0, 0, []), (25, .sipush 27000, 3, 0, 0, 0, 0, 27000, 0, []), (28, .iadd, 1, 0, 0, 0, 0, 0, 0, []), (29, .ldc 225, 2, 0, 0, 263, 0, 1296000, 0, []), (31, .invokestatic 226, 3, 160, 0, 464, 1, 0, 0, []), (34, .ldc_w 259, 3, 0, 0, 463, 0, 54000, 0, []), (37, .idiv, 1, 0, 0, 0, 0, 0, 0, []), (38, .istore 4, 2, 0, 0, 0, 0, 0, 0, []), (40, .aload_n 0, 1, 0, 0, 0, 0, 0, 0, []), (41, .getfield 12, 3, 4, 0, 165, 1, 0, 0, []), (44, .getfield 150, 3, 3, 3, 48, 1, 0, 0, []), (47, .iload_n 1, 1, 0, 0, 0, 0, 0, 0, []), (48, .iaload, 1, 0, 0, 0, 0, 0, 0, []), (49, .i2l, 1, 0, 0, 0, 0, 0, 0, []), (50, .getstatic 260, 3, 0, 0, 465, 0, 0, 0, []), (53, .iload 4, 2, 0, 0, 0, 0, 0, 0, []), (55, .iaload, 1, 0, 0, 0, 0, 0, 0, []), (56, .i2l, 1, 0, 0, 0, 0, 0, 0, []), (57, .lmul, 1, 0, 0, 0, 0, 0, 0, []), (58, .ldc2_w 263, 3, 0, 0, 467, 0, 0, 206265, []), (61, .lmul, 1, 0, 0, 0, 0, 0, 0, []), (62, .lstore 5, 2, 0, 0, 0, 0, 0, 0, []), (64, .lload 5, 2, 0, 0, 0, 0, 0, 0, []), (66, .aload_n 0, 1, 0, 0, 0, 0, 0, 0, []), (67, .getfield 12, 3, 4, 0, 165, 1, 0, 0, []), (70, .getfield 156, 3, 3, 5, 52, 1, 0, 0, []), (73, .iload_n 2, 1, 0, 0, 0, 0, 0, 0, []), (74, .iaload, 1, 0, 0, 0, 0, 0, 0, []), (75, .i2l, 1, 0, 0, 0, 0, 0, 0, []), (76, .ldc2_w 265, 3, 0, 0, 468, 0, 0, 1000000, []), (79, .lmul, 1, 0, 0, 0, 0, 0, 0, []), (80, .ldiv, 1, 0, 0, 0, 0, 0, 0, []), (81, .l2i, 1, 0, 0, 0, 0, 0, 0, []), (82, .ireturn, 1, 0, 0, 0, 0, 0, 0, [])]
def am_t84 : List aI := [(0, .aload_n 0, 1, 0, 0, 0, 0, 0, 0, []), (1, .getfield 40, 3, 4, 5, 170, 1, 0, 0, []), (4, .getfield 213, 3, 2, 5, 151, 1, 0, 0, []), (7, .iload_n 2, 1, 0, 0, 0, 0, 0, 0, []), (8, .iaload, 1, 0, 0, 0, 0, 0, 0, []), (9, .aload_n 0, 1, 0, 0, 0, 0, 0, 0, []), (10, .iload_n 1, 1, 0, 0, 0, 0, 0, 0, []), (11, .iload_n 2, 1, 0, 0, 0, 0, 0, 0, []), (12, .invokevirtual 216, 3, 83, 4, 459, 1, 0, 0, []), (15, .iadd, 1, 0, 0, 0, 0, 0, 0, []), (16, .aload_n 0, 1, 0, 0, 0, 0, 0, 0, []), (17, .iload_n 1, 1, 0, 0, 0, 0, 0, 0, []), (18, .iconst 0, 1, 0, 0, 0, 0, 0, 0, []), (19, .invokevirtual 216, 3, 83, 4, 459, 1, 0, 0, []), (22, .isub, 1, 0, 0, 0, 0, 0, 0, []), (23, .istore_n 3, 1, 0, 0, 0, 0, 0, 0, []), (24, .iload_n 3, 1, 0, 0, 0, 0, 0, 0, []), (25, .ldc 225, 2, 0, 0, 263, 0, 1296000, 0, []), (27, .invokestatic 226, 3, 160, 0, 464, 1, 0, 0, []), (30, .ireturn, 1, 0, 0, 0, 0, 0, 0, [])]
def am_t158 : List aI := [(0, .iload_n 0, 1, 0, 0, 0, 0, 0, 0, []), (1, .iload_n 0, 1, 0, 0, 0, 0, 0, 0, []), (2, .iconst 1, 1, 0, 0, 0, 0, 1, 0, []), (3, .iushr, 1, 0, 0, 0, 0, 0, 0, []), (4, .ldc_w 265, 3, 0, 0, 311, 0, 1431655765, 0, []), (7, .iand, 1, 0, 0, 0, 0, 0, 0, []), (8, .isub, 1, 0, 0, 0, 0, 0, 0, []), (9, .istore_n 0, 1, 0, 0, 0, 0, 0, 0, []), (10, .iload_n 0, 1, 0, 0, 0, 0, 0, 0, []), (11, .ldc_w 266, 3, 0, 0, 312, 0, 858993459, 0, []), (14, .iand, 1, 0, 0, 0, 0, 0, 0, []), (15, .iload_n 0, 1, 0, 0, 0, 0, 0, 0, []), (16, .iconst 2, 1, 0, 0, 0, 0, 2, 0, []), (17, .iushr, 1, 0, 0, 0, 0, 0, 0, []), (18, .ldc_w 266, 3, 0, 0, 312, 0, 858993459, 0, []), (21, .iand, 1, 0, 0, 0, 0, 0, 0, []), (22, .iadd, 1, 0, 0, 0, 0, 0, 0, []), (23, .istore_n 0, 1, 0, 0, 0, 0, 0, 0, []), (24, .iload_n 0, 1, 0, 0, 0, 0, 0, 0, []), (25, .iload_n 0, 1, 0, 0, 0, 0, 0, 0, []), (26, .iconst 4, 1, 0, 0, 0, 0, 4, 0, []), (27, .iushr, 1, 0, 0, 0, 0, 0, 0, []), (28, .iadd, 1, 0, 0, 0, 0, 0, 0, []), (29, .ldc_w 267, 3, 0, 0, 313, 0, 252645135, 0, []), (32, .iand, 1, 0, 0, 0, 0, 0, 0, []), (33, .istore_n 0, 1, 0, 0, 0, 0, 0, 0, []), (34, .iload_n 0, 1, 0, 0, 0, 0, 0, 0, []), (35, .iload_n 0, 1, 0, 0, 0, 0, 0, 0, []), (36, .bipush 8, 2, 0, 0, 0, 0, 8, 0, []), (38, .iushr, 1, 0, 0, 0, 0, 0, 0, []), (39, .iadd, 1, 0, 0, 0, 0, 0, 0, []), (40, .istore_n 0, 1, 0, 0, 0, 0, 0, 0, []), (41, .iload_n 0, 1, 0, 0, 0, 0, 0, 0, []), (42, .iload_n 0, 1, 0, 0, 0, 0, 0, 0, []), (43, .bipush 16, 2, 0, 0, 0, 0, 16, 0, []), (45, .iushr, 1, 0, 0, 0, 0, 0, 0, []), (46, .iadd, 1, 0, 0, 0, 0, 0, 0, []), (47, .istore_n 0, 1, 0, 0, 0, 0, 0, 0, []), (48, .iload_n 0, 1, 0, 0, 0, 0, 0, 0, []), (49, .bipush 63, 2, 0, 0, 0, 0, 63, 0, []), (51, .iand, 1, 0, 0, 0, 0, 0, 0, []), (52, .ireturn, 1, 0, 0, 0, 0, 0, 0, [])]
def am_t159 : List aI := [(0, .iload_n 0, 1, 0, 0, 0, 0, 0, 0, []), (1, .iload_n 1, 1, 0, 0, 0, 0, 0, 0, []), (2, .idiv, 1, 0, 0, 0, 0, 0, 0, []), (3, .istore_n 2, 1, 0, 0, 0, 0, 0, 0, []), (4, .iload_n 0, 1, 0, 0, 0, 0, 0, 0, []), (5, .iload_n 1, 1, 0, 0, 0, 0, 0, 0, []), (6, .ixor, 1, 0, 0, 0, 0, 0, 0, []), (7, .ifCond .ge 14, 3, 21, 0, 0, 0, 0, 0, []), (10, .iload_n 2, 1, 0, 0, 0, 0, 0, 0, []), (11, .iload_n 1, 1, 0, 0, 0, 0, 0, 0, []), (12, .imul, 1, 0, 0, 0, 0, 0, 0, []), (13, .iload_n 0, 1, 0, 0, 0, 0, 0, 0, []), (14, .if_icmp .eq 7, 3, 21, 0, 0, 0, 0, 0, []), (17, .iload_n 2, 1, 0, 0, 0, 0, 0, 0, []), (18, .iconst 1, 1, 0, 0, 0, 0, 1, 0, []), (19, .isub, 1, 0, 0, 0, 0, 0, 0, []), (20, .ireturn, 1, 0, 0, 0, 0, 0, 0, []), (21, .iload_n 2, 1, 0, 0, 0, 0, 0, 0, []), (22, .ireturn, 1, 0, 0, 0, 0, 0, 0, [])]
def am_t160 : List aI := [(0, .iload_n 0, 1, 0, 0, 0, 0, 0, 0, []), (1, .iload_n 1, 1, 0, 0, 0, 0, 0, 0, []), (2, .irem, 1, 0, 0, 0, 0, 0, 0, []), (3, .istore_n 2, 1, 0, 0, 0, 0, 0, 0, []), (4, .iload_n 0, 1, 0, 0, 0, 0, 0, 0, []), (5, .iload_n 1, 1, 0, 0, 0, 0, 0, 0, []), (6, .ixor, 1, 0, 0, 0, 0, 0, 0, []), (7, .ifCond .ge 11, 3, 18, 0, 0, 0, 0, 0, []), (10, .iload_n 2, 1, 0, 0, 0, 0, 0, 0, []), (11, .ifCond .eq 7, 3, 18, 0, 0, 0, 0, 0, []), (14, .iload_n 2, 1, 0, 0, 0, 0, 0, 0, []), (15, .iload_n 1, 1, 0, 0, 0, 0, 0, 0, []), (16, .iadd, 1, 0, 0, 0, 0, 0, 0, []), (17, .ireturn, 1, 0, 0, 0, 0, 0, 0, []), (18, .iload_n 2, 1, 0, 0, 0, 0, 0, 0, []), (19, .ireturn, 1, 0, 0, 0, 0, 0, 0, [])]
def am_t161 : List aI := [(0, .iload_n 0, 1, 0, 0, 0, 0, 0, 0, []), (1, .ifCond .ge 8, 3, 9, 0, 0, 0, 0, 0, []), (4, .iload_n 0, 1, 0, 0, 0, 0, 0, 0, []), (5, .ineg, 1, 0, 0, 0, 0, 0, 0, []), (6, .goto 4, 3, 10, 0, 0, 0, 0, 0, []), (9, .iload_n 0, 1, 0, 0, 0, 0, 0, 0, []), (10, .ireturn, 1, 0, 0, 0, 0, 0, 0, [])]
def am_t162 : List aI := [(0, .iload_n 0, 1, 0, 0, 0, 0, 0, 0, []), (1, .iload_n 1, 1, 0, 0, 0, 0, 0, 0, []), (2, .if_icmp .lt 7, 3, 9, 0, 0, 0, 0, 0, []), (5, .iload_n 0, 1, 0, 0, 0, 0, 0, 0, []), (6, .goto 4, 3, 10, 0, 0, 0, 0, 0, []), (9, .iload_n 1, 1, 0, 0, 0, 0, 0, 0, []), (10, .ireturn, 1, 0, 0, 0, 0, 0, 0, [])]
def am_t163 : List aI := [(0, .iconst 0, 1, 0, 0, 0, 0, 0, 0, []), (1, .istore_n 2, 1, 0, 0, 0, 0, 0, 0, []), (2, .aload_n 0, 1, 0, 0, 0, 0, 0, 0, []), (3, .arraylength, 1, 0, 0, 0, 0, 0, 0, []), (4, .istore_n 3, 1, 0, 0, 0, 0, 0, 0, []), (5, .iload_n 2, 1, 0, 0, 0, 0, 0, 0, []), (6, .iload_n 3, 1, 0, 0, 0, 0, 0, 0, []), (7, .if_icmp .ge 13, 3, 20, 0, 0, 0, 0, 0, []), (10, .aload_n 0, 1, 0, 0, 0, 0, 0, 0, []), (11, .iload_n 2, 1, 0, 0, 0, 0, 0, 0, []), (12, .iload_n 1, 1, 0, 0, 0, 0, 0, 0, []), (13, .iastore, 1, 0, 0, 0, 0, 0, 0, []), (14, .iinc 2 1, 3, 0, 0, 0, 0, 1, 0, []), (17, .goto (-12), 3, 5, 0, 0, 0, 0, 0, []), (20, .return_, 1, 0, 0, 0, 0, 0, 0, [])]
def am_t164 : List aI := [(0, .iload_n 1, 1, 0, 0, 0, 0, 0, 0, []), (1, .aload_n 0, 1, 0, 0, 0, 0, 0, 0, []), (2, .arraylength, 1, 0, 0, 0, 0, 0, 0, []), (3, .if_icmp .ge 9, 3, 12, 0, 0, 0, 0, 0, []), (6, .aload_n 0, 1, 0, 0, 0, 0, 0, 0, []), (7, .iload_n 1, 1, 0, 0, 0, 0, 0, 0, []), (8, .iaload, 1, 0, 0, 0, 0, 0, 0, []), (9, .goto 15, 3, 24, 0, 0, 0, 0, 0, []), (12, .sipush 7919, 3, 0, 0, 0, 0, 7919, 0, []), (15, .iload_n 1, 1, 0, 0, 0, 0, 0, 0, []), (16, .iconst 3, 1, 0, 0, 0, 0, 3, 0, []), (17, .iadd, 1, 0, 0, 0, 0, 0, 0, []), (18, .imul, 1, 0, 0, 0, 0, 0, 0, []), (19, .iload_n 1, 1, 0, 0, 0, 0, 0, 0, []), (20, .bipush 11, 2, 0, 0, 0, 0, 11, 0, []), (22, .iadd, 1, 0, 0, 0, 0, 0, 0, []), (23, .imul, 1, 0, 0, 0, 0, 0, 0, []), (24, .ireturn, 1, 0, 0, 0, 0, 0, 0, [])]
def am_t165 : List aI := [(0, .iload_n 0, 1, 0, 0, 0, 0, 0, 0, []), (1, .ldc 7, 2, 0, 0, 357, 0, 2147483647, 0, []), (3, .iand, 1, 0, 0, 0, 0, 0, 0, []), (4, .iload_n 1, 1, 0, 0, 0, 0, 0, 0, []), (5, .irem, 1, 0, 0, 0, 0, 0, 0, []), (6, .ireturn, 1, 0, 0, 0, 0, 0, 0, [])]
def am_t166 : List aI := [(0, .ldc 8, 2, 0, 0, 364, 0, 211111, 0, []), (2, .iload_n 1, 1, 0, 0, 0, 0, 0, 0, []), (3, .imul, 1, 0, 0, 0, 0, 0, 0, []), (4, .ldc 9, 2, 0, 0, 365, 0, 432017, 0, []), (6, .iload_n 0, 1, 0, 0, 0, 0, 0, 0, []), (7, .imul, 1, 0, 0, 0, 0, 0, 0, []), (8, .iadd, 1, 0, 0, 0, 0, 0, 0, []), (9, .ldc 10, 2, 0, 0, 366, 0, 648000, 0, []), (11, .iload_n 2, 1, 0, 0, 0, 0, 0, 0, []), (12, .imul, 1, 0, 0, 0, 0, 0, 0, []), (13, .iadd, 1, 0, 0, 0, 0, 0, 0, []), (14, .iload_n 3, 1, 0, 0, 0, 0, 0, 0, []), (15, .iadd, 1, 0, 0, 0, 0, 0, 0, []), (16, .ldc 13, 2, 0, 0, 367, 0, 1296000, 0, []), (18, .iadd, 1, 0, 0, 0, 0, 0, 0, []), (19, .ldc 13, 2, 0, 0, 367, 0, 1296000, 0, []), (21, .irem, 1, 0, 0, 0, 0, 0, 0, []), (22, .ireturn, 1, 0, 0, 0, 0, 0, 0, [])]
def am_t167 : List aI := [(0, .iload_n 1, 1, 0, 0, 0, 0, 0, 0, []), (1, .iconst 4, 1, 0, 0, 0, 0, 4, 0, []), (2, .ishr, 1, 0, 0, 0, 0, 0, 0, []), (3, .iconst 2, 1, 0, 0, 0, 0, 2, 0, []), (4, .invokestatic 14, 3, 165, 0, 354, 1, 0, 0, []), (7, .istore_n 2, 1, 0, 0, 0, 0, 0, 0, []), (8, .iload_n 1, 1, 0, 0, 0, 0, 0, 0, []), (9, .iconst 5, 1, 0, 0, 0, 0, 5, 0, []), (10, .ishr, 1, 0, 0, 0, 0, 0, 0, []), (11, .iconst 3, 1, 0, 0, 0, 0, 3, 0, []), (12, .invokestatic 14, 3, 165, 0, 354, 1, 0, 0, []), (15, .istore_n 3, 1, 0, 0, 0, 0, 0, 0, []), (16, .iload_n 1, 1, 0, 0, 0, 0, 0, 0, []), (17, .bipush 7, 2, 0, 0, 0, 0, 7, 0, []), (19, .ishr, 1, 0, 0, 0, 0, 0, 0, []), (20, .iconst 5, 1, 0, 0, 0, 0, 5, 0, []), (21, .invokestatic 14, 3, 165, 0, 354, 1, 0, 0, []), (24, .istore 4, 2, 0, 0, 0, 0, 0, 0, []), (26, .iload_n 1, 1, 0, 0, 0, 0, 0, 0, []), (27, .bipush 10, 2, 0, 0, 0, 0, 10, 0, []), (29, .ishr, 1, 0, 0, 0, 0, 0, 0, []), (30, .iconst 1, 1, 0, 0, 0, 0, 1, 0, []), (31, .iand, 1, 0, 0, 0, 0, 0, 0, []), (32, .istore 5, 2, 0, 0, 0, 0, 0, 0, []), (34, .iload_n 1, 1, 0, 0, 0, 0, 0, 0, []), (35, .bipush 15, 2, 0, 0, 0, 0, 15, 0, []), (37, .iand, 1, 0, 0, 0, 0, 0, 0, []), (38, .tableswitch 226 0 13 #[70, 92, 98, 98, 98, 98, 98, 98, 129, 147, 173, 182, 188, 203], 70, 264, 0, 0, 0, 0, 0, [(0, 108), (1, 130), (2, 136), (3, 136), (4, 136), (5, 136), (6, 136), (7, 136), (8, 167), (9, 185), (10, 211), (11, 220), (12, 226), (13, 241)]), (108, .aload_n 0, 1, 0, 0, 0, 0, 0, 0, []), (109, .iconst 0, 1, 0, 0, 0, 0, 0, 0, []), (110, .invokevirtual 18, 3, 73, 4, 326, 1, 0, 0, []), (113, .iconst 2, 1, 0, 0, 0, 0, 2, 0, []), (114, .if_icmp .ge 10, 3, 124, 0, 0, 0, 0, 0, []), (117, .aload_n 0, 1, 0, 0, 0, 0, 0, 0, []), (118, .invokevirtual 24, 3, 51, 4, 184, 1, 0, 0, []), (121, .goto 8, 3, 129, 0, 0, 0, 0, 0, []), (124, .aload_n 0, 1, 0, 0, 0, 0, 0, 0, []), (125, .iload_n 2, 1, 0, 0, 0, 0, 0, 0, []), (126, .invokevirtual 28, 3, 52, 4, 204, 1, 0, 0, []), (129, .ireturn, 1, 0, 0, 0, 0, 0, 0, []), (130, .aload_n 0, 1, 0, 0, 0, 0, 0, 0, []), (131, .iload_n 2, 1, 0, 0, 0, 0, 0, 0, []), (132, .invokevirtual 28, 3, 52, 4, 204, 1, 0, 0, []), (135, .ireturn, 1, 0, 0, 0, 0, 0, 0, []), (136, .aload_n 0, 1, 0, 0, 0, 0, 0, 0, []), (137, .iload_n 2, 1, 0, 0, 0, 0, 0, 0, []), (138, .iload_n 3, 1, 0, 0, 0, 0, 0, 0, []), (139, .iload 4, 2, 0, 0, 0, 0, 0, 0, []), (141, .iload 5, 2, 0, 0, 0, 0, 0, 0, []), (143, .iload_n 3, 1, 0, 0, 0, 0, 0, 0, []), (144, .iload 4, 2, 0, 0, 0, 0, 0, 0, []), (146, .iload 5, 2, 0, 0, 0, 0, 0, 0, []), (148, .iload_n 1, 1, 0, 0, 0, 0, 0, 0, []), (149, .bipush 11, 2, 0, 0, 0, 0, 11, 0, []), (151, .ishr, 1, 0, 0, 0, 0, 0, 0, []), (152, .bipush 81, 2, 0, 0, 0, 0, 81, 0, []), (154, .invokestatic 14, 3, 165, 0, 354, 1, 0, 0, []), (157, .bipush 40, 2, 0, 0, 0, 0, 40, 0, []), (159, .isub, 1, 0, 0, 0, 0, 0, 0, []), (160, .invokestatic 31, 3, 166, 0, 361, 1, 0, 0, []), (163, .invokevirtual 35, 3, 53, 4, 368, 1, 0, 0, []), (166, .ireturn, 1, 0, 0, 0, 0, 0, 0, []), (167, .aload_n 0, 1, 0, 0, 0, 0, 0, 0, []), (168, .iload_n 2, 1, 0, 0, 0, 0, 0, 0, []), (169, .iload_n 3, 1, 0, 0, 0, 0, 0, 0, []), (170, .iload 5, 2, 0, 0, 0, 0, 0, 0, []), (172, .iload_n 1, 1, 0, 0, 0, 0, 0, 0, []), (173, .bipush 11, 2, 0, 0, 0, 0, 11, 0, []), (175, .ishr, 1, 0, 0, 0, 0, 0, 0, []), (176, .ldc 13, 2, 0, 0, 367, 0, 1296000, 0, []), (178, .invokestatic 14, 3, 165, 0, 354, 1, 0, 0, []), (181, .invokevirtual 39, 3, 55, 4, 390, 1, 0, 0, []), (184, .ireturn, 1, 0, 0, 0, 0, 0, 0, []), (185, .aload_n 0, 1, 0, 0, 0, 0, 0, 0, []), (186, .iload_n 2, 1, 0, 0, 0, 0, 0, 0, []), (187, .iload_n 3, 1, 0, 0, 0, 0, 0, 0, []), (188, .iload 4, 2, 0, 0, 0, 0, 0, 0, []), (190, .iload 5, 2, 0, 0, 0, 0, 0, 0, []), (192, .iload_n 1, 1, 0, 0, 0, 0, 0, 0, []), (193, .bipush 11, 2, 0, 0, 0, 0, 11, 0, []), (195, .ishr, 1, 0, 0, 0, 0, 0, 0, []), (196, .iconst 1, 1, 0, 0, 0, 0, 1, 0, []), (197, .iand, 1, 0, 0, 0, 0, 0, 0, []), (198, .iconst 1, 1, 0, 0, 0, 0, 1, 0, []), (199, .if_icmp .ne 7, 3, 206, 0, 0, 0, 0, 0, []), (202, .iconst 1, 1, 0, 0, 0, 0, 1, 0, []), (203, .goto 4, 3, 207, 0, 0, 0, 0, 0, []), (206, .iconst 0, 1, 0, 0, 0, 0, 0, 0, []), (207, .invokevirtual 42, 3, 56, 4, 394, 1, 0, 0, []), (210, .ireturn, 1, 0, 0, 0, 0, 0, 0, []), (211, .aload_n 0, 1, 0, 0, 0, 0, 0, 0, []), (212, .iload_n 2, 1, 0, 0, 0, 0, 0, 0, []), (213, .iload_n 3, 1, 0, 0, 0, 0, 0, 0, []), (214, .iload 4, 2, 0, 0, 0, 0, 0, 0, []), (216, .invokevirtual 46, 3, 57, 4, 399, 1, 0, 0, []), (219, .ireturn, 1, 0, 0, 0, 0, 0, 0, []), (220, .aload_n 0, 1, 0, 0, 0, 0, 0, 0, []), (221, .iload_n 2, 1, 0, 0, 0, 0, 0, 0, []), (222, .invokevirtual 50, 3, 58, 4, 407, 1, 0, 0, []), (225, .ireturn, 1, 0, 0, 0, 0, 0, 0, []), (226, .aload_n 0, 1, 0, 0, 0, 0, 0, 0, []), (227, .iconst 1, 1, 0, 0, 0, 0, 1, 0, []), (228, .iload_n 1, 1, 0, 0, 0, 0, 0, 0, []), (229, .iconst 4, 1, 0, 0, 0, 0, 4, 0, []), (230, .ishr, 1, 0, 0, 0, 0, 0, 0, []), (231, .bipush 60, 2, 0, 0, 0, 0, 60, 0, []), (233, .invokestatic 14, 3, 165, 0, 354, 1, 0, 0, []), (236, .iadd, 1, 0, 0, 0, 0, 0, 0, []), (237, .invokevirtual 53, 3, 59, 4, 419, 1, 0, 0, []), (240, .ireturn, 1, 0, 0, 0, 0, 0, 0, []), (241, .aload_n 0, 1, 0, 0, 0, 0, 0, 0, []), (242, .iload_n 2, 1, 0, 0, 0, 0, 0, 0, []), (243, .iload_n 1, 1, 0, 0, 0, 0, 0, 0, []), (244, .iconst 5, 1, 0, 0, 0, 0, 5, 0, []), (245, .ishr, 1, 0, 0, 0, 0, 0, 0, []), (246, .bipush 100, 2, 0, 0, 0, 0, 100, 0, []), (248, .invokestatic 14, 3, 165, 0, 354, 1, 0, 0, []), (251, .iload_n 1, 1, 0, 0, 0, 0, 0, 0, []), (252, .bipush 9, 2, 0, 0, 0, 0, 9, 0, []), (254, .ishr, 1, 0, 0, 0, 0, 0, 0, []), (255, .bipush 24, 2, 0, 0, 0, 0, 24, 0, []), (257, .invokestatic 14, 3, 165, 0, 354, 1, 0, 0, []), (260, .invokevirtual 56, 3, 60, 4, 423, 1, 0, 0, []), (263, .ireturn, 1, 0, 0, 0, 0, 0, 0, []), (264, .aload_n 0, 1, 0, 0, 0, 0, 0, 0, []), (265, .iload 4, 2, 0, 0, 0, 0, 0, 0, []), (267, .iconst 1, 1, 0, 0, 0, 0, 1, 0, []), (268, .iload_n 1, 1, 0, 0, 0, 0, 0, 0, []), (269, .bipush 10, 2, 0, 0, 0, 0, 10, 0, []), (271, .ishr, 1, 0, 0, 0, 0, 0, 0, []), (272, .sipush 300, 3, 0, 0, 0, 0, 300, 0, []), (275, .invokestatic 14, 3, 165, 0, 354, 1, 0, 0, []), (278, .iadd, 1, 0, 0, 0, 0, 0, 0, []), (279, .invokevirtual 59, 3, 61, 4, 427, 1, 0, 0, []), (282, .ireturn, 1, 0, 0, 0, 0, 0, 0, [])]
def am_t168 : List aI := [(0, .iload_n 0, 1, 0, 0, 0, 0, 0, 0, []), (1, .ldc 13, 2, 0, 0, 367, 0, 1296000, 0, []), (3, .irem, 1, 0, 0, 0, 0, 0, 0, []), (4, .ldc 13, 2, 0, 0, 367, 0, 1296000, 0, []), (6, .iadd, 1, 0, 0, 0, 0, 0, 0, []), (7, .ldc 13, 2, 0, 0, 367, 0, 1296000, 0, []), (9, .irem, 1, 0, 0, 0, 0, 0, 0, []), (10, .ireturn, 1, 0, 0, 0, 0, 0, 0, [])]
def am_t169 : List aI := [(0, .iload_n 0, 1, 0, 0, 0, 0, 0, 0, []), (1, .invokestatic 62, 3, 168, 0, 483, 1, 0, 0, []), (4, .istore_n 1, 1, 0, 0, 0, 0, 0, 0, []), (5, .iload_n 1, 1, 0, 0, 0, 0, 0, 0, []), (6, .ldc 10, 2, 0, 0, 366, 0, 648000, 0, []), (8, .if_icmp .le 10, 3, 18, 0, 0, 0, 0, 0, []), (11, .iload_n 1, 1, 0, 0, 0, 0, 0, 0, []), (12, .ldc 13, 2, 0, 0, 367, 0, 1296000, 0, []), (14, .isub, 1, 0, 0, 0, 0, 0, 0, []), (15, .goto 4, 3, 19, 0, 0, 0, 0, 0, []), (18, .iload_n 1, 1, 0, 0, 0, 0, 0, 0, []), (19, .ireturn, 1, 0, 0, 0, 0, 0, 0, [])]
def am_t170_0 : List aI := [(0, .iconst 0, 1, 0, 0, 0, 0, 0, 0, []), (1, .istore_n 3, 1, 0, 0, 0, 0, 0, 0, []), (2, .iconst 0, 1, 0, 0, 0, 0, 0, 0, []), (3, .istore 4, 2, 0, 0, 0, 0, 0, 0, []), (5, .iconst 0, 1, 0, 0, 0, 0, 0, 0, []), (6, .istore 5, 2, 0, 0, 0, 0, 0, 0, []), (8, .iconst 0, 1, 0, 0, 0, 0, 0, 0, []), (9, .istore 6, 2, 0, 0, 0, 0, 0, 0, []), (11, .iconst 1, 1, 0, 0, 0, 0, 1, 0, []), (12, .istore 7, 2, 0, 0, 0, 0, 0, 0, []), (14, .iconst 2, 1, 0, 0, 0, 0, 2, 0, []), (15, .newarray .int, 2, 2, 1, 86, 0, 2, 0, []), (17, .astore 8, 2, 0, 0, 0, 0, 0, 0, []), (19, .iconst 2, 1, 0, 0, 0, 0, 2, 0, []), (20, .newarray .int, 2, 2, 1, 86, 0, 2, 0, []), (22, .astore 9, 2, 0, 0, 0, 0, 0, 0, []), (24, .iconst 0, 1, 0, 0, 0, 0, 0, 0, []), (25, .istore 10, 2, 0, 0, 0, 0, 0, 0, []), (27, .iload 10, 2, 0, 0, 0, 0, 0, 0, []), (29, .iconst 2, 1, 0, 0, 0, 0, 2, 0, []), (30, .if_icmp .ge 264, 3, 294, 0, 0, 0, 0, 0, []), (33, .aload_n 0, 1, 0, 0, 0, 0, 0, 0, []), (34, .iload_n 1, 1, 0, 0, 0, 0, 0, 0, []), (35, .iload_n 2, 1, 0, 0, 0, 0, 0, 0, []), (36, .iload 10, 2, 0, 0, 0, 0, 0, 0, []), (38, .invokevirtual 65, 3, 68, 4, 213, 1, 0, 0, []), (41, .istore 11, 2, 0, 0, 0, 0, 0, 0, []), (43, .aload_n 0, 1, 0, 0, 0, 0, 0, 0, []), (44, .iload_n 1, 1, 0, 0, 0, 0, 0, 0, []), (45, .iload_n 2, 1, 0, 0, 0, 0, 0, 0, []), (46, .iconst 2, 1, 0, 0, 0, 0, 2, 0, []), (47, .iload 10, 2, 0, 0, 0, 0, 0, 0, []), (49, .iadd, 1, 0, 0, 0, 0, 0, 0, []), (50, .invokevirtual 65, 3, 68, 4, 213, 1, 0, 0, []), (53, .istore 12, 2, 0, 0, 0, 0, 0, 0, []), (55, .iconst 0, 1, 0, 0, 0, 0, 0, 0, []), (56, .istore 13, 2, 0, 0, 0, 0, 0, 0, []), (58, .iload 13, 2, 0, 0, 0, 0, 0, 0, []), (60, .iload 11, 2, 0, 0, 0, 0, 0, 0, []), (62, .if_icmp .ge 172, 3, 234, 0, 0, 0, 0, 0, [])]
def am_t170_1 : List aI := [(65, .iconst 1, 1, 0, 0, 0, 0, 1, 0, []), (66, .aload_n 0, 1, 0, 0, 0, 0, 0, 0, []), (67, .iload_n 1, 1, 0, 0, 0, 0, 0, 0, []), (68, .iload_n 2, 1, 0, 0, 0, 0, 0, 0, []), (69, .iload 10, 2, 0, 0, 0, 0, 0, 0, []), (71, .iload 13, 2, 0, 0, 0, 0, 0, 0, []), (73, .iconst 0, 1, 0, 0, 0, 0, 0, 0, []), (74, .invokevirtual 68, 3, 67, 4, 434, 1, 0, 0, []), (77, .ishl, 1, 0, 0, 0, 0, 0, 0, []), (78, .istore 14, 2, 0, 0, 0, 0, 0, 0, []), (80, .iload 12, 2, 0, 0, 0, 0, 0, 0, []), (82, .ldc 71, 2, 0, 0, 439, 0, (-2000005), 0, []), (84, .if_icmp .ne 7, 3, 91, 0, 0, 0, 0, 0, []), (87, .iconst 0, 1, 0, 0, 0, 0, 0, 0, []), (88, .goto 8, 3, 96, 0, 0, 0, 0, 0, []), (91, .iload 12, 2, 0, 0, 0, 0, 0, 0, []), (93, .iload 13, 2, 0, 0, 0, 0, 0, 0, []), (95, .imul, 1, 0, 0, 0, 0, 0, 0, []), (96, .istore 15, 2, 0, 0, 0, 0, 0, 0, []), (98, .iload 15, 2, 0, 0, 0, 0, 0, 0, []), (100, .iload 11, 2, 0, 0, 0, 0, 0, 0, []), (102, .idiv, 1, 0, 0, 0, 0, 0, 0, []), (103, .iload 15, 2, 0, 0, 0, 0, 0, 0, []), (105, .ifCond .ge 15, 3, 120, 0, 0, 0, 0, 0, []), (108, .iload 15, 2, 0, 0, 0, 0, 0, 0, []), (110, .iload 11, 2, 0, 0, 0, 0, 0, 0, []), (112, .irem, 1, 0, 0, 0, 0, 0, 0, []), (113, .ifCond .eq 7, 3, 120, 0, 0, 0, 0, 0, []), (116, .iconst 1, 1, 0, 0, 0, 0, 1, 0, []), (117, .goto 4, 3, 121, 0, 0, 0, 0, 0, []), (120, .iconst 0, 1, 0, 0, 0, 0, 0, 0, []), (121, .isub, 1, 0, 0, 0, 0, 0, 0, []), (122, .istore 16, 2, 0, 0, 0, 0, 0, 0, []), (124, .iload 7, 2, 0, 0, 0, 0, 0, 0, []), (126, .ifCond .eq 46, 3, 172, 0, 0, 0, 0, 0, []), (129, .aload 8, 2, 0, 0, 0, 0, 0, 0, []), (131, .iload 10, 2, 0, 0, 0, 0, 0, 0, []), (133, .iaload, 1, 0, 0, 0, 0, 0, 0, []), (134, .iload 14, 2, 0, 0, 0, 0, 0, 0, []), (136, .iand, 1, 0, 0, 0, 0, 0, 0, [])]
def am_t170_2 : List aI := [(137, .ifCond .ne 35, 3, 172, 0, 0, 0, 0, 0, []), (140, .aload_n 0, 1, 0, 0, 0, 0, 0, 0, []), (141, .iload_n 1, 1, 0, 0, 0, 0, 0, 0, []), (142, .iload_n 2, 1, 0, 0, 0, 0, 0, 0, []), (143, .iload 10, 2, 0, 0, 0, 0, 0, 0, []), (145, .iload 13, 2, 0, 0, 0, 0, 0, 0, []), (147, .iconst 3, 1, 0, 0, 0, 0, 3, 0, []), (148, .invokevirtual 68, 3, 67, 4, 434, 1, 0, 0, []), (151, .aload_n 0, 1, 0, 0, 0, 0, 0, 0, []), (152, .iload_n 1, 1, 0, 0, 0, 0, 0, 0, []), (153, .iload_n 2, 1, 0, 0, 0, 0, 0, 0, []), (154, .iload 10, 2, 0, 0, 0, 0, 0, 0, []), (156, .iload 13, 2, 0, 0, 0, 0, 0, 0, []), (158, .iconst 1, 1, 0, 0, 0, 0, 1, 0, []), (159, .invokevirtual 68, 3, 67, 4, 434, 1, 0, 0, []), (162, .iload 16, 2, 0, 0, 0, 0, 0, 0, []), (164, .isub, 1, 0, 0, 0, 0, 0, 0, []), (165, .if_icmp .ne 7, 3, 172, 0, 0, 0, 0, 0, []), (168, .iconst 1, 1, 0, 0, 0, 0, 1, 0, []), (169, .goto 4, 3, 173, 0, 0, 0, 0, 0, []), (172, .iconst 0, 1, 0, 0, 0, 0, 0, 0, []), (173, .istore 7, 2, 0, 0, 0, 0, 0, 0, []), (175, .aload 8, 2, 0, 0, 0, 0, 0, 0, []), (177, .iload 10, 2, 0, 0, 0, 0, 0, 0, []), (179, .dup2, 1, 0, 0, 0, 0, 0, 0, []), (180, .iaload, 1, 0, 0, 0, 0, 0, 0, []), (181, .iload 14, 2, 0, 0, 0, 0, 0, 0, []), (183, .ior, 1, 0, 0, 0, 0, 0, 0, []), (184, .iastore, 1, 0, 0, 0, 0, 0, 0, []), (185, .aload 9, 2, 0, 0, 0, 0, 0, 0, []), (187, .iload 10, 2, 0, 0, 0, 0, 0, 0, []), (189, .dup2, 1, 0, 0, 0, 0, 0, 0, []), (190, .iaload, 1, 0, 0, 0, 0, 0, 0, []), (191, .aload_n 0, 1, 0, 0, 0, 0, 0, 0, []), (192, .iload_n 1, 1, 0, 0, 0, 0, 0, 0, []), (193, .iload_n 2, 1, 0, 0, 0, 0, 0, 0, []), (194, .iload 10, 2, 0, 0, 0, 0, 0, 0, []), (196, .iload 13, 2, 0, 0, 0, 0, 0, 0, []), (198, .iconst 2, 1, 0, 0, 0, 0, 2, 0, []), (199, .invokevirtual 68, 3, 67, 4, 434, 1, 0, 0, [])]
def am_t170_3 : List aI := [(202, .iconst 1, 1, 0, 0, 0, 0, 1, 0, []), (203, .if_icmp .ne 8, 3, 211, 0, 0, 0, 0, 0, []), (206, .iload 14, 2, 0, 0, 0, 0, 0, 0, []), (208, .goto 4, 3, 212, 0, 0, 0, 0, 0, []), (211, .iconst 0, 1, 0, 0, 0, 0, 0, 0, []), (212, .ior, 1, 0, 0, 0, 0, 0, 0, []), (213, .iastore, 1, 0, 0, 0, 0, 0, 0, []), (214, .iload_n 3, 1, 0, 0, 0, 0, 0, 0, []), (215, .aload_n 0, 1, 0, 0, 0, 0, 0, 0, []), (216, .iload_n 1, 1, 0, 0, 0, 0, 0, 0, []), (217, .iload_n 2, 1, 0, 0, 0, 0, 0, 0, []), (218, .iload 10, 2, 0, 0, 0, 0, 0, 0, []), (220, .iload 13, 2, 0, 0, 0, 0, 0, 0, []), (222, .iconst 2, 1, 0, 0, 0, 0, 2, 0, []), (223, .invokevirtual 68, 3, 67, 4, 434, 1, 0, 0, []), (226, .iadd, 1, 0, 0, 0, 0, 0, 0, []), (227, .istore_n 3, 1, 0, 0, 0, 0, 0, 0, []), (228, .iinc 13 1, 3, 0, 0, 0, 0, 1, 0, []), (231, .goto (-173), 3, 58, 0, 0, 0, 0, 0, []), (234, .iload 7, 2, 0, 0, 0, 0, 0, 0, []), (236, .ifCond .eq 49, 3, 285, 0, 0, 0, 0, 0, []), (239, .iload 12, 2, 0, 0, 0, 0, 0, 0, []), (241, .ldc 71, 2, 0, 0, 439, 0, (-2000005), 0, []), (243, .if_icmp .eq 22, 3, 265, 0, 0, 0, 0, 0, []), (246, .iload 12, 2, 0, 0, 0, 0, 0, 0, []), (248, .ldc 72, 2, 0, 0, 440, 0, (-648000), 0, []), (250, .if_icmp .le 35, 3, 285, 0, 0, 0, 0, 0, []), (253, .iload 12, 2, 0, 0, 0, 0, 0, 0, []), (255, .ldc 10, 2, 0, 0, 366, 0, 648000, 0, []), (257, .if_icmp .gt 28, 3, 285, 0, 0, 0, 0, 0, []), (260, .iload 11, 2, 0, 0, 0, 0, 0, 0, []), (262, .ifCond .le 23, 3, 285, 0, 0, 0, 0, 0, []), (265, .aload_n 0, 1, 0, 0, 0, 0, 0, 0, []), (266, .iload_n 1, 1, 0, 0, 0, 0, 0, 0, []), (267, .iload_n 2, 1, 0, 0, 0, 0, 0, 0, []), (268, .iload 10, 2, 0, 0, 0, 0, 0, 0, []), (270, .iload 11, 2, 0, 0, 0, 0, 0, 0, []), (272, .iconst 0, 1, 0, 0, 0, 0, 0, 0, []), (273, .invokevirtual 68, 3, 67, 4, 434, 1, 0, 0, []), (276, .ldc 71, 2, 0, 0, 439, 0, (-2000005), 0, [])]
def am_t170_4 : List aI := [(278, .if_icmp .ne 7, 3, 285, 0, 0, 0, 0, 0, []), (281, .iconst 1, 1, 0, 0, 0, 0, 1, 0, []), (282, .goto 4, 3, 286, 0, 0, 0, 0, 0, []), (285, .iconst 0, 1, 0, 0, 0, 0, 0, 0, []), (286, .istore 7, 2, 0, 0, 0, 0, 0, 0, []), (288, .iinc 10 1, 3, 0, 0, 0, 0, 1, 0, []), (291, .goto (-264), 3, 27, 0, 0, 0, 0, 0, []), (294, .iconst 0, 1, 0, 0, 0, 0, 0, 0, []), (295, .istore 10, 2, 0, 0, 0, 0, 0, 0, []), (297, .iload 10, 2, 0, 0, 0, 0, 0, 0, []), (299, .bipush 6, 2, 0, 0, 0, 0, 6, 0, []), (301, .if_icmp .ge 275, 3, 576, 0, 0, 0, 0, 0, []), (304, .aload 8, 2, 0, 0, 0, 0, 0, 0, []), (306, .iconst 0, 1, 0, 0, 0, 0, 0, 0, []), (307, .iaload, 1, 0, 0, 0, 0, 0, 0, []), (308, .iload 10, 2, 0, 0, 0, 0, 0, 0, []), (310, .ishr, 1, 0, 0, 0, 0, 0, 0, []), (311, .iconst 1, 1, 0, 0, 0, 0, 1, 0, []), (312, .iand, 1, 0, 0, 0, 0, 0, 0, []), (313, .ifCond .ne 7, 3, 320, 0, 0, 0, 0, 0, []), (316, .iconst 1, 1, 0, 0, 0, 0, 1, 0, []), (317, .goto 42, 3, 359, 0, 0, 0, 0, 0, []), (320, .aload 8, 2, 0, 0, 0, 0, 0, 0, []), (322, .iconst 1, 1, 0, 0, 0, 0, 1, 0, []), (323, .iaload, 1, 0, 0, 0, 0, 0, 0, []), (324, .iload 10, 2, 0, 0, 0, 0, 0, 0, []), (326, .ishr, 1, 0, 0, 0, 0, 0, 0, []), (327, .iconst 1, 1, 0, 0, 0, 0, 1, 0, []), (328, .iand, 1, 0, 0, 0, 0, 0, 0, []), (329, .ifCond .ne 7, 3, 336, 0, 0, 0, 0, 0, []), (332, .iconst 2, 1, 0, 0, 0, 0, 2, 0, []), (333, .goto 26, 3, 359, 0, 0, 0, 0, 0, []), (336, .aload 9, 2, 0, 0, 0, 0, 0, 0, []), (338, .iconst 0, 1, 0, 0, 0, 0, 0, 0, []), (339, .iaload, 1, 0, 0, 0, 0, 0, 0, []), (340, .aload 9, 2, 0, 0, 0, 0, 0, 0, []), (342, .iconst 1, 1, 0, 0, 0, 0, 1, 0, []), (343, .iaload, 1, 0, 0, 0, 0, 0, 0, []), (344, .ior, 1, 0, 0, 0, 0, 0, 0, []), (345, .iload 10, 2, 0, 0, 0, 0, 0, 0, [])]
def am_t170_5 : List aI := [(347, .ishr, 1, 0, 0, 0, 0, 0, 0, []), (348, .iconst 1, 1, 0, 0, 0, 0, 1, 0, []), (349, .iand, 1, 0, 0, 0, 0, 0, 0, []), (350, .iconst 1, 1, 0, 0, 0, 0, 1, 0, []), (351, .if_icmp .ne 7, 3, 358, 0, 0, 0, 0, 0, []), (354, .iconst 3, 1, 0, 0, 0, 0, 3, 0, []), (355, .goto 4, 3, 359, 0, 0, 0, 0, 0, []), (358, .iconst 0, 1, 0, 0, 0, 0, 0, 0, []), (359, .istore 11, 2, 0, 0, 0, 0, 0, 0, []), (361, .iload 5, 2, 0, 0, 0, 0, 0, 0, []), (363, .iload 11, 2, 0, 0, 0, 0, 0, 0, []), (365, .ifCond .ne 10, 3, 375, 0, 0, 0, 0, 0, []), (368, .iconst 1, 1, 0, 0, 0, 0, 1, 0, []), (369, .iload 10, 2, 0, 0, 0, 0, 0, 0, []), (371, .ishl, 1, 0, 0, 0, 0, 0, 0, []), (372, .goto 4, 3, 376, 0, 0, 0, 0, 0, []), (375, .iconst 0, 1, 0, 0, 0, 0, 0, 0, []), (376, .ior, 1, 0, 0, 0, 0, 0, 0, []), (377, .istore 5, 2, 0, 0, 0, 0, 0, 0, []), (379, .iload 11, 2, 0, 0, 0, 0, 0, 0, []), (381, .ifCond .ne 14, 3, 395, 0, 0, 0, 0, 0, []), (384, .iload 5, 2, 0, 0, 0, 0, 0, 0, []), (386, .iconst 1, 1, 0, 0, 0, 0, 1, 0, []), (387, .iand, 1, 0, 0, 0, 0, 0, 0, []), (388, .ifCond .ne 7, 3, 395, 0, 0, 0, 0, 0, []), (391, .iconst 4, 1, 0, 0, 0, 0, 4, 0, []), (392, .goto 5, 3, 397, 0, 0, 0, 0, 0, []), (395, .iload 11, 2, 0, 0, 0, 0, 0, 0, []), (397, .istore 11, 2, 0, 0, 0, 0, 0, 0, []), (399, .aload_n 0, 1, 0, 0, 0, 0, 0, 0, []), (400, .iload_n 1, 1, 0, 0, 0, 0, 0, 0, []), (401, .iload_n 2, 1, 0, 0, 0, 0, 0, 0, []), (402, .iload 10, 2, 0, 0, 0, 0, 0, 0, []), (404, .iconst 1, 1, 0, 0, 0, 0, 1, 0, []), (405, .invokevirtual 73, 3, 69, 4, 441, 1, 0, 0, []), (408, .istore 12, 2, 0, 0, 0, 0, 0, 0, []), (410, .iload 4, 2, 0, 0, 0, 0, 0, 0, []), (412, .iload 11, 2, 0, 0, 0, 0, 0, 0, []), (414, .ifCond .ne 10, 3, 424, 0, 0, 0, 0, 0, []), (417, .iconst 1, 1, 0, 0, 0, 0, 1, 0, [])]
def am_t170_6 : List aI := [(418, .iload 10, 2, 0, 0, 0, 0, 0, 0, []), (420, .ishl, 1, 0, 0, 0, 0, 0, 0, []), (421, .goto 4, 3, 425, 0, 0, 0, 0, 0, []), (424, .iconst 0, 1, 0, 0, 0, 0, 0, 0, []), (425, .ior, 1, 0, 0, 0, 0, 0, 0, []), (426, .istore 4, 2, 0, 0, 0, 0, 0, 0, []), (428, .iload 6, 2, 0, 0, 0, 0, 0, 0, []), (430, .iload 11, 2, 0, 0, 0, 0, 0, 0, []), (432, .ifCond .ne 31, 3, 463, 0, 0, 0, 0, 0, []), (435, .iload 12, 2, 0, 0, 0, 0, 0, 0, []), (437, .aload_n 0, 1, 0, 0, 0, 0, 0, 0, []), (438, .iconst 5, 1, 0, 0, 0, 0, 5, 0, []), (439, .invokevirtual 18, 3, 73, 4, 326, 1, 0, 0, []), (442, .if_icmp .gt 14, 3, 456, 0, 0, 0, 0, 0, []), (445, .iload 12, 2, 0, 0, 0, 0, 0, 0, []), (447, .ineg, 1, 0, 0, 0, 0, 0, 0, []), (448, .aload_n 0, 1, 0, 0, 0, 0, 0, 0, []), (449, .iconst 5, 1, 0, 0, 0, 0, 5, 0, []), (450, .invokevirtual 18, 3, 73, 4, 326, 1, 0, 0, []), (453, .if_icmp .le 10, 3, 463, 0, 0, 0, 0, 0, []), (456, .iconst 1, 1, 0, 0, 0, 0, 1, 0, []), (457, .iload 10, 2, 0, 0, 0, 0, 0, 0, []), (459, .ishl, 1, 0, 0, 0, 0, 0, 0, []), (460, .goto 4, 3, 464, 0, 0, 0, 0, 0, []), (463, .iconst 0, 1, 0, 0, 0, 0, 0, 0, []), (464, .ior, 1, 0, 0, 0, 0, 0, 0, []), (465, .istore 6, 2, 0, 0, 0, 0, 0, 0, []), (467, .iload 7, 2, 0, 0, 0, 0, 0, 0, []), (469, .ifCond .eq 98, 3, 567, 0, 0, 0, 0, 0, []), (472, .aload_n 0, 1, 0, 0, 0, 0, 0, 0, []), (473, .iload_n 1, 1, 0, 0, 0, 0, 0, 0, []), (474, .iload_n 2, 1, 0, 0, 0, 0, 0, 0, []), (475, .iload 10, 2, 0, 0, 0, 0, 0, 0, []), (477, .iconst 3, 1, 0, 0, 0, 0, 3, 0, []), (478, .invokevirtual 73, 3, 69, 4, 441, 1, 0, 0, []), (481, .iload 11, 2, 0, 0, 0, 0, 0, 0, []), (483, .if_icmp .ne 84, 3, 567, 0, 0, 0, 0, 0, []), (486, .iload 11, 2, 0, 0, 0, 0, 0, 0, []), (488, .ifCond .ne 7, 3, 495, 0, 0, 0, 0, 0, []), (491, .iconst 1, 1, 0, 0, 0, 0, 1, 0, [])]
def am_t170_7 : List aI := [(492, .goto 4, 3, 496, 0, 0, 0, 0, 0, []), (495, .iconst 0, 1, 0, 0, 0, 0, 0, 0, []), (496, .iload 12, 2, 0, 0, 0, 0, 0, 0, []), (498, .ldc 71, 2, 0, 0, 439, 0, (-2000005), 0, []), (500, .if_icmp .eq 7, 3, 507, 0, 0, 0, 0, 0, []), (503, .iconst 1, 1, 0, 0, 0, 0, 1, 0, []), (504, .goto 4, 3, 508, 0, 0, 0, 0, 0, []), (507, .iconst 0, 1, 0, 0, 0, 0, 0, 0, []), (508, .if_icmp .ne 59, 3, 567, 0, 0, 0, 0, 0, []), (511, .iload 11, 2, 0, 0, 0, 0, 0, 0, []), (513, .ifCond .gt 50, 3, 563, 0, 0, 0, 0, 0, []), (516, .iload 12, 2, 0, 0, 0, 0, 0, 0, []), (518, .aload_n 0, 1, 0, 0, 0, 0, 0, 0, []), (519, .iload_n 1, 1, 0, 0, 0, 0, 0, 0, []), (520, .iload_n 2, 1, 0, 0, 0, 0, 0, 0, []), (521, .iload 10, 2, 0, 0, 0, 0, 0, 0, []), (523, .iconst 0, 1, 0, 0, 0, 0, 0, 0, []), (524, .invokevirtual 73, 3, 69, 4, 441, 1, 0, 0, []), (527, .aload_n 0, 1, 0, 0, 0, 0, 0, 0, []), (528, .iload_n 1, 1, 0, 0, 0, 0, 0, 0, []), (529, .iload 10, 2, 0, 0, 0, 0, 0, 0, []), (531, .iconst 0, 1, 0, 0, 0, 0, 0, 0, []), (532, .invokevirtual 76, 3, 70, 4, 447, 1, 0, 0, []), (535, .isub, 1, 0, 0, 0, 0, 0, 0, []), (536, .invokestatic 79, 3, 169, 0, 480, 1, 0, 0, []), (539, .if_icmp .ne 28, 3, 567, 0, 0, 0, 0, 0, []), (542, .iload 10, 2, 0, 0, 0, 0, 0, 0, []), (544, .ifCond .gt 19, 3, 563, 0, 0, 0, 0, 0, []), (547, .iload 12, 2, 0, 0, 0, 0, 0, 0, []), (549, .ifCond .ne 18, 3, 567, 0, 0, 0, 0, 0, []), (552, .aload_n 0, 1, 0, 0, 0, 0, 0, 0, []), (553, .iload_n 1, 1, 0, 0, 0, 0, 0, 0, []), (554, .iload_n 2, 1, 0, 0, 0, 0, 0, 0, []), (555, .iconst 0, 1, 0, 0, 0, 0, 0, 0, []), (556, .iconst 0, 1, 0, 0, 0, 0, 0, 0, []), (557, .invokevirtual 73, 3, 69, 4, 441, 1, 0, 0, []), (560, .ifCond .ne 7, 3, 567, 0, 0, 0, 0, 0, []), (563, .iconst 1, 1, 0, 0, 0, 0, 1, 0, []), (564, .goto 4, 3, 568, 0, 0, 0, 0, 0, []), (567, .iconst 0, 1, 0, 0, 0, 0, 0, 0, [])]
def am_t170_8 : List aI := [(568, .istore 7, 2, 0, 0, 0, 0, 0, 0, []), (570, .iinc 10 1, 3, 0, 0, 0, 0, 1, 0, []), (573, .goto (-276), 3, 297, 0, 0, 0, 0, 0, []), (576, .iload 7, 2, 0, 0, 0, 0, 0, 0, []), (578, .ifCond .eq 74, 3, 652, 0, 0, 0, 0, 0, []), (581, .iload 4, 2, 0, 0, 0, 0, 0, 0, []), (583, .aload_n 0, 1, 0, 0, 0, 0, 0, 0, []), (584, .iload_n 1, 1, 0, 0, 0, 0, 0, 0, []), (585, .iload_n 2, 1, 0, 0, 0, 0, 0, 0, []), (586, .iconst 4, 1, 0, 0, 0, 0, 4, 0, []), (587, .invokevirtual 65, 3, 68, 4, 213, 1, 0, 0, []), (590, .if_icmp .ne 62, 3, 652, 0, 0, 0, 0, 0, []), (593, .iload_n 3, 1, 0, 0, 0, 0, 0, 0, []), (594, .aload_n 0, 1, 0, 0, 0, 0, 0, 0, []), (595, .iload_n 1, 1, 0, 0, 0, 0, 0, 0, []), (596, .iload_n 2, 1, 0, 0, 0, 0, 0, 0, []), (597, .iconst 5, 1, 0, 0, 0, 0, 5, 0, []), (598, .invokevirtual 65, 3, 68, 4, 213, 1, 0, 0, []), (601, .if_icmp .ne 51, 3, 652, 0, 0, 0, 0, 0, []), (604, .iload 6, 2, 0, 0, 0, 0, 0, 0, []), (606, .aload_n 0, 1, 0, 0, 0, 0, 0, 0, []), (607, .iload_n 1, 1, 0, 0, 0, 0, 0, 0, []), (608, .iload_n 2, 1, 0, 0, 0, 0, 0, 0, []), (609, .bipush 7, 2, 0, 0, 0, 0, 7, 0, []), (611, .invokevirtual 65, 3, 68, 4, 213, 1, 0, 0, []), (614, .if_icmp .ne 38, 3, 652, 0, 0, 0, 0, 0, []), (617, .iload 4, 2, 0, 0, 0, 0, 0, 0, []), (619, .ifCond .ne 7, 3, 626, 0, 0, 0, 0, 0, []), (622, .iconst 1, 1, 0, 0, 0, 0, 1, 0, []), (623, .goto 4, 3, 627, 0, 0, 0, 0, 0, []), (626, .iconst 0, 1, 0, 0, 0, 0, 0, 0, []), (627, .aload_n 0, 1, 0, 0, 0, 0, 0, 0, []), (628, .iload_n 1, 1, 0, 0, 0, 0, 0, 0, []), (629, .iload_n 2, 1, 0, 0, 0, 0, 0, 0, []), (630, .bipush 6, 2, 0, 0, 0, 0, 6, 0, []), (632, .invokevirtual 65, 3, 68, 4, 213, 1, 0, 0, []), (635, .ldc 71, 2, 0, 0, 439, 0, (-2000005), 0, []), (637, .if_icmp .ne 7, 3, 644, 0, 0, 0, 0, 0, []), (640, .iconst 1, 1, 0, 0, 0, 0, 1, 0, []), (641, .goto 4, 3, 645, 0, 0, 0, 0, 0, [])]
def am_t170_9 : List aI := [(644, .iconst 0, 1, 0, 0, 0, 0, 0, 0, []), (645, .if_icmp .ne 7, 3, 652, 0, 0, 0, 0, 0, []), (648, .iconst 1, 1, 0, 0, 0, 0, 1, 0, []), (649, .goto 4, 3, 653, 0, 0, 0, 0, 0, []), (652, .iconst 0, 1, 0, 0, 0, 0, 0, 0, []), (653, .ireturn, 1, 0, 0, 0, 1, 0, 0, [])]
def am_t170 : List aI := am_t170_0 ++ (am_t170_1 ++ (am_t170_2 ++ (am_t170_3 ++ (am_t170_4 ++ (am_t170_5 ++ (am_t170_6 ++ (am_t170_7 ++ (am_t170_8 ++ (am_t170_9)))))))))
def am_t171_0 : List aI := [(0, .iconst 1, 1, 0, 0, 0, 0, 1, 0, []), (1, .istore_n 2, 1, 0, 0, 0, 0, 0, 0, []), (2, .iconst 0, 1, 0, 0, 0, 0, 0, 0, []), (3, .istore_n 3, 1, 0, 0, 0, 0, 0, 0, []), (4, .iload_n 3, 1, 0, 0, 0, 0, 0, 0, []), (5, .bipush 6, 2, 0, 0, 0, 0, 6, 0, []), (7, .if_icmp .ge 411, 3, 418, 0, 0, 0, 0, 0, []), (10, .aload_n 0, 1, 0, 0, 0, 0, 0, 0, []), (11, .iload_n 1, 1, 0, 0, 0, 0, 0, 0, []), (12, .iload_n 3, 1, 0, 0, 0, 0, 0, 0, []), (13, .iconst 0, 1, 0, 0, 0, 0, 0, 0, []), (14, .invokevirtual 76, 3, 70, 4, 447, 1, 0, 0, []), (17, .istore 4, 2, 0, 0, 0, 0, 0, 0, []), (19, .iconst 0, 1, 0, 0, 0, 0, 0, 0, []), (20, .istore 5, 2, 0, 0, 0, 0, 0, 0, []), (22, .iconst 0, 1, 0, 0, 0, 0, 0, 0, []), (23, .istore 6, 2, 0, 0, 0, 0, 0, 0, []), (25, .iconst 0, 1, 0, 0, 0, 0, 0, 0, []), (26, .istore 7, 2, 0, 0, 0, 0, 0, 0, []), (28, .aload_n 0, 1, 0, 0, 0, 0, 0, 0, []), (29, .iload_n 1, 1, 0, 0, 0, 0, 0, 0, []), (30, .iload 7, 2, 0, 0, 0, 0, 0, 0, []), (32, .iconst 0, 1, 0, 0, 0, 0, 0, 0, []), (33, .invokevirtual 65, 3, 68, 4, 213, 1, 0, 0, []), (36, .ldc 82, 2, 0, 0, 489, 0, (-2000001), 0, []), (38, .if_icmp .eq 84, 3, 122, 0, 0, 0, 0, 0, []), (41, .aload_n 0, 1, 0, 0, 0, 0, 0, 0, []), (42, .iload_n 1, 1, 0, 0, 0, 0, 0, 0, []), (43, .iload 7, 2, 0, 0, 0, 0, 0, 0, []), (45, .iload_n 3, 1, 0, 0, 0, 0, 0, 0, []), (46, .iconst 1, 1, 0, 0, 0, 0, 1, 0, []), (47, .invokevirtual 73, 3, 69, 4, 441, 1, 0, 0, []), (50, .istore 8, 2, 0, 0, 0, 0, 0, 0, []), (52, .iload 5, 2, 0, 0, 0, 0, 0, 0, []), (54, .iload 8, 2, 0, 0, 0, 0, 0, 0, []), (56, .ldc 71, 2, 0, 0, 439, 0, (-2000005), 0, []), (58, .if_icmp .ne 7, 3, 65, 0, 0, 0, 0, 0, []), (61, .iconst 0, 1, 0, 0, 0, 0, 0, 0, []), (62, .goto 7, 3, 69, 0, 0, 0, 0, 0, []), (65, .iconst 1, 1, 0, 0, 0, 0, 1, 0, [])]
def am_t171_1 : List aI := [(66, .iload 7, 2, 0, 0, 0, 0, 0, 0, []), (68, .ishl, 1, 0, 0, 0, 0, 0, 0, []), (69, .ior, 1, 0, 0, 0, 0, 0, 0, []), (70, .istore 5, 2, 0, 0, 0, 0, 0, 0, []), (72, .iload 8, 2, 0, 0, 0, 0, 0, 0, []), (74, .ldc 71, 2, 0, 0, 439, 0, (-2000005), 0, []), (76, .if_icmp .eq 15, 3, 91, 0, 0, 0, 0, 0, []), (79, .iload 8, 2, 0, 0, 0, 0, 0, 0, []), (81, .iload 6, 2, 0, 0, 0, 0, 0, 0, []), (83, .if_icmp .le 8, 3, 91, 0, 0, 0, 0, 0, []), (86, .iload 8, 2, 0, 0, 0, 0, 0, 0, []), (88, .goto 26, 3, 114, 0, 0, 0, 0, 0, []), (91, .iload 8, 2, 0, 0, 0, 0, 0, 0, []), (93, .ldc 71, 2, 0, 0, 439, 0, (-2000005), 0, []), (95, .if_icmp .eq 17, 3, 112, 0, 0, 0, 0, 0, []), (98, .iload 8, 2, 0, 0, 0, 0, 0, 0, []), (100, .ineg, 1, 0, 0, 0, 0, 0, 0, []), (101, .iload 6, 2, 0, 0, 0, 0, 0, 0, []), (103, .if_icmp .le 9, 3, 112, 0, 0, 0, 0, 0, []), (106, .iload 8, 2, 0, 0, 0, 0, 0, 0, []), (108, .ineg, 1, 0, 0, 0, 0, 0, 0, []), (109, .goto 5, 3, 114, 0, 0, 0, 0, 0, []), (112, .iload 6, 2, 0, 0, 0, 0, 0, 0, []), (114, .istore 6, 2, 0, 0, 0, 0, 0, 0, []), (116, .iinc 7 1, 3, 0, 0, 0, 0, 1, 0, []), (119, .goto (-91), 3, 28, 0, 0, 0, 0, 0, []), (122, .iload_n 2, 1, 0, 0, 0, 0, 0, 0, []), (123, .ifCond .eq 153, 3, 276, 0, 0, 0, 0, 0, []), (126, .iload 5, 2, 0, 0, 0, 0, 0, 0, []), (128, .aload_n 0, 1, 0, 0, 0, 0, 0, 0, []), (129, .iload_n 1, 1, 0, 0, 0, 0, 0, 0, []), (130, .iload_n 3, 1, 0, 0, 0, 0, 0, 0, []), (131, .iconst 4, 1, 0, 0, 0, 0, 4, 0, []), (132, .invokevirtual 76, 3, 70, 4, 447, 1, 0, 0, []), (135, .if_icmp .ne 141, 3, 276, 0, 0, 0, 0, 0, []), (138, .iload 5, 2, 0, 0, 0, 0, 0, 0, []), (140, .ifCond .ne 7, 3, 147, 0, 0, 0, 0, 0, []), (143, .iconst 1, 1, 0, 0, 0, 0, 1, 0, []), (144, .goto 4, 3, 148, 0, 0, 0, 0, 0, []), (147, .iconst 0, 1, 0, 0, 0, 0, 0, 0, [])]
def am_t171_2 : List aI := [(148, .iload 4, 2, 0, 0, 0, 0, 0, 0, []), (150, .ldc 71, 2, 0, 0, 439, 0, (-2000005), 0, []), (152, .if_icmp .ne 7, 3, 159, 0, 0, 0, 0, 0, []), (155, .iconst 1, 1, 0, 0, 0, 0, 1, 0, []), (156, .goto 4, 3, 160, 0, 0, 0, 0, 0, []), (159, .iconst 0, 1, 0, 0, 0, 0, 0, 0, []), (160, .if_icmp .ne 116, 3, 276, 0, 0, 0, 0, 0, []), (163, .aload_n 0, 1, 0, 0, 0, 0, 0, 0, []), (164, .iload_n 1, 1, 0, 0, 0, 0, 0, 0, []), (165, .iload_n 3, 1, 0, 0, 0, 0, 0, 0, []), (166, .invokevirtual 83, 3, 72, 4, 490, 1, 0, 0, []), (169, .iload 4, 2, 0, 0, 0, 0, 0, 0, []), (171, .if_icmp .ne 105, 3, 276, 0, 0, 0, 0, 0, []), (174, .iload 5, 2, 0, 0, 0, 0, 0, 0, []), (176, .ifCond .eq 96, 3, 272, 0, 0, 0, 0, 0, []), (179, .aload_n 0, 1, 0, 0, 0, 0, 0, 0, []), (180, .iload_n 1, 1, 0, 0, 0, 0, 0, 0, []), (181, .iload_n 3, 1, 0, 0, 0, 0, 0, 0, []), (182, .iconst 3, 1, 0, 0, 0, 0, 3, 0, []), (183, .invokevirtual 76, 3, 70, 4, 447, 1, 0, 0, []), (186, .iload 6, 2, 0, 0, 0, 0, 0, 0, []), (188, .if_icmp .ne 88, 3, 276, 0, 0, 0, 0, 0, []), (191, .iload 4, 2, 0, 0, 0, 0, 0, 0, []), (193, .ifCond .lt 83, 3, 276, 0, 0, 0, 0, 0, []), (196, .iload 4, 2, 0, 0, 0, 0, 0, 0, []), (198, .ldc 13, 2, 0, 0, 367, 0, 1296000, 0, []), (200, .if_icmp .ge 76, 3, 276, 0, 0, 0, 0, 0, []), (203, .iload_n 3, 1, 0, 0, 0, 0, 0, 0, []), (204, .ifCond .gt 18, 3, 222, 0, 0, 0, 0, 0, []), (207, .iload 4, 2, 0, 0, 0, 0, 0, 0, []), (209, .ifCond .ne 67, 3, 276, 0, 0, 0, 0, 0, []), (212, .aload_n 0, 1, 0, 0, 0, 0, 0, 0, []), (213, .iload_n 1, 1, 0, 0, 0, 0, 0, 0, []), (214, .iconst 0, 1, 0, 0, 0, 0, 0, 0, []), (215, .iconst 2, 1, 0, 0, 0, 0, 2, 0, []), (216, .invokevirtual 76, 3, 70, 4, 447, 1, 0, 0, []), (219, .ifCond .ne 57, 3, 276, 0, 0, 0, 0, 0, []), (222, .aload_n 0, 1, 0, 0, 0, 0, 0, 0, []), (223, .iload_n 1, 1, 0, 0, 0, 0, 0, 0, []), (224, .iload_n 3, 1, 0, 0, 0, 0, 0, 0, [])]
def am_t171_3 : List aI := [(225, .iconst 2, 1, 0, 0, 0, 0, 2, 0, []), (226, .invokevirtual 76, 3, 70, 4, 447, 1, 0, 0, []), (229, .iload 4, 2, 0, 0, 0, 0, 0, 0, []), (231, .aload_n 0, 1, 0, 0, 0, 0, 0, 0, []), (232, .iload_n 1, 1, 0, 0, 0, 0, 0, 0, []), (233, .iload_n 3, 1, 0, 0, 0, 0, 0, 0, []), (234, .iconst 1, 1, 0, 0, 0, 0, 1, 0, []), (235, .invokevirtual 76, 3, 70, 4, 447, 1, 0, 0, []), (238, .iadd, 1, 0, 0, 0, 0, 0, 0, []), (239, .aload_n 0, 1, 0, 0, 0, 0, 0, 0, []), (240, .iload_n 1, 1, 0, 0, 0, 0, 0, 0, []), (241, .iconst 0, 1, 0, 0, 0, 0, 0, 0, []), (242, .iconst 1, 1, 0, 0, 0, 0, 1, 0, []), (243, .invokevirtual 76, 3, 70, 4, 447, 1, 0, 0, []), (246, .isub, 1, 0, 0, 0, 0, 0, 0, []), (247, .invokestatic 62, 3, 168, 0, 483, 1, 0, 0, []), (250, .if_icmp .ne 26, 3, 276, 0, 0, 0, 0, 0, []), (253, .aload_n 0, 1, 0, 0, 0, 0, 0, 0, []), (254, .iload_n 1, 1, 0, 0, 0, 0, 0, 0, []), (255, .iconst 0, 1, 0, 0, 0, 0, 0, 0, []), (256, .invokevirtual 86, 3, 74, 4, 511, 1, 0, 0, []), (259, .ifCond .gt 13, 3, 272, 0, 0, 0, 0, 0, []), (262, .aload_n 0, 1, 0, 0, 0, 0, 0, 0, []), (263, .iload_n 1, 1, 0, 0, 0, 0, 0, 0, []), (264, .iload_n 3, 1, 0, 0, 0, 0, 0, 0, []), (265, .iconst 1, 1, 0, 0, 0, 0, 1, 0, []), (266, .invokevirtual 76, 3, 70, 4, 447, 1, 0, 0, []), (269, .ifCond .ne 7, 3, 276, 0, 0, 0, 0, 0, []), (272, .iconst 1, 1, 0, 0, 0, 0, 1, 0, []), (273, .goto 4, 3, 277, 0, 0, 0, 0, 0, []), (276, .iconst 0, 1, 0, 0, 0, 0, 0, 0, []), (277, .istore_n 2, 1, 0, 0, 0, 0, 0, 0, []), (278, .iconst 0, 1, 0, 0, 0, 0, 0, 0, []), (279, .istore 7, 2, 0, 0, 0, 0, 0, 0, []), (281, .iload 7, 2, 0, 0, 0, 0, 0, 0, []), (283, .iload_n 3, 1, 0, 0, 0, 0, 0, 0, []), (284, .if_icmp .ge 128, 3, 412, 0, 0, 0, 0, 0, []), (287, .aload_n 0, 1, 0, 0, 0, 0, 0, 0, []), (288, .iload_n 1, 1, 0, 0, 0, 0, 0, 0, []), (289, .iload 7, 2, 0, 0, 0, 0, 0, 0, [])]
def am_t171_4 : List aI := [(291, .iload_n 3, 1, 0, 0, 0, 0, 0, 0, []), (292, .iconst 0, 1, 0, 0, 0, 0, 0, 0, []), (293, .invokevirtual 90, 3, 71, 4, 515, 1, 0, 0, []), (296, .istore 8, 2, 0, 0, 0, 0, 0, 0, []), (298, .iload_n 2, 1, 0, 0, 0, 0, 0, 0, []), (299, .ifCond .eq 105, 3, 404, 0, 0, 0, 0, 0, []), (302, .iload 8, 2, 0, 0, 0, 0, 0, 0, []), (304, .ldc 71, 2, 0, 0, 439, 0, (-2000005), 0, []), (306, .if_icmp .ne 26, 3, 332, 0, 0, 0, 0, 0, []), (309, .iload 4, 2, 0, 0, 0, 0, 0, 0, []), (311, .iload 8, 2, 0, 0, 0, 0, 0, 0, []), (313, .if_icmp .eq 87, 3, 400, 0, 0, 0, 0, 0, []), (316, .aload_n 0, 1, 0, 0, 0, 0, 0, 0, []), (317, .iload_n 1, 1, 0, 0, 0, 0, 0, 0, []), (318, .iload 7, 2, 0, 0, 0, 0, 0, 0, []), (320, .iconst 0, 1, 0, 0, 0, 0, 0, 0, []), (321, .invokevirtual 76, 3, 70, 4, 447, 1, 0, 0, []), (324, .iload 8, 2, 0, 0, 0, 0, 0, 0, []), (326, .if_icmp .ne 78, 3, 404, 0, 0, 0, 0, 0, []), (329, .goto 71, 3, 400, 0, 0, 0, 0, 0, []), (332, .iload 8, 2, 0, 0, 0, 0, 0, 0, []), (334, .aload_n 0, 1, 0, 0, 0, 0, 0, 0, []), (335, .iload_n 1, 1, 0, 0, 0, 0, 0, 0, []), (336, .iload_n 3, 1, 0, 0, 0, 0, 0, 0, []), (337, .iload 7, 2, 0, 0, 0, 0, 0, 0, []), (339, .iconst 0, 1, 0, 0, 0, 0, 0, 0, []), (340, .invokevirtual 90, 3, 71, 4, 515, 1, 0, 0, []), (343, .iadd, 1, 0, 0, 0, 0, 0, 0, []), (344, .invokestatic 62, 3, 168, 0, 483, 1, 0, 0, []), (347, .ifCond .ne 57, 3, 404, 0, 0, 0, 0, 0, []), (350, .iload 8, 2, 0, 0, 0, 0, 0, 0, []), (352, .iload 4, 2, 0, 0, 0, 0, 0, 0, []), (354, .aload_n 0, 1, 0, 0, 0, 0, 0, 0, []), (355, .iload_n 1, 1, 0, 0, 0, 0, 0, 0, []), (356, .iload 7, 2, 0, 0, 0, 0, 0, 0, []), (358, .iconst 0, 1, 0, 0, 0, 0, 0, 0, []), (359, .invokevirtual 76, 3, 70, 4, 447, 1, 0, 0, []), (362, .isub, 1, 0, 0, 0, 0, 0, 0, []), (363, .invokestatic 62, 3, 168, 0, 483, 1, 0, 0, []), (366, .if_icmp .ne 38, 3, 404, 0, 0, 0, 0, 0, [])]
def am_t171_5 : List aI := [(369, .aload_n 0, 1, 0, 0, 0, 0, 0, 0, []), (370, .iload_n 1, 1, 0, 0, 0, 0, 0, 0, []), (371, .iload 7, 2, 0, 0, 0, 0, 0, 0, []), (373, .iload_n 3, 1, 0, 0, 0, 0, 0, 0, []), (374, .iconst 1, 1, 0, 0, 0, 0, 1, 0, []), (375, .invokevirtual 90, 3, 71, 4, 515, 1, 0, 0, []), (378, .aload_n 0, 1, 0, 0, 0, 0, 0, 0, []), (379, .iload_n 1, 1, 0, 0, 0, 0, 0, 0, []), (380, .iload_n 3, 1, 0, 0, 0, 0, 0, 0, []), (381, .iconst 2, 1, 0, 0, 0, 0, 2, 0, []), (382, .invokevirtual 76, 3, 70, 4, 447, 1, 0, 0, []), (385, .aload_n 0, 1, 0, 0, 0, 0, 0, 0, []), (386, .iload_n 1, 1, 0, 0, 0, 0, 0, 0, []), (387, .iload 7, 2, 0, 0, 0, 0, 0, 0, []), (389, .iconst 2, 1, 0, 0, 0, 0, 2, 0, []), (390, .invokevirtual 76, 3, 70, 4, 447, 1, 0, 0, []), (393, .isub, 1, 0, 0, 0, 0, 0, 0, []), (394, .invokestatic 62, 3, 168, 0, 483, 1, 0, 0, []), (397, .if_icmp .ne 7, 3, 404, 0, 0, 0, 0, 0, []), (400, .iconst 1, 1, 0, 0, 0, 0, 1, 0, []), (401, .goto 4, 3, 405, 0, 0, 0, 0, 0, []), (404, .iconst 0, 1, 0, 0, 0, 0, 0, 0, []), (405, .istore_n 2, 1, 0, 0, 0, 0, 0, 0, []), (406, .iinc 7 1, 3, 0, 0, 0, 0, 1, 0, []), (409, .goto (-128), 3, 281, 0, 0, 0, 0, 0, []), (412, .iinc 3 1, 3, 0, 0, 0, 0, 1, 0, []), (415, .goto (-411), 3, 4, 0, 0, 0, 0, 0, []), (418, .iload_n 2, 1, 0, 0, 0, 0, 0, 0, []), (419, .ireturn, 1, 0, 0, 0, 1, 0, 0, [])]
def am_t171 : List aI := am_t171_0 ++ (am_t171_1 ++ (am_t171_2 ++ (am_t171_3 ++ (am_t171_4 ++ (am_t171_5)))))
def am_t172 : List aI := [(0, .aload_n 0, 1, 0, 0, 0, 0, 0, 0, []), (1, .iconst 3, 1, 0, 0, 0, 0, 3, 0, []), (2, .invokevirtual 18, 3, 73, 4, 326, 1, 0, 0, []), (5, .istore_n 2, 1, 0, 0, 0, 0, 0, 0, []), (6, .aload_n 0, 1, 0, 0, 0, 0, 0, 0, []), (7, .iconst 4, 1, 0, 0, 0, 0, 4, 0, []), (8, .invokevirtual 18, 3, 73, 4, 326, 1, 0, 0, []), (11, .istore_n 3, 1, 0, 0, 0, 0, 0, 0, []), (12, .iconst 0, 1, 0, 0, 0, 0, 0, 0, []), (13, .istore 4, 2, 0, 0, 0, 0, 0, 0, []), (15, .iconst 0, 1, 0, 0, 0, 0, 0, 0, []), (16, .istore 5, 2, 0, 0, 0, 0, 0, 0, []), (18, .aload_n 0, 1, 0, 0, 0, 0, 0, 0, []), (19, .iload_n 1, 1, 0, 0, 0, 0, 0, 0, []), (20, .iload 5, 2, 0, 0, 0, 0, 0, 0, []), (22, .iconst 0, 1, 0, 0, 0, 0, 0, 0, []), (23, .invokevirtual 65, 3, 68, 4, 213, 1, 0, 0, []), (26, .ldc 82, 2, 0, 0, 489, 0, (-2000001), 0, []), (28, .if_icmp .eq 23, 3, 51, 0, 0, 0, 0, 0, []), (31, .iload 4, 2, 0, 0, 0, 0, 0, 0, []), (33, .aload_n 0, 1, 0, 0, 0, 0, 0, 0, []), (34, .iload_n 1, 1, 0, 0, 0, 0, 0, 0, []), (35, .iload 5, 2, 0, 0, 0, 0, 0, 0, []), (37, .bipush 7, 2, 0, 0, 0, 0, 7, 0, []), (39, .invokevirtual 65, 3, 68, 4, 213, 1, 0, 0, []), (42, .ior, 1, 0, 0, 0, 0, 0, 0, []), (43, .istore 4, 2, 0, 0, 0, 0, 0, 0, []), (45, .iinc 5 1, 3, 0, 0, 0, 0, 1, 0, []), (48, .goto (-30), 3, 18, 0, 0, 0, 0, 0, []), (51, .aload_n 0, 1, 0, 0, 0, 0, 0, 0, []), (52, .iload_n 1, 1, 0, 0, 0, 0, 0, 0, []), (53, .invokevirtual 50, 3, 58, 4, 407, 1, 0, 0, []), (56, .istore 5, 2, 0, 0, 0, 0, 0, 0, []), (58, .iload 5, 2, 0, 0, 0, 0, 0, 0, []), (60, .ifCond .ge 48, 3, 108, 0, 0, 0, 0, 0, []), (63, .iload 5, 2, 0, 0, 0, 0, 0, 0, []), (65, .ldc 82, 2, 0, 0, 489, 0, (-2000001), 0, []), (67, .if_icmp .ne 23, 3, 90, 0, 0, 0, 0, 0, []), (70, .aload_n 0, 1, 0, 0, 0, 0, 0, 0, []), (71, .iload_n 1, 1, 0, 0, 0, 0, 0, 0, []), (72, .iconst 0, 1, 0, 0, 0, 0, 0, 0, []), (73, .iconst 4, 1, 0, 0, 0, 0, 4, 0, []), (74, .invokevirtual 76, 3, 70, 4, 447, 1, 0, 0, []), (77, .iload 5, 2, 0, 0, 0, 0, 0, 0, []), (79, .if_icmp .ne 7, 3, 86, 0, 0, 0, 0, 0, []), (82, .iconst 1, 1, 0, 0, 0, 0, 1, 0, []), (83, .goto 24, 3, 107, 0, 0, 0, 0, 0, []), (86, .iconst 0, 1, 0, 0, 0, 0, 0, 0, []), (87, .goto 20, 3, 107, 0, 0, 0, 0, 0, []), (90, .iload 5, 2, 0, 0, 0, 0, 0, 0, []), (92, .ldc 71, 2, 0, 0, 439, 0, (-2000005), 0, []), (94, .if_icmp .ne 12, 3, 106, 0, 0, 0, 0, 0, []), (97, .iload 4, 2, 0, 0, 0, 0, 0, 0, []), (99, .ifCond .ne 7, 3, 106, 0, 0, 0, 0, 0, []), (102, .iconst 1, 1, 0, 0, 0, 0, 1, 0, []), (103, .goto 4, 3, 107, 0, 0, 0, 0, 0, []), (106, .iconst 0, 1, 0, 0, 0, 0, 0, 0, []), (107, .ireturn, 1, 0, 0, 0, 1, 0, 0, []), (108, .iload 4, 2, 0, 0, 0, 0, 0, 0, []), (110, .ifCond .le 43, 3, 153, 0, 0, 0, 0, 0, []), (113, .iload 5, 2, 0, 0, 0, 0, 0, 0, []), (115, .ifCond .le 38, 3, 153, 0, 0, 0, 0, 0, []), (118, .aload_n 0, 1, 0, 0, 0, 0, 0, 0, []), (119, .iconst 3, 1, 0, 0, 0, 0, 3, 0, []), (120, .invokevirtual 18, 3, 73, 4, 326, 1, 0, 0, []), (123, .iload_n 2, 1, 0, 0, 0, 0, 0, 0, []), (124, .iconst 2, 1, 0, 0, 0, 0, 2, 0, []), (125, .iload 5, 2, 0, 0, 0, 0, 0, 0, []), (127, .imul, 1, 0, 0, 0, 0, 0, 0, []), (128, .iadd, 1, 0, 0, 0, 0, 0, 0, []), (129, .if_icmp .ne 24, 3, 153, 0, 0, 0, 0, 0, []), (132, .aload_n 0, 1, 0, 0, 0, 0, 0, 0, []), (133, .iload_n 1, 1, 0, 0, 0, 0, 0, 0, []), (134, .invokevirtual 50, 3, 58, 4, 407, 1, 0, 0, []), (137, .ldc 71, 2, 0, 0, 439, 0, (-2000005), 0, []), (139, .if_icmp .ne 14, 3, 153, 0, 0, 0, 0, 0, []), (142, .iload 4, 2, 0, 0, 0, 0, 0, 0, []), (144, .iconst 1, 1, 0, 0, 0, 0, 1, 0, []), (145, .iand, 1, 0, 0, 0, 0, 0, 0, []), (146, .ifCond .ne 7, 3, 153, 0, 0, 0, 0, 0, []), (149, .iconst 1, 1, 0, 0, 0, 0, 1, 0, []), (150, .goto 4, 3, 154, 0, 0, 0, 0, 0, []), (153, .iconst 0, 1, 0, 0, 0, 0, 0, 0, []), (154, .istore 6, 2, 0, 0, 0, 0, 0, 0, []), (156, .aload_n 0, 1, 0, 0, 0, 0, 0, 0, []), (157, .invokevirtual 94, 3, 64, 4, 523, 1, 0, 0, []), (160, .istore 7, 2, 0, 0, 0, 0, 0, 0, []), (162, .iload 6, 2, 0, 0, 0, 0, 0, 0, []), (164, .ifCond .eq 30, 3, 194, 0, 0, 0, 0, 0, []), (167, .iload 7, 2, 0, 0, 0, 0, 0, 0, []), (169, .ifCond .lt 25, 3, 194, 0, 0, 0, 0, 0, []), (172, .aload_n 0, 1, 0, 0, 0, 0, 0, 0, []), (173, .iconst 3, 1, 0, 0, 0, 0, 3, 0, []), (174, .invokevirtual 18, 3, 73, 4, 326, 1, 0, 0, []), (177, .iload_n 2, 1, 0, 0, 0, 0, 0, 0, []), (178, .if_icmp .ne 16, 3, 194, 0, 0, 0, 0, 0, []), (181, .aload_n 0, 1, 0, 0, 0, 0, 0, 0, []), (182, .iconst 4, 1, 0, 0, 0, 0, 4, 0, []), (183, .invokevirtual 18, 3, 73, 4, 326, 1, 0, 0, []), (186, .iload_n 3, 1, 0, 0, 0, 0, 0, 0, []), (187, .if_icmp .ne 7, 3, 194, 0, 0, 0, 0, 0, []), (190, .iconst 1, 1, 0, 0, 0, 0, 1, 0, []), (191, .goto 4, 3, 195, 0, 0, 0, 0, 0, []), (194, .iconst 0, 1, 0, 0, 0, 0, 0, 0, []), (195, .ireturn, 1, 0, 0, 0, 1, 0, 0, [])]
def am_t173 : List aI := [(0, .new 19, 3, 4, 14, 23, 6, 24, 0, []), (3, .dup, 1, 0, 0, 0, 0, 0, 0, []), (4, .invokespecial 97, 3, 50, 0, 25, 0, 0, 0, []), (7, .astore_n 1, 1, 0, 0, 0, 0, 0, 0, []), (8, .aload_n 1, 1, 0, 0, 0, 0, 0, 0, []), (9, .invokevirtual 24, 3, 51, 4, 184, 1, 0, 0, []), (12, .aload_n 1, 1, 0, 0, 0, 0, 0, 0, []), (13, .iconst 0, 1, 0, 0, 0, 0, 0, 0, []), (14, .invokevirtual 28, 3, 52, 4, 204, 1, 0, 0, []), (17, .iadd, 1, 0, 0, 0, 0, 0, 0, []), (18, .istore_n 2, 1, 0, 0, 0, 0, 0, 0, []), (19, .iconst 0, 1, 0, 0, 0, 0, 0, 0, []), (20, .istore_n 3, 1, 0, 0, 0, 0, 0, 0, []), (21, .iload_n 3, 1, 0, 0, 0, 0, 0, 0, []), (22, .bipush 60, 2, 0, 0, 0, 0, 60, 0, []), (24, .if_icmp .ge 151, 3, 175, 0, 0, 0, 0, 0, []), (27, .aload_n 0, 1, 0, 0, 0, 0, 0, 0, []), (28, .iload_n 3, 1, 0, 0, 0, 0, 0, 0, []), (29, .invokestatic 98, 3, 164, 6, 351, 1, 0, 0, []), (32, .istore 4, 2, 0, 0, 0, 0, 0, 0, []), (34, .aload_n 1, 1, 0, 0, 0, 0, 0, 0, []), (35, .iload 4, 2, 0, 0, 0, 0, 0, 0, []), (37, .invokestatic 102, 3, 167, 0, 358, 1, 0, 0, []), (40, .istore 5, 2, 0, 0, 0, 0, 0, 0, []), (42, .iload 4, 2, 0, 0, 0, 0, 0, 0, []), (44, .bipush 6, 2, 0, 0, 0, 0, 6, 0, []), (46, .ishr, 1, 0, 0, 0, 0, 0, 0, []), (47, .iconst 2, 1, 0, 0, 0, 0, 2, 0, []), (48, .invokestatic 14, 3, 165, 0, 354, 1, 0, 0, []), (51, .istore 6, 2, 0, 0, 0, 0, 0, 0, []), (53, .iload 5, 2, 0, 0, 0, 0, 0, 0, []), (55, .ldc 71, 2, 0, 0, 439, 0, (-2000005), 0, []), (57, .if_icmp .lt 7, 3, 64, 0, 0, 0, 0, 0, []), (60, .iconst 1, 1, 0, 0, 0, 0, 1, 0, []), (61, .goto 4, 3, 65, 0, 0, 0, 0, 0, []), (64, .iconst 0, 1, 0, 0, 0, 0, 0, 0, []), (65, .istore 7, 2, 0, 0, 0, 0, 0, 0, []), (67, .iconst 0, 1, 0, 0, 0, 0, 0, 0, []), (68, .istore 8, 2, 0, 0, 0, 0, 0, 0, []), (70, .iload 7, 2, 0, 0, 0, 0, 0, 0, []), (72, .ifCond .eq 47, 3, 119, 0, 0, 0, 0, 0, []), (75, .iload_n 3, 1, 0, 0, 0, 0, 0, 0, []), (76, .iconst 3, 1, 0, 0, 0, 0, 3, 0, []), (77, .irem, 1, 0, 0, 0, 0, 0, 0, []), (78, .iconst 2, 1, 0, 0, 0, 0, 2, 0, []), (79, .if_icmp .ne 40, 3, 119, 0, 0, 0, 0, 0, []), (82, .iload 8, 2, 0, 0, 0, 0, 0, 0, []), (84, .bipush 6, 2, 0, 0, 0, 0, 6, 0, []), (86, .if_icmp .ge 33, 3, 119, 0, 0, 0, 0, 0, []), (89, .aload_n 1, 1, 0, 0, 0, 0, 0, 0, []), (90, .iload 6, 2, 0, 0, 0, 0, 0, 0, []), (92, .iload 8, 2, 0, 0, 0, 0, 0, 0, []), (94, .iconst 0, 1, 0, 0, 0, 0, 0, 0, []), (95, .invokevirtual 65, 3, 68, 4, 213, 1, 0, 0, []), (98, .ldc 82, 2, 0, 0, 489, 0, (-2000001), 0, []), (100, .if_icmp .eq 19, 3, 119, 0, 0, 0, 0, 0, []), (103, .aload_n 1, 1, 0, 0, 0, 0, 0, 0, []), (104, .iload 6, 2, 0, 0, 0, 0, 0, 0, []), (106, .iload 8, 2, 0, 0, 0, 0, 0, 0, []), (108, .invokestatic 106, 3, 170, 5, 431, 1, 0, 0, []), (111, .istore 7, 2, 0, 0, 0, 0, 0, 0, []), (113, .iinc 8 1, 3, 0, 0, 0, 0, 1, 0, []), (116, .goto (-46), 3, 70, 0, 0, 0, 0, 0, []), (119, .iload 7, 2, 0, 0, 0, 0, 0, 0, []), (121, .ifCond .eq 46, 3, 167, 0, 0, 0, 0, 0, []), (124, .iload_n 3, 1, 0, 0, 0, 0, 0, 0, []), (125, .bipush 6, 2, 0, 0, 0, 0, 6, 0, []), (127, .irem, 1, 0, 0, 0, 0, 0, 0, []), (128, .iconst 5, 1, 0, 0, 0, 0, 5, 0, []), (129, .if_icmp .ne 22, 3, 151, 0, 0, 0, 0, 0, []), (132, .aload_n 1, 1, 0, 0, 0, 0, 0, 0, []), (133, .iconst 0, 1, 0, 0, 0, 0, 0, 0, []), (134, .invokevirtual 18, 3, 73, 4, 326, 1, 0, 0, []), (137, .iload 6, 2, 0, 0, 0, 0, 0, 0, []), (139, .if_icmp .le 12, 3, 151, 0, 0, 0, 0, 0, []), (142, .aload_n 1, 1, 0, 0, 0, 0, 0, 0, []), (143, .iload 6, 2, 0, 0, 0, 0, 0, 0, []), (145, .invokestatic 110, 3, 171, 0, 486, 1, 0, 0, []), (148, .ifCond .eq 19, 3, 167, 0, 0, 0, 0, 0, []), (151, .iload_n 3, 1, 0, 0, 0, 0, 0, 0, []), (152, .iconst 3, 1, 0, 0, 0, 0, 3, 0, []), (153, .irem, 1, 0, 0, 0, 0, 0, 0, []), (154, .iconst 2, 1, 0, 0, 0, 0, 2, 0, []), (155, .if_icmp .ne 14, 3, 169, 0, 0, 0, 0, 0, []), (158, .aload_n 1, 1, 0, 0, 0, 0, 0, 0, []), (159, .iload 6, 2, 0, 0, 0, 0, 0, 0, []), (161, .invokestatic 114, 3, 172, 0, 520, 1, 0, 0, []), (164, .ifCond .ne 5, 3, 169, 0, 0, 0, 0, 0, []), (167, .iconst 0, 1, 0, 0, 0, 0, 0, 0, []), (168, .ireturn, 1, 0, 0, 0, 1, 0, 0, []), (169, .iinc 3 1, 3, 0, 0, 0, 0, 1, 0, []), (172, .goto (-151), 3, 21, 0, 0, 0, 0, 0, []), (175, .iload_n 2, 1, 0, 0, 0, 0, 0, 0, []), (176, .ifCond .ne 7, 3, 183, 0, 0, 0, 0, 0, []), (179, .iconst 1, 1, 0, 0, 0, 0, 1, 0, []), (180, .goto 4, 3, 184, 0, 0, 0, 0, 0, []), (183, .iconst 0, 1, 0, 0, 0, 0, 0, 0, []), (184, .ireturn, 1, 0, 0, 0, 1, 0, 0, [])]
def am_mt : List aM := [(yX0_init, cX0_init, 2, none, 0, 41, 3960, 92, am_t0),
  (yX0_record, cX0_record, 2, none, 1, 0, 0, 192, am_t1),
  (yX0_takeBack, cX0_takeBack, 2, none, 1, 0, 0, 530, am_t2),
  (yX0_dropOldest, cX0_dropOldest, 3, none, 0, 0, 0, 196, am_t3),
  (yX1_init, cX1_init, 1, none, 0, 4, 81, 109, am_t4),
  (yX0_record, cX0_record, 2, none, 1, 0, 0, 192, am_t1),
  (yX0_record, cX0_record, 2, none, 1, 0, 0, 192, am_t1),
  (yX0_record, cX0_record, 2, none, 1, 0, 0, 192, am_t1),
  (yX0_record, cX0_record, 2, none, 1, 0, 0, 192, am_t1),
  (yX0_record, cX0_record, 2, none, 1, 0, 0, 192, am_t1),
  (yX0_record, cX0_record, 2, none, 1, 0, 0, 192, am_t1),
  (yX0_record, cX0_record, 2, none, 1, 0, 0, 192, am_t1),
  (yX0_record, cX0_record, 2, none, 1, 0, 0, 192, am_t1),
  (yX2_init, cX2_init, 1, none, 0, 5, 120, 139, am_t13),
  (yX2_reckon, cX2_reckon, 4, none, 2, 0, 0, 226, am_t14),
  (yX2_reckonRound, cX2_reckonRound, 12, none, 3, 0, 0, 230, am_t15),
  (yX2_reckonDirection, cX2_reckonDirection, 7, none, 1, 0, 0, 279, am_t16),
  (yX2_reckonLeft, cX2_reckonLeft, 4, none, 1, 0, 0, 287, am_t17),
  (yX2_isUsed, cX2_isUsed, 3, some .boolean, 2, 0, 0, 283, am_t18),
  (yX2_hasDirection, cX2_hasDirection, 2, some .boolean, 1, 0, 0, 458, am_t19),
  (yX2_roundsOf, cX2_roundsOf, 4, some .int, 1, 0, 0, 454, am_t20),
  (yX2_leftWithoutSign, cX2_leftWithoutSign, 3, some .int, 2, 0, 0, 322, am_t21),
  (yX2_mostLeft, cX2_mostLeft, 4, some .int, 1, 0, 0, 476, am_t22),
  (yX2_badTargets, cX2_badTargets, 5, some .int, 2, 0, 0, 318, am_t23),
  (yX2_worst, cX2_worst, 7, some .int, 1, 0, 0, 414, am_t24),
  (yX2_meanError, cX2_meanError, 5, some .int, 1, 0, 0, 307, am_t25),
  (yX2_angleBetween, cX2_angleBetween, 3, some .int, 2, 0, 0, 510, am_t26),
  (yX2_sumOfAngles, cX2_sumOfAngles, 6, some .int, 1, 0, 0, 497, am_t27),
  (yX2_neighbour, cX2_neighbour, 5, some .int, 1, 0, 0, 501, am_t28),
  (yX2_isBehind, cX2_isBehind, 3, some .boolean, 2, 0, 0, 506, am_t29),
  (yX3_init, cX3_init, 1, none, 0, 9, 978, 35, am_t30),
  (yX3_copyFrom, cX3_copyFrom, 2, none, 1, 0, 0, 200, am_t31),
  (yX3_hasSetUp, cX3_hasSetUp, 2, some .boolean, 1, 0, 0, 211, am_t32),
  (yX3_hasRound, cX3_hasRound, 3, some .boolean, 2, 0, 0, 220, am_t33),
  (yX3_isClosed, cX3_isClosed, 2, some .boolean, 1, 0, 0, 255, am_t34),
  (yX3_placeOf, cX3_placeOf, 4, some .int, 2, 0, 0, 246, am_t35),
  (yX3_canTake, cX3_canTake, 3, some .boolean, 2, 0, 0, 384, am_t36),
  (yX3_add, cX3_add, 5, none, 3, 0, 0, 389, am_t37),
  (yX3_remove, cX3_remove, 5, none, 2, 0, 0, 406, am_t38),
  (yX3_strikeBoth, cX3_strikeBoth, 7, none, 3, 0, 0, 418, am_t39),
  (yX3_driftOf, cX3_driftOf, 2, some .int, 1, 0, 0, 259, am_t40),
  (yX3_corrected, cX3_corrected, 4, some .int, 2, 0, 0, 251, am_t41),
  (yX3_whyNotUsed, cX3_whyNotUsed, 5, some .int, 3, 0, 0, 237, am_t42),
  (yX3_ownReason, cX3_ownReason, 9, some .int, 3, 0, 0, 241, am_t43),
  (yX3_struckIn, cX3_struckIn, 4, some .int, 1, 0, 0, 303, am_t44),
  (yX3_struckInRound, cX3_struckInRound, 3, some .int, 2, 0, 0, 299, am_t45),
  (yX3_allRounds, cX3_allRounds, 3, some .int, 0, 0, 0, 333, am_t46),
  (yX3_allPointings, cX3_allPointings, 3, some .int, 0, 0, 0, 337, am_t47),
  (yX3_allStruck, cX3_allStruck, 3, some .int, 0, 0, 0, 341, am_t48),
  (yX3_allClosings, cX3_allClosings, 3, some .int, 0, 0, 0, 350, am_t49),
  (yX4_init, cX4_init, 1, none, 0, 73, 6154, 27, am_t50),
  (yX4_setUp, cX4_setUp, 1, some .int, 0, 0, 0, 187, am_t51),
  (yX4_begin, cX4_begin, 2, some .int, 1, 0, 0, 207, am_t52),
  (yX4_point, cX4_point, 7, some .int, 5, 0, 0, 371, am_t53),
  (yX0_record, cX0_record, 2, none, 1, 0, 0, 192, am_t1),
  (yX4_close, cX4_close, 6, some .int, 4, 0, 0, 393, am_t55),
  (yX4_strike, cX4_strike, 8, some .int, 5, 0, 0, 397, am_t56),
  (yX4_wipe, cX4_wipe, 8, some .int, 3, 0, 0, 402, am_t57),
  (yX4_clean, cX4_clean, 4, some .int, 1, 0, 0, 410, am_t58),
  (yX4_setLimit, cX4_setLimit, 3, some .int, 1, 0, 0, 422, am_t59),
  (yX4_centre, cX4_centre, 6, some .int, 3, 0, 0, 426, am_t60),
  (yX4_setDistance, cX4_setDistance, 4, some .int, 2, 0, 0, 430, am_t61),
  (yX0_record, cX0_record, 2, none, 1, 0, 0, 192, am_t1),
  (yX0_record, cX0_record, 2, none, 1, 0, 0, 192, am_t1),
  (yX4_undo, cX4_undo, 1, some .int, 0, 0, 0, 526, am_t64),
  (yX0_record, cX0_record, 2, none, 1, 0, 0, 192, am_t1),
  (yX0_record, cX0_record, 2, none, 1, 0, 0, 192, am_t1),
  (yX4_pointing, cX4_pointing, 8, some .int, 5, 0, 0, 437, am_t67),
  (yX4_round, cX4_round, 4, some .int, 3, 0, 0, 216, am_t68),
  (yX4_reduced, cX4_reduced, 6, some .int, 4, 0, 0, 444, am_t69),
  (yX4_direction, cX4_direction, 4, some .int, 3, 0, 0, 450, am_t70),
  (yX4_angle, cX4_angle, 5, some .int, 4, 0, 0, 518, am_t71),
  (yX4_byAngles, cX4_byAngles, 3, some .int, 2, 0, 0, 493, am_t72),
  (yX4_count, cX4_count, 2, some .int, 1, 0, 0, 329, am_t73),
  (yX4_centring, cX4_centring, 3, some .int, 2, 0, 0, 514, am_t74),
  (yX4_isTarget, cX4_isTarget, 1, some .boolean, 1, 0, 0, 374, am_t75),
  (yX4_isFace, cX4_isFace, 1, some .boolean, 1, 0, 0, 377, am_t76),
  (yX4_isReading, cX4_isReading, 1, some .boolean, 1, 0, 0, 380, am_t77),
  (yX4_rowOf, cX4_rowOf, 3, some .int, 3, 0, 0, 233, am_t78),
  (yX4_nearZero, cX4_nearZero, 2, some .int, 1, 0, 0, 262, am_t79),
  (yX0_record, cX0_record, 2, none, 1, 0, 0, 192, am_t1),
  (yX4_toldDrift, cX4_toldDrift, 2, some .int, 1, 0, 0, 292, am_t81),
  (yX4_allBad, cX4_allBad, 4, some .int, 0, 0, 0, 345, am_t82),
  (yX4_correction, cX4_correction, 7, some .int, 2, 0, 0, 462, am_t83),
  (yX4_centredDirection, cX4_centredDirection, 4, some .int, 2, 0, 0, 472, am_t84),
  (yX0_record, cX0_record, 2, none, 1, 0, 0, 192, am_t1),
  (yX0_record, cX0_record, 2, none, 1, 0, 0, 192, am_t1),
  (yX0_record, cX0_record, 2, none, 1, 0, 0, 192, am_t1),
  (yX0_record, cX0_record, 2, none, 1, 0, 0, 192, am_t1),
  (yX0_record, cX0_record, 2, none, 1, 0, 0, 192, am_t1),
  (yX0_record, cX0_record, 2, none, 1, 0, 0, 192, am_t1),
  (yX0_record, cX0_record, 2, none, 1, 0, 0, 192, am_t1),
  (yX0_record, cX0_record, 2, none, 1, 0, 0, 192, am_t1),
  (yX0_record, cX0_record, 2, none, 1, 0, 0, 192, am_t1),
  (yX0_record, cX0_record, 2, none, 1, 0, 0, 192, am_t1),
  (yX0_record, cX0_record, 2, none, 1, 0, 0, 192, am_t1),
  (yX0_record, cX0_record, 2, none, 1, 0, 0, 192, am_t1),
  (yX0_record, cX0_record, 2, none, 1, 0, 0, 192, am_t1),
  (yX0_record, cX0_record, 2, none, 1, 0, 0, 192, am_t1),
  (yX0_record, cX0_record, 2, none, 1, 0, 0, 192, am_t1),
  (yX0_record, cX0_record, 2, none, 1, 0, 0, 192, am_t1),
  (yX0_record, cX0_record, 2, none, 1, 0, 0, 192, am_t1),
  (yX0_record, cX0_record, 2, none, 1, 0, 0, 192, am_t1),
  (yX0_record, cX0_record, 2, none, 1, 0, 0, 192, am_t1),
  (yX0_record, cX0_record, 2, none, 1, 0, 0, 192, am_t1),
  (yX0_record, cX0_record, 2, none, 1, 0, 0, 192, am_t1),
  (yX0_record, cX0_record, 2, none, 1, 0, 0, 192, am_t1),
  (yX0_record, cX0_record, 2, none, 1, 0, 0, 192, am_t1),
  (yX0_record, cX0_record, 2, none, 1, 0, 0, 192, am_t1),
  (yX0_record, cX0_record, 2, none, 1, 0, 0, 192, am_t1),
  (yX0_record, cX0_record, 2, none, 1, 0, 0, 192, am_t1),
  (yX0_record, cX0_record, 2, none, 1, 0, 0, 192, am_t1),
  (yX0_record, cX0_record, 2, none, 1, 0, 0, 192, am_t1),
  (yX0_record, cX0_record, 2, none, 1, 0, 0, 192, am_t1),
  (yX0_record, cX0_record, 2, none, 1, 0, 0, 192, am_t1),
  (yX0_record, cX0_record, 2, none, 1, 0, 0, 192, am_t1),
  (yX0_record, cX0_record, 2, none, 1, 0, 0, 192, am_t1),
  (yX0_record, cX0_record, 2, none, 1, 0, 0, 192, am_t1),
  (yX0_record, cX0_record, 2, none, 1, 0, 0, 192, am_t1),
  (yX0_record, cX0_record, 2, none, 1, 0, 0, 192, am_t1),
  (yX0_record, cX0_record, 2, none, 1, 0, 0, 192, am_t1),
  (yX0_record, cX0_record, 2, none, 1, 0, 0, 192, am_t1),
  (yX0_record, cX0_record, 2, none, 1, 0, 0, 192, am_t1),
  (yX0_record, cX0_record, 2, none, 1, 0, 0, 192, am_t1),
  (yX0_record, cX0_record, 2, none, 1, 0, 0, 192, am_t1),
  (yX0_record, cX0_record, 2, none, 1, 0, 0, 192, am_t1),
  (yX0_record, cX0_record, 2, none, 1, 0, 0, 192, am_t1),
  (yX0_record, cX0_record, 2, none, 1, 0, 0, 192, am_t1),
  (yX0_record, cX0_record, 2, none, 1, 0, 0, 192, am_t1),
  (yX0_record, cX0_record, 2, none, 1, 0, 0, 192, am_t1),
  (yX0_record, cX0_record, 2, none, 1, 0, 0, 192, am_t1),
  (yX0_record, cX0_record, 2, none, 1, 0, 0, 192, am_t1),
  (yX0_record, cX0_record, 2, none, 1, 0, 0, 192, am_t1),
  (yX0_record, cX0_record, 2, none, 1, 0, 0, 192, am_t1),
  (yX0_record, cX0_record, 2, none, 1, 0, 0, 192, am_t1),
  (yX0_record, cX0_record, 2, none, 1, 0, 0, 192, am_t1),
  (yX0_record, cX0_record, 2, none, 1, 0, 0, 192, am_t1),
  (yX0_record, cX0_record, 2, none, 1, 0, 0, 192, am_t1),
  (yX0_record, cX0_record, 2, none, 1, 0, 0, 192, am_t1),
  (yX0_record, cX0_record, 2, none, 1, 0, 0, 192, am_t1),
  (yX0_record, cX0_record, 2, none, 1, 0, 0, 192, am_t1),
  (yX0_record, cX0_record, 2, none, 1, 0, 0, 192, am_t1),
  (yX0_record, cX0_record, 2, none, 1, 0, 0, 192, am_t1),
  (yX0_record, cX0_record, 2, none, 1, 0, 0, 192, am_t1),
  (yX0_record, cX0_record, 2, none, 1, 0, 0, 192, am_t1),
  (yX0_record, cX0_record, 2, none, 1, 0, 0, 192, am_t1),
  (yX0_record, cX0_record, 2, none, 1, 0, 0, 192, am_t1),
  (yX0_record, cX0_record, 2, none, 1, 0, 0, 192, am_t1),
  (yX0_record, cX0_record, 2, none, 1, 0, 0, 192, am_t1),
  (yX0_record, cX0_record, 2, none, 1, 0, 0, 192, am_t1),
  (yX0_record, cX0_record, 2, none, 1, 0, 0, 192, am_t1),
  (yX0_record, cX0_record, 2, none, 1, 0, 0, 192, am_t1),
  (yX0_record, cX0_record, 2, none, 1, 0, 0, 192, am_t1),
  (yX0_record, cX0_record, 2, none, 1, 0, 0, 192, am_t1),
  (yX0_record, cX0_record, 2, none, 1, 0, 0, 192, am_t1),
  (yX0_record, cX0_record, 2, none, 1, 0, 0, 192, am_t1),
  (yX0_record, cX0_record, 2, none, 1, 0, 0, 192, am_t1),
  (yX0_record, cX0_record, 2, none, 1, 0, 0, 192, am_t1),
  (yJ6_bitCount_0f7a4, cJ6_bitCount_0f7a4, 1, some .int, 1, 0, 0, 310, am_t158),
  (yJ9_floorDiv_7cf53, cJ9_floorDiv_7cf53, 3, some .int, 2, 0, 0, 268, am_t159),
  (yJ9_floorMod_7cf53, cJ9_floorMod_7cf53, 3, some .int, 2, 0, 0, 275, am_t160),
  (yJ9_abs_0f7a4, cJ9_abs_0f7a4, 1, some .int, 1, 0, 0, 325, am_t161),
  (yJ9_max_7cf53, cJ9_max_7cf53, 2, some .int, 2, 0, 0, 479, am_t162),
  (yJ7_fill_53178, cJ7_fill_53178, 4, none, 2, 0, 0, 39, am_t163),
  (yL_cell, cL_cell, 2, some .int, 2, 0, 0, 353, am_t164),
  (yL_low, cL_low, 2, some .int, 2, 0, 0, 356, am_t165),
  (yL_reading, cL_reading, 4, some .int, 4, 0, 0, 363, am_t166),
  (yL_does, cL_does, 6, some .int, 2, 0, 0, 360, am_t167),
  (yL_full, cL_full, 1, some .int, 1, 0, 0, 485, am_t168),
  (yL_near, cL_near, 2, some .int, 1, 0, 0, 482, am_t169),
  (yL_isRoundSo, cL_isRoundSo, 17, some .boolean, 3, 2, 4, 433, am_t170),
  (yL_areDirectionsSo, cL_areDirectionsSo, 9, some .boolean, 2, 0, 0, 488, am_t171),
  (yL_isCleanSo, cL_isCleanSo, 8, some .boolean, 2, 0, 0, 522, am_t172),
  (yL_law, cL_law, 9, some .boolean, 1, 600000, 7302250, 0, am_t173)]
/-- the private members of nest mates that are called -/
def am_nest : List Cond := [.methodLinkNest "FaceRounds" 32 ⟨"FaceRounds$PointingText", "<init>", "()V"⟩ "FaceRounds", .methodLinkNest "FaceRounds" 39 ⟨"FaceRounds$Reckoning", "<init>", "()V"⟩ "FaceRounds", .methodLinkNest "FaceRounds$Reckoning" 43 ⟨"FaceRounds", "rowOf", "(III)I"⟩ "FaceRounds", .methodLinkNest "FaceRounds$State" 70 ⟨"FaceRounds", "rowOf", "(III)I"⟩ "FaceRounds", .methodLinkNest "FaceRounds$State" 74 ⟨"FaceRounds", "nearZero", "(I)I"⟩ "FaceRounds", .methodLinkNest "FaceRounds$Reckoning" 58 ⟨"FaceRounds", "nearZero", "(I)I"⟩ "FaceRounds"]
end
section
/-! the methods' parts by their number -/
def am_m0 : aM := (⟨"", "", ""⟩, ⟨#[]⟩, 0, none, 0, 0, 0, 0, [])
def am_m (k : Nat) : aM := am_mt.getD k am_m0
def mY (k : Nat) : MethodName := (am_m k).1
def mB (k : Nat) : ByteArray := (am_m k).2.1
def mL (k : Nat) : Nat := (am_m k).2.2.1
def mR (k : Nat) : Option FieldType := (am_m k).2.2.2.1
def mN (k : Nat) : Nat := (am_m k).2.2.2.2.1
def mC (k : Nat) : Nat := (am_m k).2.2.2.2.2.1
def mS (k : Nat) : Nat := (am_m k).2.2.2.2.2.2.1
def mP (k : Nat) : Nat := (am_m k).2.2.2.2.2.2.2.1
def mT (k : Nat) : List aI := (am_m k).2.2.2.2.2.2.2.2
/-- the tables' words that hold from any warmed state on -/
def am_tbl : List Cond := lw_tbl.filter goodWord
def am_mw (k : Nat) : List Cond := Cond.code (mY k) (mB k) (mL k) (mR k) :: am_tbl
/-! the cells that a world says -/
def am_cv (base b t0 : Nat) : Value → Value
  | .ref i => .ref (base + i)
  | .retAddr 0 => .ref b
  | .retAddr _ => .ref t0
  | v => v
/-- which fields of a class hold references -/
def am_fk : Nat → List Bool
  | 0 => [true, false]
  | 1 => [true, false, true, true, true, false, false]
  | 2 => [false, true, true, true, true, true]
  | 3 => [false, false, true, true, true, true, true, true, true, true, true]
  | _ => [true, true, false, true, true, true]
def am_fl (f : Nat → Bool → Value) : Nat → List Bool → List Value
  | _, [] => []
  | k, r :: t => f k r :: am_fl f (k + 1) t
def am_fv (base : Nat) (w : aW) (i k : Nat) : Bool → Value
  | true => va_rf ((w.2.2.2 i k).map (base + ·))
  | false => .int (w.2.2.1 i k)
def am_cell (base : Nat) (ty : Nat → ClassId) (w : aW) (i : Nat) : va_E := match w.2.1 i with
  | (0, ci) => .inr (ci, am_fl (am_fv base w i) 0 (am_fk ci))
  | (t + 1, n) => match Nat.beq t 3 with
    | true => .inl (ty 3, n, .inr (.inr (.inr (.inr (fun j => (w.2.2.2 i j).map (base + ·))))))
    | false => .inl (ty t, n, .inl (w.2.2.1 i))
def am_ws (base : Nat) (ty : Nat → ClassId) (w : aW) : va_W := (List.range w.1).map (fun i => (base + i, am_cell base ty w i))
def am_tys (ty : Nat → ClassId) : List (ClassId × FieldType) := [(ty 0, .char), (ty 1, .int), (ty 2, .boolean), (ty 3, .object "FaceRounds$State")]
abbrev am_A (base : Nat) : Nat → Prop := fun q => base ≤ q
def am_En (D : va_G) (ty : Nat → ClassId) (base t0 : Nat) (U : State) (H : Heap) : Prop := va_K D vwCl (am_tys ty) U ∧ va_Z "FaceRounds" "SINES" "[I" (.ref t0) (am_A base) U H ∧ va_T .int t0 24 (fun j => .int (am_sine j)) (am_A base) U H ∧ (∀ w ∈ am_nest, va_Nw w U) ∧ va_AO "FaceRounds$State" U
/-- a method's end: what it returns, and the world then -/
def am_Q (D : va_G) (ty : Nat → ClassId) (base b t0 n : Nat) (Post : Option Value → aW → Prop) : Array Value → State → Outcome → State → Prop := fun _ st oc t =>
  (∃ (r : Option Value) (w' : aW), oc = .returned (r.map (am_cv base b t0)) ∧ Post r w' ∧ w'.1 = n ∧ va_P D vwCl (am_ws base ty w') t.heap) ∧ va_F (am_A base) st t
def am_rm (d k : Nat) : Room := { frames := d, cells := mC k, slots := mS k, locals := 40 * d }
/-- a call of method k, at most d frames deep, from the world w: it returns, and Post holds -/
def am_Call (d k : Nat) (av : List Value) (w : aW) (Post : Option Value → aW → Prop) : Prop :=
  ∀ (l : Launch) (D : va_G) (ty : Nat → ClassId) (base b t0 : Nat), Met l (mY k) (am_mw k) (am_rm d k)
    (va_Pc (av.map (am_cv base b t0)) (fun U => am_En D ty base t0 U U.heap ∧ va_P D vwCl (am_ws base ty w) U.heap ∧ U.heap.size = base + w.1))
    (am_Q D ty base b t0 (w.1 + mC k) Post) (mC k) (mS k) (am_A base)
def am_Ci (d k : Nat) (av : List Value) (w : aW) (K : Int32 → aW → Prop) : Prop := am_Call d k av w (fun r w' => match r with
  | some (.int v) => K v w'
  | _ => False)
def am_Cv (d k : Nat) (av : List Value) (w : aW) (K : aW → Prop) : Prop := am_Call d k av w (fun r w' => match r with
  | none => K w'
  | _ => False)
/-- the same of a method that reads the script -/
def am_CallX (L : Nat) (xs : Nat → Int32) (d k : Nat) (av : List Value) (w : aW) (Post : Option Value → aW → Prop) : Prop :=
  ∀ (l : Launch) (D : va_G) (ty : Nat → ClassId) (base b t0 : Nat), Met l (mY k) (am_mw k) (am_rm d k)
    (va_Pc (av.map (am_cv base b t0)) (fun U => (am_En D ty base t0 U U.heap ∧ va_X b L xs U U.heap ∧ b < base) ∧ va_P D vwCl (am_ws base ty w) U.heap ∧ U.heap.size = base + w.1))
    (am_Q D ty base b t0 (w.1 + mC k) Post) (mC k) (mS k) (am_A base)
def am_CXi (L : Nat) (xs : Nat → Int32) (d k : Nat) (av : List Value) (w : aW) (K : Int32 → aW → Prop) : Prop := am_CallX L xs d k av w (fun r w' => match r with
  | some (.int v) => K v w'
  | _ => False)
def am_cx (L : Nat) (xs : Nat → Int32) (d k : Nat) (av : List Value) (w : aW) (K : Option Value → aW → Prop) : Prop := match d with
  | 0 => False
  | d + 1 => am_CXi L xs d k av w (fun v w' => K (some (.int v)) w')
def am_cf (f d k : Nat) (av : List Value) (w : aW) (K : Option Value → aW → Prop) : Prop := match d with
  | 0 => False
  | d + 1 => match f with
    | 0 => am_Cv d k av w (fun w' => K none w')
    | _ => am_Ci d k av w (fun v w' => K (some (.int v)) w')
def am_cpa (w : aW) (q0 q1 : Nat) (f : Nat → Nat → Nat → Prop) : Prop := match Nat.blt q0 w.1, Nat.blt q1 w.1, w.2.1 q0, w.2.1 q1 with
  | true, true, (t0 + 1, n0), (t1 + 1, n1) => (match Nat.beq t0 t1 with
    | true => f t0 n0 n1
    | false => False)
  | _, _, _, _ => False
def am_cpf (t : Nat) (w : aW) (q0 : Nat) (sp n : Int32) (K : Prop) : Prop := match t with
  | 1 => K
  | 2 => (∀ i : Nat, i < n.toNatClampNeg → w.2.2.1 q0 (sp.toNatClampNeg + i) = 0 ∨ w.2.2.1 q0 (sp.toNatClampNeg + i) = 1) ∧ K
  | _ => False
/-- one step: d the frames left, sx the script, cap the cells and slots that this method may make, K what follows, R what is returned -/
def am_stp (d : Nat) (sx : Option (Nat × (Nat → Int32))) (cap : Nat × Nat) (x : aI) (lc : aL) (st : List Value) (w : aW) (u : Nat × Nat) (K : aK) (R : Option Value → aW → Prop) : Prop :=
  match x with
  | (pc, ins, _, a, b, _, f, v, l, sw) =>
  match ins with
  | .iconst _ => K (pc + 1) lc (.int v :: st) w u
  | .bipush _ => K (pc + 2) lc (.int v :: st) w u
  | .sipush _ => K (pc + 3) lc (.int v :: st) w u
  | .ldc _ => K (pc + 2) lc (.int v :: st) w u
  | .ldc_w _ => K (pc + 3) lc (.int v :: st) w u
  | .ldc2_w _ => K (pc + 3) lc (.long l :: st) w u
  | .iload_n k => am_gi lc k.val fun y => K (pc + 1) lc (.int y :: st) w u
  | .iload k => am_gi lc k fun y => K (pc + 2) lc (.int y :: st) w u
  | .lload_n k => am_gl lc k.val fun y => K (pc + 1) lc (.long y :: st) w u
  | .lload k => am_gl lc k fun y => K (pc + 2) lc (.long y :: st) w u
  | .aload_n k => am_ga lc k.val fun y => K (pc + 1) lc (y :: st) w u
  | .aload k => am_ga lc k fun y => K (pc + 2) lc (y :: st) w u
  | .istore_n k => am_i st fun y r => am_sv lc k.val (.int y) fun lc' => K (pc + 1) lc' r w u
  | .istore k => am_i st fun y r => am_sv lc k (.int y) fun lc' => K (pc + 2) lc' r w u
  | .lstore_n k => am_l st fun y r => am_sl lc k.val y fun lc' => K (pc + 1) lc' r w u
  | .lstore k => am_l st fun y r => am_sl lc k y fun lc' => K (pc + 2) lc' r w u
  | .astore_n k => am_a st fun y r => am_sv lc k.val y fun lc' => K (pc + 1) lc' r w u
  | .astore k => am_a st fun y r => am_sv lc k y fun lc' => K (pc + 2) lc' r w u
  | .iinc k _ => am_gi lc k fun y => am_sv lc k (.int (y + v)) fun lc' => K (pc + 3) lc' st w u
  | .iadd => am_ii st fun y z r => K (pc + 1) lc (.int (y + z) :: r) w u
  | .isub => am_ii st fun y z r => K (pc + 1) lc (.int (y - z) :: r) w u
  | .imul => am_ii st fun y z r => K (pc + 1) lc (.int (y * z) :: r) w u
  | .iand => am_ii st fun y z r => K (pc + 1) lc (.int (y &&& z) :: r) w u
  | .ior => am_ii st fun y z r => K (pc + 1) lc (.int (y ||| z) :: r) w u
  | .ixor => am_ii st fun y z r => K (pc + 1) lc (.int (y ^^^ z) :: r) w u
  | .ishl => am_ii st fun y z r => K (pc + 1) lc (.int (y <<< (z &&& 31)) :: r) w u
  | .ishr => am_ii st fun y z r => K (pc + 1) lc (.int (y >>> (z &&& 31)) :: r) w u
  | .iushr => am_ii st fun y z r => K (pc + 1) lc (.int (y.toUInt32 >>> (z.toUInt32 &&& Int32.toUInt32 31)).toInt32 :: r) w u
  | .idiv => am_ii st fun y z r => ¬ z = 0 ∧ K (pc + 1) lc (.int (y / z) :: r) w u
  | .irem => am_ii st fun y z r => ¬ z = 0 ∧ K (pc + 1) lc (.int (y - y / z * z) :: r) w u
  | .ineg => am_i st fun y r => K (pc + 1) lc (.int (-y) :: r) w u
  | .lmul => am_ll st fun y z r => K (pc + 1) lc (.long (y * z) :: r) w u
  | .ldiv => am_ll st fun y z r => ¬ z = 0 ∧ K (pc + 1) lc (.long (y / z) :: r) w u
  | .i2l => am_i st fun y r => K (pc + 1) lc (.long y.toInt64 :: r) w u
  | .l2i => am_l st fun y r => K (pc + 1) lc (.int y.toInt32 :: r) w u
  | .i2c => am_i st fun y r => K (pc + 1) lc (.int (y.toUInt32 % 65536).toInt32 :: r) w u
  | .dup => (match st with
    | y :: r => (match am_cat1 y with
      | true => K (pc + 1) lc (y :: y :: r) w u
      | false => False)
    | _ => False)
  | .dup2 => (match st with
    | y :: z :: r => (match am_cat1 y && am_cat1 z with
      | true => K (pc + 1) lc (y :: z :: y :: z :: r) w u
      | false => False)
    | _ => False)
  | .ifCond cc _ => am_i st fun y r => am_c2 cc y 0 (K a lc r w u) (K (pc + 3) lc r w u)
  | .if_icmp cc _ => am_ii st fun y z r => am_c2 cc y z (K a lc r w u) (K (pc + 3) lc r w u)
  | .goto _ => K a lc st w u
  | .tableswitch _ _ _ _ => am_i st fun y r => am_sw y (fun t => K t lc r w u) (K a lc r w u) sw
  | .lookupswitch _ _ => am_i st fun y r => am_sw y (fun t => K t lc r w u) (K a lc r w u) sw
  | .getfield _ => (match st with
    | .ref i :: r => am_ob w i a (match f with
      | 1 => (match w.2.2.2 i b with
        | some j => K (pc + 3) lc (.ref j :: r) w u
        | none => False)
      | _ => K (pc + 3) lc (.int (w.2.2.1 i b) :: r) w u)
    | _ => False)
  | .putfield _ => (match f, st with
    | 0, .int y :: .ref i :: r => am_ob w i a (K (pc + 3) lc r (am_wC w (am_u2 w.2.2.1 i b y)) u)
    | 1, .ref j :: .ref i :: r => am_ob w i a (K (pc + 3) lc r (am_wF w (am_uF w.2.2.2 i b (some j))) u)
    | 2, .int y :: .ref i :: r => am_ob w i a ((y = 0 ∨ y = 1) ∧ K (pc + 3) lc r (am_wC w (am_u2 w.2.2.1 i b y)) u)
    | _, _ => False)
  | .getstatic _ => K (pc + 3) lc (.retAddr 1 :: st) w u
  | .arraylength => (match st with
    | .ref i :: r => am_alen w i fun n => K (pc + 1) lc (.int (Int32.ofNat n) :: r) w u
    | .retAddr 0 :: r => (match sx with
      | some (L, _) => K (pc + 1) lc (.int (Int32.ofNat L) :: r) w u
      | none => False)
    | _ => False)
  | .iaload => (match st with
    | .int i :: .ref q :: r => am_ar w q 1 fun n => vp_in i n ∧ K (pc + 1) lc (.int (w.2.2.1 q i.toNatClampNeg) :: r) w u
    | .int i :: .retAddr 0 :: r => (match sx with
      | some (L, xs) => vp_in i L ∧ K (pc + 1) lc (.int (xs i.toNatClampNeg) :: r) w u
      | none => False)
    | .int i :: .retAddr 1 :: r => vp_in i 24 ∧ K (pc + 1) lc (.int (am_sine i.toNatClampNeg) :: r) w u
    | _ => False)
  | .caload => (match st with
    | .int i :: .ref q :: r => am_ar w q 0 fun n => vp_in i n ∧ K (pc + 1) lc (.int (w.2.2.1 q i.toNatClampNeg) :: r) w u
    | _ => False)
  | .baload => (match st with
    | .int i :: .ref q :: r => am_ar w q 2 fun n => vp_in i n ∧ K (pc + 1) lc (.int (w.2.2.1 q i.toNatClampNeg) :: r) w u
    | _ => False)
  | .aaload => (match st with
    | .int i :: .ref q :: r => am_ar w q 3 fun n => vp_in i n ∧ ∃ j, w.2.2.2 q i.toNatClampNeg = some j ∧ K (pc + 1) lc (.ref j :: r) w u
    | _ => False)
  | .iastore => (match st with
    | .int y :: .int i :: .ref q :: r => am_ar w q 1 fun n => vp_in i n ∧ K (pc + 1) lc r (am_wC w (am_u2 w.2.2.1 q i.toNatClampNeg y)) u
    | _ => False)
  | .castore => (match st with
    | .int y :: .int i :: .ref q :: r => am_ar w q 0 fun n => vp_in i n ∧ K (pc + 1) lc r (am_wC w (am_u2 w.2.2.1 q i.toNatClampNeg (vp_nar .char y))) u
    | _ => False)
  | .bastore => (match st with
    | .int y :: .int i :: .ref q :: r => am_ar w q 2 fun n => vp_in i n ∧ K (pc + 1) lc r (am_wC w (am_u2 w.2.2.1 q i.toNatClampNeg (vp_nar .boolean y))) u
    | _ => False)
  | .aastore => (match st with
    | .ref j :: .int i :: .ref q :: r => am_ar w q 3 fun n => vp_in i n ∧ am_ob w j 3 (K (pc + 1) lc r (am_wF w (am_uF w.2.2.2 q i.toNatClampNeg (some j))) u)
    | _ => False)
  | .new _ => am_room (u.1 + 1, u.2 + f) cap (K (pc + 3) lc (.ref w.1 :: st) (am_wN w (0, a)) (u.1 + 1, u.2 + f))
  | .newarray _ => am_i st fun y r => y = v ∧ am_room (u.1 + 1, u.2 + a) cap (K (pc + 2) lc (.ref w.1 :: r) (am_wN w (b + 1, a)) (u.1 + 1, u.2 + a))
  | .anewarray _ => am_i st fun y r => y = v ∧ am_room (u.1 + 1, u.2 + a) cap (K (pc + 3) lc (.ref w.1 :: r) (am_wN w (4, a)) (u.1 + 1, u.2 + a))
  | .invokevirtual _ => am_pop (mN a) st [] fun av r => (match r with
    | .ref i :: r => am_ob w i b (am_cs8 r (am_cf f d a (.ref i :: av) w fun y w' => K (pc + 3) lc (y.toList ++ r) w' u))
    | _ => False)
  | .invokestatic _ => (match b with
    | 2 => (match d, st with
      | _ + 1, .int n :: .int dp :: .ref q1 :: .int sp :: .ref q0 :: r => am_cpa w q0 q1 fun t n0 n1 => am_cs8 r (¬ sp < 0 ∧ ¬ dp < 0 ∧ ¬ n < 0 ∧ sp.toNatClampNeg + n.toNatClampNeg ≤ n0 ∧ dp.toNatClampNeg + n.toNatClampNeg ≤ n1 ∧ am_cpf t w q0 sp n (K (pc + 3) lc r (am_wC w (am_uR w.2.2.1 q1 (va_cpy (w.2.2.1 q0) (w.2.2.1 q1) sp.toNatClampNeg dp.toNatClampNeg n.toNatClampNeg))) u))
      | _, _ => False)
    | 3 => (match d, st with
      | _ + 1, .int z :: .int y :: r => am_cs8 r (K (pc + 3) lc (.int (if y < z then z else y) :: r) w u)
      | _, _ => False)
    | 4 => (match d, st with
      | _ + 1, .int y :: r => am_cs8 r (K (pc + 3) lc (.int (if 0 ≤ y then y else 0 - y) :: r) w u)
      | _, _ => False)
    | 5 => am_pop (mN a) st [] fun av r => am_cs8 r (am_room (u.1 + mC a, u.2 + mS a) cap (am_cf f d a av w fun y w' => K (pc + 3) lc (y.toList ++ r) w' (u.1 + mC a, u.2 + mS a)))
    | 6 => (match sx with
      | some (L, xs) => am_pop (mN a) st [] fun av r => am_cs8 r (am_cx L xs d a av w fun y w' => K (pc + 3) lc (y.toList ++ r) w' u)
      | none => False)
    | _ => am_pop (mN a) st [] fun av r => am_cs8 r (am_cf f d a av w fun y w' => K (pc + 3) lc (y.toList ++ r) w' u))
  | .invokespecial _ => (match b with
    | 2 => (match d, st with
      | _ + 1, .ref _ :: r => am_cs8 r (K (pc + 3) lc r w u)
      | _, _ => False)
    | _ => am_pop (mN a) st [] fun av r => (match r with
      | .ref i :: r => am_cs8 r (am_room (u.1 + mC a, u.2 + mS a) cap (am_cf 0 d a (.ref i :: av) w fun y w' => K (pc + 3) lc (y.toList ++ r) w' (u.1 + mC a, u.2 + mS a)))
      | _ => False))
  | .ireturn => (match st with
    | [.int y] => (match f with
      | 0 => R (some (.int y)) w
      | _ => (y = 0 ∨ y = 1) ∧ R (some (.int y)) w)
    | _ => False)
  | .return_ => (match st with
    | [] => R none w
    | _ => False)
  | _ => False

def am_al (f : Value → Value) : Nat → aL → List (Nat × Value)
  | _, [] => []
  | i, none :: t => am_al f (i + 1) t
  | i, some v :: t => (i, f v) :: am_al f (i + 1) t
/-- the frame of a running method k, in the depth d -/
def am_Fx (d k : Nat) (p : Program) (R : Room) (s : State) (m : MethodId) (args : Array Value) (meth : Method) (c : Code) : Prop :=
  p.tables.exec = Jvm.exec ∧ c.code = mB k ∧ c.maxLocals = mL k ∧ s.vm.findClass (mY k).cls = some m.cls ∧ (∀ w ∈ am_tbl, w.before args s = true) ∧ (d ≤ R.frames ∧ 40 * d ≤ R.locals ∧ R.cells = mC k ∧ R.slots = mS k) ∧ ((mY k).name = "<init>" → meth.name = "<init>")
def am_Sx (sx : Option (Nat × (Nat → Int32))) (base b : Nat) (s : State) : Prop := match sx with
  | some (L, xs) => va_X b L xs s s.heap ∧ b < s.heap.size ∧ b < base
  | none => True
/-- what a frame's return needs: the instruction, and that the value is of the returned type -/
def am_Ri (k pc : Nat) (r : Option Value) : Prop := match r with
  | none => decode (mB k) pc = .ok (.return_, 1) ∧ mR k = none
  | some (.int x) => decode (mB k) pc = .ok (.ireturn, 1) ∧ ∃ ty, mR k = some ty ∧ narrow ty (.int x) = .int x
  | _ => False
/-- method k, at pc, with these locals and this stack, in the world w: it comes to its end, and Post holds -/
def am_At (d k : Nat) (sx : Option (Nat × (Nat → Int32))) (Post : Option Value → aW → Prop) (pc : Nat) (lc : aL) (st : List Value) (w : aW) (u : Nat × Nat) : Prop :=
  ∀ (p : Program) (l : Launch) (e : Env) (R : Room) (s : State) (m : MethodId) (args : Array Value) (below : List Frame) (meth : Method) (c : Code) (D : va_G) (ty : Nat → ClassId) (base b t0 : Nat) (Q : State → Prop),
    am_Fx d k p R s m args meth c → am_En D ty base t0 s s.heap → am_Sx sx base b s → base ≤ s.heap.size →
    (∀ (r : Option Value) (w' : aW) (u' : Nat × Nat) (H : Heap) (locs : List Loc) (ls : Array Slot) (pc' : Nat), Post r w' → s.heap.size + u'.1 = base + w'.1 → u'.1 ≤ mC k → u'.2 ≤ mS k → va_P D vwCl (am_ws base ty w') H → va_S (am_A base) s.heap H locs → am_Ri k pc' r →
      W p l e R s m args below meth c H locs u'.1 u'.2 Q (F0 m pc' ls (r.map (am_cv base b t0)).toList)) →
    ∀ (H : Heap) (locs : List Loc) (ls : Array Slot), s.heap.size + u.1 = base + w.1 → u.1 ≤ mC k → u.2 ≤ mS k → va_P D vwCl (am_ws base ty w) H → va_S (am_A base) s.heap H locs → lc.length = mL k → lv_has ls (mL k) (am_al (am_cv base b t0) 0 lc) →
      W p l e R s m args below meth c H locs u.1 u.2 Q (F0 m pc ls (st.map (am_cv base b t0)))
end
section
/-! what is checked of the rows, by program -/
def am_wd (c : Nat) (w : Cond) : Bool := decide (lw_tbl[c]? = some w) && goodWord w
theorem am_wd_ok {c : Nat} {w : Cond} (h : am_wd c w = true) : w ∈ am_tbl := by
  simp only [am_wd, Bool.and_eq_true, decide_eq_true_eq] at h
  exact List.mem_filter.mpr ⟨List.mem_of_getElem? h.1, h.2⟩
def am_in (w : Cond) : Bool := decide (w ∈ lw_tbl) && goodWord w
theorem am_in_ok {w : Cond} (h : am_in w = true) : w ∈ am_tbl := by
  simp only [am_in, Bool.and_eq_true, decide_eq_true_eq] at h
  exact List.mem_filter.mpr h
theorem am_tbl_good : ∀ w ∈ am_tbl, (w.onTables && w.keeps) = true ∨ ∃ ty, w = .arrayClass ty := fun w h => good_of_word (List.mem_filter.mp h).2
/-- a method that may be called; q: its number, the places of .initialized, .instanceMethod or .static, .selects -/
def am_okC (q : Nat × Nat × Nat × Nat) : Bool := am_wd q.2.1 (.initialized (mY q.1).cls) && decide ((mY q.1).cls ≠ "java/lang/invoke/MethodHandle") && decide ((mY q.1).cls ≠ "java/lang/invoke/VarHandle") &&
  decide ((parseMethodDescriptor (mY q.1).desc).map (fun d => d.parameters.length) = some (mN q.1)) && Nat.ble (mL q.1) 21 && Nat.blt q.1 173 && plainFor (mY q.1)
def am_okV (q : Nat × Nat × Nat × Nat) : Bool := am_okC q && am_wd q.2.2.1 (.instanceMethod (mY q.1)) && am_wd q.2.2.2 (.selects (mY q.1).cls (mY q.1) (mY q.1)) && Nat.beq (mC q.1) 0 && Nat.beq (mS q.1) 0
def am_okS (q : Nat × Nat × Nat × Nat) : Bool := am_okC q && am_wd q.2.2.1 (.static (mY q.1)) && Nat.beq (mC q.1) 0 && Nat.beq (mS q.1) 0
def am_okZ (q : Nat × Nat × Nat × Nat) : Bool := am_okC q && am_wd q.2.2.1 (.static (mY q.1))
def am_okI (q : Nat × Nat × Nat × Nat) : Bool := am_okC q && am_wd q.2.2.1 (.instanceMethod (mY q.1)) && decide ((mY q.1).name = "<init>") && decide (mR q.1 = none)
set_option maxRecDepth 100000 in
theorem am_codes : (List.range 173).map (fun a => lw_tbl[mP a]?) = (List.range 173).map (fun a => some (Cond.code (mY a) (mB a) (mL a) (mR a))) := rfl
def am_Vs : List (Nat × Nat × Nat × Nat) := [(1, 17, 190, 191), (2, 17, 528, 529), (3, 17, 195, 0), (14, 19, 224, 225), (15, 19, 229, 1), (16, 19, 278, 3), (17, 19, 286, 4), (18, 19, 281, 282), (19, 19, 456, 457), (20, 19, 452, 453), (21, 19, 321, 7), (22, 19, 474, 475), (23, 19, 316, 317), (24, 19, 412, 413), (25, 19, 305, 306), (26, 19, 508, 509), (27, 19, 495, 496), (28, 19, 500, 11), (29, 19, 505, 12), (31, 15, 198, 199), (32, 15, 209, 210), (33, 15, 218, 219), (34, 15, 253, 254), (35, 15, 244, 245), (36, 15, 382, 383), (37, 15, 387, 388), (38, 15, 404, 405), (39, 15, 416, 417), (40, 15, 257, 258), (41, 15, 249, 250), (42, 15, 235, 236), (43, 15, 240, 2), (44, 15, 302, 6), (45, 15, 297, 298), (46, 15, 331, 332), (47, 15, 335, 336), (48, 15, 339, 340), (49, 15, 348, 349), (51, 14, 185, 186), (52, 14, 205, 206), (53, 14, 369, 370), (55, 14, 391, 392), (56, 14, 395, 396), (57, 14, 400, 401), (58, 14, 408, 409), (59, 14, 420, 421), (60, 14, 424, 425), (61, 14, 428, 429), (64, 14, 524, 525), (67, 14, 435, 436), (68, 14, 214, 215), (69, 14, 442, 443), (70, 14, 448, 449), (71, 14, 516, 517), (72, 14, 491, 492), (73, 14, 327, 328), (74, 14, 512, 513), (81, 14, 291, 5), (82, 14, 344, 8), (83, 14, 461, 9), (84, 14, 471, 10)]
def am_Ss : List (Nat × Nat × Nat × Nat) := [(75, 14, 373, 0), (76, 14, 376, 0), (77, 14, 379, 0), (78, 14, 232, 0), (79, 14, 261, 0), (158, 22, 309, 0), (159, 21, 267, 0), (160, 21, 274, 0), (163, 16, 38, 0), (165, 13, 355, 0), (166, 13, 362, 0), (167, 13, 359, 0), (168, 13, 484, 0), (169, 13, 481, 0), (171, 13, 487, 0), (172, 13, 521, 0)]
def am_Zs : List (Nat × Nat × Nat × Nat) := [(170, 13, 432, 0)]
def am_Xs : List (Nat × Nat × Nat × Nat) := [(164, 13, 352, 0)]
def am_Is : List (Nat × Nat × Nat × Nat) := [(0, 17, 91, 0), (4, 18, 108, 0), (13, 19, 138, 0), (30, 15, 34, 0), (50, 14, 26, 0)]
set_option maxRecDepth 100000 in
theorem am_Vs_ok : am_Vs.all am_okV = true := by decide +kernel
set_option maxRecDepth 100000 in
theorem am_Ss_ok : am_Ss.all am_okS = true := by decide +kernel
set_option maxRecDepth 100000 in
theorem am_Zs_ok : am_Zs.all am_okZ = true := by decide +kernel
set_option maxRecDepth 100000 in
theorem am_Xs_ok : am_Xs.all am_okS = true := by decide +kernel
set_option maxRecDepth 100000 in
theorem am_Is_ok : am_Is.all am_okI = true := by decide +kernel
def am_has (l : List (Nat × Nat × Nat × Nat)) (a : Nat) : Bool := l.any (fun q => Nat.beq q.1 a)
def am_len : Instr → Nat → Nat
  | .bipush _, _ => 2 | .sipush _, _ => 3 | .ldc _, _ => 2 | .ldc_w _, _ => 3 | .ldc2_w _, _ => 3
  | .iload _, _ => 2 | .lload _, _ => 2 | .aload _, _ => 2 | .istore _, _ => 2 | .lstore _, _ => 2 | .astore _, _ => 2 | .iinc _ _, _ => 3
  | .ifCond _ _, _ => 3 | .if_icmp _ _, _ => 3 | .goto _, _ => 3 | .tableswitch _ _ _ _, n => n | .lookupswitch _ _, n => n
  | .getfield _, _ => 3 | .putfield _, _ => 3 | .getstatic _, _ => 3 | .new _, _ => 3 | .newarray _, _ => 2 | .anewarray _, _ => 3
  | .invokevirtual _, _ => 3 | .invokestatic _, _ => 3 | .invokespecial _, _ => 3
  | _, _ => 1
def am_tsw (pc : Nat) (lo : Int) (offs : Array Int) : Nat → List (Int32 × Nat) → Bool
  | _, [] => true
  | j, q :: t => decide (q.1.toInt = lo + j) && (match offs[j]? with
    | some o => decide ((pc : Int) + o = (q.2 : Int))
    | none => false) && am_tsw pc lo offs (j + 1) t
def am_aty (t : ArrayType) : Nat := match t with
  | .char => 0
  | .int => 1
  | .boolean => 2
  | _ => 9
def am_num (v : Int32) (a z : Nat) : Bool := decide (¬ v < 0) && decide (v.toNatClampNeg = a) && Nat.ble (a * z) 536870912
def am_cls (a : Nat) : vw_C := vwCl.getD a ("", fun _ => ("", "", "", false), 0)
def am_fin (k : Nat) (q : String × String × String × Bool) : Bool := !q.2.2.2 || (decide ((mY k).name = "<init>") && decide (q.1 = (mY k).cls))
def am_fty (f : Nat) (desc : String) : Bool := match f, parseFieldDescriptor desc with
  | 0, some .int => true
  | 1, some (.object _) => true
  | 1, some (.array _) => true
  | 2, some .boolean => true
  | _, _ => false
def am_ckf (k i a b c f : Nat) : Bool := Nat.blt a 5 && Nat.blt b (am_cls a).2.2 && am_wd c (.fieldLink (mY k).cls i ((am_cls a).2.1 b).1 ((am_cls a).2.1 b).2.1 ((am_cls a).2.1 b).2.2.1) && am_fty f ((am_cls a).2.1 b).2.2.1 && decide ((am_fk a)[b]? = some (Nat.beq f 1))
set_option maxRecDepth 100000 in
theorem am_mx : lw_tbl[479]? = some (Cond.code Lib.Math.max.name Lib.Math.max.code 2 (some .int)) := rfl
set_option maxRecDepth 100000 in
theorem am_ma : lw_tbl[325]? = some (Cond.code Lib.Math.abs.name Lib.Math.abs.code 1 (some .int)) := rfl
theorem am_mm : (am_wd 478 (.static Lib.Math.max.name) && am_wd 324 (.static Lib.Math.abs.name) && am_wd 21 (.initialized "java/lang/Math")) = true := by decide +kernel
def am_isC : Bool := am_wd 203 (.native arraycopyName) && am_wd 202 (.static arraycopyName) && am_wd 20 (.initialized "java/lang/System")
set_option maxRecDepth 100000 in
theorem am_oc : lw_tbl[30]? = some (Cond.code objectInit ⟨#[0xb1]⟩ 1 none) := rfl
def am_isO : Bool := am_wd 29 (.instanceMethod objectInit) && true
theorem am_isC_ok : am_isC = true := by decide +kernel
theorem am_isO_ok : am_isO = true := by decide +kernel
def am_ck3 (k : Nat) (x : aI) : Bool :=
  match x with
  | (pc, ins, _, a, b, c, f, v, l, sw) =>
  match ins with
  | .iconst n => decide (Int32.ofInt n = v)
  | .bipush n => decide ((Int8.ofInt n).toInt32 = v)
  | .sipush n => decide ((Int16.ofInt n).toInt32 = v)
  | .ldc i => am_wd c (.constant (mY k).cls i v)
  | .ldc_w i => am_wd c (.constant (mY k).cls i v)
  | .ldc2_w i => am_wd c (.constantLong (mY k).cls i l)
  | .istore_n j => Nat.blt j.val (mL k)
  | .istore j => Nat.blt j (mL k)
  | .astore_n j => Nat.blt j.val (mL k)
  | .astore j => Nat.blt j (mL k)
  | .lstore_n j => Nat.blt (j.val + 1) (mL k)
  | .lstore j => Nat.blt (j + 1) (mL k)
  | .iinc j n => Nat.blt j (mL k) && decide (Int32.ofInt n = v)
  | .ifCond _ off => decide ((pc : Int) + off = (a : Int))
  | .if_icmp _ off => decide ((pc : Int) + off = (a : Int))
  | .goto off => decide ((pc : Int) + off = (a : Int))
  | .tableswitch d lo hi offs => decide ((pc : Int) + d = (a : Int)) && decide (hi = lo + (sw.length : Int) - 1) && am_tsw pc lo offs 0 sw
  | .lookupswitch d ps => decide ((pc : Int) + d = (a : Int)) && (ps.toList.zip (ps.toList.drop 1)).all (fun q => decide (q.1.1 < q.2.1)) && decide (ps.toList.map (fun q => (q.1, (pc : Int) + q.2)) = sw.map (fun q => (q.1.toInt, (q.2 : Int))))
  | .getfield i => am_ckf k i a b c f
  | .putfield i => am_ckf k i a b c f && am_fin k ((am_cls a).2.1 b)
  | .getstatic i => am_wd c (.fieldLink (mY k).cls i "FaceRounds" "SINES" "[I")
  | .new i => Nat.blt a 5 && am_wd c (.classLink (mY k).cls i (am_cls a).1) && Nat.beq f (am_cls a).2.2 && am_wd v.toNatClampNeg (.instantiable (am_cls a).1 f) && am_wd b (.initialized (am_cls a).1)
  | .newarray t => am_wd c (.arrayClass (newarray.typeOf t)) && Nat.beq (am_aty t) b && Nat.blt b 3 && am_num v a (componentBytes (newarray.typeOf t))
  | .anewarray i => am_wd c (.classLink (mY k).cls i "FaceRounds$State") && Nat.beq b 3 && am_num v a 4
  | .invokevirtual i => am_has am_Vs a && am_wd c (.methodLink (mY k).cls i (mY a)) && Nat.blt b 5 && decide ((am_cls b).1 = (mY a).cls) && (match f with
    | 0 => decide (mR a = none)
    | _ => !decide (mR a = none))
  | .invokestatic i => (match b with
    | 2 => am_wd c (.methodLink (mY k).cls i arraycopyName) && am_isC
    | 3 => am_wd c (.methodLink (mY k).cls i Lib.Math.max.name)
    | 4 => am_wd c (.methodLink (mY k).cls i Lib.Math.abs.name)
    | 1 => am_has am_Ss a && decide (am_nest[c]? = some (.methodLinkNest (mY k).cls i (mY a) "FaceRounds"))
    | 5 => am_has am_Zs a && am_wd c (.methodLink (mY k).cls i (mY a))
    | 6 => am_has am_Xs a && am_wd c (.methodLink (mY k).cls i (mY a))
    | _ => am_has am_Ss a && am_wd c (.methodLink (mY k).cls i (mY a)))
  | .invokespecial i => (match b with
    | 2 => am_wd c (.methodLink (mY k).cls i objectInit) && am_isO
    | 1 => am_has am_Is a && decide (am_nest[c]? = some (.methodLinkNest (mY k).cls i (mY a) "FaceRounds"))
    | _ => am_has am_Is a && am_wd c (.methodLink (mY k).cls i (mY a)))
  | .ireturn => (match mR k with
    | some .int => true
    | some .boolean => Nat.beq f 1
    | _ => false)
  | .return_ => decide (mR k = none)
  | _ => true
def am_ck (k : Nat) (x : aI) : Bool := decide (decode (mB k) x.1 = .ok (x.2.1, x.2.2.1)) && Nat.beq x.2.2.1 (am_len x.2.1 x.2.2.1) && am_ck3 k x
theorem am_ck_ok {k : Nat} {x : aI} (h : am_ck k x = true) : decode (mB k) x.1 = .ok (x.2.1, am_len x.2.1 x.2.2.1) ∧ am_ck3 k x = true := by
  simp only [am_ck, Bool.and_eq_true, decide_eq_true_eq] at h
  obtain ⟨⟨h1, h2⟩, h3⟩ := h
  rw [Nat.eq_of_beq_eq_true h2] at h1
  exact ⟨h1, h3⟩
end
section
/-! locals -/
theorem am_al_mem {f : Value → Value} : ∀ {lc : aL} {i j : Nat} {x : Value}, (j, x) ∈ am_al f i lc → ∃ v, i ≤ j ∧ am_nth lc (j - i) = some v ∧ x = f v
  | [], i, j, x, h => by simp [am_al] at h
  | none :: t, i, j, x, h => by
    obtain ⟨v, h1, h2, h3⟩ := am_al_mem (lc := t) (i := i + 1) h
    refine ⟨v, by omega, ?_, h3⟩
    rw [show j - i = (j - (i + 1)) + 1 by omega]
    exact h2
  | some w :: t, i, j, x, h => by
    rcases List.mem_cons.mp h with h | h
    · cases h
      exact ⟨w, Nat.le_refl _, by rw [Nat.sub_self]; rfl, rfl⟩
    · obtain ⟨v, h1, h2, h3⟩ := am_al_mem (lc := t) (i := i + 1) h
      refine ⟨v, by omega, ?_, h3⟩
      rw [show j - i = (j - (i + 1)) + 1 by omega]
      exact h2
theorem am_al_of {f : Value → Value} : ∀ {lc : aL} {i j : Nat} {v : Value}, am_nth lc j = some v → (i + j, f v) ∈ am_al f i lc
  | [], i, j, v, h => by simp [am_nth] at h
  | none :: t, i, j, v, h => by
    cases j with
    | zero => cases h
    | succ j =>
      have h1 := am_al_of (f := f) (lc := t) (i := i + 1) (j := j) (v := v) h
      rw [show i + (j + 1) = i + 1 + j by omega]
      exact h1
  | some w :: t, i, j, v, h => by
    cases j with
    | zero =>
      cases h
      exact List.mem_cons_self
    | succ j =>
      have h1 := am_al_of (f := f) (lc := t) (i := i + 1) (j := j) (v := v) h
      rw [show i + (j + 1) = i + 1 + j by omega]
      exact List.mem_cons_of_mem _ h1
theorem am_rd {ls : Array Slot} {n : Nat} {f : Value → Value} {lc : aL} {i : Nat} {v : Value} (h : lv_has ls n (am_al f 0 lc)) (hv : am_nth lc i = some v) : ls[i]? = some (.val (f v)) := by
  have h1 := h.2.2 _ (am_al_of (f := f) (i := 0) hv)
  rwa [Nat.zero_add] at h1
theorem am_up_len : ∀ (lc : aL) (i : Nat) (v : Option Value), (am_up lc i v).length = lc.length
  | [], _, _ => rfl
  | _ :: _, 0, _ => rfl
  | _ :: t, i + 1, v => by simp [am_up, am_up_len t i v]
theorem am_up_ne : ∀ (lc : aL) (i j : Nat) (v : Option Value), j ≠ i → am_nth (am_up lc i v) j = am_nth lc j
  | [], _, _, _, _ => rfl
  | o :: t, 0, 0, v, h => absurd rfl h
  | o :: t, 0, j + 1, v, h => rfl
  | o :: t, i + 1, 0, v, h => rfl
  | o :: t, i + 1, j + 1, v, h => am_up_ne t i j v (by omega)
theorem am_up_eq : ∀ (lc : aL) (i : Nat) (v : Option Value) (w : Value), am_nth (am_up lc i v) i = some w → v = some w
  | [], _, _, _, h => by simp [am_up, am_nth] at h
  | o :: t, 0, v, w, h => h
  | o :: t, i + 1, v, w, h => am_up_eq t i v w h
theorem am_cv_cat (base b t0 : Nat) (v : Value) : (am_cv base b t0 v).category = v.category := by
  cases v with
  | retAddr q => cases q <;> rfl
  | _ => rfl
theorem am_wr1 {ls' : Array Slot} {n : Nat} {base b t0 : Nat} {lc : aL} {i : Nat} {v : Value} (hn : am_nl lc i = true)
    (h : lv_has ls' n ((i, am_cv base b t0 v) :: (am_al (am_cv base b t0) 0 lc).filter (fun q => !(q.1 == i) && !(q.1 + 1 == i && q.2.category == 2)))) : lv_has ls' n (am_al (am_cv base b t0) 0 (am_up lc i (some v))) := by
  refine ⟨h.1, h.2.1, fun q hq => h.2.2 q ?_⟩
  obtain ⟨j, x⟩ := q
  obtain ⟨w, -, h2, rfl⟩ := am_al_mem hq
  rw [Nat.sub_zero] at h2
  by_cases hj : j = i
  · subst hj
    cases am_up_eq _ _ _ _ h2
    exact List.mem_cons_self
  · rw [am_up_ne _ _ _ _ hj] at h2
    refine List.mem_cons_of_mem _ (List.mem_filter.mpr ⟨?_, ?_⟩)
    · have h3 := am_al_of (f := am_cv base b t0) (i := 0) h2
      rwa [Nat.zero_add] at h3
    · simp only [Bool.and_eq_true, Bool.not_eq_true', beq_eq_false_iff_ne, ne_eq, Bool.and_eq_false_iff]
      refine ⟨hj, ?_⟩
      by_cases hji : j + 1 = i
      · right
        subst hji
        rw [am_cv_cat]
        simp only [am_nl, h2] at hn
        cases w <;> simp [Value.category] at hn ⊢
      · exact Or.inl hji
theorem am_wr2 {ls' : Array Slot} {n : Nat} {base b t0 : Nat} {lc : aL} {i : Nat} {x : Int64} (hn : am_nl lc i = true)
    (h : lv_has ls' n ((i, .long x) :: (am_al (am_cv base b t0) 0 lc).filter (fun q => !(q.1 == i) && (!(q.1 == i + 1) && !(q.1 + 1 == i && q.2.category == 2))))) : lv_has ls' n (am_al (am_cv base b t0) 0 (am_up (am_up lc i (some (.long x))) (i + 1) none)) := by
  refine ⟨h.1, h.2.1, fun q hq => h.2.2 q ?_⟩
  obtain ⟨j, y⟩ := q
  obtain ⟨w, -, h2, rfl⟩ := am_al_mem hq
  rw [Nat.sub_zero] at h2
  by_cases hj1 : j = i + 1
  · subst hj1
    exact absurd (am_up_eq _ _ _ _ h2) (by simp)
  · rw [am_up_ne _ _ _ _ hj1] at h2
    by_cases hj : j = i
    · subst hj
      cases am_up_eq _ _ _ _ h2
      exact List.mem_cons_self
    · rw [am_up_ne _ _ _ _ hj] at h2
      refine List.mem_cons_of_mem _ (List.mem_filter.mpr ⟨?_, ?_⟩)
      · have h3 := am_al_of (f := am_cv base b t0) (i := 0) h2
        rwa [Nat.zero_add] at h3
      · simp only [Bool.and_eq_true, Bool.not_eq_true', beq_eq_false_iff_ne, ne_eq, Bool.and_eq_false_iff]
        refine ⟨hj, hj1, ?_⟩
        by_cases hji : j + 1 = i
        · right
          subst hji
          rw [am_cv_cat]
          simp only [am_nl, h2] at hn
          cases w <;> simp [Value.category] at hn ⊢
        · exact Or.inl hji
/-! what the small conditions say -/
theorem am_gi_ok {lc : aL} {i : Nat} {f : Int32 → Prop} (h : am_gi lc i f) : ∃ x, am_nth lc i = some (.int x) ∧ f x := by
  unfold am_gi at h
  split at h
  · exact ⟨_, by assumption, h⟩
  · exact h.elim
theorem am_gl_ok {lc : aL} {i : Nat} {f : Int64 → Prop} (h : am_gl lc i f) : ∃ x, am_nth lc i = some (.long x) ∧ f x := by
  unfold am_gl at h
  split at h
  · exact ⟨_, by assumption, h⟩
  · exact h.elim
theorem am_ga_ok {lc : aL} {i : Nat} {f : Value → Prop} (h : am_ga lc i f) : ∃ x, am_nth lc i = some x ∧ ((∃ j, x = .ref j) ∨ ∃ j, x = .retAddr j) ∧ f x := by
  unfold am_ga at h
  split at h
  · exact ⟨_, by assumption, Or.inl ⟨_, rfl⟩, h⟩
  · exact ⟨_, by assumption, Or.inr ⟨_, rfl⟩, h⟩
  · exact h.elim
theorem am_i_ok {st : List Value} {f : Int32 → List Value → Prop} (h : am_i st f) : ∃ x r, st = .int x :: r ∧ f x r := by
  unfold am_i at h
  split at h
  · exact ⟨_, _, rfl, h⟩
  · exact h.elim
theorem am_ii_ok {st : List Value} {f : Int32 → Int32 → List Value → Prop} (h : am_ii st f) : ∃ x y r, st = .int y :: .int x :: r ∧ f x y r := by
  unfold am_ii at h
  split at h
  · exact ⟨_, _, _, rfl, h⟩
  · exact h.elim
theorem am_l_ok {st : List Value} {f : Int64 → List Value → Prop} (h : am_l st f) : ∃ x r, st = .long x :: r ∧ f x r := by
  unfold am_l at h
  split at h
  · exact ⟨_, _, rfl, h⟩
  · exact h.elim
theorem am_ll_ok {st : List Value} {f : Int64 → Int64 → List Value → Prop} (h : am_ll st f) : ∃ x y r, st = .long y :: .long x :: r ∧ f x y r := by
  unfold am_ll at h
  split at h
  · exact ⟨_, _, _, rfl, h⟩
  · exact h.elim
theorem am_a_ok {st : List Value} {f : Value → List Value → Prop} (h : am_a st f) : ∃ x r, st = x :: r ∧ ((∃ j, x = .ref j) ∨ ∃ j, x = .retAddr j) ∧ f x r := by
  unfold am_a at h
  split at h
  · exact ⟨_, _, rfl, Or.inl ⟨_, rfl⟩, h⟩
  · exact ⟨_, _, rfl, Or.inr ⟨_, rfl⟩, h⟩
  · exact h.elim
theorem am_sv_ok {lc : aL} {i : Nat} {v : Value} {f : aL → Prop} (h : am_sv lc i v f) : am_nl lc i = true ∧ f (am_up lc i (some v)) := by
  unfold am_sv at h
  split at h
  · exact ⟨by assumption, h⟩
  · exact h.elim
theorem am_sl_ok {lc : aL} {i : Nat} {x : Int64} {f : aL → Prop} (h : am_sl lc i x f) : am_nl lc i = true ∧ f (am_up (am_up lc i (some (.long x))) (i + 1) none) := by
  unfold am_sl at h
  split at h
  · exact ⟨by assumption, h⟩
  · exact h.elim
theorem am_room_ok {u cap : Nat × Nat} {f : Prop} (h : am_room u cap f) : u.1 ≤ cap.1 ∧ u.2 ≤ cap.2 ∧ f := by
  unfold am_room at h
  split at h
  · rename_i hb
    simp only [Bool.and_eq_true] at hb
    exact ⟨Nat.le_of_ble_eq_true hb.1, Nat.le_of_ble_eq_true hb.2, h⟩
  · exact h.elim
theorem am_ob_ok {w : aW} {i ci : Nat} {f : Prop} (h : am_ob w i ci f) : i < w.1 ∧ w.2.1 i = (0, ci) ∧ f := by
  unfold am_ob at h
  split at h
  · rename_i c hb he
    split at h
    · rename_i hc
      refine ⟨by simpa using hb, ?_, h⟩
      rw [he, Nat.eq_of_beq_eq_true hc]
    · exact h.elim
  · exact h.elim
theorem am_ar_ok {w : aW} {i t : Nat} {f : Nat → Prop} (h : am_ar w i t f) : ∃ n, i < w.1 ∧ w.2.1 i = (t + 1, n) ∧ f n := by
  unfold am_ar at h
  split at h
  · rename_i t' n hb he
    split at h
    · rename_i hc
      refine ⟨n, by simpa using hb, ?_, h⟩
      rw [he, Nat.eq_of_beq_eq_true hc]
    · exact h.elim
  · exact h.elim
theorem am_alen_ok {w : aW} {i : Nat} {f : Nat → Prop} (h : am_alen w i f) : ∃ t n, i < w.1 ∧ w.2.1 i = (t + 1, n) ∧ t < 4 ∧ f n := by
  unfold am_alen at h
  split at h
  · rename_i t n hb he
    split at h
    · rename_i ht
      exact ⟨t, n, by simpa using hb, he, by simpa using ht, h⟩
    · exact h.elim
  · exact h.elim
theorem am_cpa_ok {w : aW} {q0 q1 : Nat} {f : Nat → Nat → Nat → Prop} (h : am_cpa w q0 q1 f) : ∃ t n0 n1, q0 < w.1 ∧ q1 < w.1 ∧ w.2.1 q0 = (t + 1, n0) ∧ w.2.1 q1 = (t + 1, n1) ∧ f t n0 n1 := by
  unfold am_cpa at h
  split at h
  · rename_i t0 n0 t1 n1 hb0 hb1 he0 he1
    split at h
    · rename_i hc
      have := Nat.eq_of_beq_eq_true hc
      subst this
      exact ⟨t0, n0, n1, by simpa using hb0, by simpa using hb1, he0, he1, h⟩
    · exact h.elim
  · exact h.elim
theorem am_cs_map (base b t0 : Nat) : ∀ r : List Value, ((r.map (am_cv base b t0)).map fun v => v.category).sum = am_cs r
  | [] => rfl
  | v :: r => by
    have h := am_cs_map base b t0 r
    simp only [List.map_cons, List.sum_cons, am_cv_cat]
    rw [h]
    cases v <;> simp [am_cs, Value.category] <;> omega
theorem am_cs8_ok {r : List Value} {f : Prop} (h : am_cs8 r f) : am_cs r ≤ 8 ∧ f := by
  unfold am_cs8 at h
  split at h
  · rename_i hb
    exact ⟨Nat.le_of_ble_eq_true hb, h⟩
  · exact h.elim
theorem am_pop_ok : ∀ {n : Nat} {st acc : List Value} {f : List Value → List Value → Prop}, am_pop n st acc f → ∃ av r, av.length = n ∧ st = av.reverse ++ r ∧ f (av ++ acc) r
  | 0, st, acc, f, h => ⟨[], st, rfl, rfl, h⟩
  | n + 1, [], acc, f, h => h.elim
  | n + 1, v :: st, acc, f, h => by
    obtain ⟨av, r, h1, h2, h3⟩ := am_pop_ok (n := n) (st := st) (acc := v :: acc) h
    exact ⟨av ++ [v], r, by simp [h1], by simp [h2], by simpa using h3⟩
/-! worlds -/
theorem am_ws_get {base : Nat} {ty : Nat → ClassId} {w : aW} {i : Nat} (h : i < w.1) : (am_ws base ty w)[i]? = some (base + i, am_cell base ty w i) := by
  simp [am_ws, h]
theorem am_ws_len (base : Nat) (ty : Nat → ClassId) (w : aW) : (am_ws base ty w).length = w.1 := by simp [am_ws]
theorem am_ws_set {base : Nat} {ty : Nat → ClassId} {w w' : aW} {i : Nat} {e : va_E} (h : i < w.1) (h1 : w'.1 = w.1) (he : am_cell base ty w' i = e) (ho : ∀ j, j ≠ i → am_cell base ty w' j = am_cell base ty w j) : (am_ws base ty w).set i (base + i, e) = am_ws base ty w' := by
  apply List.ext_getElem?
  intro j
  by_cases hj : j = i
  · subst hj
    rw [List.getElem?_set_self (by rw [am_ws_len]; exact h), am_ws_get (by rw [h1]; exact h), he]
  · rw [List.getElem?_set_ne (fun q => hj q.symm)]
    by_cases hl : j < w.1
    · rw [am_ws_get hl, am_ws_get (by rw [h1]; exact hl), ho j hj]
    · rw [List.getElem?_eq_none (by rw [am_ws_len]; omega), List.getElem?_eq_none (by rw [am_ws_len]; omega)]
theorem am_ws_push {base : Nat} {ty : Nat → ClassId} {w w' : aW} {e : va_E} (h1 : w'.1 = w.1 + 1) (he : am_cell base ty w' w.1 = e) (ho : ∀ j, j < w.1 → am_cell base ty w' j = am_cell base ty w j) : am_ws base ty w ++ [(base + w.1, e)] = am_ws base ty w' := by
  apply List.ext_getElem?
  intro j
  by_cases hl : j < w.1
  · rw [List.getElem?_append_left (by rw [am_ws_len]; exact hl), am_ws_get hl, am_ws_get (by omega), ho j hl]
  · rw [List.getElem?_append_right (by rw [am_ws_len]; omega), am_ws_len]
    by_cases hj : j = w.1
    · subst hj
      rw [Nat.sub_self, am_ws_get (by omega), he]
      rfl
    · rw [List.getElem?_eq_none (by simp; omega), List.getElem?_eq_none (by rw [am_ws_len]; omega)]
theorem am_ws_at {base : Nat} {ty : Nat → ClassId} {w : aW} {k : Nat} {q : Nat × va_E} (h : (am_ws base ty w)[k]? = some q) : k < w.1 ∧ q = (base + k, am_cell base ty w k) := by
  have hl := (List.getElem?_eq_some_iff.mp h).1
  rw [am_ws_len] at hl
  rw [am_ws_get hl] at h
  exact ⟨hl, (Option.some.inj h).symm⟩
theorem am_ws_D (base : Nat) (ty : Nat → ClassId) (w : aW) : va_D (am_A base) (am_ws base ty w) := by
  refine ⟨fun i j p q hi hj hpq => ?_, fun k q hk => ?_⟩
  · obtain ⟨-, rfl⟩ := am_ws_at hi
    obtain ⟨-, rfl⟩ := am_ws_at hj
    have : base + i = base + j := hpq
    omega
  · obtain ⟨-, rfl⟩ := am_ws_at hk
    exact Nat.le_add_right _ _
theorem am_ws_size {D : va_G} {base : Nat} {ty : Nat → ClassId} {w : aW} {H : Heap} (h : va_P D vwCl (am_ws base ty w) H) (hb : base ≤ H.size) : base + w.1 ≤ H.size := by
  by_cases h0 : w.1 = 0
  · omega
  · have := (h (w.1 - 1) _ (am_ws_get (by omega))).lt
    have h2 : base + (w.1 - 1) < H.size := this
    omega
theorem am_cell_ob {base : Nat} {ty : Nat → ClassId} {w : aW} {i ci : Nat} (h : w.2.1 i = (0, ci)) : am_cell base ty w i = .inr (ci, am_fl (am_fv base w i) 0 (am_fk ci)) := by
  unfold am_cell
  rw [h]
theorem am_cell_ar {base : Nat} {ty : Nat → ClassId} {w : aW} {i t n : Nat} (h : w.2.1 i = (t + 1, n)) (ht : t ≠ 3) : am_cell base ty w i = .inl (ty t, n, .inl (w.2.2.1 i)) := by
  unfold am_cell
  rw [h]
  have : Nat.beq t 3 = false := by
    cases hb : Nat.beq t 3 with
    | false => rfl
    | true => exact absurd (Nat.eq_of_beq_eq_true hb) ht
  simp only [this]
theorem am_cell_aq {base : Nat} {ty : Nat → ClassId} {w : aW} {i n : Nat} (h : w.2.1 i = (4, n)) : am_cell base ty w i = .inl (ty 3, n, .inr (.inr (.inr (.inr (fun j => (w.2.2.2 i j).map (base + ·)))))) := by
  unfold am_cell
  rw [h]
theorem am_fl_get (f : Nat → Bool → Value) : ∀ (l : List Bool) (k j : Nat) (r : Bool), l[j]? = some r → (am_fl f k l)[j]? = some (f (k + j) r)
  | [], k, j, r, h => by simp at h
  | x :: t, k, 0, r, h => by
    simp only [List.getElem?_cons_zero, Option.some.injEq] at h
    subst h
    rfl
  | x :: t, k, j + 1, r, h => by
    rw [List.getElem?_cons_succ] at h
    have h1 := am_fl_get f t (k + 1) j r h
    rw [show k + (j + 1) = k + 1 + j by omega, ← h1]
    rfl
theorem am_fl_len (f : Nat → Bool → Value) : ∀ (l : List Bool) (k : Nat), (am_fl f k l).length = l.length
  | [], _ => rfl
  | _ :: t, k => by simp [am_fl, am_fl_len f t (k + 1)]
theorem am_fl_set {f g : Nat → Bool → Value} : ∀ (l : List Bool) (k j : Nat) (r : Bool) (v : Value), l[j]? = some r → g (k + j) r = v → (∀ i b, i ≠ k + j → g i b = f i b) → (am_fl f k l).set j v = am_fl g k l
  | [], k, j, r, v, h, _, _ => by simp at h
  | x :: t, k, 0, r, v, h, hv, ho => by
    simp only [List.getElem?_cons_zero, Option.some.injEq] at h
    subst h
    show v :: am_fl f (k + 1) t = g k x :: am_fl g (k + 1) t
    rw [Nat.add_zero] at hv ho
    rw [hv]
    congr 1
    have : ∀ (l : List Bool) (m : Nat), k < m → am_fl f m l = am_fl g m l := by
      intro l
      induction l with
      | nil => intro m _; rfl
      | cons y l ih =>
        intro m hm
        show f m y :: am_fl f (m + 1) l = g m y :: am_fl g (m + 1) l
        rw [ho m y (by omega), ih (m + 1) (by omega)]
    exact this t (k + 1) (by omega)
  | x :: t, k, j + 1, r, v, h, hv, ho => by
    rw [List.getElem?_cons_succ] at h
    show f k x :: (am_fl f (k + 1) t).set j v = g k x :: am_fl g (k + 1) t
    rw [ho k x (by omega), am_fl_set t (k + 1) j r v h (by rw [← hv]; congr 1; omega) (fun i b hi => ho i b (by omega))]
/-- the stand's count of new cells bounds the heap -/
theorem am_size {p : Program} {l : Launch} {e : Env} {R : Room} {s : State} {m : MethodId} {args : Array Value} {below : List Frame} {meth : Method} {c : Code} {H : Heap} {locs : List Loc} {cells slots : Nat} {Q : State → Prop} {g : JFrame}
    (h : H.size ≤ s.heap.size + cells → W p l e R s m args below meth c H locs cells slots Q g) : W p l e R s m args below meth c H locs cells slots Q g := by
  intro T hT X
  exact h (by rw [← hT]; exact X.heapSize) T hT X
theorem am_inC : ∀ a, a < 5 → ∀ w ∈ u_ws (am_cls a).1 (am_cls a).2.1 (am_cls a).2.2, w ∈ am_tbl := by
  have h : ∀ a, a < 5 → (u_ws (am_cls a).1 (am_cls a).2.1 (am_cls a).2.2).all am_in = true := by decide +kernel
  intro a ha w hw
  exact am_in_ok (List.all_eq_true.mp (h a ha) w hw)
theorem am_nmC : ∀ a, a < 5 → ∀ i, i < (am_cls a).2.2 → ∀ j, j < (am_cls a).2.2 → i ≠ j → ((am_cls a).2.1 i).2.1 ≠ ((am_cls a).2.1 j).2.1 := by decide +kernel
def am_tyC (a : Nat) : Nat → FieldType := fun k => (parseFieldDescriptor ((am_cls a).2.1 k).2.2.1).getD .int
theorem am_tyC_ok : ∀ a, a < 5 → ∀ k, k < (am_cls a).2.2 → parseFieldDescriptor ((am_cls a).2.1 k).2.2.1 = some (am_tyC a k) := by
  have h : ∀ a, a < 5 → ∀ k, k < (am_cls a).2.2 → (parseFieldDescriptor ((am_cls a).2.1 k).2.2.1).isSome = true := by decide +kernel
  intro a ha k hk
  obtain ⟨x, hx⟩ := Option.isSome_iff_exists.mp (h a ha k hk)
  rw [am_tyC, hx]
  rfl
theorem am_clC : ∀ a, a < 5 → vwCl[a]? = some (am_cls a) := by
  intro a ha
  match a, ha with
  | 0, _ => rfl
  | 1, _ => rfl
  | 2, _ => rfl
  | 3, _ => rfl
  | 4, _ => rfl
end
section
theorem am_Call.mono {d k : Nat} {av : List Value} {w : aW} {P P' : Option Value → aW → Prop} (h : am_Call d k av w P) (hp : ∀ r w', P r w' → P' r w') : am_Call d k av w P' := by
  intro l D ty base b t0 p e ha hc hk s m args below hf happ hP hK
  obtain ⟨n, o, h1, h2, h3, ⟨⟨r, w', q1, q2, q3⟩, q4⟩, h5⟩ := h l D ty base b t0 p e ha hc hk s m args below hf happ hP hK
  exact ⟨n, o, h1, h2, h3, ⟨⟨r, w', q1, hp _ _ q2, q3⟩, q4⟩, h5⟩
theorem am_cell_congr {base : Nat} {ty : Nat → ClassId} {w w' : aW} {j : Nat} (h1 : w'.2.1 j = w.2.1 j) (h2 : w'.2.2.1 j = w.2.2.1 j) (h3 : w'.2.2.2 j = w.2.2.2 j) : am_cell base ty w' j = am_cell base ty w j := by
  have hf : am_fv base w' j = am_fv base w j := by
    funext k r
    cases r
    · show Value.int (w'.2.2.1 j k) = Value.int (w.2.2.1 j k)
      rw [h2]
    · show va_rf ((w'.2.2.2 j k).map (base + ·)) = va_rf ((w.2.2.2 j k).map (base + ·))
      rw [h3]
  unfold am_cell
  rw [h1, h2, h3, hf]
theorem am_u2_ne {C : Nat → Nat → Int32} {i k j : Nat} {x : Int32} (h : j ≠ i) : am_u2 C i k x j = C j := by
  funext b
  simp [am_u2, h]
theorem am_uF_ne {C : Nat → Nat → Option Nat} {i k j : Nat} {x : Option Nat} (h : j ≠ i) : am_uF C i k x j = C j := by
  funext b
  simp [am_uF, h]
theorem am_uR_ne {α : Type} {C : Nat → α} {i j : Nat} {x : α} (h : j ≠ i) : am_uR C i x j = C j := by simp [am_uR, h]
theorem am_uS_ne {C : Nat → Nat × Nat} {i j : Nat} {x : Nat × Nat} (h : j ≠ i) : am_uS C i x j = C j := by simp [am_uS, h]
/-- writing an int field -/
theorem am_putC {base : Nat} {ty : Nat → ClassId} {w : aW} {i a k : Nat} {y : Int32} (hi : i < w.1) (hs : w.2.1 i = (0, a)) (hk : (am_fk a)[k]? = some false) :
    (am_ws base ty w).set i (base + i, .inr (a, (am_fl (am_fv base w i) 0 (am_fk a)).set k (.int y))) = am_ws base ty (am_wC w (am_u2 w.2.2.1 i k y)) := by
  refine am_ws_set hi rfl ?_ (fun j hj => am_cell_congr rfl (am_u2_ne hj) rfl)
  rw [am_cell_ob (show (am_wC w (am_u2 w.2.2.1 i k y)).2.1 i = (0, a) from hs)]
  congr 2
  refine (am_fl_set _ _ _ false _ hk ?_ ?_).symm
  · rw [Nat.zero_add]
    show Value.int (am_u2 w.2.2.1 i k y i k) = Value.int y
    simp [am_u2]
  · intro q r hq
    rw [Nat.zero_add] at hq
    cases r
    · show Value.int (am_u2 w.2.2.1 i k y i q) = Value.int (w.2.2.1 i q)
      simp [am_u2, hq]
    · rfl
/-- writing a reference field -/
theorem am_putF {base : Nat} {ty : Nat → ClassId} {w : aW} {i a k j0 : Nat} (hi : i < w.1) (hs : w.2.1 i = (0, a)) (hk : (am_fk a)[k]? = some true) :
    (am_ws base ty w).set i (base + i, .inr (a, (am_fl (am_fv base w i) 0 (am_fk a)).set k (.ref (base + j0)))) = am_ws base ty (am_wF w (am_uF w.2.2.2 i k (some j0))) := by
  refine am_ws_set hi rfl ?_ (fun j hj => am_cell_congr rfl rfl (am_uF_ne hj))
  rw [am_cell_ob (show (am_wF w (am_uF w.2.2.2 i k (some j0))).2.1 i = (0, a) from hs)]
  congr 2
  refine (am_fl_set _ _ _ true _ hk ?_ ?_).symm
  · rw [Nat.zero_add]
    show va_rf ((am_uF w.2.2.2 i k (some j0) i k).map (base + ·)) = _
    simp [am_uF, va_rf]
  · intro q r hq
    rw [Nat.zero_add] at hq
    cases r
    · rfl
    · show va_rf ((am_uF w.2.2.2 i k (some j0) i q).map (base + ·)) = va_rf ((w.2.2.2 i q).map (base + ·))
      simp [am_uF, hq]
/-- writing into an array of numbers -/
theorem am_putA {base : Nat} {ty : Nat → ClassId} {w : aW} {i t n k : Nat} {y : Int32} (hi : i < w.1) (hs : w.2.1 i = (t + 1, n)) (ht : t ≠ 3) :
    (am_ws base ty w).set i (base + i, .inl (ty t, n, .inl (upd (w.2.2.1 i) k y))) = am_ws base ty (am_wC w (am_u2 w.2.2.1 i k y)) := by
  refine am_ws_set hi rfl ?_ (fun j hj => am_cell_congr rfl (am_u2_ne hj) rfl)
  rw [am_cell_ar (show (am_wC w (am_u2 w.2.2.1 i k y)).2.1 i = (t + 1, n) from hs) ht]
  have : (am_wC w (am_u2 w.2.2.1 i k y)).2.2.1 i = upd (w.2.2.1 i) k y := by
    funext q
    show am_u2 w.2.2.1 i k y i q = upd (w.2.2.1 i) k y q
    simp [am_u2, upd]
  rw [this]
theorem am_putR {base : Nat} {ty : Nat → ClassId} {w : aW} {i t n : Nat} {g : Nat → Int32} (hi : i < w.1) (hs : w.2.1 i = (t + 1, n)) (ht : t ≠ 3) :
    (am_ws base ty w).set i (base + i, .inl (ty t, n, .inl g)) = am_ws base ty (am_wC w (am_uR w.2.2.1 i g)) := by
  refine am_ws_set hi rfl ?_ (fun j hj => am_cell_congr rfl (am_uR_ne hj) rfl)
  rw [am_cell_ar (show (am_wC w (am_uR w.2.2.1 i g)).2.1 i = (t + 1, n) from hs) ht]
  have : (am_wC w (am_uR w.2.2.1 i g)).2.2.1 i = g := by
    show am_uR w.2.2.1 i g i = g
    simp [am_uR]
  rw [this]
theorem am_putQ {base : Nat} {ty : Nat → ClassId} {w : aW} {i n k j0 : Nat} (hi : i < w.1) (hs : w.2.1 i = (4, n)) :
    (am_ws base ty w).set i (base + i, .inl (ty 3, n, .inr (.inr (.inr (.inr (va_up (fun j => (w.2.2.2 i j).map (base + ·)) k (some (base + j0)))))))) = am_ws base ty (am_wF w (am_uF w.2.2.2 i k (some j0))) := by
  refine am_ws_set hi rfl ?_ (fun j hj => am_cell_congr rfl rfl (am_uF_ne hj))
  rw [am_cell_aq (show (am_wF w (am_uF w.2.2.2 i k (some j0))).2.1 i = (4, n) from hs)]
  have : (fun j => ((am_wF w (am_uF w.2.2.2 i k (some j0))).2.2.2 i j).map (base + ·)) = va_up (fun j => (w.2.2.2 i j).map (base + ·)) k (some (base + j0)) := by
    funext q
    show (am_uF w.2.2.2 i k (some j0) i q).map (base + ·) = _
    by_cases hq : q = k
    · subst hq
      rw [va_up_self]
      simp [am_uF]
    · rw [va_up_ne _ _ hq]
      simp [am_uF, hq]
  rw [this]
/-- a new cell lies right behind the world -/
theorem am_new_at {D : va_G} {base : Nat} {ty : Nat → ClassId} {w : aW} {q : Nat} {e : va_E} {H1 : Heap} (hD : va_D (am_A base) (am_ws base ty w ++ [(q, e)])) (hP : va_P D vwCl (am_ws base ty w ++ [(q, e)]) H1) (hz : H1.size ≤ base + w.1 + 1) : q = base + w.1 := by
  have hl : (am_ws base ty w ++ [(q, e)])[w.1]? = some (q, e) := by
    rw [List.getElem?_append_right (by rw [am_ws_len]; exact Nat.le_refl _), am_ws_len, Nat.sub_self]
    rfl
  have h1 : base ≤ q := hD.2 _ _ hl
  have h2 : q < H1.size := (hP _ _ hl).lt
  by_cases h : q = base + w.1
  · exact h
  · exfalso
    have h3 : q - base < w.1 := by omega
    have h4 : (am_ws base ty w ++ [(q, e)])[q - base]? = some (base + (q - base), am_cell base ty w (q - base)) := by
      rw [List.getElem?_append_left (by rw [am_ws_len]; exact h3)]
      exact am_ws_get h3
    have h5 := hD.1 _ _ _ _ h4 hl (by show base + (q - base) = q; omega)
    omega
/-- what the fields of a new object hold -/
theorem am_dfl : ∀ a, a < 5 → ∀ j, j < (am_cls a).2.2 → (am_fk a)[j]? = some (match am_tyC a j with
    | .object _ => true
    | .array _ => true
    | _ => false) ∧ defaultValue (am_tyC a j) = (match am_tyC a j with
    | .object _ => .null
    | .array _ => .null
    | _ => .int 0) := by decide +kernel
/-! switches -/
theorem am_tsw_ok {pc : Nat} {lo : Int} {offs : Array Int} {x : Int32} {K : Nat → Prop} {Dd : Prop} : ∀ (sw : List (Int32 × Nat)) (j0 : Nat), am_tsw pc lo offs j0 sw = true → am_sw x K Dd sw →
    (∃ (i t : Nat) (o : Int), i < sw.length ∧ x.toInt = lo + ((j0 + i : Nat) : Int) ∧ offs[j0 + i]? = some o ∧ (pc : Int) + o = (t : Int) ∧ K t) ∨ ((∀ i, i < sw.length → x.toInt ≠ lo + ((j0 + i : Nat) : Int)) ∧ Dd)
  | [], j0, _, h => Or.inr ⟨fun i hi => by simp at hi, h⟩
  | q :: t, j0, hc, h => by
    simp only [am_tsw, Bool.and_eq_true, decide_eq_true_eq] at hc
    obtain ⟨⟨h1, h2⟩, h3⟩ := hc
    by_cases hx : x = q.1
    · left
      split at h2
      · rename_i o ho
        refine ⟨0, q.2, o, by simp, ?_, ho, of_decide_eq_true h2, h.1 hx⟩
        rw [hx, h1]
        simp
      · cases h2
    · rcases am_tsw_ok t (j0 + 1) h3 (h.2 hx) with ⟨i, t', o, a1, a2, a3, a4, a5⟩ | ⟨a1, a2⟩
      · left
        refine ⟨i + 1, t', o, by simp; omega, ?_, ?_, a4, a5⟩
        · rw [a2, show j0 + 1 + i = j0 + (i + 1) by omega]
        · rw [← a3, show j0 + 1 + i = j0 + (i + 1) by omega]
      · right
        refine ⟨fun i hi => ?_, a2⟩
        cases i with
        | zero =>
          intro he
          apply hx
          apply Int32.toInt_inj.mp
          rw [he, h1]
          simp
        | succ i =>
          have := a1 i (by simp at hi; omega)
          rw [show j0 + 1 + i = j0 + (i + 1) by omega] at this
          exact this
theorem am_lsw_ok {pc : Nat} {dflt : Int} {x : Int32} {K : Nat → Prop} {Dd : Prop} : ∀ (L : List (Int × Int)) (sw : List (Int32 × Nat)), L.map (fun q => (q.1, (pc : Int) + q.2)) = sw.map (fun q => (q.1.toInt, (q.2 : Int))) → am_sw x K Dd sw →
    (∃ t : Nat, (pc : Int) + Op.lookupswitch.offset L dflt x.toInt = (t : Int) ∧ K t) ∨ (Op.lookupswitch.offset L dflt x.toInt = dflt ∧ Dd)
  | [], [], _, h => Or.inr ⟨rfl, h⟩
  | [], q :: t, he, h => by simp at he
  | p :: L, [], he, h => by simp at he
  | (a, o) :: L, q :: t, he, h => by
    simp only [List.map_cons, List.cons.injEq, Prod.mk.injEq] at he
    obtain ⟨⟨h1, h2⟩, h3⟩ := he
    rw [Op.lookupswitch.offset_cons]
    by_cases hx : x = q.1
    · left
      refine ⟨q.2, ?_, h.1 hx⟩
      rw [if_pos (by rw [h1, hx]), h2]
    · have hne : ¬ a = x.toInt := fun e => hx (Int32.toInt_inj.mp (by rw [← e, h1]))
      rw [if_neg hne]
      exact am_lsw_ok L t h3 (h.2 hx)
end
section
theorem am_nest_form : ∀ w ∈ am_nest, ∃ a i x h, w = .methodLinkNest a i x h := by
  intro w hw
  simp only [am_nest, List.mem_cons, List.not_mem_nil, or_false] at hw
  rcases hw with rfl | rfl | rfl | rfl | rfl | rfl <;> exact ⟨_, _, _, _, rfl⟩
theorem am_En.mv {D : va_G} {ty : Nat → ClassId} {base t0 : Nat} {u U : State} {H : Heap} (h : am_En D ty base t0 u H) (hvm : u.vm.Alike U.vm) (hn : ∀ w ∈ am_nest, va_Nw w U) : am_En D ty base t0 U H :=
  ⟨h.1.moved hvm, h.2.1.moved hvm, h.2.2.1.moved hvm, hn, h.2.2.2.2.moved hvm⟩
theorem am_En.call {D : va_G} {ty : Nat → ClassId} {base t0 : Nat} {s U : State} {H : Heap} {locs : List Loc} (h : am_En D ty base t0 s s.heap) (hS : va_S (am_A base) s.heap H locs) (hU : U.heap = H) (hW : s.WarmedH U.vm) : am_En D ty base t0 U U.heap := by
  rw [hU]
  refine am_En.mv (u := s) ⟨h.1, h.2.1.kept hS.2.1, h.2.2.1.kept hS.2.1, h.2.2.2⟩ hW.alike ?_
  intro w hw
  obtain ⟨a, i, x, y, rfl⟩ := am_nest_form w hw
  exact va_Nw.warmM hW (h.2.2.2.1 _ hw)
theorem am_blind {D : va_G} {ty : Nat → ClassId} {base t0 n : Nat} {av : List Value} {ws : va_W} : FrameBlind (va_Pc av (fun U => am_En D ty base t0 U U.heap ∧ va_P D vwCl ws U.heap ∧ U.heap.size = n)) := by
  intro a U g mk h
  obtain ⟨h1, h2, h3, h4⟩ := h
  refine ⟨h1, h2.mv (Vm.Alike.refl U.vm) ?_, h3, h4⟩
  intro w hw
  obtain ⟨a, i, x, y, rfl⟩ := am_nest_form w hw
  exact va_Nw.same rfl rfl (h2.2.2.2.1 _ hw)
theorem am_blindX {L : Nat} {xs : Nat → Int32} {b : Nat} {D : va_G} {ty : Nat → ClassId} {base t0 n : Nat} {av : List Value} {ws : va_W} : FrameBlind (va_Pc av (fun U => (am_En D ty base t0 U U.heap ∧ va_X b L xs U U.heap ∧ b < base) ∧ va_P D vwCl ws U.heap ∧ U.heap.size = n)) := by
  intro a U g mk h
  obtain ⟨h1, ⟨h2, hx, hb⟩, h3, h4⟩ := h
  refine ⟨h1, ⟨h2.mv (Vm.Alike.refl U.vm) ?_, hx.moved (Vm.Alike.refl U.vm), hb⟩, h3, h4⟩
  intro w hw
  obtain ⟨a, i, x, y, rfl⟩ := am_nest_form w hw
  exact va_Nw.same rfl rfl (h2.2.2.2.1 _ hw)
theorem am_code_in {a : Nat} (ha : a < 173) : Cond.code (mY a) (mB a) (mL a) (mR a) ∈ am_tbl := by
  have h := congrArg (fun l => l[a]?) am_codes
  simp only [List.getElem?_map, List.getElem?_range ha, Option.map_some, Option.some.injEq] at h
  exact List.mem_filter.mpr ⟨List.mem_of_getElem? h, rfl⟩
theorem am_goodIn {a : Nat} (ha : a < 173) : GoodIn am_tbl (am_mw a) := by
  intro w hw
  rcases List.mem_cons.mp hw with rfl | hw
  · exact ⟨am_code_in ha, am_tbl_good _ (am_code_in ha)⟩
  · exact ⟨hw, am_tbl_good _ hw⟩
theorem am_goodAt {w : Cond} {big : List Cond} (h : w ∈ am_tbl) : w ∈ am_tbl ∧ ((w.onTables && w.keeps) = true ∨ ∃ ty, w = .arrayClass ty) := ⟨h, am_tbl_good _ h⟩
theorem am_has_ok {l : List (Nat × Nat × Nat × Nat)} {f : Nat × Nat × Nat × Nat → Bool} {a : Nat} (hl : l.all f = true) (h : am_has l a = true) : ∃ q, q.1 = a ∧ f q = true := by
  obtain ⟨q, hq, hb⟩ := List.any_eq_true.mp h
  exact ⟨q, Nat.eq_of_beq_eq_true hb, List.all_eq_true.mp hl q hq⟩
theorem am_okC_ok {q : Nat × Nat × Nat × Nat} (h : am_okC q = true) : (.initialized (mY q.1).cls : Cond) ∈ am_tbl ∧ ((mY q.1).cls ≠ "java/lang/invoke/MethodHandle" ∧ (mY q.1).cls ≠ "java/lang/invoke/VarHandle" ∧ (parseMethodDescriptor (mY q.1).desc).map (fun d => d.parameters.length) = some (mN q.1)) ∧ mL q.1 ≤ 21 ∧ q.1 < 173 ∧ plainFor (mY q.1) = true := by
  simp only [am_okC, Bool.and_eq_true, decide_eq_true_eq] at h
  obtain ⟨⟨⟨⟨⟨⟨h1, h2⟩, h3⟩, h4⟩, h5⟩, h6⟩, h7⟩ := h
  exact ⟨am_wd_ok h1, ⟨h2, h3, h4⟩, Nat.le_of_ble_eq_true h5, by simpa using h6, h7⟩
theorem am_Vs_at {a : Nat} (h : am_has am_Vs a = true) : am_okC (a, 0, 0, 0) = am_okC (a, 0, 0, 0) ∧ (.initialized (mY a).cls : Cond) ∈ am_tbl ∧ ((mY a).cls ≠ "java/lang/invoke/MethodHandle" ∧ (mY a).cls ≠ "java/lang/invoke/VarHandle" ∧ (parseMethodDescriptor (mY a).desc).map (fun d => d.parameters.length) = some (mN a)) ∧ mL a ≤ 21 ∧ a < 173 ∧ (.instanceMethod (mY a) : Cond) ∈ am_tbl ∧ (.selects (mY a).cls (mY a) (mY a) : Cond) ∈ am_tbl ∧ mC a = 0 ∧ mS a = 0 := by
  obtain ⟨q, rfl, hq⟩ := am_has_ok am_Vs_ok h
  simp only [am_okV, Bool.and_eq_true] at hq
  obtain ⟨⟨⟨⟨h1, h2⟩, h3⟩, h4⟩, h5⟩ := hq
  obtain ⟨a1, a2, a3, a4, -⟩ := am_okC_ok h1
  exact ⟨rfl, a1, a2, a3, a4, am_wd_ok h2, am_wd_ok h3, Nat.eq_of_beq_eq_true h4, Nat.eq_of_beq_eq_true h5⟩
theorem am_Ss_at {a : Nat} (h : am_has am_Ss a = true) : (.initialized (mY a).cls : Cond) ∈ am_tbl ∧ ((mY a).cls ≠ "java/lang/invoke/MethodHandle" ∧ (mY a).cls ≠ "java/lang/invoke/VarHandle" ∧ (parseMethodDescriptor (mY a).desc).map (fun d => d.parameters.length) = some (mN a)) ∧ mL a ≤ 21 ∧ a < 173 ∧ (.static (mY a) : Cond) ∈ am_tbl ∧ mC a = 0 ∧ mS a = 0 := by
  obtain ⟨q, rfl, hq⟩ := am_has_ok am_Ss_ok h
  simp only [am_okS, Bool.and_eq_true] at hq
  obtain ⟨⟨⟨h1, h2⟩, h4⟩, h5⟩ := hq
  obtain ⟨a1, a2, a3, a4, -⟩ := am_okC_ok h1
  exact ⟨a1, a2, a3, a4, am_wd_ok h2, Nat.eq_of_beq_eq_true h4, Nat.eq_of_beq_eq_true h5⟩
theorem am_Xs_at {a : Nat} (h : am_has am_Xs a = true) : (.initialized (mY a).cls : Cond) ∈ am_tbl ∧ ((mY a).cls ≠ "java/lang/invoke/MethodHandle" ∧ (mY a).cls ≠ "java/lang/invoke/VarHandle" ∧ (parseMethodDescriptor (mY a).desc).map (fun d => d.parameters.length) = some (mN a)) ∧ mL a ≤ 21 ∧ a < 173 ∧ (.static (mY a) : Cond) ∈ am_tbl ∧ mC a = 0 ∧ mS a = 0 := by
  obtain ⟨q, rfl, hq⟩ := am_has_ok am_Xs_ok h
  simp only [am_okS, Bool.and_eq_true] at hq
  obtain ⟨⟨⟨h1, h2⟩, h4⟩, h5⟩ := hq
  obtain ⟨a1, a2, a3, a4, -⟩ := am_okC_ok h1
  exact ⟨a1, a2, a3, a4, am_wd_ok h2, Nat.eq_of_beq_eq_true h4, Nat.eq_of_beq_eq_true h5⟩
theorem am_Zs_at {a : Nat} (h : am_has am_Zs a = true) : (.initialized (mY a).cls : Cond) ∈ am_tbl ∧ ((mY a).cls ≠ "java/lang/invoke/MethodHandle" ∧ (mY a).cls ≠ "java/lang/invoke/VarHandle" ∧ (parseMethodDescriptor (mY a).desc).map (fun d => d.parameters.length) = some (mN a)) ∧ mL a ≤ 21 ∧ a < 173 ∧ (.static (mY a) : Cond) ∈ am_tbl := by
  obtain ⟨q, rfl, hq⟩ := am_has_ok am_Zs_ok h
  simp only [am_okZ, Bool.and_eq_true] at hq
  obtain ⟨h1, h2⟩ := hq
  obtain ⟨a1, a2, a3, a4, -⟩ := am_okC_ok h1
  exact ⟨a1, a2, a3, a4, am_wd_ok h2⟩
theorem am_Is_at {a : Nat} (h : am_has am_Is a = true) : (.initialized (mY a).cls : Cond) ∈ am_tbl ∧ ((mY a).cls ≠ "java/lang/invoke/MethodHandle" ∧ (mY a).cls ≠ "java/lang/invoke/VarHandle" ∧ (parseMethodDescriptor (mY a).desc).map (fun d => d.parameters.length) = some (mN a)) ∧ mL a ≤ 21 ∧ a < 173 ∧ (.instanceMethod (mY a) : Cond) ∈ am_tbl ∧ (mY a).name = "<init>" ∧ mR a = none := by
  obtain ⟨q, rfl, hq⟩ := am_has_ok am_Is_ok h
  simp only [am_okI, Bool.and_eq_true, decide_eq_true_eq] at hq
  obtain ⟨⟨⟨h1, h2⟩, h4⟩, h5⟩ := hq
  obtain ⟨a1, a2, a3, a4, -⟩ := am_okC_ok h1
  exact ⟨a1, a2, a3, a4, am_wd_ok h2, h4, h5⟩
theorem am_cf_ok {f d a : Nat} {av : List Value} {w : aW} {K : Option Value → aW → Prop} (h : am_cf f d a av w K) : ∃ d', d = d' + 1 ∧ am_Call d' a av w K := by
  unfold am_cf at h
  split at h
  · exact h.elim
  · rename_i d'
    refine ⟨d', rfl, ?_⟩
    split at h
    · refine am_Call.mono h ?_
      intro r w' hr
      split at hr
      · exact hr
      · exact hr.elim
    · refine am_Call.mono h ?_
      intro r w' hr
      split at hr
      · exact hr
      · exact hr.elim
theorem am_cx_ok {L : Nat} {xs : Nat → Int32} {d a : Nat} {av : List Value} {w : aW} {K : Option Value → aW → Prop} (h : am_cx L xs d a av w K) : ∃ d', d = d' + 1 ∧ am_CallX L xs d' a av w K := by
  unfold am_cx at h
  split at h
  · exact h.elim
  · rename_i d'
    refine ⟨d', rfl, ?_⟩
    intro l D ty base b t0 p e ha hc hk s m args below hf happ hP hK
    obtain ⟨n, o, h1, h2, h3, ⟨⟨r, w', q1, q2, q3⟩, q4⟩, h5⟩ := h l D ty base b t0 p e ha hc hk s m args below hf happ hP hK
    refine ⟨n, o, h1, h2, h3, ⟨⟨r, w', q1, ?_, q3⟩, q4⟩, h5⟩
    split at q2
    · exact q2
    · exact q2.elim
section CALL
variable {p : Program} {l : Launch} {e : Env} {R : Room} {s : State} {m : MethodId} {args : Array Value} {below : List Frame} {meth : Method} {c : Code} {H : Heap} {locs : List Loc} {Q : State → Prop} {pc : Nat} {ls : Array Slot}
variable {D : va_G} {ty : Nat → ClassId} {base b t0 d k : Nat} {w : aW} {u : Nat × Nat} {Post : Option Value → aW → Prop} {rest : List Value}
theorem am_call_go {cells slots mc ms n : Nat} {st0 rest : List Value} {a : Array Value} (hr : va_Run p l e R s m args below meth c H locs cells slots mc ms (F0 m pc ls st0) rest (am_Q D ty base b t0 n Post a) (am_A base)) (hS : va_S (am_A base) s.heap H locs)
    (kk : ∀ (r : Option Value) (w' : aW) (H1 : Heap) (locs1 : List Loc), Post r w' → w'.1 = n → va_P D vwCl (am_ws base ty w') H1 → va_S (am_A base) s.heap H1 locs1 → W p l e R s m args below meth c H1 locs1 (cells + mc) (slots + ms) Q (F0 m (pc + 3) ls ((r.map (am_cv base b t0)).toList ++ rest))) :
    W p l e R s m args below meth c H locs cells slots Q (F0 m pc ls st0) := by
  intro T hT X
  obtain ⟨v, st₀, t, T', L, h0, X', hL, e1, e2, ⟨⟨r, w', hv, hp, hn, hb⟩, hz, hk⟩, st⟩ := hr T hT X
  cases hv
  rw [h0] at hz hk
  obtain ⟨t2, a1, b1⟩ := kk r w' T'.heap (locs ++ L) hp hn (by rw [e1]; exact hb)
    ⟨Nat.le_trans hS.1 (by rw [e1]; exact hz), fun q h1 h2 => by rw [e1, hk q (Nat.lt_of_lt_of_le h1 hS.1) h2]; exact hS.2.1 q h1 h2, fun q hq => by
      rcases List.mem_append.mp hq with h | h
      · exact hS.2.2 q h
      · exact hL q h⟩ T' rfl X'
  exact ⟨t2, st t2 a1, b1⟩
theorem am_pre {av : List Value} (hE : am_En D ty base t0 s s.heap) (hS : va_S (am_A base) s.heap H locs) (hP : va_P D vwCl (am_ws base ty w) H) (hz : H.size = base + w.1) : ∀ U : State, U.heap = H → s.WarmedH U.vm → va_Pc (av.map (am_cv base b t0)) (fun U => am_En D ty base t0 U U.heap ∧ va_P D vwCl (am_ws base ty w) U.heap ∧ U.heap.size = base + w.1) (av.map (am_cv base b t0)).toArray U :=
  fun U hU hW => ⟨rfl, hE.call hS hU hW, by rw [hU]; exact hP, by rw [hU]; exact hz⟩
theorem am_callV (hF : am_Fx (d + 1) k p R s m args meth c) (hE : am_En D ty base t0 s s.heap) {a i index : Nat} {av : List Value} (hlen : av.length = mN a) (hi : i < w.1) {bc : Nat} (hs : w.2.1 i = (0, bc)) (hbc : bc < 5) (hcl : (am_cls bc).1 = (mY a).cls)
    (hV : am_has am_Vs a = true) (hlk : (.methodLink (mY k).cls index (mY a) : Cond) ∈ am_tbl) (hC : am_Call d a (.ref i :: av) w Post) (hdg : decode (mB k) pc = .ok (.invokevirtual index, 3)) (hcs : am_cs rest ≤ 8)
    (hP : va_P D vwCl (am_ws base ty w) H) (hS : va_S (am_A base) s.heap H locs) (hz : H.size = base + w.1) (hu1 : u.1 ≤ mC k) (hu2 : u.2 ≤ mS k) (hl : ls.size = mL k)
    (kk : ∀ (r : Option Value) (w' : aW) (H1 : Heap) (locs1 : List Loc), Post r w' → w'.1 = w.1 → va_P D vwCl (am_ws base ty w') H1 → va_S (am_A base) s.heap H1 locs1 → W p l e R s m args below meth c H1 locs1 u.1 u.2 Q (F0 m (pc + 3) ls ((r.map (am_cv base b t0)).toList ++ rest.map (am_cv base b t0)))) :
    W p l e R s m args below meth c H locs u.1 u.2 Q (F0 m pc ls ((av.reverse ++ .ref i :: rest).map (am_cv base b t0))) := by
  obtain ⟨hx, hb, hml, hown, hts, ⟨hr1, hr2, hr3, hr4⟩, -⟩ := hF
  obtain ⟨-, g1, g2, g3, g4, g5, g6, g7, g8⟩ := am_Vs_at hV
  have hM := hC l D ty base b t0
  have hG : GoodIn am_tbl (wsV (mY k).cls index (mY a).cls (mY a) (am_mw a)) := by
    intro q hq
    rcases List.mem_append.mp hq with hq | hq
    · simp only [List.mem_cons, List.not_mem_nil, or_false] at hq
      rcases hq with rfl | rfl | rfl | rfl
      · exact ⟨hlk, am_tbl_good _ hlk⟩
      · exact ⟨g5, am_tbl_good _ g5⟩
      · exact ⟨g6, am_tbl_good _ g6⟩
      · exact ⟨g1, am_tbl_good _ g1⟩
    · exact am_goodIn g4 q hq
  have hrecv := va_recv (a := base + i) hE.1 hP (am_clC bc hbc) (by rw [am_ws_get hi, am_cell_ob hs])
  rw [hcl] at hrecv
  refine am_call_go (va_runV (C := (mY a).cls) (As := av.map (am_cv base b t0)) (rest := rest.map (am_cv base b t0)) ⟨hx, hb, hml, hown, hts⟩ hM (cwV (mN a) hts hG rfl rfl rfl ⟨rfl, g2⟩ ⟨hr1, ?_⟩) ⟨am_blind, hrecv, am_pre (av := .ref i :: av) hE hS hP hz⟩ rfl (by rw [List.length_map]; exact hlen) hl ?_ (lv_room ?_) hdg ⟨?_, ?_⟩) hS ?_
  · show 8 + (mL a + 11) + 40 * d ≤ R.locals
    omega
  · simp [am_cv]
  · rw [am_cs_map]; exact hcs
  · rw [g7]; omega
  · rw [g8]; omega
  · intro r w' H1 locs1 q1 q2 q3 q4
    rw [g7, g8]
    rw [g7] at q2
    exact kk r w' H1 locs1 q1 q2 q3 q4
theorem am_callS (hF : am_Fx (d + 1) k p R s m args meth c) (hE : am_En D ty base t0 s s.heap) {a index : Nat} {av : List Value} (hlen : av.length = mN a)
    (hV : am_has am_Ss a = true) (hlk : (.methodLink (mY k).cls index (mY a) : Cond) ∈ am_tbl ∨ (.methodLinkNest (mY k).cls index (mY a) "FaceRounds" : Cond) ∈ am_nest) (hC : am_Call d a av w Post) (hdg : decode (mB k) pc = .ok (.invokestatic index, 3)) (hcs : am_cs rest ≤ 8)
    (hP : va_P D vwCl (am_ws base ty w) H) (hS : va_S (am_A base) s.heap H locs) (hz : H.size = base + w.1) (hu1 : u.1 ≤ mC k) (hu2 : u.2 ≤ mS k) (hl : ls.size = mL k)
    (kk : ∀ (r : Option Value) (w' : aW) (H1 : Heap) (locs1 : List Loc), Post r w' → w'.1 = w.1 → va_P D vwCl (am_ws base ty w') H1 → va_S (am_A base) s.heap H1 locs1 → W p l e R s m args below meth c H1 locs1 u.1 u.2 Q (F0 m (pc + 3) ls ((r.map (am_cv base b t0)).toList ++ rest.map (am_cv base b t0)))) :
    W p l e R s m args below meth c H locs u.1 u.2 Q (F0 m pc ls ((av.reverse ++ rest).map (am_cv base b t0))) := by
  obtain ⟨hx, hb, hml, hown, hts, ⟨hr1, hr2, hr3, hr4⟩, -⟩ := hF
  obtain ⟨g1, g2, g3, g4, g5, g7, g8⟩ := am_Ss_at hV
  have hM := hC l D ty base b t0
  have hroom : 8 + (mL a + 11) + (am_rm d a).locals ≤ R.locals := by
    show 8 + (mL a + 11) + 40 * d ≤ R.locals
    omega
  have hstk : (F0 m pc ls ((av.reverse ++ rest).map (am_cv base b t0))).stack = (av.map (am_cv base b t0)).reverse ++ rest.map (am_cv base b t0) := by simp
  have hrm8 : ((rest.map (am_cv base b t0)).map fun v => v.category).sum ≤ 8 := by rw [am_cs_map]; exact hcs
  have hcap : u.1 + mC a ≤ R.cells ∧ u.2 + mS a ≤ R.slots := by rw [g7, g8]; omega
  have kk' : ∀ (r : Option Value) (w' : aW) (H1 : Heap) (locs1 : List Loc), Post r w' → w'.1 = w.1 + mC a → va_P D vwCl (am_ws base ty w') H1 → va_S (am_A base) s.heap H1 locs1 → W p l e R s m args below meth c H1 locs1 (u.1 + mC a) (u.2 + mS a) Q (F0 m (pc + 3) ls ((r.map (am_cv base b t0)).toList ++ rest.map (am_cv base b t0))) := by
    intro r w' H1 locs1 q1 q2 q3 q4
    rw [g7, g8]
    rw [g7] at q2
    exact kk r w' H1 locs1 q1 q2 q3 q4
  rcases hlk with hlk | hlk
  · have hG : GoodIn am_tbl (va_wsS (mY k).cls index (mY a) (am_mw a)) := by
      intro q hq
      rcases List.mem_append.mp hq with hq | hq
      · simp only [List.mem_cons, List.not_mem_nil, or_false] at hq
        rcases hq with rfl | rfl | rfl
        · exact ⟨hlk, am_tbl_good _ hlk⟩
        · exact ⟨g5, am_tbl_good _ g5⟩
        · exact ⟨g1, am_tbl_good _ g1⟩
      · exact am_goodIn g4 q hq
    exact am_call_go (va_runS (As := av.map (am_cv base b t0)) (rest := rest.map (am_cv base b t0)) ⟨hx, hb, hml, hown, hts⟩ hM (va_cwS (mN a) hts hG rfl rfl rfl g2 ⟨hr1, hroom⟩) ⟨am_blind, am_pre (av := av) hE hS hP hz⟩ rfl (by rw [List.length_map]; exact hlen) hl hstk (lv_room hrm8) hdg hcap) hS kk'
  · exact am_call_go (va_runSN (As := av.map (am_cv base b t0)) (rest := rest.map (am_cv base b t0)) ⟨hx, hb, hml, hown, hts⟩ hM ⟨va_cnB (mN a) hts (am_goodIn g4) rfl rfl rfl (hE.2.2.2.1 _ hlk) (hts _ g1) g2 ⟨hr1, hroom⟩, hts _ g5, trivial⟩ ⟨am_blind, am_pre (av := av) hE hS hP hz⟩ rfl (by rw [List.length_map]; exact hlen) hl hstk (lv_room hrm8) hdg hcap) hS kk'
theorem am_callZ (hF : am_Fx (d + 1) k p R s m args meth c) (hE : am_En D ty base t0 s s.heap) {a index : Nat} {av : List Value} (hlen : av.length = mN a)
    (hV : am_has am_Zs a = true) (hlk : (.methodLink (mY k).cls index (mY a) : Cond) ∈ am_tbl) (hC : am_Call d a av w Post) (hdg : decode (mB k) pc = .ok (.invokestatic index, 3)) (hcs : am_cs rest ≤ 8)
    (hP : va_P D vwCl (am_ws base ty w) H) (hS : va_S (am_A base) s.heap H locs) (hz : H.size = base + w.1) (hu1 : u.1 + mC a ≤ mC k) (hu2 : u.2 + mS a ≤ mS k) (hl : ls.size = mL k)
    (kk : ∀ (r : Option Value) (w' : aW) (H1 : Heap) (locs1 : List Loc), Post r w' → w'.1 = w.1 + mC a → va_P D vwCl (am_ws base ty w') H1 → va_S (am_A base) s.heap H1 locs1 → W p l e R s m args below meth c H1 locs1 (u.1 + mC a) (u.2 + mS a) Q (F0 m (pc + 3) ls ((r.map (am_cv base b t0)).toList ++ rest.map (am_cv base b t0)))) :
    W p l e R s m args below meth c H locs u.1 u.2 Q (F0 m pc ls ((av.reverse ++ rest).map (am_cv base b t0))) := by
  obtain ⟨hx, hb, hml, hown, hts, ⟨hr1, hr2, hr3, hr4⟩, -⟩ := hF
  obtain ⟨g1, g2, g3, g4, g5⟩ := am_Zs_at hV
  have hM := hC l D ty base b t0
  have hroom : 8 + (mL a + 11) + (am_rm d a).locals ≤ R.locals := by
    show 8 + (mL a + 11) + 40 * d ≤ R.locals
    omega
  have hstk : (F0 m pc ls ((av.reverse ++ rest).map (am_cv base b t0))).stack = (av.map (am_cv base b t0)).reverse ++ rest.map (am_cv base b t0) := by simp
  have hrm8 : ((rest.map (am_cv base b t0)).map fun v => v.category).sum ≤ 8 := by rw [am_cs_map]; exact hcs
  have hcap : u.1 + mC a ≤ R.cells ∧ u.2 + mS a ≤ R.slots := by omega
  · have hG : GoodIn am_tbl (va_wsS (mY k).cls index (mY a) (am_mw a)) := by
      intro q hq
      rcases List.mem_append.mp hq with hq | hq
      · simp only [List.mem_cons, List.not_mem_nil, or_false] at hq
        rcases hq with rfl | rfl | rfl
        · exact ⟨hlk, am_tbl_good _ hlk⟩
        · exact ⟨g5, am_tbl_good _ g5⟩
        · exact ⟨g1, am_tbl_good _ g1⟩
      · exact am_goodIn g4 q hq
    exact am_call_go (va_runS (As := av.map (am_cv base b t0)) (rest := rest.map (am_cv base b t0)) ⟨hx, hb, hml, hown, hts⟩ hM (va_cwS (mN a) hts hG rfl rfl rfl g2 ⟨hr1, hroom⟩) ⟨am_blind, am_pre (av := av) hE hS hP hz⟩ rfl (by rw [List.length_map]; exact hlen) hl hstk (lv_room hrm8) hdg hcap) hS kk
theorem am_preX {av : List Value} {L : Nat} {xs : Nat → Int32} (hE : am_En D ty base t0 s s.heap) (hX : va_X b L xs s s.heap ∧ b < s.heap.size ∧ b < base) (hS : va_S (am_A base) s.heap H locs) (hP : va_P D vwCl (am_ws base ty w) H) (hz : H.size = base + w.1) : ∀ U : State, U.heap = H → s.WarmedH U.vm → va_Pc (av.map (am_cv base b t0)) (fun U => (am_En D ty base t0 U U.heap ∧ va_X b L xs U U.heap ∧ b < base) ∧ va_P D vwCl (am_ws base ty w) U.heap ∧ U.heap.size = base + w.1) (av.map (am_cv base b t0)).toArray U :=
  fun U hU hW => ⟨rfl, ⟨hE.call hS hU hW, va_X.moved hW.alike (by rw [hU]; exact hX.1.kept (hS.2.1 b hX.2.1 (by show ¬ base ≤ b; omega))), hX.2.2⟩, by rw [hU]; exact hP, by rw [hU]; exact hz⟩
theorem am_callX (hF : am_Fx (d + 1) k p R s m args meth c) (hE : am_En D ty base t0 s s.heap) {L : Nat} {xs : Nat → Int32} (hX : va_X b L xs s s.heap ∧ b < s.heap.size ∧ b < base) {a index : Nat} {av : List Value} (hlen : av.length = mN a)
    (hV : am_has am_Xs a = true) (hlk : (.methodLink (mY k).cls index (mY a) : Cond) ∈ am_tbl) (hC : am_CallX L xs d a av w Post) (hdg : decode (mB k) pc = .ok (.invokestatic index, 3)) (hcs : am_cs rest ≤ 8)
    (hP : va_P D vwCl (am_ws base ty w) H) (hS : va_S (am_A base) s.heap H locs) (hz : H.size = base + w.1) (hu1 : u.1 ≤ mC k) (hu2 : u.2 ≤ mS k) (hl : ls.size = mL k)
    (kk : ∀ (r : Option Value) (w' : aW) (H1 : Heap) (locs1 : List Loc), Post r w' → w'.1 = w.1 → va_P D vwCl (am_ws base ty w') H1 → va_S (am_A base) s.heap H1 locs1 → W p l e R s m args below meth c H1 locs1 u.1 u.2 Q (F0 m (pc + 3) ls ((r.map (am_cv base b t0)).toList ++ rest.map (am_cv base b t0)))) :
    W p l e R s m args below meth c H locs u.1 u.2 Q (F0 m pc ls ((av.reverse ++ rest).map (am_cv base b t0))) := by
  obtain ⟨hx, hb, hml, hown, hts, ⟨hr1, hr2, hr3, hr4⟩, -⟩ := hF
  obtain ⟨g1, g2, g3, g4, g5, g7, g8⟩ := am_Xs_at hV
  have hM := hC l D ty base b t0
  have hroom : 8 + (mL a + 11) + (am_rm d a).locals ≤ R.locals := by
    show 8 + (mL a + 11) + 40 * d ≤ R.locals
    omega
  have hstk : (F0 m pc ls ((av.reverse ++ rest).map (am_cv base b t0))).stack = (av.map (am_cv base b t0)).reverse ++ rest.map (am_cv base b t0) := by simp
  have hrm8 : ((rest.map (am_cv base b t0)).map fun v => v.category).sum ≤ 8 := by rw [am_cs_map]; exact hcs
  have hcap : u.1 + mC a ≤ R.cells ∧ u.2 + mS a ≤ R.slots := by rw [g7, g8]; omega
  have kk' : ∀ (r : Option Value) (w' : aW) (H1 : Heap) (locs1 : List Loc), Post r w' → w'.1 = w.1 + mC a → va_P D vwCl (am_ws base ty w') H1 → va_S (am_A base) s.heap H1 locs1 → W p l e R s m args below meth c H1 locs1 (u.1 + mC a) (u.2 + mS a) Q (F0 m (pc + 3) ls ((r.map (am_cv base b t0)).toList ++ rest.map (am_cv base b t0))) := by
    intro r w' H1 locs1 q1 q2 q3 q4
    rw [g7, g8]
    rw [g7] at q2
    exact kk r w' H1 locs1 q1 q2 q3 q4
  · have hG : GoodIn am_tbl (va_wsS (mY k).cls index (mY a) (am_mw a)) := by
      intro q hq
      rcases List.mem_append.mp hq with hq | hq
      · simp only [List.mem_cons, List.not_mem_nil, or_false] at hq
        rcases hq with rfl | rfl | rfl
        · exact ⟨hlk, am_tbl_good _ hlk⟩
        · exact ⟨g5, am_tbl_good _ g5⟩
        · exact ⟨g1, am_tbl_good _ g1⟩
      · exact am_goodIn g4 q hq
    exact am_call_go (va_runS (As := av.map (am_cv base b t0)) (rest := rest.map (am_cv base b t0)) ⟨hx, hb, hml, hown, hts⟩ hM (va_cwS (mN a) hts hG rfl rfl rfl g2 ⟨hr1, hroom⟩) ⟨am_blindX, am_preX (av := av) hE hX hS hP hz⟩ rfl (by rw [List.length_map]; exact hlen) hl hstk (lv_room hrm8) hdg hcap) hS kk'
theorem am_callI (hF : am_Fx (d + 1) k p R s m args meth c) (hE : am_En D ty base t0 s s.heap) {a i index : Nat} {av : List Value} (hlen : av.length = mN a)
    (hV : am_has am_Is a = true) (hlk : (.methodLink (mY k).cls index (mY a) : Cond) ∈ am_tbl ∨ (.methodLinkNest (mY k).cls index (mY a) "FaceRounds" : Cond) ∈ am_nest) (hC : am_Call d a (.ref i :: av) w Post) (hdg : decode (mB k) pc = .ok (.invokespecial index, 3)) (hcs : am_cs rest ≤ 8)
    (hP : va_P D vwCl (am_ws base ty w) H) (hS : va_S (am_A base) s.heap H locs) (hz : H.size = base + w.1) (hu1 : u.1 + mC a ≤ mC k) (hu2 : u.2 + mS a ≤ mS k) (hl : ls.size = mL k)
    (kk : ∀ (r : Option Value) (w' : aW) (H1 : Heap) (locs1 : List Loc), Post r w' → w'.1 = w.1 + mC a → va_P D vwCl (am_ws base ty w') H1 → va_S (am_A base) s.heap H1 locs1 → W p l e R s m args below meth c H1 locs1 (u.1 + mC a) (u.2 + mS a) Q (F0 m (pc + 3) ls ((r.map (am_cv base b t0)).toList ++ rest.map (am_cv base b t0)))) :
    W p l e R s m args below meth c H locs u.1 u.2 Q (F0 m pc ls ((av.reverse ++ .ref i :: rest).map (am_cv base b t0))) := by
  obtain ⟨hx, hb, hml, hown, hts, ⟨hr1, hr2, hr3, hr4⟩, -⟩ := hF
  obtain ⟨g1, g2, g3, g4, g5, g6, g7⟩ := am_Is_at hV
  have hM := hC l D ty base b t0
  have hroom : 8 + (mL a + 11) + (am_rm d a).locals ≤ R.locals := by
    show 8 + (mL a + 11) + 40 * d ≤ R.locals
    omega
  have hstk : (F0 m pc ls ((av.reverse ++ .ref i :: rest).map (am_cv base b t0))).stack = (av.map (am_cv base b t0)).reverse ++ .ref (base + i) :: rest.map (am_cv base b t0) := by simp [am_cv]
  have hrm8 : ((rest.map (am_cv base b t0)).map fun v => v.category).sum ≤ 8 := by rw [am_cs_map]; exact hcs
  have hcap : u.1 + mC a ≤ R.cells ∧ u.2 + mS a ≤ R.slots := by omega
  have hw : am_mw a = Cond.code (mY a) (mB a) (mL a) none :: am_tbl := by unfold am_mw; rw [g7]
  rcases hlk with hlk | hlk
  · exact am_call_go (va_runI (As := av.map (am_cv base b t0)) (rest := rest.map (am_cv base b t0)) ⟨hx, hb, hml, hown, hts⟩ hM (cwI (mN a) hts (am_goodIn g4) hw rfl rfl (hts _ g1) (hts _ hlk) (hts _ g5) g6 g2 ⟨hr1, hroom⟩) ⟨am_blind, am_pre (av := .ref i :: av) hE hS hP hz⟩ rfl (by rw [List.length_map]; exact hlen) hl hstk (lv_room hrm8) hdg hcap) hS kk
  · exact am_call_go (va_runIN (As := av.map (am_cv base b t0)) (rest := rest.map (am_cv base b t0)) ⟨hx, hb, hml, hown, hts⟩ hM ⟨va_cnB (mN a) hts (am_goodIn g4) hw rfl rfl (hE.2.2.2.1 _ hlk) (hts _ g1) g2 ⟨hr1, hroom⟩, g6, hts _ g5⟩ ⟨am_blind, am_pre (av := .ref i :: av) hE hS hP hz⟩ rfl (by rw [List.length_map]; exact hlen) hl hstk (lv_room hrm8) hdg hcap) hS kk
end CALL
end
section
set_option maxHeartbeats 4000000 in
set_option maxRecDepth 100000 in
/-- ONE STEP OF THE SMALL MACHINE IS THE MACHINE'S -/
theorem am_stp_ok {d k : Nat} {sx : Option (Nat × (Nat → Int32))} {Post : Option Value → aW → Prop} {x : aI} {lc : aL} {st : List Value} {w : aW} {u : Nat × Nat} {K : aK}
    (hck : am_ck k x = true) (h : am_stp d sx (mC k, mS k) x lc st w u K Post) (hK : ∀ pc' lc' st' w' u', K pc' lc' st' w' u' → am_At d k sx Post pc' lc' st' w' u') : am_At d k sx Post x.1 lc st w u := by
  intro p l e R s m args below meth c D ty base b t0 Q hF hE hX hbase hret H locs ls hsz hu1 hu2 hP hS hln hl
  have go : ∀ {pc' : Nat} {lc' : aL} {st' : List Value} {w' : aW} {u' : Nat × Nat} (H : Heap) (locs : List Loc) (ls : Array Slot), K pc' lc' st' w' u' → s.heap.size + u'.1 = base + w'.1 → u'.1 ≤ mC k → u'.2 ≤ mS k → va_P D vwCl (am_ws base ty w') H → va_S (am_A base) s.heap H locs → lc'.length = mL k → lv_has ls (mL k) (am_al (am_cv base b t0) 0 lc') →
      W p l e R s m args below meth c H locs u'.1 u'.2 Q (F0 m pc' ls (st'.map (am_cv base b t0))) := fun H locs ls hk => hK _ _ _ _ _ hk p l e R s m args below meth c D ty base b t0 Q hF hE hX hbase hret H locs ls
  have go1 : ∀ {pc' : Nat} {st' : List Value}, K pc' lc st' w u → W p l e R s m args below meth c H locs u.1 u.2 Q (F0 m pc' ls (st'.map (am_cv base b t0))) := fun hk => go H locs ls hk hsz hu1 hu2 hP hS hln hl
  have go2 : ∀ {pc' : Nat} {lc' : aL} {st' : List Value} (ls' : Array Slot), K pc' lc' st' w u → lc'.length = mL k → lv_has ls' (mL k) (am_al (am_cv base b t0) 0 lc') → W p l e R s m args below meth c H locs u.1 u.2 Q (F0 m pc' ls' (st'.map (am_cv base b t0))) := fun ls' hk => go H locs ls' hk hsz hu1 hu2 hP hS
  have go3 : ∀ {pc' : Nat} {st' : List Value} {w' : aW} (H1 : Heap) (locs1 : List Loc), K pc' lc st' w' u → w'.1 = w.1 → va_P D vwCl (am_ws base ty w') H1 → va_S (am_A base) s.heap H1 locs1 → W p l e R s m args below meth c H1 locs1 u.1 u.2 Q (F0 m pc' ls (st'.map (am_cv base b t0))) := fun H1 locs1 hk hw h1 h2 => go H1 locs1 ls hk (by rw [hw]; exact hsz) hu1 hu2 h1 h2 hln hl
  obtain ⟨hx, hb, hml, hown, hts, ⟨hr1, hr2, hr3, hr4⟩, hin⟩ := id hF
  obtain ⟨hKK, hZ, hT, hN, hAO⟩ := id hE
  obtain ⟨hdg, hc⟩ := am_ck_ok hck
  have hA : ∀ q, s.heap.size ≤ q → am_A base q := fun q hq => Nat.le_trans hbase hq
  have hD := am_ws_D base ty w
  have hHz : base + w.1 ≤ H.size := am_ws_size hP (Nat.le_trans hbase hS.1)
  obtain ⟨pc, ins, len, a, b', c', f, v, lg, sw⟩ := x
  cases ins with
  | iconst n => exact lv_iconst hx hb hdg (of_decide_eq_true hc) (go1 h)
  | bipush n => exact lv_bipush hx hb hdg (of_decide_eq_true hc) (go1 h)
  | sipush n => exact lv_sipush hx hb hdg (of_decide_eq_true hc) (go1 h)
  | ldc n => exact lv_ldc hx hb hown (hts _ (am_wd_ok hc)) hdg (go1 h)
  | ldc_w n => exact lv_ldcw hx hb hown (hts _ (am_wd_ok hc)) hdg (go1 h)
  | ldc2_w n => exact lv_ldc2 hx hb hown (hts _ (am_wd_ok hc)) hdg (go1 h)
  | iload_n j =>
    obtain ⟨y, hy, hk⟩ := am_gi_ok h
    exact lv_iload_n hx hb hdg rfl (am_rd hl hy) (go1 hk)
  | iload j =>
    obtain ⟨y, hy, hk⟩ := am_gi_ok h
    exact lv_iload hx hb hdg (am_rd hl hy) (go1 hk)
  | lload_n j =>
    obtain ⟨y, hy, hk⟩ := am_gl_ok h
    exact lv_lload_n hx hb hdg rfl (am_rd hl hy) (go1 hk)
  | lload j =>
    obtain ⟨y, hy, hk⟩ := am_gl_ok h
    exact lv_lload hx hb hdg (am_rd hl hy) (go1 hk)
  | aload_n j =>
    dsimp only [am_stp] at h
    obtain ⟨y, hy, hj, hk⟩ := am_ga_ok h
    rcases hj with ⟨q, rfl⟩ | ⟨q, rfl⟩
    · exact lv_aload_n hx hb hdg rfl (am_rd hl hy) (go1 hk)
    · cases q with
      | zero => exact lv_aload_n hx hb hdg rfl (am_rd hl hy) (go1 hk)
      | succ q => exact lv_aload_n hx hb hdg rfl (am_rd hl hy) (go1 hk)
  | aload j =>
    dsimp only [am_stp] at h
    obtain ⟨y, hy, hj, hk⟩ := am_ga_ok h
    rcases hj with ⟨q, rfl⟩ | ⟨q, rfl⟩
    · exact lv_aload hx hb hdg (am_rd hl hy) (go1 hk)
    · cases q with
      | zero => exact lv_aload hx hb hdg (am_rd hl hy) (go1 hk)
      | succ q => exact lv_aload hx hb hdg (am_rd hl hy) (go1 hk)
  | istore_n j =>
    dsimp only [am_stp] at h
    obtain ⟨y, r, hst, h0⟩ := am_i_ok h
    clear h
    have h := h0
    clear h0
    subst hst
    obtain ⟨hnl, hk⟩ := am_sv_ok h
    exact lv_istore_n hx hb hdg rfl hl (by simpa [am_ck3] using hc) rfl (fun ls' h' => go2 ls' hk (by rw [am_up_len]; exact hln) (am_wr1 (v := .int y) hnl h'))
  | istore j =>
    dsimp only [am_stp] at h
    obtain ⟨y, r, hst, h0⟩ := am_i_ok h
    clear h
    have h := h0
    clear h0
    subst hst
    obtain ⟨hnl, hk⟩ := am_sv_ok h
    exact lv_istore hx hb hdg hl (by simpa [am_ck3] using hc) rfl (fun ls' h' => go2 ls' hk (by rw [am_up_len]; exact hln) (am_wr1 (v := .int y) hnl h'))
  | lstore_n j =>
    dsimp only [am_stp] at h
    obtain ⟨y, r, hst, h0⟩ := am_l_ok h
    clear h
    have h := h0
    clear h0
    subst hst
    obtain ⟨hnl, hk⟩ := am_sl_ok h
    exact lv_lstore_n hx hb hdg rfl hl (by simpa [am_ck3] using hc) rfl (fun ls' h' => go2 ls' hk (by rw [am_up_len, am_up_len]; exact hln) (am_wr2 hnl h'))
  | lstore j =>
    dsimp only [am_stp] at h
    obtain ⟨y, r, hst, h0⟩ := am_l_ok h
    clear h
    have h := h0
    clear h0
    subst hst
    obtain ⟨hnl, hk⟩ := am_sl_ok h
    exact lv_lstore hx hb hdg hl (by simpa [am_ck3] using hc) rfl (fun ls' h' => go2 ls' hk (by rw [am_up_len, am_up_len]; exact hln) (am_wr2 hnl h'))
  | astore_n j =>
    dsimp only [am_stp] at h
    obtain ⟨y, r, hst, hj, h0⟩ := am_a_ok h
    clear h
    have h := h0
    clear h0
    subst hst
    obtain ⟨hnl, hk⟩ := am_sv_ok h
    rcases hj with ⟨q, rfl⟩ | ⟨q, rfl⟩
    · exact lv_astore_n hx hb hdg rfl hl (by simpa [am_ck3] using hc) rfl (fun ls' h' => go2 ls' hk (by rw [am_up_len]; exact hln) (am_wr1 (v := .ref q) hnl h'))
    · cases q with
      | zero => exact lv_astore_n hx hb hdg rfl hl (by simpa [am_ck3] using hc) rfl (fun ls' h' => go2 ls' hk (by rw [am_up_len]; exact hln) (am_wr1 (v := .retAddr 0) hnl h'))
      | succ q => exact lv_astore_n hx hb hdg rfl hl (by simpa [am_ck3] using hc) rfl (fun ls' h' => go2 ls' hk (by rw [am_up_len]; exact hln) (am_wr1 (v := .retAddr (q + 1)) hnl h'))
  | astore j =>
    dsimp only [am_stp] at h
    obtain ⟨y, r, hst, hj, h0⟩ := am_a_ok h
    clear h
    have h := h0
    clear h0
    subst hst
    obtain ⟨hnl, hk⟩ := am_sv_ok h
    rcases hj with ⟨q, rfl⟩ | ⟨q, rfl⟩
    · exact lv_astore hx hb hdg hl (by simpa [am_ck3] using hc) rfl (fun ls' h' => go2 ls' hk (by rw [am_up_len]; exact hln) (am_wr1 (v := .ref q) hnl h'))
    · cases q with
      | zero => exact lv_astore hx hb hdg hl (by simpa [am_ck3] using hc) rfl (fun ls' h' => go2 ls' hk (by rw [am_up_len]; exact hln) (am_wr1 (v := .retAddr 0) hnl h'))
      | succ q => exact lv_astore hx hb hdg hl (by simpa [am_ck3] using hc) rfl (fun ls' h' => go2 ls' hk (by rw [am_up_len]; exact hln) (am_wr1 (v := .retAddr (q + 1)) hnl h'))
  | iinc j n =>
    dsimp only [am_stp] at h
    obtain ⟨y, hy, h⟩ := am_gi_ok h
    obtain ⟨hnl, hk⟩ := am_sv_ok h
    obtain ⟨kk, hkk⟩ := List.getElem?_of_mem (am_al_of (f := am_cv base b t0) (i := 0) hy)
    rw [Nat.zero_add] at hkk
    simp only [am_ck3, Bool.and_eq_true, decide_eq_true_eq] at hc
    refine lv_iinc (x := y) (v := y + v) hx hb hdg hl (k := kk) hkk (by rw [hc.2]) (by simpa using hc.1) rfl (fun ls' h' => go2 ls' hk (by rw [am_up_len]; exact hln) (am_wr1 (v := .int (y + v)) hnl h'))
  | iadd =>
    obtain ⟨y, z, r, rfl, hk⟩ := am_ii_ok h
    exact lv_iadd hx hb hdg (go1 hk)
  | isub =>
    obtain ⟨y, z, r, rfl, hk⟩ := am_ii_ok h
    exact lv_isub hx hb hdg (go1 hk)
  | imul =>
    obtain ⟨y, z, r, rfl, hk⟩ := am_ii_ok h
    exact lv_imul hx hb hdg (go1 hk)
  | iand =>
    obtain ⟨y, z, r, rfl, hk⟩ := am_ii_ok h
    exact lv_iand hx hb hdg (go1 hk)
  | ior =>
    obtain ⟨y, z, r, rfl, hk⟩ := am_ii_ok h
    exact lv_ior hx hb hdg (go1 hk)
  | ixor =>
    obtain ⟨y, z, r, rfl, hk⟩ := am_ii_ok h
    exact lv_ixor hx hb hdg (go1 hk)
  | ishl =>
    obtain ⟨y, z, r, rfl, hk⟩ := am_ii_ok h
    exact lv_ishl hx hb hdg (go1 hk)
  | ishr =>
    obtain ⟨y, z, r, rfl, hk⟩ := am_ii_ok h
    exact lv_ishr hx hb hdg (go1 hk)
  | iushr =>
    obtain ⟨y, z, r, rfl, hk⟩ := am_ii_ok h
    exact lv_iushr hx hb hdg rfl (go1 hk)
  | idiv =>
    obtain ⟨y, z, r, rfl, hne, hk⟩ := am_ii_ok h
    exact lv_idiv hx hb hdg hne (go1 hk)
  | irem =>
    obtain ⟨y, z, r, rfl, hne, hk⟩ := am_ii_ok h
    exact lv_irem hx hb hdg hne (go1 hk)
  | ineg =>
    obtain ⟨y, r, rfl, hk⟩ := am_i_ok h
    exact lv_ineg hx hb hdg (go1 hk)
  | lmul =>
    obtain ⟨y, z, r, rfl, hk⟩ := am_ll_ok h
    exact lv_lmul hx hb hdg (go1 hk)
  | ldiv =>
    obtain ⟨y, z, r, rfl, hne, hk⟩ := am_ll_ok h
    exact lv_ldiv hx hb hdg hne (go1 hk)
  | i2l =>
    obtain ⟨y, r, rfl, hk⟩ := am_i_ok h
    exact lv_i2l hx hb hdg rfl (go1 hk)
  | l2i =>
    obtain ⟨y, r, rfl, hk⟩ := am_l_ok h
    exact lv_l2i hx hb hdg rfl (go1 hk)
  | i2c =>
    obtain ⟨y, r, rfl, hk⟩ := am_i_ok h
    exact lv_i2c hx hb hdg rfl (go1 hk)
  | dup =>
    dsimp only [am_stp] at h
    split at h
    · rename_i y r
      split at h
      · rename_i hy
        refine lv_dup hx hb hdg ?_ (go1 h)
        rw [am_cv_cat]
        cases y <;> first | rfl | cases hy
      · exact h.elim
    · exact h.elim
  | dup2 =>
    dsimp only [am_stp] at h
    split at h
    · rename_i y z r
      split at h
      · rename_i hy
        rw [Bool.and_eq_true] at hy
        refine lv_dup2_11 hx hb hdg ?_ ?_ (go1 h)
        · rw [am_cv_cat]
          have := hy.1
          cases y <;> first | rfl | cases this
        · rw [am_cv_cat]
          have := hy.2
          cases z <;> first | rfl | cases this
      · exact h.elim
    · exact h.elim
  | ifCond cc off =>
    obtain ⟨y, r, hst, h0⟩ := am_i_ok h
    clear h
    have h := h0
    clear h0
    subst hst
    have ht := of_decide_eq_true hc
    cases cc with
    | eq => exact lv_if_eq hx hb hdg ht (fun q => go1 (h.1 q)) (fun q => go1 (h.2 q))
    | ne => exact lv_if_ne hx hb hdg ht (fun q => go1 (h.1 q)) (fun q => go1 (h.2 q))
    | lt => exact lv_if_lt hx hb hdg ht (fun q => go1 (h.1 q)) (fun q => go1 (h.2 q))
    | ge => exact lv_if_ge hx hb hdg ht (fun q => go1 (h.1 q)) (fun q => go1 (h.2 q))
    | gt => exact lv_if_gt hx hb hdg ht (fun q => go1 (h.1 q)) (fun q => go1 (h.2 q))
    | le => exact lv_if_le hx hb hdg ht (fun q => go1 (h.1 q)) (fun q => go1 (h.2 q))
  | if_icmp cc off =>
    obtain ⟨y, z, r, hst, h0⟩ := am_ii_ok h
    clear h
    have h := h0
    clear h0
    subst hst
    have ht := of_decide_eq_true hc
    cases cc with
    | eq => exact lv_icmp_eq hx hb hdg ht (fun q => go1 (h.1 q)) (fun q => go1 (h.2 q))
    | ne => exact lv_icmp_ne hx hb hdg ht (fun q => go1 (h.1 q)) (fun q => go1 (h.2 q))
    | lt => exact lv_icmp_lt hx hb hdg ht (fun q => go1 (h.1 q)) (fun q => go1 (h.2 q))
    | ge => exact lv_icmp_ge hx hb hdg ht (fun q => go1 (h.1 q)) (fun q => go1 (h.2 q))
    | gt => exact lv_icmp_gt hx hb hdg ht (fun q => go1 (h.1 q)) (fun q => go1 (h.2 q))
    | le => exact lv_icmp_le hx hb hdg ht (fun q => go1 (h.1 q)) (fun q => go1 (h.2 q))
  | goto off => exact lv_goto hx hb hdg (of_decide_eq_true hc) (go1 h)
  | tableswitch dd lo hi offs =>
    obtain ⟨y, r, hst, h0⟩ := am_i_ok h
    clear h
    have h := h0
    clear h0
    subst hst
    simp only [am_ck3, Bool.and_eq_true, decide_eq_true_eq] at hc
    obtain ⟨⟨h1, h2⟩, h3⟩ := hc
    rcases am_tsw_ok sw 0 h3 h with ⟨i, t, o, a1, a2, a3, a4, a5⟩ | ⟨a1, a2⟩
    · rw [Nat.zero_add] at a2 a3
      exact lv_tableIn hx hb hdg (by omega) (by omega) (by rw [show (y.toInt - lo).toNat = i by omega]; exact a3) a4 (go1 a5)
    · refine lv_tableOut hx hb hdg ?_ h1 (go1 a2)
      by_cases hlo : y.toInt < lo
      · exact Or.inl hlo
      · right
        apply Int.not_le.mp
        intro hhi
        refine a1 (y.toInt - lo).toNat (by omega) ?_
        rw [Nat.zero_add]
        omega
  | lookupswitch dd ps =>
    obtain ⟨y, r, hst, h0⟩ := am_i_ok h
    clear h
    have h := h0
    clear h0
    subst hst
    simp only [am_ck3, Bool.and_eq_true, decide_eq_true_eq] at hc
    obtain ⟨⟨h1, h2⟩, h3⟩ := hc
    have h2' : (ps.toList.zip (ps.toList.drop 1)).all (fun (a, next) => a.1 < next.1) = true := h2
    rcases am_lsw_ok (dflt := dd) ps.toList sw h3 h with ⟨t, a1, a2⟩ | ⟨a1, a2⟩
    · exact lv_lookup hx hb hdg h2' rfl a1 (go1 a2)
    · exact lv_lookup hx hb hdg h2' rfl (by rw [a1]; exact h1) (go1 a2)
  | getfield n =>
    dsimp only [am_stp] at h
    split at h
    · rename_i i r
      obtain ⟨hi, hs, h⟩ := am_ob_ok h
      simp only [am_ck3, am_ckf, Bool.and_eq_true, decide_eq_true_eq] at hc
      obtain ⟨⟨⟨⟨h1, h2⟩, h3⟩, h4⟩, h5⟩ := hc
      have ha : a < 5 := by simpa using h1
      have hbN : b' < (am_cls a).2.2 := by simpa using h2
      have hg := am_fl_get (am_fv base w i) (am_fk a) 0 b' _ h5
      rw [Nat.zero_add] at hg
      refine va_get hx hb hts (am_inC a ha) hown hKK hP i (by rw [am_ws_get hi, am_cell_ob hs]) (am_clC a ha) b' hbN (hts _ (am_wd_ok h3)) (fun _ z => z) hg hdg ?_
      split at h
      · split at h
        · rename_i j hj
          have e : am_fv base w i b' (Nat.beq 1 1) = .ref (base + j) := by
            show va_rf ((w.2.2.2 i b').map (base + ·)) = _
            rw [hj]
            rfl
          rw [e]
          exact go1 h
        · exact h.elim
      · rename_i hf
        have e : am_fv base w i b' (Nat.beq f 1) = .int (w.2.2.1 i b') := by
          have : Nat.beq f 1 = false := by
            cases hbq : Nat.beq f 1 with
            | false => rfl
            | true => exact absurd (Nat.eq_of_beq_eq_true hbq) hf
          rw [this]
          rfl
        rw [e]
        exact go1 h
    · exact h.elim
  | putfield n =>
    simp only [am_ck3, am_ckf, Bool.and_eq_true, decide_eq_true_eq] at hc
    obtain ⟨⟨⟨⟨⟨h1, h2⟩, h3⟩, h4⟩, h5⟩, h6⟩ := hc
    have ha : a < 5 := by simpa using h1
    have hbN : b' < (am_cls a).2.2 := by simpa using h2
    have key : ∀ (i : Nat) (r : List Value) (ty0 : FieldType) (vv : Value), i < w.1 → w.2.1 i = (0, a) → parseFieldDescriptor ((am_cls a).2.1 b').2.2.1 = some ty0 → narrow ty0 vv = vv → fits ty0 vv = true →
        (∀ (H1 : Heap) (locs1 : List Loc), va_P D vwCl ((am_ws base ty w).set i (base + i, .inr (a, (am_fl (am_fv base w i) 0 (am_fk a)).set b' vv))) H1 → va_S (am_A base) s.heap H1 locs1 → W p l e R s m args below meth c H1 locs1 u.1 u.2 Q (F0 m (pc + 3) ls r)) →
        W p l e R s m args below meth c H locs u.1 u.2 Q (F0 m pc ls (vv :: .ref (base + i) :: r)) := by
      intro i r ty0 vv hi hs hp hn hf kk
      have hlen : b' < (am_fl (am_fv base w i) 0 (am_fk a)).length := by
        rw [am_fl_len]
        exact (List.getElem?_eq_some_iff.mp h5).1
      cases hfin : ((am_cls a).2.1 b').2.2.2 with
      | false => exact va_put hx hb hts (am_inC a ha) (am_tyC a) (am_tyC_ok a ha) (am_nmC a ha) hown hKK hP hD hS i (by rw [am_ws_get hi, am_cell_ob hs]) (am_clC a ha) b' hbN (hts _ (am_wd_ok h3)) (fun _ z => z) hfin hp hn hf hlen hdg (fun H1 locs1 q1 _ q3 => kk H1 locs1 q1 q3)
      | true =>
        simp only [am_fin, hfin, Bool.not_true, Bool.false_or, Bool.and_eq_true, decide_eq_true_eq] at h6
        exact va_putF hx hb hts (am_inC a ha) (am_tyC a) (am_tyC_ok a ha) (am_nmC a ha) hown hKK hP hD hS i (by rw [am_ws_get hi, am_cell_ob hs]) (am_clC a ha) b' hbN (hts _ (am_wd_ok h3)) (fun _ z => z) hfin (hin h6.1) h6.2 hp hn hf hlen hdg (fun H1 locs1 q1 _ q3 => kk H1 locs1 q1 q3)
    dsimp only [am_stp] at h
    split at h
    · rename_i y i r
      obtain ⟨hi, hs, h⟩ := am_ob_ok h
      unfold am_fty at h4
      split at h4
      · rename_i hp
        exact key i _ .int (.int y) hi hs hp rfl rfl (fun H1 locs1 q1 q3 => go3 H1 locs1 h rfl (by rw [← am_putC hi hs h5]; exact q1) q3)
      · rename_i hf _; cases hf
      · rename_i hf _; cases hf
      · rename_i hf _; cases hf
      · cases h4
    · rename_i j i r
      obtain ⟨hi, hs, h⟩ := am_ob_ok h
      unfold am_fty at h4
      split at h4
      · rename_i hf _; cases hf
      · rename_i C _ hp
        exact key i _ (.object C) (.ref (base + j)) hi hs hp rfl rfl (fun H1 locs1 q1 q3 => go3 H1 locs1 h rfl (by rw [← am_putF hi hs h5]; exact q1) q3)
      · rename_i C _ hp
        exact key i _ (.array C) (.ref (base + j)) hi hs hp rfl rfl (fun H1 locs1 q1 q3 => go3 H1 locs1 h rfl (by rw [← am_putF hi hs h5]; exact q1) q3)
      · rename_i hf _; cases hf
      · cases h4
    · rename_i y i r
      obtain ⟨hi, hs, hy, h⟩ := am_ob_ok h
      unfold am_fty at h4
      split at h4
      · rename_i hf _; cases hf
      · rename_i hf _; cases hf
      · rename_i hf _; cases hf
      · rename_i hp
        exact key i _ .boolean (.int y) hi hs hp (by rcases hy with rfl | rfl <;> rfl) (by rcases hy with rfl | rfl <;> rfl) (fun H1 locs1 q1 q3 => go3 H1 locs1 h rfl (by rw [← am_putC hi hs h5]; exact q1) q3)
      · cases h4
    · exact h.elim
  | getstatic n => exact va_gets hx hb hZ hS hown (hts _ (am_wd_ok hc)) (fun _ z => z) hdg (go1 h)
  | arraylength =>
    dsimp only [am_stp] at h
    split at h
    · rename_i i r
      obtain ⟨t, n, hi, hs, ht, h⟩ := am_alen_ok h
      by_cases h3 : t = 3
      · subst h3
        exact va_alen hx hb hKK hP i 3 (x := (n, .inr (.inr (.inr (.inr (fun j => (w.2.2.2 i j).map (base + ·))))))) (by rw [am_ws_get hi, am_cell_aq hs]) rfl rfl hdg (go1 h)
      · have htt : (am_tys ty)[t]? = some (ty t, am_at t) := by
          have : t = 0 ∨ t = 1 ∨ t = 2 := by omega
          rcases this with e | e | e <;> subst e <;> rfl
        exact va_alen hx hb hKK hP i t (x := (n, .inl (w.2.2.1 i))) (by rw [am_ws_get hi, am_cell_ar hs h3]) htt rfl hdg (go1 h)
    · rename_i r
      cases sx with
      | none => exact h.elim
      | some q =>
        obtain ⟨g1, g2, g3⟩ := hX
        exact va_slen hx hb g1 g2 (Nat.not_le.mpr g3) hS hdg (go1 h)
    · exact h.elim
  | iaload =>
    dsimp only [am_stp] at h
    split at h
    · rename_i i q r
      obtain ⟨n, hi, hs, hv, h⟩ := am_ar_ok h
      exact va_iald hx hb hKK hP q 1 (by rw [am_ws_get hi, am_cell_ar hs (by decide)]) rfl hv hdg (go1 h)
    · rename_i i r
      cases sx with
      | none => exact h.elim
      | some q =>
        obtain ⟨g1, g2, g3⟩ := hX
        exact va_sld hx hb g1 g2 (Nat.not_le.mpr g3) hS h.1 hdg (go1 h.2)
    · rename_i i r
      exact va_ti hx hb hT hS h.1 rfl hdg (go1 h.2)
    · exact h.elim
  | caload =>
    dsimp only [am_stp] at h
    split at h
    · rename_i i q r
      obtain ⟨n, hi, hs, hv, h⟩ := am_ar_ok h
      exact va_cald hx hb hKK hP q 0 (by rw [am_ws_get hi, am_cell_ar hs (by decide)]) rfl hv hdg (go1 h)
    · exact h.elim
  | baload =>
    dsimp only [am_stp] at h
    split at h
    · rename_i i q r
      obtain ⟨n, hi, hs, hv, h⟩ := am_ar_ok h
      exact va_zald hx hb hKK hP q 2 (by rw [am_ws_get hi, am_cell_ar hs (by decide)]) rfl hv hdg (go1 h)
    · exact h.elim
  | aaload =>
    dsimp only [am_stp] at h
    split at h
    · rename_i i q r
      obtain ⟨n, hi, hs, hv, j, hj, h⟩ := am_ar_ok h
      refine va_aldq hx hb hKK hP q 3 (by rw [am_ws_get hi, am_cell_aq hs]) rfl hv hdg ?_
      have e : va_rf ((w.2.2.2 q i.toNatClampNeg).map (base + ·)) = .ref (base + j) := by
        rw [hj]
        rfl
      rw [e]
      exact go1 h
    · exact h.elim
  | iastore =>
    dsimp only [am_stp] at h
    split at h
    · rename_i y i q r
      obtain ⟨n, hi, hs, hv, h⟩ := am_ar_ok h
      exact va_iast hx hb hKK hP hD hS q 1 (by rw [am_ws_get hi, am_cell_ar hs (by decide)]) rfl hv hdg (fun H1 locs1 q1 _ q3 => go3 H1 locs1 h rfl (by rw [← am_putA hi hs (by decide)]; exact q1) q3)
    · exact h.elim
  | castore =>
    dsimp only [am_stp] at h
    split at h
    · rename_i y i q r
      obtain ⟨n, hi, hs, hv, h⟩ := am_ar_ok h
      exact va_cast hx hb hKK hP hD hS q 0 (by rw [am_ws_get hi, am_cell_ar hs (by decide)]) rfl hv hdg (fun H1 locs1 q1 _ q3 => go3 H1 locs1 h rfl (by rw [← am_putA hi hs (by decide)]; exact q1) q3)
    · exact h.elim
  | bastore =>
    dsimp only [am_stp] at h
    split at h
    · rename_i y i q r
      obtain ⟨n, hi, hs, hv, h⟩ := am_ar_ok h
      exact va_zast hx hb hKK hP hD hS q 2 (by rw [am_ws_get hi, am_cell_ar hs (by decide)]) rfl hv hdg (fun H1 locs1 q1 _ q3 => go3 H1 locs1 h rfl (by rw [← am_putA hi hs (by decide)]; exact q1) q3)
    · exact h.elim
  | aastore =>
    dsimp only [am_stp] at h
    split at h
    · rename_i j i q r
      obtain ⟨n, hi, hs, hv, h⟩ := am_ar_ok h
      obtain ⟨hj, hjs, h⟩ := am_ob_ok h
      exact va_astq hx hb hKK hP hD hS q 3 j 3 (r := am_cls 3) (by rw [am_ws_get hi, am_cell_aq hs]) rfl (by rw [am_ws_get hj, am_cell_ob hjs]) rfl hv hdg (fun H1 locs1 q1 _ q3 => go3 H1 locs1 h rfl (by rw [← am_putQ hi hs]; exact q1) q3)
    · exact h.elim
  | new n =>
    obtain ⟨h1, h2, h⟩ := am_room_ok h
    simp only [am_ck3, Bool.and_eq_true] at hc
    obtain ⟨⟨⟨⟨c1, c2⟩, c3⟩, c4⟩, c5⟩ := hc
    have ha : a < 5 := by simpa using c1
    have hf := Nat.eq_of_beq_eq_true c3
    subst hf
    refine va_new hx hb hts (am_inC a ha) (am_tyC a) (am_tyC_ok a ha) hown (hts _ (am_wd_ok c2)) (hts _ (am_wd_ok c4)) (hts _ (am_wd_ok c5)) hKK hP hD hS hA (am_clC a ha) (fs := am_fl (am_fv base (am_wN w (0, a)) w.1) 0 (am_fk a)) ?_ (by rw [hr3]; exact h1) (by rw [hr4]; exact h2) hdg (fun q H1 q1 q2 q3 => ?_)
    · intro j hj
      obtain ⟨e1, e2⟩ := am_dfl a ha j hj
      rw [e2]
      have hg := am_fl_get (am_fv base (am_wN w (0, a)) w.1) (am_fk a) 0 j _ e1
      rw [Nat.zero_add] at hg
      show _ = (am_fl (am_fv base (am_wN w (0, a)) w.1) 0 (am_fk a)).getD j .null
      rw [List.getD_eq_getElem?_getD, hg]
      have hC : (am_wN w (0, a)).2.2.1 w.1 j = 0 := by simp [am_wN, am_uR]
      have hQ : (am_wN w (0, a)).2.2.2 w.1 j = none := by simp [am_wN, am_uR]
      cases am_tyC a j <;> simp [am_fv, hC, hQ, va_rf]
    · refine am_size fun hz => ?_
      have hq := am_new_at q2 q1 (by omega)
      subst hq
      refine go (u' := (u.1 + 1, u.2 + (am_cls a).2.2)) H1 locs ls h (by show s.heap.size + (u.1 + 1) = base + (w.1 + 1); omega) h1 h2 ?_ q3 hln hl
      rw [← am_ws_push (w := w) (w' := am_wN w (0, a)) rfl (by rw [am_cell_ob (show (am_wN w (0, a)).2.1 w.1 = (0, a) by simp [am_wN, am_uS])]) (fun j hj => am_cell_congr (am_uS_ne (by omega)) (am_uR_ne (by omega)) (am_uR_ne (by omega)))]
      exact q1
  | newarray t =>
    obtain ⟨y, r, hst, hy, h0⟩ := am_i_ok h
    clear h
    have h := h0
    clear h0
    subst hst
    obtain ⟨h1, h2, h⟩ := am_room_ok h
    subst hy
    simp only [am_ck3, am_num, Bool.and_eq_true, decide_eq_true_eq] at hc
    obtain ⟨⟨⟨c1, c2⟩, c3⟩, ⟨c4, c5⟩, c6⟩ := hc
    have hb3 : b' < 3 := by simpa using c3
    have hbt := Nat.eq_of_beq_eq_true c2
    have key : ∀ (t' : FieldType), newarray.typeOf t = t' → (am_tys ty)[b']? = some (ty b', t') → defaultValue t' = .int 0 → (∀ cA, va_RA s cA t' → va_RA s (ty b') t' → cA = ty b') →
        W p l e R s m args below meth c H locs u.1 u.2 Q (F0 m pc ls ((.int y :: r).map (am_cv base b t0))) := by
      intro t' ht' htt hdv huq
      refine va_newa hx hb (hts _ (am_wd_ok c1)) ht' hKK hP hD hS hA (N' := a) (a0 := (a, .inl (fun _ => 0))) (fun cA => by rw [vp_cell_i, hdv]) c4 c5 (by rw [← ht']; exact Nat.le_of_ble_eq_true c6) (by rw [hr3]; exact h1) (by rw [hr4]; exact h2) hdg (fun q cA H1 q0 q1 q2 q3 => ?_)
      have hcA : cA = ty b' := huq cA (q0.2 (am_tys ty).length (cA, t') (by simp)).2 (hKK.2 b' _ htt).2
      subst hcA
      refine am_size fun hz => ?_
      have hq := am_new_at q2 q1 (by omega)
      subst hq
      refine go (u' := (u.1 + 1, u.2 + a)) H1 locs ls h (by show s.heap.size + (u.1 + 1) = base + (w.1 + 1); omega) h1 h2 ?_ q3 hln hl
      rw [← am_ws_push (w := w) (w' := am_wN w (b' + 1, a)) (e := .inl (ty b', a, .inl (fun _ => 0))) rfl ?_ (fun j hj => am_cell_congr (am_uS_ne (by omega)) (am_uR_ne (by omega)) (am_uR_ne (by omega)))]
      · exact q1
      · rw [am_cell_ar (show (am_wN w (b' + 1, a)).2.1 w.1 = (b' + 1, a) by simp [am_wN, am_uS]) (by omega)]
        have : (am_wN w (b' + 1, a)).2.2.1 w.1 = fun _ => 0 := by simp [am_wN, am_uR]
        rw [this]
    cases t with
    | char => cases hbt; exact key .char rfl rfl rfl (fun cA q1 q2 => Option.some.inj (q1.symm.trans q2))
    | int => cases hbt; exact key .int rfl rfl rfl (fun cA q1 q2 => Option.some.inj (q1.symm.trans q2))
    | boolean => cases hbt; exact key .boolean rfl rfl rfl (fun cA q1 q2 => Option.some.inj (q1.symm.trans q2))
    | _ => cases hbt; exact absurd hb3 (by decide)
  | anewarray n =>
    obtain ⟨y, r, hst, hy, h0⟩ := am_i_ok h
    clear h
    have h := h0
    clear h0
    subst hst
    obtain ⟨h1, h2, h⟩ := am_room_ok h
    subst hy
    simp only [am_ck3, am_num, Bool.and_eq_true, decide_eq_true_eq] at hc
    obtain ⟨⟨c1, c2⟩, ⟨c4, c5⟩, c6⟩ := hc
    refine va_newq hx hb hown (hts _ (am_wd_ok c1)) hAO hKK hP hD hS hA c4 c5 (Nat.le_of_ble_eq_true c6) (by rw [hr3]; exact h1) (by rw [hr4]; exact h2) hdg (fun q cA H1 q0 q1 q2 q3 => ?_)
    have hcA : cA = ty 3 := by
      obtain ⟨_, _, _, _, _, e1⟩ := (q0.2 (am_tys ty).length (cA, .object "FaceRounds$State") (by simp)).2
      obtain ⟨_, _, _, _, _, e2⟩ := (hKK.2 3 (ty 3, .object "FaceRounds$State") rfl).2
      exact Option.some.inj (e1.symm.trans e2)
    subst hcA
    refine am_size fun hz => ?_
    have hq := am_new_at q2 q1 (by omega)
    subst hq
    refine go (u' := (u.1 + 1, u.2 + a)) H1 locs ls h (by show s.heap.size + (u.1 + 1) = base + (w.1 + 1); omega) h1 h2 ?_ q3 hln hl
    rw [← am_ws_push (w := w) (w' := am_wN w (4, a)) (e := .inl (ty 3, a, .inr (.inr (.inr (.inr (fun _ => none)))))) rfl ?_ (fun j hj => am_cell_congr (am_uS_ne (by omega)) (am_uR_ne (by omega)) (am_uR_ne (by omega)))]
    · exact q1
    · rw [am_cell_aq (show (am_wN w (4, a)).2.1 w.1 = (4, a) by simp [am_wN, am_uS])]
      have : (fun j => ((am_wN w (4, a)).2.2.2 w.1 j).map (base + ·)) = fun _ => none := by
        funext j
        simp [am_wN, am_uR]
      rw [this]
  | invokevirtual n =>
    obtain ⟨av, r, hlen, hst, h0⟩ := am_pop_ok h
    clear h
    have h := h0
    clear h0
    subst hst
    rw [List.append_nil] at h
    split at h
    · rename_i i r
      obtain ⟨hi, hs, h⟩ := am_ob_ok h
      obtain ⟨hcs, h⟩ := am_cs8_ok h
      obtain ⟨d', rfl, hC⟩ := am_cf_ok h
      simp only [am_ck3, Bool.and_eq_true, decide_eq_true_eq] at hc
      obtain ⟨⟨⟨⟨c1, c2⟩, c3⟩, c4⟩, -⟩ := hc
      refine am_size fun hz => ?_
      exact am_callV hF hE hlen hi hs (by simpa using c3) c4 c1 (am_wd_ok c2) hC hdg hcs hP hS (by omega) hu1 hu2 hl.1 (fun r' w' H1 locs1 q1 q2 q3 q4 => by
        have := go3 (st' := r'.toList ++ r) H1 locs1 q1 q2 q3 q4
        cases r' <;> exact this)
    · exact h.elim
  | invokestatic n =>
    dsimp only [am_stp] at h
    split at h
    · split at h
      · rename_i d' n' dp q1 sp q0 r
        obtain ⟨t, n0, n1, hq0, hq1, hs0, hs1, h⟩ := am_cpa_ok h
        obtain ⟨hcs, g1, g2, g3, g4, g5, h⟩ := am_cs8_ok h
        simp only [am_ck3, Bool.and_eq_true] at hc
        obtain ⟨c1, -⟩ := hc
        have hnn := am_isC_ok
        simp only [am_isC, Bool.and_eq_true] at hnn
        obtain ⟨⟨w1, w2⟩, w3⟩ := hnn
        have hlo : ((r.map (am_cv base b t0)).map fun v => v.category).sum + (nativeFrameWords "java/lang/System" "arraycopy" 5 + 11) ≤ R.locals := by
          rw [am_cs_map]
          have : nativeFrameWords "java/lang/System" "arraycopy" 5 = 7 := by decide
          omega
        have key : ∀ (ty' : FieldType), t ≠ 3 → (am_tys ty)[t]? = some (ty t, ty') → refKind ty' = false → (∀ i, i < n'.toNatClampNeg → fits ty' (.int (w.2.2.1 q0 (sp.toNatClampNeg + i))) = true) → K (pc + 3) lc r (am_wC w (am_uR w.2.2.1 q1 (va_cpy (w.2.2.1 q0) (w.2.2.1 q1) sp.toNatClampNeg dp.toNatClampNeg n'.toNatClampNeg))) u →
            W p l e R s m args below meth c H locs u.1 u.2 Q (F0 m pc ls ((.int n' :: .int dp :: .ref q1 :: .int sp :: .ref q0 :: r).map (am_cv base b t0))) := by
          intro ty' h3 htt hrk hfit hk
          exact va_copyi hx hb (hml.trans hl.1.symm) hown (hts _ (am_wd_ok c1)) (hts _ (am_wd_ok w1)) (hts _ (am_wd_ok w2)) (hts _ (am_wd_ok w3)) hKK hP hD hS q0 q1 t t (by rw [am_ws_get hq0, am_cell_ar hs0 h3]) (by rw [am_ws_get hq1, am_cell_ar hs1 h3]) htt htt hrk g1 g2 g3 g4 g5 hfit (by omega) hlo hdg
            (fun H1 locs1 z1 _ z3 => go3 H1 locs1 hk rfl (by rw [← am_putR hq1 hs1 h3]; exact z1) z3)
        unfold am_cpf at h
        split at h
        · exact key .int (by decide) rfl rfl (fun _ _ => rfl) h
        · exact key .boolean (by decide) rfl rfl (fun i hi => by rcases h.1 i hi with e | e <;> rw [e] <;> rfl) h.2
        · exact h.elim
      · exact h.elim
    · split at h
      · rename_i d' z y r
        obtain ⟨hcs, h⟩ := am_cs8_ok h
        have hmm := am_mm
        simp only [Bool.and_eq_true] at hmm
        obtain ⟨⟨w1, w2⟩, w3⟩ := hmm
        have hlo : ((r.map (am_cv base b t0)).map fun v => v.category).sum + 13 ≤ R.locals := by
          rw [am_cs_map]
          omega
        exact va_mmax hx hb (hml.trans hl.1.symm) hown (hts _ (am_wd_ok hc)) (hts _ (am_wd_ok w1)) (hts _ (am_wd_ok w3)) (hts _ (List.mem_filter.mpr ⟨List.mem_of_getElem? am_mx, rfl⟩)) (by omega) hlo (by omega) (by omega) hdg (go1 h)
      · exact h.elim
    · split at h
      · rename_i d' y r
        obtain ⟨hcs, h⟩ := am_cs8_ok h
        have hmm := am_mm
        simp only [Bool.and_eq_true] at hmm
        obtain ⟨⟨w1, w2⟩, w3⟩ := hmm
        have hlo : ((r.map (am_cv base b t0)).map fun v => v.category).sum + 13 ≤ R.locals := by
          rw [am_cs_map]
          omega
        exact va_mabs hx hb (hml.trans hl.1.symm) hown (hts _ (am_wd_ok hc)) (hts _ (am_wd_ok w2)) (hts _ (am_wd_ok w3)) (hts _ (List.mem_filter.mpr ⟨List.mem_of_getElem? am_ma, rfl⟩)) (by omega) hlo (by omega) (by omega) hdg (go1 h)
      · exact h.elim
    · obtain ⟨av, r, hlen, hst, h0⟩ := am_pop_ok h
      clear h
      have h := h0
      clear h0
      subst hst
      rw [List.append_nil] at h
      obtain ⟨hcs, h⟩ := am_cs8_ok h
      obtain ⟨h1, h2', h⟩ := am_room_ok h
      obtain ⟨d', rfl, hC⟩ := am_cf_ok h
      simp only [am_ck3, Bool.and_eq_true] at hc
      refine am_size fun hz => ?_
      exact am_callZ hF hE hlen hc.1 (am_wd_ok hc.2) hC hdg hcs hP hS (by omega) h1 h2' hl.1 (fun r' w' H1 locs1 q1 q2 q3 q4 => by
        have := go (u' := (u.1 + mC a, u.2 + mS a)) (st' := r'.toList ++ r) H1 locs1 ls q1 (by show s.heap.size + (u.1 + mC a) = base + w'.1; omega) h1 h2' q3 q4 hln hl
        cases r' <;> exact this)
    · split at h
      · obtain ⟨av, r, hlen, hst, h0⟩ := am_pop_ok h
        clear h
        have h := h0
        clear h0
        subst hst
        rw [List.append_nil] at h
        obtain ⟨hcs, h⟩ := am_cs8_ok h
        obtain ⟨d', rfl, hC⟩ := am_cx_ok h
        simp only [am_ck3, Bool.and_eq_true] at hc
        refine am_size fun hz => ?_
        exact am_callX hF hE hX hlen hc.1 (am_wd_ok hc.2) hC hdg hcs hP hS (by omega) hu1 hu2 hl.1 (fun r' w' H1 locs1 q1 q2 q3 q4 => by
          have := go3 (st' := r'.toList ++ r) H1 locs1 q1 q2 q3 q4
          cases r' <;> exact this)
      · exact h.elim
    · rename_i h2 h3 h4 h5 h6
      obtain ⟨av, r, hlen, hst, h0⟩ := am_pop_ok h
      clear h
      have h := h0
      clear h0
      subst hst
      rw [List.append_nil] at h
      obtain ⟨hcs, h⟩ := am_cs8_ok h
      obtain ⟨d', rfl, hC⟩ := am_cf_ok h
      have hlk : am_has am_Ss a = true ∧ ((.methodLink (mY k).cls n (mY a) : Cond) ∈ am_tbl ∨ (.methodLinkNest (mY k).cls n (mY a) "FaceRounds" : Cond) ∈ am_nest) := by
        dsimp only [am_ck3] at hc
        split at hc
        · exact absurd rfl h2
        · exact absurd rfl h3
        · exact absurd rfl h4
        · simp only [Bool.and_eq_true, decide_eq_true_eq] at hc
          exact ⟨hc.1, Or.inr (List.mem_of_getElem? hc.2)⟩
        · exact absurd rfl h5
        · exact absurd rfl h6
        · simp only [Bool.and_eq_true] at hc
          exact ⟨hc.1, Or.inl (am_wd_ok hc.2)⟩
      refine am_size fun hz => ?_
      exact am_callS hF hE hlen hlk.1 hlk.2 hC hdg hcs hP hS (by omega) hu1 hu2 hl.1 (fun r' w' H1 locs1 q1 q2 q3 q4 => by
        have := go3 (st' := r'.toList ++ r) H1 locs1 q1 q2 q3 q4
        cases r' <;> exact this)
  | invokespecial n =>
    dsimp only [am_stp] at h
    split at h
    · split at h
      · rename_i d' i r
        obtain ⟨hcs, h⟩ := am_cs8_ok h
        simp only [am_ck3, Bool.and_eq_true] at hc
        obtain ⟨c1, c2⟩ := hc
        simp only [am_isO, Bool.and_eq_true] at c2
        refine W.objInit hx hb hown (hts _ (am_wd_ok c1)) (hts _ (am_wd_ok c2.1)) (hts _ (List.mem_filter.mpr ⟨List.mem_of_getElem? am_oc, rfl⟩)) rfl (by rw [hml]; exact hl.1) rfl hdg (by omega) ?_ (go1 h)
        show 2 * 0 + ((r.map (am_cv base b t0)).map fun v => v.category).sum + 12 ≤ R.locals
        rw [am_cs_map]
        omega
      · exact h.elim
    · rename_i h2
      obtain ⟨av, r, hlen, hst, h0⟩ := am_pop_ok h
      clear h
      have h := h0
      clear h0
      subst hst
      rw [List.append_nil] at h
      split at h
      · rename_i i r
        obtain ⟨hcs, h⟩ := am_cs8_ok h
        obtain ⟨h1, h2', h⟩ := am_room_ok h
        obtain ⟨d', rfl, hC⟩ := am_cf_ok h
        have hlk : am_has am_Is a = true ∧ ((.methodLink (mY k).cls n (mY a) : Cond) ∈ am_tbl ∨ (.methodLinkNest (mY k).cls n (mY a) "FaceRounds" : Cond) ∈ am_nest) := by
          dsimp only [am_ck3] at hc
          split at hc
          · exact absurd rfl h2
          · simp only [Bool.and_eq_true, decide_eq_true_eq] at hc
            exact ⟨hc.1, Or.inr (List.mem_of_getElem? hc.2)⟩
          · simp only [Bool.and_eq_true] at hc
            exact ⟨hc.1, Or.inl (am_wd_ok hc.2)⟩
        refine am_size fun hz => ?_
        exact am_callI hF hE hlen hlk.1 hlk.2 hC hdg hcs hP hS (by omega) h1 h2' hl.1 (fun r' w' H1 locs1 q1 q2 q3 q4 => by
          have := go (u' := (u.1 + mC a, u.2 + mS a)) (st' := r'.toList ++ r) H1 locs1 ls q1 (by show s.heap.size + (u.1 + mC a) = base + w'.1; omega) h1 h2' q3 q4 hln hl
          cases r' <;> exact this)
      · exact h.elim
  | ireturn =>
    dsimp only [am_stp] at h
    split at h
    · rename_i y
      have hri : Post (some (.int y)) w ∧ am_Ri k pc (some (.int y)) := by
        dsimp only [am_ck3] at hc
        split at hc
        · rename_i hm
          split at h
          · exact ⟨h, hdg, .int, hm, rfl⟩
          · exact ⟨h.2, hdg, .int, hm, rfl⟩
        · rename_i hm
          have hf := Nat.eq_of_beq_eq_true hc
          subst hf
          exact ⟨h.2, hdg, .boolean, hm, by rcases h.1 with e | e <;> rw [e] <;> rfl⟩
        · cases hc
      exact hret (some (.int y)) w u H locs ls pc hri.1 hsz hu1 hu2 hP hS hri.2
    · exact h.elim
  | return_ =>
    dsimp only [am_stp] at h
    split at h
    · exact hret none w u H locs ls pc h hsz hu1 hu2 hP hS ⟨hdg, of_decide_eq_true hc⟩
    · exact h.elim
  | _ => exact False.elim h
end
section
def am_el (pc : Nat) : List Nat → Bool
  | [] => false
  | x :: t => match Nat.beq x pc with
    | true => true
    | false => am_el pc t
/-- at most n steps, up to the places in stops -/
def am_wp (T : List aI) (d k : Nat) (sx : Option (Nat × (Nat → Int32))) (stops : List Nat) (Post : Option Value → aW → Prop) : Nat → Nat → aL → List Value → aW → Nat × Nat → Prop
  | 0, pc, lc, st, w, u => am_At d k sx Post pc lc st w u
  | n + 1, pc, lc, st, w, u => match am_look T pc with
    | none => False
    | some x => am_stp d sx (mC k, mS k) x lc st w u (fun pc' lc' st' w' u' => match am_el pc' stops with
      | true => am_At d k sx Post pc' lc' st' w' u'
      | false => am_wp T d k sx stops Post n pc' lc' st' w' u') Post
theorem am_look_ok : ∀ {T : List aI} {pc : Nat} {x : aI}, am_look T pc = some x → x ∈ T ∧ x.1 = pc
  | [], _, _, h => by cases h
  | y :: t, pc, x, h => by
    unfold am_look at h
    split at h
    · rename_i hb
      cases h
      exact ⟨List.mem_cons_self, Nat.eq_of_beq_eq_true hb⟩
    · obtain ⟨h1, h2⟩ := am_look_ok h
      exact ⟨List.mem_cons_of_mem _ h1, h2⟩
theorem am_wp_ok {T : List aI} {d k : Nat} {sx : Option (Nat × (Nat → Int32))} {stops : List Nat} {Post : Option Value → aW → Prop} (hT : T.all (am_ck k) = true) : ∀ (n pc : Nat) (lc : aL) (st : List Value) (w : aW) (u : Nat × Nat), am_wp T d k sx stops Post n pc lc st w u → am_At d k sx Post pc lc st w u
  | 0, _, _, _, _, _, h => h
  | n + 1, pc, lc, st, w, u, h => by
    unfold am_wp at h
    split at h
    · exact h.elim
    · rename_i x hx
      obtain ⟨h1, h2⟩ := am_look_ok hx
      subst h2
      refine am_stp_ok (List.all_eq_true.mp hT x h1) h ?_
      intro pc' lc' st' w' u' hk
      split at hk
      · exact hk
      · exact am_wp_ok hT n pc' lc' st' w' u' hk
theorem am_At.mono {d k : Nat} {sx : Option (Nat × (Nat → Int32))} {P P' : Option Value → aW → Prop} {pc : Nat} {lc : aL} {st : List Value} {w : aW} {u : Nat × Nat} (h : am_At d k sx P pc lc st w u) (hp : ∀ r w', P r w' → P' r w') : am_At d k sx P' pc lc st w u :=
  fun p l e R s m args below meth c D ty base b t0 Q hF hE hX hbase hret => h p l e R s m args below meth c D ty base b t0 Q hF hE hX hbase (fun r w' u' H locs ls pc' hr => hret r w' u' H locs ls pc' (hp r w' hr))
def am_a1 : List Value → Bool
  | [] => true
  | v :: t => am_cat1 v && am_a1 t
def am_lc (n : Nat) (av : List Value) : aL := av.map some ++ List.replicate (n - av.length) none
theorem am_args {base b t0 : Nat} : ∀ (av : List Value) (i n : Nat) (q : Nat × Value), am_a1 av = true → q ∈ am_al (am_cv base b t0) i (av.map some ++ List.replicate n none) → q ∈ lv_args i (av.map (am_cv base b t0))
  | [], i, n, q, _, h => by
    obtain ⟨j, x⟩ := q
    obtain ⟨v, -, h2, -⟩ := am_al_mem h
    exfalso
    have : ∀ (n k : Nat), am_nth (List.replicate n none) k = none := by
      intro n
      induction n with
      | zero => intro k; rfl
      | succ n ih =>
        intro k
        cases k with
        | zero => rfl
        | succ k => exact ih k
    rw [show (List.map some ([] : List Value) ++ List.replicate n none) = List.replicate n none from rfl, this] at h2
    cases h2
  | v :: t, i, n, q, hc, h => by
    simp only [am_a1, Bool.and_eq_true] at hc
    have hcat : (am_cv base b t0 v).category = 1 := by
      rw [am_cv_cat]
      have := hc.1
      cases v <;> first | rfl | cases this
    have e : lv_args i ((v :: t).map (am_cv base b t0)) = (i, am_cv base b t0 v) :: lv_args (i + 1) (t.map (am_cv base b t0)) := by
      simp [lv_args, hcat]
    rw [e]
    rcases List.mem_cons.mp h with rfl | h
    · exact List.mem_cons_self
    · exact List.mem_cons_of_mem _ (am_args t (i + 1) n q hc.2 h)
theorem am_sl_len {base b t0 : Nat} : ∀ (av : List Value), am_a1 av = true → (lg_sl (av.map (am_cv base b t0))).length = av.length
  | [], _ => rfl
  | v :: t, hc => by
    simp only [am_a1, Bool.and_eq_true] at hc
    have hcat : (am_cv base b t0 v).category = 1 := by
      rw [am_cv_cat]
      have := hc.1
      cases v <;> first | rfl | cases this
    have h := am_sl_len (base := base) (b := b) (t0 := t0) t hc.2
    simp only [lg_sl, List.map_cons, List.flatMap_cons, hcat] at h ⊢
    simp [h]
set_option maxHeartbeats 4000000 in
/-- a method by its body: from its entry with these arguments -/
theorem am_meth {d k : Nat} {av : List Value} {w : aW} {Post : Option Value → aW → Prop} (hp : plainFor (mY k) = true) (ha : am_a1 av = true) (hn : av.length ≤ mL k)
    (h : am_At d k none (fun r w' => Post r w' ∧ w'.1 = w.1 + mC k) 0 (am_lc (mL k) av) [] w (0, 0)) : am_Call d k av w Post := by
  intro l D ty base b t0
  refine va_MetF (cc := mB k) (maxL := mL k) (ret := mR k) hp rfl ?_
  intro p e s m args below meth c s₁ B hml hv
  obtain ⟨rfl, hE, hP, hz⟩ := hv
  have hpre := atoms_spec (ws := am_mw k) B.pre
  have hlocks := B.notSynchronized
  rw [lg_entry_eq]
  have hsl := am_sl_len (base := base) (b := b) (t0 := t0) av ha
  have hl := lv_entry (av.map (am_cv base b t0)) (n := mL k) (by rw [hsl]; exact hn)
  refine h p l e (am_rm d k) s m _ below meth c D ty base b t0 _ ⟨B.exec, B.bytes, hml, findClass_of_methodNamed B.named, fun q hq => hpre q (List.mem_cons_of_mem _ hq), ⟨Nat.le_refl _, Nat.le_refl _, rfl, rfl⟩, fun hi => (name_of_methodNamed B.named B.method).1.trans hi⟩ hE trivial (by omega) ?_ s.heap [] _ (by show s.heap.size + 0 = base + w.1; omega) (Nat.zero_le _) (Nat.zero_le _) hP va_S.rf ?_ ?_
  · intro r w' u' H locs ls pc' ⟨hr, hw⟩ hsz h1 h2 hP' hS' hri
    refine W.widen h1 h2 ?_
    cases r with
    | none =>
      obtain ⟨q1, q2⟩ := hri
      exact W.vret B.exec B.bytes (B.returns.trans q2) (fun t ht hW => ⟨⟨none, w', rfl, hr, hw, by rw [ht]; exact hP'⟩, hS'.F ht⟩) hS'.2.2 q1
    | some v =>
      cases v with
      | int x =>
        obtain ⟨q1, ty', q2, q3⟩ := hri
        exact W.zret B.exec B.bytes (B.returns.trans q2) q3 (fun t ht hW => ⟨⟨some (.int x), w', rfl, hr, hw, by rw [ht]; exact hP'⟩, hS'.F ht⟩) hS'.2.2 q1
      | _ => exact False.elim hri
  · simp [am_lc]
    omega
  · refine ⟨hl.1, hl.2.1, fun q hq => hl.2.2 q ?_⟩
    exact am_args av 0 (mL k - av.length) q ha hq
set_option maxHeartbeats 4000000 in
/-- the same of a method that reads the script -/
theorem am_methX {L : Nat} {xs : Nat → Int32} {d k : Nat} {av : List Value} {w : aW} {Post : Option Value → aW → Prop} (hp : plainFor (mY k) = true) (ha : am_a1 av = true) (hn : av.length ≤ mL k)
    (h : am_At d k (some (L, xs)) (fun r w' => Post r w' ∧ w'.1 = w.1 + mC k) 0 (am_lc (mL k) av) [] w (0, 0)) : am_CallX L xs d k av w Post := by
  intro l D ty base b t0
  refine va_MetF (cc := mB k) (maxL := mL k) (ret := mR k) hp rfl ?_
  intro p e s m args below meth c s₁ B hml hv
  obtain ⟨rfl, ⟨hE, hX, hXb⟩, hP, hz⟩ := hv
  have hpre := atoms_spec (ws := am_mw k) B.pre
  have hlocks := B.notSynchronized
  rw [lg_entry_eq]
  have hsl := am_sl_len (base := base) (b := b) (t0 := t0) av ha
  have hl := lv_entry (av.map (am_cv base b t0)) (n := mL k) (by rw [hsl]; exact hn)
  refine h p l e (am_rm d k) s m _ below meth c D ty base b t0 _ ⟨B.exec, B.bytes, hml, findClass_of_methodNamed B.named, fun q hq => hpre q (List.mem_cons_of_mem _ hq), ⟨Nat.le_refl _, Nat.le_refl _, rfl, rfl⟩, fun hi => (name_of_methodNamed B.named B.method).1.trans hi⟩ hE ⟨hX, by omega, hXb⟩ (by omega) ?_ s.heap [] _ (by show s.heap.size + 0 = base + w.1; omega) (Nat.zero_le _) (Nat.zero_le _) hP va_S.rf ?_ ?_
  · intro r w' u' H locs ls pc' ⟨hr, hw⟩ hsz h1 h2 hP' hS' hri
    refine W.widen h1 h2 ?_
    cases r with
    | none =>
      obtain ⟨q1, q2⟩ := hri
      exact W.vret B.exec B.bytes (B.returns.trans q2) (fun t ht hW => ⟨⟨none, w', rfl, hr, hw, by rw [ht]; exact hP'⟩, hS'.F ht⟩) hS'.2.2 q1
    | some v =>
      cases v with
      | int x =>
        obtain ⟨q1, ty', q2, q3⟩ := hri
        exact W.zret B.exec B.bytes (B.returns.trans q2) q3 (fun t ht hW => ⟨⟨some (.int x), w', rfl, hr, hw, by rw [ht]; exact hP'⟩, hS'.F ht⟩) hS'.2.2 q1
      | _ => exact False.elim hri
  · simp [am_lc]
    omega
  · refine ⟨hl.1, hl.2.1, fun q hq => hl.2.2 q ?_⟩
    exact am_args av 0 (mL k - av.length) q ha hq
theorem am_plain {k : Nat} (h : (am_has am_Vs k || am_has am_Ss k || am_has am_Is k) = true) : plainFor (mY k) = true := by
  simp only [Bool.or_eq_true] at h
  rcases h with (h | h) | h
  · obtain ⟨q, rfl, hq⟩ := am_has_ok am_Vs_ok h
    simp only [am_okV, Bool.and_eq_true] at hq
    exact (am_okC_ok hq.1.1.1.1).2.2.2.2
  · obtain ⟨q, rfl, hq⟩ := am_has_ok am_Ss_ok h
    simp only [am_okS, Bool.and_eq_true] at hq
    exact (am_okC_ok hq.1.1.1).2.2.2.2
  · obtain ⟨q, rfl, hq⟩ := am_has_ok am_Is_ok h
    simp only [am_okI, Bool.and_eq_true] at hq
    exact (am_okC_ok hq.1.1.1).2.2.2.2
theorem am_plainZ {k : Nat} (h : (am_has am_Zs k) = true) : plainFor (mY k) = true := by
  obtain ⟨q, rfl, hq⟩ := am_has_ok am_Zs_ok h
  simp only [am_okZ, Bool.and_eq_true] at hq
  exact (am_okC_ok hq.1).2.2.2.2
theorem am_plainX {k : Nat} (h : (am_has am_Xs k) = true) : plainFor (mY k) = true := by
  obtain ⟨q, rfl, hq⟩ := am_has_ok am_Xs_ok h
  simp only [am_okS, Bool.and_eq_true] at hq
  exact (am_okC_ok hq.1.1.1).2.2.2.2
end
section
set_option maxRecDepth 100000 in
theorem am_k0 : am_t0.all (am_ck 0) = true := by decide +kernel
set_option maxRecDepth 100000 in
theorem am_k1 : am_t1.all (am_ck 1) = true := by decide +kernel
set_option maxRecDepth 100000 in
theorem am_k2 : am_t2.all (am_ck 2) = true := by decide +kernel
set_option maxRecDepth 100000 in
theorem am_k3 : am_t3.all (am_ck 3) = true := by decide +kernel
set_option maxRecDepth 100000 in
theorem am_k4 : am_t4.all (am_ck 4) = true := by decide +kernel
set_option maxRecDepth 100000 in
theorem am_k13 : am_t13.all (am_ck 13) = true := by decide +kernel
set_option maxRecDepth 100000 in
theorem am_k14 : am_t14.all (am_ck 14) = true := by decide +kernel
set_option maxRecDepth 100000 in
theorem am_k15 : am_t15.all (am_ck 15) = true := by decide +kernel
set_option maxRecDepth 100000 in
theorem am_k16 : am_t16.all (am_ck 16) = true := by decide +kernel
set_option maxRecDepth 100000 in
theorem am_k17 : am_t17.all (am_ck 17) = true := by decide +kernel
set_option maxRecDepth 100000 in
theorem am_k18 : am_t18.all (am_ck 18) = true := by decide +kernel
set_option maxRecDepth 100000 in
theorem am_k19 : am_t19.all (am_ck 19) = true := by decide +kernel
set_option maxRecDepth 100000 in
theorem am_k20 : am_t20.all (am_ck 20) = true := by decide +kernel
set_option maxRecDepth 100000 in
theorem am_k21 : am_t21.all (am_ck 21) = true := by decide +kernel
set_option maxRecDepth 100000 in
theorem am_k22 : am_t22.all (am_ck 22) = true := by decide +kernel
set_option maxRecDepth 100000 in
theorem am_k23 : am_t23.all (am_ck 23) = true := by decide +kernel
set_option maxRecDepth 100000 in
theorem am_k24 : am_t24.all (am_ck 24) = true := by decide +kernel
set_option maxRecDepth 100000 in
theorem am_k25 : am_t25.all (am_ck 25) = true := by decide +kernel
set_option maxRecDepth 100000 in
theorem am_k26 : am_t26.all (am_ck 26) = true := by decide +kernel
set_option maxRecDepth 100000 in
theorem am_k27 : am_t27.all (am_ck 27) = true := by decide +kernel
set_option maxRecDepth 100000 in
theorem am_k28 : am_t28.all (am_ck 28) = true := by decide +kernel
set_option maxRecDepth 100000 in
theorem am_k29 : am_t29.all (am_ck 29) = true := by decide +kernel
set_option maxRecDepth 100000 in
theorem am_k30 : am_t30.all (am_ck 30) = true := by decide +kernel
set_option maxRecDepth 100000 in
theorem am_k31 : am_t31.all (am_ck 31) = true := by decide +kernel
set_option maxRecDepth 100000 in
theorem am_k32 : am_t32.all (am_ck 32) = true := by decide +kernel
set_option maxRecDepth 100000 in
theorem am_k33 : am_t33.all (am_ck 33) = true := by decide +kernel
set_option maxRecDepth 100000 in
theorem am_k34 : am_t34.all (am_ck 34) = true := by decide +kernel
set_option maxRecDepth 100000 in
theorem am_k35 : am_t35.all (am_ck 35) = true := by decide +kernel
set_option maxRecDepth 100000 in
theorem am_k36 : am_t36.all (am_ck 36) = true := by decide +kernel
set_option maxRecDepth 100000 in
theorem am_k37 : am_t37.all (am_ck 37) = true := by decide +kernel
set_option maxRecDepth 100000 in
theorem am_k38 : am_t38.all (am_ck 38) = true := by decide +kernel
set_option maxRecDepth 100000 in
theorem am_k39 : am_t39.all (am_ck 39) = true := by decide +kernel
set_option maxRecDepth 100000 in
theorem am_k40 : am_t40.all (am_ck 40) = true := by decide +kernel
set_option maxRecDepth 100000 in
theorem am_k41 : am_t41.all (am_ck 41) = true := by decide +kernel
set_option maxRecDepth 100000 in
theorem am_k42 : am_t42.all (am_ck 42) = true := by decide +kernel
set_option maxRecDepth 100000 in
theorem am_k43 : am_t43.all (am_ck 43) = true := by decide +kernel
set_option maxRecDepth 100000 in
theorem am_k44 : am_t44.all (am_ck 44) = true := by decide +kernel
set_option maxRecDepth 100000 in
theorem am_k45 : am_t45.all (am_ck 45) = true := by decide +kernel
set_option maxRecDepth 100000 in
theorem am_k46 : am_t46.all (am_ck 46) = true := by decide +kernel
set_option maxRecDepth 100000 in
theorem am_k47 : am_t47.all (am_ck 47) = true := by decide +kernel
set_option maxRecDepth 100000 in
theorem am_k48 : am_t48.all (am_ck 48) = true := by decide +kernel
set_option maxRecDepth 100000 in
theorem am_k49 : am_t49.all (am_ck 49) = true := by decide +kernel
set_option maxRecDepth 100000 in
theorem am_k50 : am_t50.all (am_ck 50) = true := by decide +kernel
set_option maxRecDepth 100000 in
theorem am_k51 : am_t51.all (am_ck 51) = true := by decide +kernel
set_option maxRecDepth 100000 in
theorem am_k52 : am_t52.all (am_ck 52) = true := by decide +kernel
set_option maxRecDepth 100000 in
theorem am_k53 : am_t53.all (am_ck 53) = true := by decide +kernel
set_option maxRecDepth 100000 in
theorem am_k55 : am_t55.all (am_ck 55) = true := by decide +kernel
set_option maxRecDepth 100000 in
theorem am_k56 : am_t56.all (am_ck 56) = true := by decide +kernel
set_option maxRecDepth 100000 in
theorem am_k57 : am_t57.all (am_ck 57) = true := by decide +kernel
set_option maxRecDepth 100000 in
theorem am_k58 : am_t58.all (am_ck 58) = true := by decide +kernel
set_option maxRecDepth 100000 in
theorem am_k59 : am_t59.all (am_ck 59) = true := by decide +kernel
set_option maxRecDepth 100000 in
theorem am_k60 : am_t60.all (am_ck 60) = true := by decide +kernel
set_option maxRecDepth 100000 in
theorem am_k61 : am_t61.all (am_ck 61) = true := by decide +kernel
set_option maxRecDepth 100000 in
theorem am_k64 : am_t64.all (am_ck 64) = true := by decide +kernel
set_option maxRecDepth 100000 in
theorem am_k67 : am_t67.all (am_ck 67) = true := by decide +kernel
set_option maxRecDepth 100000 in
theorem am_k68 : am_t68.all (am_ck 68) = true := by decide +kernel
set_option maxRecDepth 100000 in
theorem am_k69 : am_t69.all (am_ck 69) = true := by decide +kernel
set_option maxRecDepth 100000 in
theorem am_k70 : am_t70.all (am_ck 70) = true := by decide +kernel
set_option maxRecDepth 100000 in
theorem am_k71 : am_t71.all (am_ck 71) = true := by decide +kernel
set_option maxRecDepth 100000 in
theorem am_k72 : am_t72.all (am_ck 72) = true := by decide +kernel
set_option maxRecDepth 100000 in
theorem am_k73 : am_t73.all (am_ck 73) = true := by decide +kernel
set_option maxRecDepth 100000 in
theorem am_k74 : am_t74.all (am_ck 74) = true := by decide +kernel
set_option maxRecDepth 100000 in
theorem am_k75 : am_t75.all (am_ck 75) = true := by decide +kernel
set_option maxRecDepth 100000 in
theorem am_k76 : am_t76.all (am_ck 76) = true := by decide +kernel
set_option maxRecDepth 100000 in
theorem am_k77 : am_t77.all (am_ck 77) = true := by decide +kernel
set_option maxRecDepth 100000 in
theorem am_k78 : am_t78.all (am_ck 78) = true := by decide +kernel
set_option maxRecDepth 100000 in
theorem am_k79 : am_t79.all (am_ck 79) = true := by decide +kernel
set_option maxRecDepth 100000 in
theorem am_k81 : am_t81.all (am_ck 81) = true := by decide +kernel
set_option maxRecDepth 100000 in
theorem am_k82 : am_t82.all (am_ck 82) = true := by decide +kernel
set_option maxRecDepth 100000 in
theorem am_k83 : am_t83.all (am_ck 83) = true := by decide +kernel
set_option maxRecDepth 100000 in
theorem am_k84 : am_t84.all (am_ck 84) = true := by decide +kernel
set_option maxRecDepth 100000 in
theorem am_k158 : am_t158.all (am_ck 158) = true := by decide +kernel
set_option maxRecDepth 100000 in
theorem am_k159 : am_t159.all (am_ck 159) = true := by decide +kernel
set_option maxRecDepth 100000 in
theorem am_k160 : am_t160.all (am_ck 160) = true := by decide +kernel
set_option maxRecDepth 100000 in
theorem am_k161 : am_t161.all (am_ck 161) = true := by decide +kernel
set_option maxRecDepth 100000 in
theorem am_k162 : am_t162.all (am_ck 162) = true := by decide +kernel
set_option maxRecDepth 100000 in
theorem am_k163 : am_t163.all (am_ck 163) = true := by decide +kernel
end
section
set_option maxRecDepth 100000 in
theorem am_k164 : am_t164.all (am_ck 164) = true := by decide +kernel
set_option maxRecDepth 100000 in
theorem am_k165 : am_t165.all (am_ck 165) = true := by decide +kernel
set_option maxRecDepth 100000 in
theorem am_k166 : am_t166.all (am_ck 166) = true := by decide +kernel
set_option maxRecDepth 100000 in
theorem am_k167 : am_t167.all (am_ck 167) = true := by decide +kernel
set_option maxRecDepth 100000 in
theorem am_k168 : am_t168.all (am_ck 168) = true := by decide +kernel
set_option maxRecDepth 100000 in
theorem am_k169 : am_t169.all (am_ck 169) = true := by decide +kernel
set_option maxRecDepth 100000 in
theorem am_k170_0 : am_t170_0.all (am_ck 170) = true := by decide +kernel
set_option maxRecDepth 100000 in
theorem am_k170_1 : am_t170_1.all (am_ck 170) = true := by decide +kernel
set_option maxRecDepth 100000 in
theorem am_k170_2 : am_t170_2.all (am_ck 170) = true := by decide +kernel
set_option maxRecDepth 100000 in
theorem am_k170_3 : am_t170_3.all (am_ck 170) = true := by decide +kernel
set_option maxRecDepth 100000 in
theorem am_k170_4 : am_t170_4.all (am_ck 170) = true := by decide +kernel
set_option maxRecDepth 100000 in
theorem am_k170_5 : am_t170_5.all (am_ck 170) = true := by decide +kernel
set_option maxRecDepth 100000 in
theorem am_k170_6 : am_t170_6.all (am_ck 170) = true := by decide +kernel
set_option maxRecDepth 100000 in
theorem am_k170_7 : am_t170_7.all (am_ck 170) = true := by decide +kernel
set_option maxRecDepth 100000 in
theorem am_k170_8 : am_t170_8.all (am_ck 170) = true := by decide +kernel
set_option maxRecDepth 100000 in
theorem am_k170_9 : am_t170_9.all (am_ck 170) = true := by decide +kernel
theorem am_k170 : am_t170.all (am_ck 170) = true := by
  simp only [am_t170, List.all_append, Bool.and_eq_true]
  exact ⟨am_k170_0, ⟨am_k170_1, ⟨am_k170_2, ⟨am_k170_3, ⟨am_k170_4, ⟨am_k170_5, ⟨am_k170_6, ⟨am_k170_7, ⟨am_k170_8, am_k170_9⟩⟩⟩⟩⟩⟩⟩⟩⟩
set_option maxRecDepth 100000 in
theorem am_k171_0 : am_t171_0.all (am_ck 171) = true := by decide +kernel
set_option maxRecDepth 100000 in
theorem am_k171_1 : am_t171_1.all (am_ck 171) = true := by decide +kernel
set_option maxRecDepth 100000 in
theorem am_k171_2 : am_t171_2.all (am_ck 171) = true := by decide +kernel
set_option maxRecDepth 100000 in
theorem am_k171_3 : am_t171_3.all (am_ck 171) = true := by decide +kernel
set_option maxRecDepth 100000 in
theorem am_k171_4 : am_t171_4.all (am_ck 171) = true := by decide +kernel
set_option maxRecDepth 100000 in
theorem am_k171_5 : am_t171_5.all (am_ck 171) = true := by decide +kernel
theorem am_k171 : am_t171.all (am_ck 171) = true := by
  simp only [am_t171, List.all_append, Bool.and_eq_true]
  exact ⟨am_k171_0, ⟨am_k171_1, ⟨am_k171_2, ⟨am_k171_3, ⟨am_k171_4, am_k171_5⟩⟩⟩⟩⟩
set_option maxRecDepth 100000 in
theorem am_k172 : am_t172.all (am_ck 172) = true := by decide +kernel
set_option maxRecDepth 100000 in
theorem am_k173 : am_t173.all (am_ck 173) = true := by decide +kernel
end
section
/-! THE WORLD BEHIND THE CONSTRUCTORS: the class's 74 cells at fixed places, and zN more of the law's own, rows of two numbers. C: the numbers by cell and place; p: what History.states holds.
0 FaceRounds; 1 its state (2 to 10 its arrays); 11 the snapshot; 21 History, 22 its states; 23, 33, 43, 53 its four states; 63 PointingText (64 characters, 65 targets, 66 faces, 67 readings); 68 Reckoning (69 used, 70 reduced, 71 errors, 72 left, 73 directions); 74 and on: the law's -/
variable {zN : Nat}
def am_shS : List (Nat × Nat) := [(0, 3), (2, 4), (2, 4), (2, 4), (2, 6), (2, 48), (2, 48), (2, 288), (2, 288), (3, 288)]
def am_shL : List (Nat × Nat) := [(0, 4)] ++ (am_shS ++ (am_shS ++ ([(0, 0), (4, 4)] ++ (am_shS ++ (am_shS ++ (am_shS ++ (am_shS ++ ([(0, 1), (1, 60), (2, 7), (2, 7), (2, 7)] ++ ([(0, 2), (2, 6), (2, 36), (2, 36), (2, 36), (2, 6)])))))))))
def am_sh (i : Nat) : Nat × Nat := am_shL.getD i (2, 2)
def am_ftS (i : Nat) : List (Option Nat) := [none, none, some (i + 1), some (i + 2), some (i + 3), some (i + 4), some (i + 5), some (i + 6), some (i + 7), some (i + 8), some (i + 9)]
def am_ft (i : Nat) : List (Option Nat) := match i with
  | 0 => [some 1, some 11, none, some 21, some 63, some 68]
  | 1 => am_ftS 1
  | 11 => am_ftS 11
  | 21 => [some 22, none]
  | 23 => am_ftS 23
  | 33 => am_ftS 33
  | 43 => am_ftS 43
  | 53 => am_ftS 53
  | 63 => [some 64, none, some 65, some 66, some 67, none, none]
  | 68 => [none, some 69, some 70, some 71, some 72, some 73]
  | _ => []
def am_F (p : Nat → Option Nat) (i k : Nat) : Option Nat := match Nat.beq i 22 with
  | true => p k
  | false => (am_ft i).getD k none
def am_w (zN : Nat) (C : Nat → Nat → Int32) (p : Nat → Option Nat) : aW := (zN + 74, am_sh, C, am_F p)
def am_Ret (zN : Nat) (P : Option Value → (Nat → Nat → Int32) → (Nat → Option Nat) → Prop) : Option Value → aW → Prop := fun r w' => ∃ C' p', w' = am_w zN C' p' ∧ P r C' p'
/-- an exact answer -/
def am_eI (e : Int32) (C : Nat → Nat → Int32) (p : Nat → Option Nat) : Option Value → (Nat → Nat → Int32) → (Nat → Option Nat) → Prop := fun r C' p' => r = some (.int e) ∧ C' = C ∧ p' = p
def am_eV (C : Nat → Nat → Int32) (p : Nat → Option Nat) : Option Value → (Nat → Nat → Int32) → (Nat → Option Nat) → Prop := fun r C' p' => r = none ∧ C' = C ∧ p' = p
/-- method k, called: it answers e, and the numbers are C' then, the states p' -/
def cI (zN d k : Nat) (av : List Value) (C : Nat → Nat → Int32) (p : Nat → Option Nat) (e : Int32) (C' : Nat → Nat → Int32) (p' : Nat → Option Nat) : Prop := am_Call d k av (am_w zN C p) (am_Ret zN (am_eI e C' p'))
def cV (zN d k : Nat) (av : List Value) (C : Nat → Nat → Int32) (p : Nat → Option Nat) (C' : Nat → Nat → Int32) (p' : Nat → Option Nat) : Prop := am_Call d k av (am_w zN C p) (am_Ret zN (am_eV C' p'))
theorem use_I {d k : Nat} {av : List Value} {C C' : Nat → Nat → Int32} {p p' : Nat → Option Nat} {e : Int32} {K : Int32 → aW → Prop} (h : cI zN d k av C p e C' p') (hk : K e (am_w zN C' p')) : am_Ci d k av (am_w zN C p) K := by
  refine am_Call.mono h ?_
  rintro r w' ⟨C1, p1, rfl, rfl, rfl, rfl⟩
  exact hk
theorem use_V {d k : Nat} {av : List Value} {C C' : Nat → Nat → Int32} {p p' : Nat → Option Nat} {K : aW → Prop} (h : cV zN d k av C p C' p') (hk : K (am_w zN C' p')) : am_Cv d k av (am_w zN C p) K := by
  refine am_Call.mono h ?_
  rintro r w' ⟨C1, p1, rfl, rfl, rfl, rfl⟩
  exact hk
theorem ret_I {e : Int32} {C : Nat → Nat → Int32} {p : Nat → Option Nat} : am_Ret zN (am_eI e C p) (some (.int e)) (am_w zN C p) := ⟨C, p, rfl, rfl, rfl, rfl⟩
theorem ret_I' {e e' : Int32} {C C' : Nat → Nat → Int32} {p p' : Nat → Option Nat} (h : e' = e) (hC : C' = C) (hp : p' = p) : am_Ret zN (am_eI e C p) (some (.int e')) (am_w zN C' p') := ⟨C', p', rfl, by rw [h], hC, hp⟩
theorem ret_V' {C C' : Nat → Nat → Int32} {p p' : Nat → Option Nat} (hC : C' = C) (hp : p' = p) : am_Ret zN (am_eV C p) none (am_w zN C' p') := ⟨C', p', rfl, rfl, hC, hp⟩
theorem am_ob_i {w : aW} {i ci : Nat} {f : Prop} (h1 : Nat.blt i w.1 = true) (h2 : w.2.1 i = (0, ci)) (h : f) : am_ob w i ci f := by
  unfold am_ob
  rw [h1, h2]
  have : Nat.beq ci ci = true := Nat.beq_refl ci
  simp only [this]
  exact h
/-- a method of the finished world, by its body -/
theorem am_m_go {d k : Nat} {av : List Value} {C : Nat → Nat → Int32} {p : Nat → Option Nat} {P : Option Value → (Nat → Nat → Int32) → (Nat → Option Nat) → Prop} (hp : (am_has am_Vs k || am_has am_Ss k || am_has am_Is k) = true) (ha : am_a1 av = true) (hn : Nat.ble av.length (mL k) = true) (hm : Nat.beq (mC k) 0 = true)
    (h : am_At d k none (am_Ret zN P) 0 (am_lc (mL k) av) [] (am_w zN C p) (0, 0)) : am_Call d k av (am_w zN C p) (am_Ret zN P) := by
  refine am_meth (am_plain hp) ha (Nat.le_of_ble_eq_true hn) (h.mono ?_)
  rintro r w' ⟨C', p', rfl, hP⟩
  refine ⟨⟨C', p', rfl, hP⟩, ?_⟩
  rw [Nat.eq_of_beq_eq_true hm]
  rfl
end
section
set_option maxRecDepth 100000 in
theorem e_J_bitCount {zN d : Nat} {C : Nat → Nat → Int32} {p : Nat → Option Nat} {x0 : Int32} {P : Option Value → (Nat → Nat → Int32) → (Nat → Option Nat) → Prop} (h : am_At (d + 1) 158 none (am_Ret zN P) 0 [some (.int x0)] [] (am_w zN C p) (0, 0)) : am_Call (d + 1) 158 [.int x0] (am_w zN C p) (am_Ret zN P) := am_m_go (by decide +kernel) rfl rfl rfl h
set_option maxRecDepth 100000 in
theorem s_J_bitCount_0 {zN d : Nat} {Post : Option Value → aW → Prop} {C : Nat → Nat → Int32} {p : Nat → Option Nat} {x0 : Int32} (h : Post (some (.int ((((((((x0 - ((x0.toUInt32 >>> ((1 : Int32).toUInt32 &&& Int32.toUInt32 31)).toInt32 &&& (1431655765 : Int32))) &&& (858993459 : Int32)) + (((x0 - ((x0.toUInt32 >>> ((1 : Int32).toUInt32 &&& Int32.toUInt32 31)).toInt32 &&& (1431655765 : Int32))).toUInt32 >>> ((2 : Int32).toUInt32 &&& Int32.toUInt32 31)).toInt32 &&& (858993459 : Int32))) + ((((x0 - ((x0.toUInt32 >>> ((1 : Int32).toUInt32 &&& Int32.toUInt32 31)).toInt32 &&& (1431655765 : Int32))) &&& (858993459 : Int32)) + (((x0 - ((x0.toUInt32 >>> ((1 : Int32).toUInt32 &&& Int32.toUInt32 31)).toInt32 &&& (1431655765 : Int32))).toUInt32 >>> ((2 : Int32).toUInt32 &&& Int32.toUInt32 31)).toInt32 &&& (858993459 : Int32))).toUInt32 >>> ((4 : Int32).toUInt32 &&& Int32.toUInt32 31)).toInt32) &&& (252645135 : Int32)) + ((((((x0 - ((x0.toUInt32 >>> ((1 : Int32).toUInt32 &&& Int32.toUInt32 31)).toInt32 &&& (1431655765 : Int32))) &&& (858993459 : Int32)) + (((x0 - ((x0.toUInt32 >>> ((1 : Int32).toUInt32 &&& Int32.toUInt32 31)).toInt32 &&& (1431655765 : Int32))).toUInt32 >>> ((2 : Int32).toUInt32 &&& Int32.toUInt32 31)).toInt32 &&& (858993459 : Int32))) + ((((x0 - ((x0.toUInt32 >>> ((1 : Int32).toUInt32 &&& Int32.toUInt32 31)).toInt32 &&& (1431655765 : Int32))) &&& (858993459 : Int32)) + (((x0 - ((x0.toUInt32 >>> ((1 : Int32).toUInt32 &&& Int32.toUInt32 31)).toInt32 &&& (1431655765 : Int32))).toUInt32 >>> ((2 : Int32).toUInt32 &&& Int32.toUInt32 31)).toInt32 &&& (858993459 : Int32))).toUInt32 >>> ((4 : Int32).toUInt32 &&& Int32.toUInt32 31)).toInt32) &&& (252645135 : Int32)).toUInt32 >>> ((8 : Int32).toUInt32 &&& Int32.toUInt32 31)).toInt32) + (((((((x0 - ((x0.toUInt32 >>> ((1 : Int32).toUInt32 &&& Int32.toUInt32 31)).toInt32 &&& (1431655765 : Int32))) &&& (858993459 : Int32)) + (((x0 - ((x0.toUInt32 >>> ((1 : Int32).toUInt32 &&& Int32.toUInt32 31)).toInt32 &&& (1431655765 : Int32))).toUInt32 >>> ((2 : Int32).toUInt32 &&& Int32.toUInt32 31)).toInt32 &&& (858993459 : Int32))) + ((((x0 - ((x0.toUInt32 >>> ((1 : Int32).toUInt32 &&& Int32.toUInt32 31)).toInt32 &&& (1431655765 : Int32))) &&& (858993459 : Int32)) + (((x0 - ((x0.toUInt32 >>> ((1 : Int32).toUInt32 &&& Int32.toUInt32 31)).toInt32 &&& (1431655765 : Int32))).toUInt32 >>> ((2 : Int32).toUInt32 &&& Int32.toUInt32 31)).toInt32 &&& (858993459 : Int32))).toUInt32 >>> ((4 : Int32).toUInt32 &&& Int32.toUInt32 31)).toInt32) &&& (252645135 : Int32)) + ((((((x0 - ((x0.toUInt32 >>> ((1 : Int32).toUInt32 &&& Int32.toUInt32 31)).toInt32 &&& (1431655765 : Int32))) &&& (858993459 : Int32)) + (((x0 - ((x0.toUInt32 >>> ((1 : Int32).toUInt32 &&& Int32.toUInt32 31)).toInt32 &&& (1431655765 : Int32))).toUInt32 >>> ((2 : Int32).toUInt32 &&& Int32.toUInt32 31)).toInt32 &&& (858993459 : Int32))) + ((((x0 - ((x0.toUInt32 >>> ((1 : Int32).toUInt32 &&& Int32.toUInt32 31)).toInt32 &&& (1431655765 : Int32))) &&& (858993459 : Int32)) + (((x0 - ((x0.toUInt32 >>> ((1 : Int32).toUInt32 &&& Int32.toUInt32 31)).toInt32 &&& (1431655765 : Int32))).toUInt32 >>> ((2 : Int32).toUInt32 &&& Int32.toUInt32 31)).toInt32 &&& (858993459 : Int32))).toUInt32 >>> ((4 : Int32).toUInt32 &&& Int32.toUInt32 31)).toInt32) &&& (252645135 : Int32)).toUInt32 >>> ((8 : Int32).toUInt32 &&& Int32.toUInt32 31)).toInt32).toUInt32 >>> ((16 : Int32).toUInt32 &&& Int32.toUInt32 31)).toInt32) &&& (63 : Int32)))) (am_w zN C p)) : am_At (d + 1) 158 none Post 0 [some (.int x0)] [] (am_w zN C p) (0, 0) := am_wp_ok (stops := []) am_k158 400 _ _ _ _ _ h
set_option maxRecDepth 100000 in
theorem e_J_floorDiv {zN d : Nat} {C : Nat → Nat → Int32} {p : Nat → Option Nat} {x0 x1 : Int32} {P : Option Value → (Nat → Nat → Int32) → (Nat → Option Nat) → Prop} (h : am_At (d + 1) 159 none (am_Ret zN P) 0 [some (.int x0), some (.int x1), none] [] (am_w zN C p) (0, 0)) : am_Call (d + 1) 159 [.int x0, .int x1] (am_w zN C p) (am_Ret zN P) := am_m_go (by decide +kernel) rfl rfl rfl h
set_option maxRecDepth 100000 in
theorem s_J_floorDiv_0 {zN d : Nat} {Post : Option Value → aW → Prop} {C : Nat → Nat → Int32} {p : Nat → Option Nat} {x0 x1 : Int32} (h : ¬ x1 = 0 ∧ (((0 : Int32) ≤ (x0 ^^^ x1) → (Post (some (.int (x0 / x1))) (am_w zN C p))) ∧ (¬ (0 : Int32) ≤ (x0 ^^^ x1) → ((((x0 / x1) * x1) = x0 → (Post (some (.int (x0 / x1))) (am_w zN C p))) ∧ (¬ ((x0 / x1) * x1) = x0 → (Post (some (.int ((x0 / x1) - (1 : Int32)))) (am_w zN C p))))))) : am_At (d + 1) 159 none Post 0 [some (.int x0), some (.int x1), none] [] (am_w zN C p) (0, 0) := am_wp_ok (stops := []) am_k159 400 _ _ _ _ _ h
set_option maxRecDepth 100000 in
theorem e_J_floorMod {zN d : Nat} {C : Nat → Nat → Int32} {p : Nat → Option Nat} {x0 x1 : Int32} {P : Option Value → (Nat → Nat → Int32) → (Nat → Option Nat) → Prop} (h : am_At (d + 1) 160 none (am_Ret zN P) 0 [some (.int x0), some (.int x1), none] [] (am_w zN C p) (0, 0)) : am_Call (d + 1) 160 [.int x0, .int x1] (am_w zN C p) (am_Ret zN P) := am_m_go (by decide +kernel) rfl rfl rfl h
set_option maxRecDepth 100000 in
theorem s_J_floorMod_0 {zN d : Nat} {Post : Option Value → aW → Prop} {C : Nat → Nat → Int32} {p : Nat → Option Nat} {x0 x1 : Int32} (h : ¬ x1 = 0 ∧ (((0 : Int32) ≤ (x0 ^^^ x1) → (Post (some (.int (x0 - x0 / x1 * x1))) (am_w zN C p))) ∧ (¬ (0 : Int32) ≤ (x0 ^^^ x1) → (((x0 - x0 / x1 * x1) = (0 : Int32) → (Post (some (.int (x0 - x0 / x1 * x1))) (am_w zN C p))) ∧ (¬ (x0 - x0 / x1 * x1) = (0 : Int32) → (Post (some (.int ((x0 - x0 / x1 * x1) + x1))) (am_w zN C p))))))) : am_At (d + 1) 160 none Post 0 [some (.int x0), some (.int x1), none] [] (am_w zN C p) (0, 0) := am_wp_ok (stops := []) am_k160 400 _ _ _ _ _ h
end
section
set_option maxRecDepth 100000 in
theorem e_S_copyFrom_11_1 {zN d : Nat} {C : Nat → Nat → Int32} {p : Nat → Option Nat} {P : Option Value → (Nat → Nat → Int32) → (Nat → Option Nat) → Prop} (h : am_At (d + 1) 31 none (am_Ret zN P) 0 [some (.ref 11), some (.ref 1)] [] (am_w zN C p) (0, 0)) : am_Call (d + 1) 31 [.ref 11, .ref 1] (am_w zN C p) (am_Ret zN P) := am_m_go (by decide +kernel) rfl rfl rfl h
set_option maxRecDepth 100000 in
theorem s_S_copyFrom_11_1_0 {zN d : Nat} {Post : Option Value → aW → Prop} {C : Nat → Nat → Int32} {p : Nat → Option Nat} (h : ¬ (0 : Int32) < 0 ∧ ¬ (0 : Int32) < 0 ∧ ¬ (4 : Int32) < 0 ∧ (0 : Int32).toNatClampNeg + (4 : Int32).toNatClampNeg ≤ 4 ∧ (0 : Int32).toNatClampNeg + (4 : Int32).toNatClampNeg ≤ 4 ∧ (am_At (d + 1) 31 none Post 30 [some (.ref 11), some (.ref 1)] [] (am_w zN (am_uR (am_u2 (am_u2 C 11 0 (C 1 0)) 11 1 ((am_u2 C 11 0 (C 1 0)) 1 1)) 12 (va_cpy ((am_u2 (am_u2 C 11 0 (C 1 0)) 11 1 ((am_u2 C 11 0 (C 1 0)) 1 1)) 2) ((am_u2 (am_u2 C 11 0 (C 1 0)) 11 1 ((am_u2 C 11 0 (C 1 0)) 1 1)) 12) (0 : Int32).toNatClampNeg (0 : Int32).toNatClampNeg (4 : Int32).toNatClampNeg)) p) (0, 0))) : am_At (d + 1) 31 none Post 0 [some (.ref 11), some (.ref 1)] [] (am_w zN C p) (0, 0) := am_wp_ok (stops := [30, 44, 58, 73, 88, 103, 119, 135, 151]) am_k31 400 _ _ _ _ _ h
set_option maxRecDepth 100000 in
theorem s_S_copyFrom_11_1_30 {zN d : Nat} {Post : Option Value → aW → Prop} {C : Nat → Nat → Int32} {p : Nat → Option Nat} (h : ¬ (0 : Int32) < 0 ∧ ¬ (0 : Int32) < 0 ∧ ¬ (4 : Int32) < 0 ∧ (0 : Int32).toNatClampNeg + (4 : Int32).toNatClampNeg ≤ 4 ∧ (0 : Int32).toNatClampNeg + (4 : Int32).toNatClampNeg ≤ 4 ∧ (am_At (d + 1) 31 none Post 44 [some (.ref 11), some (.ref 1)] [] (am_w zN (am_uR C 13 (va_cpy (C 3) (C 13) (0 : Int32).toNatClampNeg (0 : Int32).toNatClampNeg (4 : Int32).toNatClampNeg)) p) (0, 0))) : am_At (d + 1) 31 none Post 30 [some (.ref 11), some (.ref 1)] [] (am_w zN C p) (0, 0) := am_wp_ok (stops := [30, 44, 58, 73, 88, 103, 119, 135, 151]) am_k31 400 _ _ _ _ _ h
set_option maxRecDepth 100000 in
theorem s_S_copyFrom_11_1_44 {zN d : Nat} {Post : Option Value → aW → Prop} {C : Nat → Nat → Int32} {p : Nat → Option Nat} (h : ¬ (0 : Int32) < 0 ∧ ¬ (0 : Int32) < 0 ∧ ¬ (4 : Int32) < 0 ∧ (0 : Int32).toNatClampNeg + (4 : Int32).toNatClampNeg ≤ 4 ∧ (0 : Int32).toNatClampNeg + (4 : Int32).toNatClampNeg ≤ 4 ∧ (am_At (d + 1) 31 none Post 58 [some (.ref 11), some (.ref 1)] [] (am_w zN (am_uR C 14 (va_cpy (C 4) (C 14) (0 : Int32).toNatClampNeg (0 : Int32).toNatClampNeg (4 : Int32).toNatClampNeg)) p) (0, 0))) : am_At (d + 1) 31 none Post 44 [some (.ref 11), some (.ref 1)] [] (am_w zN C p) (0, 0) := am_wp_ok (stops := [30, 44, 58, 73, 88, 103, 119, 135, 151]) am_k31 400 _ _ _ _ _ h
set_option maxRecDepth 100000 in
theorem s_S_copyFrom_11_1_58 {zN d : Nat} {Post : Option Value → aW → Prop} {C : Nat → Nat → Int32} {p : Nat → Option Nat} (h : ¬ (0 : Int32) < 0 ∧ ¬ (0 : Int32) < 0 ∧ ¬ (6 : Int32) < 0 ∧ (0 : Int32).toNatClampNeg + (6 : Int32).toNatClampNeg ≤ 6 ∧ (0 : Int32).toNatClampNeg + (6 : Int32).toNatClampNeg ≤ 6 ∧ (am_At (d + 1) 31 none Post 73 [some (.ref 11), some (.ref 1)] [] (am_w zN (am_uR C 15 (va_cpy (C 5) (C 15) (0 : Int32).toNatClampNeg (0 : Int32).toNatClampNeg (6 : Int32).toNatClampNeg)) p) (0, 0))) : am_At (d + 1) 31 none Post 58 [some (.ref 11), some (.ref 1)] [] (am_w zN C p) (0, 0) := am_wp_ok (stops := [30, 44, 58, 73, 88, 103, 119, 135, 151]) am_k31 400 _ _ _ _ _ h
set_option maxRecDepth 100000 in
theorem s_S_copyFrom_11_1_73 {zN d : Nat} {Post : Option Value → aW → Prop} {C : Nat → Nat → Int32} {p : Nat → Option Nat} (h : ¬ (0 : Int32) < 0 ∧ ¬ (0 : Int32) < 0 ∧ ¬ (48 : Int32) < 0 ∧ (0 : Int32).toNatClampNeg + (48 : Int32).toNatClampNeg ≤ 48 ∧ (0 : Int32).toNatClampNeg + (48 : Int32).toNatClampNeg ≤ 48 ∧ (am_At (d + 1) 31 none Post 88 [some (.ref 11), some (.ref 1)] [] (am_w zN (am_uR C 16 (va_cpy (C 6) (C 16) (0 : Int32).toNatClampNeg (0 : Int32).toNatClampNeg (48 : Int32).toNatClampNeg)) p) (0, 0))) : am_At (d + 1) 31 none Post 73 [some (.ref 11), some (.ref 1)] [] (am_w zN C p) (0, 0) := am_wp_ok (stops := [30, 44, 58, 73, 88, 103, 119, 135, 151]) am_k31 400 _ _ _ _ _ h
set_option maxRecDepth 100000 in
theorem s_S_copyFrom_11_1_88 {zN d : Nat} {Post : Option Value → aW → Prop} {C : Nat → Nat → Int32} {p : Nat → Option Nat} (h : ¬ (0 : Int32) < 0 ∧ ¬ (0 : Int32) < 0 ∧ ¬ (48 : Int32) < 0 ∧ (0 : Int32).toNatClampNeg + (48 : Int32).toNatClampNeg ≤ 48 ∧ (0 : Int32).toNatClampNeg + (48 : Int32).toNatClampNeg ≤ 48 ∧ (am_At (d + 1) 31 none Post 103 [some (.ref 11), some (.ref 1)] [] (am_w zN (am_uR C 17 (va_cpy (C 7) (C 17) (0 : Int32).toNatClampNeg (0 : Int32).toNatClampNeg (48 : Int32).toNatClampNeg)) p) (0, 0))) : am_At (d + 1) 31 none Post 88 [some (.ref 11), some (.ref 1)] [] (am_w zN C p) (0, 0) := am_wp_ok (stops := [30, 44, 58, 73, 88, 103, 119, 135, 151]) am_k31 400 _ _ _ _ _ h
set_option maxRecDepth 100000 in
theorem s_S_copyFrom_11_1_103 {zN d : Nat} {Post : Option Value → aW → Prop} {C : Nat → Nat → Int32} {p : Nat → Option Nat} (h : ¬ (0 : Int32) < 0 ∧ ¬ (0 : Int32) < 0 ∧ ¬ (288 : Int32) < 0 ∧ (0 : Int32).toNatClampNeg + (288 : Int32).toNatClampNeg ≤ 288 ∧ (0 : Int32).toNatClampNeg + (288 : Int32).toNatClampNeg ≤ 288 ∧ (am_At (d + 1) 31 none Post 119 [some (.ref 11), some (.ref 1)] [] (am_w zN (am_uR C 18 (va_cpy (C 8) (C 18) (0 : Int32).toNatClampNeg (0 : Int32).toNatClampNeg (288 : Int32).toNatClampNeg)) p) (0, 0))) : am_At (d + 1) 31 none Post 103 [some (.ref 11), some (.ref 1)] [] (am_w zN C p) (0, 0) := am_wp_ok (stops := [30, 44, 58, 73, 88, 103, 119, 135, 151]) am_k31 400 _ _ _ _ _ h
set_option maxRecDepth 100000 in
theorem s_S_copyFrom_11_1_119 {zN d : Nat} {Post : Option Value → aW → Prop} {C : Nat → Nat → Int32} {p : Nat → Option Nat} (h : ¬ (0 : Int32) < 0 ∧ ¬ (0 : Int32) < 0 ∧ ¬ (288 : Int32) < 0 ∧ (0 : Int32).toNatClampNeg + (288 : Int32).toNatClampNeg ≤ 288 ∧ (0 : Int32).toNatClampNeg + (288 : Int32).toNatClampNeg ≤ 288 ∧ (am_At (d + 1) 31 none Post 135 [some (.ref 11), some (.ref 1)] [] (am_w zN (am_uR C 19 (va_cpy (C 9) (C 19) (0 : Int32).toNatClampNeg (0 : Int32).toNatClampNeg (288 : Int32).toNatClampNeg)) p) (0, 0))) : am_At (d + 1) 31 none Post 119 [some (.ref 11), some (.ref 1)] [] (am_w zN C p) (0, 0) := am_wp_ok (stops := [30, 44, 58, 73, 88, 103, 119, 135, 151]) am_k31 400 _ _ _ _ _ h
set_option maxRecDepth 100000 in
theorem s_S_copyFrom_11_1_135 {zN d : Nat} {Post : Option Value → aW → Prop} {C : Nat → Nat → Int32} {p : Nat → Option Nat} (h : ¬ (0 : Int32) < 0 ∧ ¬ (0 : Int32) < 0 ∧ ¬ (288 : Int32) < 0 ∧ (0 : Int32).toNatClampNeg + (288 : Int32).toNatClampNeg ≤ 288 ∧ (0 : Int32).toNatClampNeg + (288 : Int32).toNatClampNeg ≤ 288 ∧ (∀ i : Nat, i < (288 : Int32).toNatClampNeg → C 10 ((0 : Int32).toNatClampNeg + i) = 0 ∨ C 10 ((0 : Int32).toNatClampNeg + i) = 1) ∧ (am_At (d + 1) 31 none Post 151 [some (.ref 11), some (.ref 1)] [] (am_w zN (am_uR C 20 (va_cpy (C 10) (C 20) (0 : Int32).toNatClampNeg (0 : Int32).toNatClampNeg (288 : Int32).toNatClampNeg)) p) (0, 0))) : am_At (d + 1) 31 none Post 135 [some (.ref 11), some (.ref 1)] [] (am_w zN C p) (0, 0) := am_wp_ok (stops := [30, 44, 58, 73, 88, 103, 119, 135, 151]) am_k31 400 _ _ _ _ _ h
set_option maxRecDepth 100000 in
theorem s_S_copyFrom_11_1_151 {zN d : Nat} {Post : Option Value → aW → Prop} {C : Nat → Nat → Int32} {p : Nat → Option Nat} (h : Post none (am_w zN C p)) : am_At (d + 1) 31 none Post 151 [some (.ref 11), some (.ref 1)] [] (am_w zN C p) (0, 0) := am_wp_ok (stops := [30, 44, 58, 73, 88, 103, 119, 135, 151]) am_k31 400 _ _ _ _ _ h
set_option maxRecDepth 100000 in
theorem e_S_copyFrom_1_11 {zN d : Nat} {C : Nat → Nat → Int32} {p : Nat → Option Nat} {P : Option Value → (Nat → Nat → Int32) → (Nat → Option Nat) → Prop} (h : am_At (d + 1) 31 none (am_Ret zN P) 0 [some (.ref 1), some (.ref 11)] [] (am_w zN C p) (0, 0)) : am_Call (d + 1) 31 [.ref 1, .ref 11] (am_w zN C p) (am_Ret zN P) := am_m_go (by decide +kernel) rfl rfl rfl h
set_option maxRecDepth 100000 in
theorem s_S_copyFrom_1_11_0 {zN d : Nat} {Post : Option Value → aW → Prop} {C : Nat → Nat → Int32} {p : Nat → Option Nat} (h : ¬ (0 : Int32) < 0 ∧ ¬ (0 : Int32) < 0 ∧ ¬ (4 : Int32) < 0 ∧ (0 : Int32).toNatClampNeg + (4 : Int32).toNatClampNeg ≤ 4 ∧ (0 : Int32).toNatClampNeg + (4 : Int32).toNatClampNeg ≤ 4 ∧ (am_At (d + 1) 31 none Post 30 [some (.ref 1), some (.ref 11)] [] (am_w zN (am_uR (am_u2 (am_u2 C 1 0 (C 11 0)) 1 1 ((am_u2 C 1 0 (C 11 0)) 11 1)) 2 (va_cpy ((am_u2 (am_u2 C 1 0 (C 11 0)) 1 1 ((am_u2 C 1 0 (C 11 0)) 11 1)) 12) ((am_u2 (am_u2 C 1 0 (C 11 0)) 1 1 ((am_u2 C 1 0 (C 11 0)) 11 1)) 2) (0 : Int32).toNatClampNeg (0 : Int32).toNatClampNeg (4 : Int32).toNatClampNeg)) p) (0, 0))) : am_At (d + 1) 31 none Post 0 [some (.ref 1), some (.ref 11)] [] (am_w zN C p) (0, 0) := am_wp_ok (stops := [30, 44, 58, 73, 88, 103, 119, 135, 151]) am_k31 400 _ _ _ _ _ h
set_option maxRecDepth 100000 in
theorem s_S_copyFrom_1_11_30 {zN d : Nat} {Post : Option Value → aW → Prop} {C : Nat → Nat → Int32} {p : Nat → Option Nat} (h : ¬ (0 : Int32) < 0 ∧ ¬ (0 : Int32) < 0 ∧ ¬ (4 : Int32) < 0 ∧ (0 : Int32).toNatClampNeg + (4 : Int32).toNatClampNeg ≤ 4 ∧ (0 : Int32).toNatClampNeg + (4 : Int32).toNatClampNeg ≤ 4 ∧ (am_At (d + 1) 31 none Post 44 [some (.ref 1), some (.ref 11)] [] (am_w zN (am_uR C 3 (va_cpy (C 13) (C 3) (0 : Int32).toNatClampNeg (0 : Int32).toNatClampNeg (4 : Int32).toNatClampNeg)) p) (0, 0))) : am_At (d + 1) 31 none Post 30 [some (.ref 1), some (.ref 11)] [] (am_w zN C p) (0, 0) := am_wp_ok (stops := [30, 44, 58, 73, 88, 103, 119, 135, 151]) am_k31 400 _ _ _ _ _ h
set_option maxRecDepth 100000 in
theorem s_S_copyFrom_1_11_44 {zN d : Nat} {Post : Option Value → aW → Prop} {C : Nat → Nat → Int32} {p : Nat → Option Nat} (h : ¬ (0 : Int32) < 0 ∧ ¬ (0 : Int32) < 0 ∧ ¬ (4 : Int32) < 0 ∧ (0 : Int32).toNatClampNeg + (4 : Int32).toNatClampNeg ≤ 4 ∧ (0 : Int32).toNatClampNeg + (4 : Int32).toNatClampNeg ≤ 4 ∧ (am_At (d + 1) 31 none Post 58 [some (.ref 1), some (.ref 11)] [] (am_w zN (am_uR C 4 (va_cpy (C 14) (C 4) (0 : Int32).toNatClampNeg (0 : Int32).toNatClampNeg (4 : Int32).toNatClampNeg)) p) (0, 0))) : am_At (d + 1) 31 none Post 44 [some (.ref 1), some (.ref 11)] [] (am_w zN C p) (0, 0) := am_wp_ok (stops := [30, 44, 58, 73, 88, 103, 119, 135, 151]) am_k31 400 _ _ _ _ _ h
set_option maxRecDepth 100000 in
theorem s_S_copyFrom_1_11_58 {zN d : Nat} {Post : Option Value → aW → Prop} {C : Nat → Nat → Int32} {p : Nat → Option Nat} (h : ¬ (0 : Int32) < 0 ∧ ¬ (0 : Int32) < 0 ∧ ¬ (6 : Int32) < 0 ∧ (0 : Int32).toNatClampNeg + (6 : Int32).toNatClampNeg ≤ 6 ∧ (0 : Int32).toNatClampNeg + (6 : Int32).toNatClampNeg ≤ 6 ∧ (am_At (d + 1) 31 none Post 73 [some (.ref 1), some (.ref 11)] [] (am_w zN (am_uR C 5 (va_cpy (C 15) (C 5) (0 : Int32).toNatClampNeg (0 : Int32).toNatClampNeg (6 : Int32).toNatClampNeg)) p) (0, 0))) : am_At (d + 1) 31 none Post 58 [some (.ref 1), some (.ref 11)] [] (am_w zN C p) (0, 0) := am_wp_ok (stops := [30, 44, 58, 73, 88, 103, 119, 135, 151]) am_k31 400 _ _ _ _ _ h
set_option maxRecDepth 100000 in
theorem s_S_copyFrom_1_11_73 {zN d : Nat} {Post : Option Value → aW → Prop} {C : Nat → Nat → Int32} {p : Nat → Option Nat} (h : ¬ (0 : Int32) < 0 ∧ ¬ (0 : Int32) < 0 ∧ ¬ (48 : Int32) < 0 ∧ (0 : Int32).toNatClampNeg + (48 : Int32).toNatClampNeg ≤ 48 ∧ (0 : Int32).toNatClampNeg + (48 : Int32).toNatClampNeg ≤ 48 ∧ (am_At (d + 1) 31 none Post 88 [some (.ref 1), some (.ref 11)] [] (am_w zN (am_uR C 6 (va_cpy (C 16) (C 6) (0 : Int32).toNatClampNeg (0 : Int32).toNatClampNeg (48 : Int32).toNatClampNeg)) p) (0, 0))) : am_At (d + 1) 31 none Post 73 [some (.ref 1), some (.ref 11)] [] (am_w zN C p) (0, 0) := am_wp_ok (stops := [30, 44, 58, 73, 88, 103, 119, 135, 151]) am_k31 400 _ _ _ _ _ h
set_option maxRecDepth 100000 in
theorem s_S_copyFrom_1_11_88 {zN d : Nat} {Post : Option Value → aW → Prop} {C : Nat → Nat → Int32} {p : Nat → Option Nat} (h : ¬ (0 : Int32) < 0 ∧ ¬ (0 : Int32) < 0 ∧ ¬ (48 : Int32) < 0 ∧ (0 : Int32).toNatClampNeg + (48 : Int32).toNatClampNeg ≤ 48 ∧ (0 : Int32).toNatClampNeg + (48 : Int32).toNatClampNeg ≤ 48 ∧ (am_At (d + 1) 31 none Post 103 [some (.ref 1), some (.ref 11)] [] (am_w zN (am_uR C 7 (va_cpy (C 17) (C 7) (0 : Int32).toNatClampNeg (0 : Int32).toNatClampNeg (48 : Int32).toNatClampNeg)) p) (0, 0))) : am_At (d + 1) 31 none Post 88 [some (.ref 1), some (.ref 11)] [] (am_w zN C p) (0, 0) := am_wp_ok (stops := [30, 44, 58, 73, 88, 103, 119, 135, 151]) am_k31 400 _ _ _ _ _ h
set_option maxRecDepth 100000 in
theorem s_S_copyFrom_1_11_103 {zN d : Nat} {Post : Option Value → aW → Prop} {C : Nat → Nat → Int32} {p : Nat → Option Nat} (h : ¬ (0 : Int32) < 0 ∧ ¬ (0 : Int32) < 0 ∧ ¬ (288 : Int32) < 0 ∧ (0 : Int32).toNatClampNeg + (288 : Int32).toNatClampNeg ≤ 288 ∧ (0 : Int32).toNatClampNeg + (288 : Int32).toNatClampNeg ≤ 288 ∧ (am_At (d + 1) 31 none Post 119 [some (.ref 1), some (.ref 11)] [] (am_w zN (am_uR C 8 (va_cpy (C 18) (C 8) (0 : Int32).toNatClampNeg (0 : Int32).toNatClampNeg (288 : Int32).toNatClampNeg)) p) (0, 0))) : am_At (d + 1) 31 none Post 103 [some (.ref 1), some (.ref 11)] [] (am_w zN C p) (0, 0) := am_wp_ok (stops := [30, 44, 58, 73, 88, 103, 119, 135, 151]) am_k31 400 _ _ _ _ _ h
set_option maxRecDepth 100000 in
theorem s_S_copyFrom_1_11_119 {zN d : Nat} {Post : Option Value → aW → Prop} {C : Nat → Nat → Int32} {p : Nat → Option Nat} (h : ¬ (0 : Int32) < 0 ∧ ¬ (0 : Int32) < 0 ∧ ¬ (288 : Int32) < 0 ∧ (0 : Int32).toNatClampNeg + (288 : Int32).toNatClampNeg ≤ 288 ∧ (0 : Int32).toNatClampNeg + (288 : Int32).toNatClampNeg ≤ 288 ∧ (am_At (d + 1) 31 none Post 135 [some (.ref 1), some (.ref 11)] [] (am_w zN (am_uR C 9 (va_cpy (C 19) (C 9) (0 : Int32).toNatClampNeg (0 : Int32).toNatClampNeg (288 : Int32).toNatClampNeg)) p) (0, 0))) : am_At (d + 1) 31 none Post 119 [some (.ref 1), some (.ref 11)] [] (am_w zN C p) (0, 0) := am_wp_ok (stops := [30, 44, 58, 73, 88, 103, 119, 135, 151]) am_k31 400 _ _ _ _ _ h
set_option maxRecDepth 100000 in
theorem s_S_copyFrom_1_11_135 {zN d : Nat} {Post : Option Value → aW → Prop} {C : Nat → Nat → Int32} {p : Nat → Option Nat} (h : ¬ (0 : Int32) < 0 ∧ ¬ (0 : Int32) < 0 ∧ ¬ (288 : Int32) < 0 ∧ (0 : Int32).toNatClampNeg + (288 : Int32).toNatClampNeg ≤ 288 ∧ (0 : Int32).toNatClampNeg + (288 : Int32).toNatClampNeg ≤ 288 ∧ (∀ i : Nat, i < (288 : Int32).toNatClampNeg → C 20 ((0 : Int32).toNatClampNeg + i) = 0 ∨ C 20 ((0 : Int32).toNatClampNeg + i) = 1) ∧ (am_At (d + 1) 31 none Post 151 [some (.ref 1), some (.ref 11)] [] (am_w zN (am_uR C 10 (va_cpy (C 20) (C 10) (0 : Int32).toNatClampNeg (0 : Int32).toNatClampNeg (288 : Int32).toNatClampNeg)) p) (0, 0))) : am_At (d + 1) 31 none Post 135 [some (.ref 1), some (.ref 11)] [] (am_w zN C p) (0, 0) := am_wp_ok (stops := [30, 44, 58, 73, 88, 103, 119, 135, 151]) am_k31 400 _ _ _ _ _ h
set_option maxRecDepth 100000 in
theorem s_S_copyFrom_1_11_151 {zN d : Nat} {Post : Option Value → aW → Prop} {C : Nat → Nat → Int32} {p : Nat → Option Nat} (h : Post none (am_w zN C p)) : am_At (d + 1) 31 none Post 151 [some (.ref 1), some (.ref 11)] [] (am_w zN C p) (0, 0) := am_wp_ok (stops := [30, 44, 58, 73, 88, 103, 119, 135, 151]) am_k31 400 _ _ _ _ _ h
set_option maxRecDepth 100000 in
theorem e_S_copyFrom_23_1 {zN d : Nat} {C : Nat → Nat → Int32} {p : Nat → Option Nat} {P : Option Value → (Nat → Nat → Int32) → (Nat → Option Nat) → Prop} (h : am_At (d + 1) 31 none (am_Ret zN P) 0 [some (.ref 23), some (.ref 1)] [] (am_w zN C p) (0, 0)) : am_Call (d + 1) 31 [.ref 23, .ref 1] (am_w zN C p) (am_Ret zN P) := am_m_go (by decide +kernel) rfl rfl rfl h
set_option maxRecDepth 100000 in
theorem s_S_copyFrom_23_1_0 {zN d : Nat} {Post : Option Value → aW → Prop} {C : Nat → Nat → Int32} {p : Nat → Option Nat} (h : ¬ (0 : Int32) < 0 ∧ ¬ (0 : Int32) < 0 ∧ ¬ (4 : Int32) < 0 ∧ (0 : Int32).toNatClampNeg + (4 : Int32).toNatClampNeg ≤ 4 ∧ (0 : Int32).toNatClampNeg + (4 : Int32).toNatClampNeg ≤ 4 ∧ (am_At (d + 1) 31 none Post 30 [some (.ref 23), some (.ref 1)] [] (am_w zN (am_uR (am_u2 (am_u2 C 23 0 (C 1 0)) 23 1 ((am_u2 C 23 0 (C 1 0)) 1 1)) 24 (va_cpy ((am_u2 (am_u2 C 23 0 (C 1 0)) 23 1 ((am_u2 C 23 0 (C 1 0)) 1 1)) 2) ((am_u2 (am_u2 C 23 0 (C 1 0)) 23 1 ((am_u2 C 23 0 (C 1 0)) 1 1)) 24) (0 : Int32).toNatClampNeg (0 : Int32).toNatClampNeg (4 : Int32).toNatClampNeg)) p) (0, 0))) : am_At (d + 1) 31 none Post 0 [some (.ref 23), some (.ref 1)] [] (am_w zN C p) (0, 0) := am_wp_ok (stops := [30, 44, 58, 73, 88, 103, 119, 135, 151]) am_k31 400 _ _ _ _ _ h
set_option maxRecDepth 100000 in
theorem s_S_copyFrom_23_1_30 {zN d : Nat} {Post : Option Value → aW → Prop} {C : Nat → Nat → Int32} {p : Nat → Option Nat} (h : ¬ (0 : Int32) < 0 ∧ ¬ (0 : Int32) < 0 ∧ ¬ (4 : Int32) < 0 ∧ (0 : Int32).toNatClampNeg + (4 : Int32).toNatClampNeg ≤ 4 ∧ (0 : Int32).toNatClampNeg + (4 : Int32).toNatClampNeg ≤ 4 ∧ (am_At (d + 1) 31 none Post 44 [some (.ref 23), some (.ref 1)] [] (am_w zN (am_uR C 25 (va_cpy (C 3) (C 25) (0 : Int32).toNatClampNeg (0 : Int32).toNatClampNeg (4 : Int32).toNatClampNeg)) p) (0, 0))) : am_At (d + 1) 31 none Post 30 [some (.ref 23), some (.ref 1)] [] (am_w zN C p) (0, 0) := am_wp_ok (stops := [30, 44, 58, 73, 88, 103, 119, 135, 151]) am_k31 400 _ _ _ _ _ h
set_option maxRecDepth 100000 in
theorem s_S_copyFrom_23_1_44 {zN d : Nat} {Post : Option Value → aW → Prop} {C : Nat → Nat → Int32} {p : Nat → Option Nat} (h : ¬ (0 : Int32) < 0 ∧ ¬ (0 : Int32) < 0 ∧ ¬ (4 : Int32) < 0 ∧ (0 : Int32).toNatClampNeg + (4 : Int32).toNatClampNeg ≤ 4 ∧ (0 : Int32).toNatClampNeg + (4 : Int32).toNatClampNeg ≤ 4 ∧ (am_At (d + 1) 31 none Post 58 [some (.ref 23), some (.ref 1)] [] (am_w zN (am_uR C 26 (va_cpy (C 4) (C 26) (0 : Int32).toNatClampNeg (0 : Int32).toNatClampNeg (4 : Int32).toNatClampNeg)) p) (0, 0))) : am_At (d + 1) 31 none Post 44 [some (.ref 23), some (.ref 1)] [] (am_w zN C p) (0, 0) := am_wp_ok (stops := [30, 44, 58, 73, 88, 103, 119, 135, 151]) am_k31 400 _ _ _ _ _ h
set_option maxRecDepth 100000 in
theorem s_S_copyFrom_23_1_58 {zN d : Nat} {Post : Option Value → aW → Prop} {C : Nat → Nat → Int32} {p : Nat → Option Nat} (h : ¬ (0 : Int32) < 0 ∧ ¬ (0 : Int32) < 0 ∧ ¬ (6 : Int32) < 0 ∧ (0 : Int32).toNatClampNeg + (6 : Int32).toNatClampNeg ≤ 6 ∧ (0 : Int32).toNatClampNeg + (6 : Int32).toNatClampNeg ≤ 6 ∧ (am_At (d + 1) 31 none Post 73 [some (.ref 23), some (.ref 1)] [] (am_w zN (am_uR C 27 (va_cpy (C 5) (C 27) (0 : Int32).toNatClampNeg (0 : Int32).toNatClampNeg (6 : Int32).toNatClampNeg)) p) (0, 0))) : am_At (d + 1) 31 none Post 58 [some (.ref 23), some (.ref 1)] [] (am_w zN C p) (0, 0) := am_wp_ok (stops := [30, 44, 58, 73, 88, 103, 119, 135, 151]) am_k31 400 _ _ _ _ _ h
set_option maxRecDepth 100000 in
theorem s_S_copyFrom_23_1_73 {zN d : Nat} {Post : Option Value → aW → Prop} {C : Nat → Nat → Int32} {p : Nat → Option Nat} (h : ¬ (0 : Int32) < 0 ∧ ¬ (0 : Int32) < 0 ∧ ¬ (48 : Int32) < 0 ∧ (0 : Int32).toNatClampNeg + (48 : Int32).toNatClampNeg ≤ 48 ∧ (0 : Int32).toNatClampNeg + (48 : Int32).toNatClampNeg ≤ 48 ∧ (am_At (d + 1) 31 none Post 88 [some (.ref 23), some (.ref 1)] [] (am_w zN (am_uR C 28 (va_cpy (C 6) (C 28) (0 : Int32).toNatClampNeg (0 : Int32).toNatClampNeg (48 : Int32).toNatClampNeg)) p) (0, 0))) : am_At (d + 1) 31 none Post 73 [some (.ref 23), some (.ref 1)] [] (am_w zN C p) (0, 0) := am_wp_ok (stops := [30, 44, 58, 73, 88, 103, 119, 135, 151]) am_k31 400 _ _ _ _ _ h
set_option maxRecDepth 100000 in
theorem s_S_copyFrom_23_1_88 {zN d : Nat} {Post : Option Value → aW → Prop} {C : Nat → Nat → Int32} {p : Nat → Option Nat} (h : ¬ (0 : Int32) < 0 ∧ ¬ (0 : Int32) < 0 ∧ ¬ (48 : Int32) < 0 ∧ (0 : Int32).toNatClampNeg + (48 : Int32).toNatClampNeg ≤ 48 ∧ (0 : Int32).toNatClampNeg + (48 : Int32).toNatClampNeg ≤ 48 ∧ (am_At (d + 1) 31 none Post 103 [some (.ref 23), some (.ref 1)] [] (am_w zN (am_uR C 29 (va_cpy (C 7) (C 29) (0 : Int32).toNatClampNeg (0 : Int32).toNatClampNeg (48 : Int32).toNatClampNeg)) p) (0, 0))) : am_At (d + 1) 31 none Post 88 [some (.ref 23), some (.ref 1)] [] (am_w zN C p) (0, 0) := am_wp_ok (stops := [30, 44, 58, 73, 88, 103, 119, 135, 151]) am_k31 400 _ _ _ _ _ h
set_option maxRecDepth 100000 in
theorem s_S_copyFrom_23_1_103 {zN d : Nat} {Post : Option Value → aW → Prop} {C : Nat → Nat → Int32} {p : Nat → Option Nat} (h : ¬ (0 : Int32) < 0 ∧ ¬ (0 : Int32) < 0 ∧ ¬ (288 : Int32) < 0 ∧ (0 : Int32).toNatClampNeg + (288 : Int32).toNatClampNeg ≤ 288 ∧ (0 : Int32).toNatClampNeg + (288 : Int32).toNatClampNeg ≤ 288 ∧ (am_At (d + 1) 31 none Post 119 [some (.ref 23), some (.ref 1)] [] (am_w zN (am_uR C 30 (va_cpy (C 8) (C 30) (0 : Int32).toNatClampNeg (0 : Int32).toNatClampNeg (288 : Int32).toNatClampNeg)) p) (0, 0))) : am_At (d + 1) 31 none Post 103 [some (.ref 23), some (.ref 1)] [] (am_w zN C p) (0, 0) := am_wp_ok (stops := [30, 44, 58, 73, 88, 103, 119, 135, 151]) am_k31 400 _ _ _ _ _ h
set_option maxRecDepth 100000 in
theorem s_S_copyFrom_23_1_119 {zN d : Nat} {Post : Option Value → aW → Prop} {C : Nat → Nat → Int32} {p : Nat → Option Nat} (h : ¬ (0 : Int32) < 0 ∧ ¬ (0 : Int32) < 0 ∧ ¬ (288 : Int32) < 0 ∧ (0 : Int32).toNatClampNeg + (288 : Int32).toNatClampNeg ≤ 288 ∧ (0 : Int32).toNatClampNeg + (288 : Int32).toNatClampNeg ≤ 288 ∧ (am_At (d + 1) 31 none Post 135 [some (.ref 23), some (.ref 1)] [] (am_w zN (am_uR C 31 (va_cpy (C 9) (C 31) (0 : Int32).toNatClampNeg (0 : Int32).toNatClampNeg (288 : Int32).toNatClampNeg)) p) (0, 0))) : am_At (d + 1) 31 none Post 119 [some (.ref 23), some (.ref 1)] [] (am_w zN C p) (0, 0) := am_wp_ok (stops := [30, 44, 58, 73, 88, 103, 119, 135, 151]) am_k31 400 _ _ _ _ _ h
set_option maxRecDepth 100000 in
theorem s_S_copyFrom_23_1_135 {zN d : Nat} {Post : Option Value → aW → Prop} {C : Nat → Nat → Int32} {p : Nat → Option Nat} (h : ¬ (0 : Int32) < 0 ∧ ¬ (0 : Int32) < 0 ∧ ¬ (288 : Int32) < 0 ∧ (0 : Int32).toNatClampNeg + (288 : Int32).toNatClampNeg ≤ 288 ∧ (0 : Int32).toNatClampNeg + (288 : Int32).toNatClampNeg ≤ 288 ∧ (∀ i : Nat, i < (288 : Int32).toNatClampNeg → C 10 ((0 : Int32).toNatClampNeg + i) = 0 ∨ C 10 ((0 : Int32).toNatClampNeg + i) = 1) ∧ (am_At (d + 1) 31 none Post 151 [some (.ref 23), some (.ref 1)] [] (am_w zN (am_uR C 32 (va_cpy (C 10) (C 32) (0 : Int32).toNatClampNeg (0 : Int32).toNatClampNeg (288 : Int32).toNatClampNeg)) p) (0, 0))) : am_At (d + 1) 31 none Post 135 [some (.ref 23), some (.ref 1)] [] (am_w zN C p) (0, 0) := am_wp_ok (stops := [30, 44, 58, 73, 88, 103, 119, 135, 151]) am_k31 400 _ _ _ _ _ h
set_option maxRecDepth 100000 in
theorem s_S_copyFrom_23_1_151 {zN d : Nat} {Post : Option Value → aW → Prop} {C : Nat → Nat → Int32} {p : Nat → Option Nat} (h : Post none (am_w zN C p)) : am_At (d + 1) 31 none Post 151 [some (.ref 23), some (.ref 1)] [] (am_w zN C p) (0, 0) := am_wp_ok (stops := [30, 44, 58, 73, 88, 103, 119, 135, 151]) am_k31 400 _ _ _ _ _ h
set_option maxRecDepth 100000 in
theorem e_S_copyFrom_33_1 {zN d : Nat} {C : Nat → Nat → Int32} {p : Nat → Option Nat} {P : Option Value → (Nat → Nat → Int32) → (Nat → Option Nat) → Prop} (h : am_At (d + 1) 31 none (am_Ret zN P) 0 [some (.ref 33), some (.ref 1)] [] (am_w zN C p) (0, 0)) : am_Call (d + 1) 31 [.ref 33, .ref 1] (am_w zN C p) (am_Ret zN P) := am_m_go (by decide +kernel) rfl rfl rfl h
set_option maxRecDepth 100000 in
theorem s_S_copyFrom_33_1_0 {zN d : Nat} {Post : Option Value → aW → Prop} {C : Nat → Nat → Int32} {p : Nat → Option Nat} (h : ¬ (0 : Int32) < 0 ∧ ¬ (0 : Int32) < 0 ∧ ¬ (4 : Int32) < 0 ∧ (0 : Int32).toNatClampNeg + (4 : Int32).toNatClampNeg ≤ 4 ∧ (0 : Int32).toNatClampNeg + (4 : Int32).toNatClampNeg ≤ 4 ∧ (am_At (d + 1) 31 none Post 30 [some (.ref 33), some (.ref 1)] [] (am_w zN (am_uR (am_u2 (am_u2 C 33 0 (C 1 0)) 33 1 ((am_u2 C 33 0 (C 1 0)) 1 1)) 34 (va_cpy ((am_u2 (am_u2 C 33 0 (C 1 0)) 33 1 ((am_u2 C 33 0 (C 1 0)) 1 1)) 2) ((am_u2 (am_u2 C 33 0 (C 1 0)) 33 1 ((am_u2 C 33 0 (C 1 0)) 1 1)) 34) (0 : Int32).toNatClampNeg (0 : Int32).toNatClampNeg (4 : Int32).toNatClampNeg)) p) (0, 0))) : am_At (d + 1) 31 none Post 0 [some (.ref 33), some (.ref 1)] [] (am_w zN C p) (0, 0) := am_wp_ok (stops := [30, 44, 58, 73, 88, 103, 119, 135, 151]) am_k31 400 _ _ _ _ _ h
set_option maxRecDepth 100000 in
theorem s_S_copyFrom_33_1_30 {zN d : Nat} {Post : Option Value → aW → Prop} {C : Nat → Nat → Int32} {p : Nat → Option Nat} (h : ¬ (0 : Int32) < 0 ∧ ¬ (0 : Int32) < 0 ∧ ¬ (4 : Int32) < 0 ∧ (0 : Int32).toNatClampNeg + (4 : Int32).toNatClampNeg ≤ 4 ∧ (0 : Int32).toNatClampNeg + (4 : Int32).toNatClampNeg ≤ 4 ∧ (am_At (d + 1) 31 none Post 44 [some (.ref 33), some (.ref 1)] [] (am_w zN (am_uR C 35 (va_cpy (C 3) (C 35) (0 : Int32).toNatClampNeg (0 : Int32).toNatClampNeg (4 : Int32).toNatClampNeg)) p) (0, 0))) : am_At (d + 1) 31 none Post 30 [some (.ref 33), some (.ref 1)] [] (am_w zN C p) (0, 0) := am_wp_ok (stops := [30, 44, 58, 73, 88, 103, 119, 135, 151]) am_k31 400 _ _ _ _ _ h
set_option maxRecDepth 100000 in
theorem s_S_copyFrom_33_1_44 {zN d : Nat} {Post : Option Value → aW → Prop} {C : Nat → Nat → Int32} {p : Nat → Option Nat} (h : ¬ (0 : Int32) < 0 ∧ ¬ (0 : Int32) < 0 ∧ ¬ (4 : Int32) < 0 ∧ (0 : Int32).toNatClampNeg + (4 : Int32).toNatClampNeg ≤ 4 ∧ (0 : Int32).toNatClampNeg + (4 : Int32).toNatClampNeg ≤ 4 ∧ (am_At (d + 1) 31 none Post 58 [some (.ref 33), some (.ref 1)] [] (am_w zN (am_uR C 36 (va_cpy (C 4) (C 36) (0 : Int32).toNatClampNeg (0 : Int32).toNatClampNeg (4 : Int32).toNatClampNeg)) p) (0, 0))) : am_At (d + 1) 31 none Post 44 [some (.ref 33), some (.ref 1)] [] (am_w zN C p) (0, 0) := am_wp_ok (stops := [30, 44, 58, 73, 88, 103, 119, 135, 151]) am_k31 400 _ _ _ _ _ h
set_option maxRecDepth 100000 in
theorem s_S_copyFrom_33_1_58 {zN d : Nat} {Post : Option Value → aW → Prop} {C : Nat → Nat → Int32} {p : Nat → Option Nat} (h : ¬ (0 : Int32) < 0 ∧ ¬ (0 : Int32) < 0 ∧ ¬ (6 : Int32) < 0 ∧ (0 : Int32).toNatClampNeg + (6 : Int32).toNatClampNeg ≤ 6 ∧ (0 : Int32).toNatClampNeg + (6 : Int32).toNatClampNeg ≤ 6 ∧ (am_At (d + 1) 31 none Post 73 [some (.ref 33), some (.ref 1)] [] (am_w zN (am_uR C 37 (va_cpy (C 5) (C 37) (0 : Int32).toNatClampNeg (0 : Int32).toNatClampNeg (6 : Int32).toNatClampNeg)) p) (0, 0))) : am_At (d + 1) 31 none Post 58 [some (.ref 33), some (.ref 1)] [] (am_w zN C p) (0, 0) := am_wp_ok (stops := [30, 44, 58, 73, 88, 103, 119, 135, 151]) am_k31 400 _ _ _ _ _ h
set_option maxRecDepth 100000 in
theorem s_S_copyFrom_33_1_73 {zN d : Nat} {Post : Option Value → aW → Prop} {C : Nat → Nat → Int32} {p : Nat → Option Nat} (h : ¬ (0 : Int32) < 0 ∧ ¬ (0 : Int32) < 0 ∧ ¬ (48 : Int32) < 0 ∧ (0 : Int32).toNatClampNeg + (48 : Int32).toNatClampNeg ≤ 48 ∧ (0 : Int32).toNatClampNeg + (48 : Int32).toNatClampNeg ≤ 48 ∧ (am_At (d + 1) 31 none Post 88 [some (.ref 33), some (.ref 1)] [] (am_w zN (am_uR C 38 (va_cpy (C 6) (C 38) (0 : Int32).toNatClampNeg (0 : Int32).toNatClampNeg (48 : Int32).toNatClampNeg)) p) (0, 0))) : am_At (d + 1) 31 none Post 73 [some (.ref 33), some (.ref 1)] [] (am_w zN C p) (0, 0) := am_wp_ok (stops := [30, 44, 58, 73, 88, 103, 119, 135, 151]) am_k31 400 _ _ _ _ _ h
set_option maxRecDepth 100000 in
theorem s_S_copyFrom_33_1_88 {zN d : Nat} {Post : Option Value → aW → Prop} {C : Nat → Nat → Int32} {p : Nat → Option Nat} (h : ¬ (0 : Int32) < 0 ∧ ¬ (0 : Int32) < 0 ∧ ¬ (48 : Int32) < 0 ∧ (0 : Int32).toNatClampNeg + (48 : Int32).toNatClampNeg ≤ 48 ∧ (0 : Int32).toNatClampNeg + (48 : Int32).toNatClampNeg ≤ 48 ∧ (am_At (d + 1) 31 none Post 103 [some (.ref 33), some (.ref 1)] [] (am_w zN (am_uR C 39 (va_cpy (C 7) (C 39) (0 : Int32).toNatClampNeg (0 : Int32).toNatClampNeg (48 : Int32).toNatClampNeg)) p) (0, 0))) : am_At (d + 1) 31 none Post 88 [some (.ref 33), some (.ref 1)] [] (am_w zN C p) (0, 0) := am_wp_ok (stops := [30, 44, 58, 73, 88, 103, 119, 135, 151]) am_k31 400 _ _ _ _ _ h
set_option maxRecDepth 100000 in
theorem s_S_copyFrom_33_1_103 {zN d : Nat} {Post : Option Value → aW → Prop} {C : Nat → Nat → Int32} {p : Nat → Option Nat} (h : ¬ (0 : Int32) < 0 ∧ ¬ (0 : Int32) < 0 ∧ ¬ (288 : Int32) < 0 ∧ (0 : Int32).toNatClampNeg + (288 : Int32).toNatClampNeg ≤ 288 ∧ (0 : Int32).toNatClampNeg + (288 : Int32).toNatClampNeg ≤ 288 ∧ (am_At (d + 1) 31 none Post 119 [some (.ref 33), some (.ref 1)] [] (am_w zN (am_uR C 40 (va_cpy (C 8) (C 40) (0 : Int32).toNatClampNeg (0 : Int32).toNatClampNeg (288 : Int32).toNatClampNeg)) p) (0, 0))) : am_At (d + 1) 31 none Post 103 [some (.ref 33), some (.ref 1)] [] (am_w zN C p) (0, 0) := am_wp_ok (stops := [30, 44, 58, 73, 88, 103, 119, 135, 151]) am_k31 400 _ _ _ _ _ h
set_option maxRecDepth 100000 in
theorem s_S_copyFrom_33_1_119 {zN d : Nat} {Post : Option Value → aW → Prop} {C : Nat → Nat → Int32} {p : Nat → Option Nat} (h : ¬ (0 : Int32) < 0 ∧ ¬ (0 : Int32) < 0 ∧ ¬ (288 : Int32) < 0 ∧ (0 : Int32).toNatClampNeg + (288 : Int32).toNatClampNeg ≤ 288 ∧ (0 : Int32).toNatClampNeg + (288 : Int32).toNatClampNeg ≤ 288 ∧ (am_At (d + 1) 31 none Post 135 [some (.ref 33), some (.ref 1)] [] (am_w zN (am_uR C 41 (va_cpy (C 9) (C 41) (0 : Int32).toNatClampNeg (0 : Int32).toNatClampNeg (288 : Int32).toNatClampNeg)) p) (0, 0))) : am_At (d + 1) 31 none Post 119 [some (.ref 33), some (.ref 1)] [] (am_w zN C p) (0, 0) := am_wp_ok (stops := [30, 44, 58, 73, 88, 103, 119, 135, 151]) am_k31 400 _ _ _ _ _ h
set_option maxRecDepth 100000 in
theorem s_S_copyFrom_33_1_135 {zN d : Nat} {Post : Option Value → aW → Prop} {C : Nat → Nat → Int32} {p : Nat → Option Nat} (h : ¬ (0 : Int32) < 0 ∧ ¬ (0 : Int32) < 0 ∧ ¬ (288 : Int32) < 0 ∧ (0 : Int32).toNatClampNeg + (288 : Int32).toNatClampNeg ≤ 288 ∧ (0 : Int32).toNatClampNeg + (288 : Int32).toNatClampNeg ≤ 288 ∧ (∀ i : Nat, i < (288 : Int32).toNatClampNeg → C 10 ((0 : Int32).toNatClampNeg + i) = 0 ∨ C 10 ((0 : Int32).toNatClampNeg + i) = 1) ∧ (am_At (d + 1) 31 none Post 151 [some (.ref 33), some (.ref 1)] [] (am_w zN (am_uR C 42 (va_cpy (C 10) (C 42) (0 : Int32).toNatClampNeg (0 : Int32).toNatClampNeg (288 : Int32).toNatClampNeg)) p) (0, 0))) : am_At (d + 1) 31 none Post 135 [some (.ref 33), some (.ref 1)] [] (am_w zN C p) (0, 0) := am_wp_ok (stops := [30, 44, 58, 73, 88, 103, 119, 135, 151]) am_k31 400 _ _ _ _ _ h
set_option maxRecDepth 100000 in
theorem s_S_copyFrom_33_1_151 {zN d : Nat} {Post : Option Value → aW → Prop} {C : Nat → Nat → Int32} {p : Nat → Option Nat} (h : Post none (am_w zN C p)) : am_At (d + 1) 31 none Post 151 [some (.ref 33), some (.ref 1)] [] (am_w zN C p) (0, 0) := am_wp_ok (stops := [30, 44, 58, 73, 88, 103, 119, 135, 151]) am_k31 400 _ _ _ _ _ h
set_option maxRecDepth 100000 in
theorem e_S_copyFrom_43_1 {zN d : Nat} {C : Nat → Nat → Int32} {p : Nat → Option Nat} {P : Option Value → (Nat → Nat → Int32) → (Nat → Option Nat) → Prop} (h : am_At (d + 1) 31 none (am_Ret zN P) 0 [some (.ref 43), some (.ref 1)] [] (am_w zN C p) (0, 0)) : am_Call (d + 1) 31 [.ref 43, .ref 1] (am_w zN C p) (am_Ret zN P) := am_m_go (by decide +kernel) rfl rfl rfl h
set_option maxRecDepth 100000 in
theorem s_S_copyFrom_43_1_0 {zN d : Nat} {Post : Option Value → aW → Prop} {C : Nat → Nat → Int32} {p : Nat → Option Nat} (h : ¬ (0 : Int32) < 0 ∧ ¬ (0 : Int32) < 0 ∧ ¬ (4 : Int32) < 0 ∧ (0 : Int32).toNatClampNeg + (4 : Int32).toNatClampNeg ≤ 4 ∧ (0 : Int32).toNatClampNeg + (4 : Int32).toNatClampNeg ≤ 4 ∧ (am_At (d + 1) 31 none Post 30 [some (.ref 43), some (.ref 1)] [] (am_w zN (am_uR (am_u2 (am_u2 C 43 0 (C 1 0)) 43 1 ((am_u2 C 43 0 (C 1 0)) 1 1)) 44 (va_cpy ((am_u2 (am_u2 C 43 0 (C 1 0)) 43 1 ((am_u2 C 43 0 (C 1 0)) 1 1)) 2) ((am_u2 (am_u2 C 43 0 (C 1 0)) 43 1 ((am_u2 C 43 0 (C 1 0)) 1 1)) 44) (0 : Int32).toNatClampNeg (0 : Int32).toNatClampNeg (4 : Int32).toNatClampNeg)) p) (0, 0))) : am_At (d + 1) 31 none Post 0 [some (.ref 43), some (.ref 1)] [] (am_w zN C p) (0, 0) := am_wp_ok (stops := [30, 44, 58, 73, 88, 103, 119, 135, 151]) am_k31 400 _ _ _ _ _ h
set_option maxRecDepth 100000 in
theorem s_S_copyFrom_43_1_30 {zN d : Nat} {Post : Option Value → aW → Prop} {C : Nat → Nat → Int32} {p : Nat → Option Nat} (h : ¬ (0 : Int32) < 0 ∧ ¬ (0 : Int32) < 0 ∧ ¬ (4 : Int32) < 0 ∧ (0 : Int32).toNatClampNeg + (4 : Int32).toNatClampNeg ≤ 4 ∧ (0 : Int32).toNatClampNeg + (4 : Int32).toNatClampNeg ≤ 4 ∧ (am_At (d + 1) 31 none Post 44 [some (.ref 43), some (.ref 1)] [] (am_w zN (am_uR C 45 (va_cpy (C 3) (C 45) (0 : Int32).toNatClampNeg (0 : Int32).toNatClampNeg (4 : Int32).toNatClampNeg)) p) (0, 0))) : am_At (d + 1) 31 none Post 30 [some (.ref 43), some (.ref 1)] [] (am_w zN C p) (0, 0) := am_wp_ok (stops := [30, 44, 58, 73, 88, 103, 119, 135, 151]) am_k31 400 _ _ _ _ _ h
set_option maxRecDepth 100000 in
theorem s_S_copyFrom_43_1_44 {zN d : Nat} {Post : Option Value → aW → Prop} {C : Nat → Nat → Int32} {p : Nat → Option Nat} (h : ¬ (0 : Int32) < 0 ∧ ¬ (0 : Int32) < 0 ∧ ¬ (4 : Int32) < 0 ∧ (0 : Int32).toNatClampNeg + (4 : Int32).toNatClampNeg ≤ 4 ∧ (0 : Int32).toNatClampNeg + (4 : Int32).toNatClampNeg ≤ 4 ∧ (am_At (d + 1) 31 none Post 58 [some (.ref 43), some (.ref 1)] [] (am_w zN (am_uR C 46 (va_cpy (C 4) (C 46) (0 : Int32).toNatClampNeg (0 : Int32).toNatClampNeg (4 : Int32).toNatClampNeg)) p) (0, 0))) : am_At (d + 1) 31 none Post 44 [some (.ref 43), some (.ref 1)] [] (am_w zN C p) (0, 0) := am_wp_ok (stops := [30, 44, 58, 73, 88, 103, 119, 135, 151]) am_k31 400 _ _ _ _ _ h
set_option maxRecDepth 100000 in
theorem s_S_copyFrom_43_1_58 {zN d : Nat} {Post : Option Value → aW → Prop} {C : Nat → Nat → Int32} {p : Nat → Option Nat} (h : ¬ (0 : Int32) < 0 ∧ ¬ (0 : Int32) < 0 ∧ ¬ (6 : Int32) < 0 ∧ (0 : Int32).toNatClampNeg + (6 : Int32).toNatClampNeg ≤ 6 ∧ (0 : Int32).toNatClampNeg + (6 : Int32).toNatClampNeg ≤ 6 ∧ (am_At (d + 1) 31 none Post 73 [some (.ref 43), some (.ref 1)] [] (am_w zN (am_uR C 47 (va_cpy (C 5) (C 47) (0 : Int32).toNatClampNeg (0 : Int32).toNatClampNeg (6 : Int32).toNatClampNeg)) p) (0, 0))) : am_At (d + 1) 31 none Post 58 [some (.ref 43), some (.ref 1)] [] (am_w zN C p) (0, 0) := am_wp_ok (stops := [30, 44, 58, 73, 88, 103, 119, 135, 151]) am_k31 400 _ _ _ _ _ h
set_option maxRecDepth 100000 in
theorem s_S_copyFrom_43_1_73 {zN d : Nat} {Post : Option Value → aW → Prop} {C : Nat → Nat → Int32} {p : Nat → Option Nat} (h : ¬ (0 : Int32) < 0 ∧ ¬ (0 : Int32) < 0 ∧ ¬ (48 : Int32) < 0 ∧ (0 : Int32).toNatClampNeg + (48 : Int32).toNatClampNeg ≤ 48 ∧ (0 : Int32).toNatClampNeg + (48 : Int32).toNatClampNeg ≤ 48 ∧ (am_At (d + 1) 31 none Post 88 [some (.ref 43), some (.ref 1)] [] (am_w zN (am_uR C 48 (va_cpy (C 6) (C 48) (0 : Int32).toNatClampNeg (0 : Int32).toNatClampNeg (48 : Int32).toNatClampNeg)) p) (0, 0))) : am_At (d + 1) 31 none Post 73 [some (.ref 43), some (.ref 1)] [] (am_w zN C p) (0, 0) := am_wp_ok (stops := [30, 44, 58, 73, 88, 103, 119, 135, 151]) am_k31 400 _ _ _ _ _ h
set_option maxRecDepth 100000 in
theorem s_S_copyFrom_43_1_88 {zN d : Nat} {Post : Option Value → aW → Prop} {C : Nat → Nat → Int32} {p : Nat → Option Nat} (h : ¬ (0 : Int32) < 0 ∧ ¬ (0 : Int32) < 0 ∧ ¬ (48 : Int32) < 0 ∧ (0 : Int32).toNatClampNeg + (48 : Int32).toNatClampNeg ≤ 48 ∧ (0 : Int32).toNatClampNeg + (48 : Int32).toNatClampNeg ≤ 48 ∧ (am_At (d + 1) 31 none Post 103 [some (.ref 43), some (.ref 1)] [] (am_w zN (am_uR C 49 (va_cpy (C 7) (C 49) (0 : Int32).toNatClampNeg (0 : Int32).toNatClampNeg (48 : Int32).toNatClampNeg)) p) (0, 0))) : am_At (d + 1) 31 none Post 88 [some (.ref 43), some (.ref 1)] [] (am_w zN C p) (0, 0) := am_wp_ok (stops := [30, 44, 58, 73, 88, 103, 119, 135, 151]) am_k31 400 _ _ _ _ _ h
set_option maxRecDepth 100000 in
theorem s_S_copyFrom_43_1_103 {zN d : Nat} {Post : Option Value → aW → Prop} {C : Nat → Nat → Int32} {p : Nat → Option Nat} (h : ¬ (0 : Int32) < 0 ∧ ¬ (0 : Int32) < 0 ∧ ¬ (288 : Int32) < 0 ∧ (0 : Int32).toNatClampNeg + (288 : Int32).toNatClampNeg ≤ 288 ∧ (0 : Int32).toNatClampNeg + (288 : Int32).toNatClampNeg ≤ 288 ∧ (am_At (d + 1) 31 none Post 119 [some (.ref 43), some (.ref 1)] [] (am_w zN (am_uR C 50 (va_cpy (C 8) (C 50) (0 : Int32).toNatClampNeg (0 : Int32).toNatClampNeg (288 : Int32).toNatClampNeg)) p) (0, 0))) : am_At (d + 1) 31 none Post 103 [some (.ref 43), some (.ref 1)] [] (am_w zN C p) (0, 0) := am_wp_ok (stops := [30, 44, 58, 73, 88, 103, 119, 135, 151]) am_k31 400 _ _ _ _ _ h
set_option maxRecDepth 100000 in
theorem s_S_copyFrom_43_1_119 {zN d : Nat} {Post : Option Value → aW → Prop} {C : Nat → Nat → Int32} {p : Nat → Option Nat} (h : ¬ (0 : Int32) < 0 ∧ ¬ (0 : Int32) < 0 ∧ ¬ (288 : Int32) < 0 ∧ (0 : Int32).toNatClampNeg + (288 : Int32).toNatClampNeg ≤ 288 ∧ (0 : Int32).toNatClampNeg + (288 : Int32).toNatClampNeg ≤ 288 ∧ (am_At (d + 1) 31 none Post 135 [some (.ref 43), some (.ref 1)] [] (am_w zN (am_uR C 51 (va_cpy (C 9) (C 51) (0 : Int32).toNatClampNeg (0 : Int32).toNatClampNeg (288 : Int32).toNatClampNeg)) p) (0, 0))) : am_At (d + 1) 31 none Post 119 [some (.ref 43), some (.ref 1)] [] (am_w zN C p) (0, 0) := am_wp_ok (stops := [30, 44, 58, 73, 88, 103, 119, 135, 151]) am_k31 400 _ _ _ _ _ h
set_option maxRecDepth 100000 in
theorem s_S_copyFrom_43_1_135 {zN d : Nat} {Post : Option Value → aW → Prop} {C : Nat → Nat → Int32} {p : Nat → Option Nat} (h : ¬ (0 : Int32) < 0 ∧ ¬ (0 : Int32) < 0 ∧ ¬ (288 : Int32) < 0 ∧ (0 : Int32).toNatClampNeg + (288 : Int32).toNatClampNeg ≤ 288 ∧ (0 : Int32).toNatClampNeg + (288 : Int32).toNatClampNeg ≤ 288 ∧ (∀ i : Nat, i < (288 : Int32).toNatClampNeg → C 10 ((0 : Int32).toNatClampNeg + i) = 0 ∨ C 10 ((0 : Int32).toNatClampNeg + i) = 1) ∧ (am_At (d + 1) 31 none Post 151 [some (.ref 43), some (.ref 1)] [] (am_w zN (am_uR C 52 (va_cpy (C 10) (C 52) (0 : Int32).toNatClampNeg (0 : Int32).toNatClampNeg (288 : Int32).toNatClampNeg)) p) (0, 0))) : am_At (d + 1) 31 none Post 135 [some (.ref 43), some (.ref 1)] [] (am_w zN C p) (0, 0) := am_wp_ok (stops := [30, 44, 58, 73, 88, 103, 119, 135, 151]) am_k31 400 _ _ _ _ _ h
set_option maxRecDepth 100000 in
theorem s_S_copyFrom_43_1_151 {zN d : Nat} {Post : Option Value → aW → Prop} {C : Nat → Nat → Int32} {p : Nat → Option Nat} (h : Post none (am_w zN C p)) : am_At (d + 1) 31 none Post 151 [some (.ref 43), some (.ref 1)] [] (am_w zN C p) (0, 0) := am_wp_ok (stops := [30, 44, 58, 73, 88, 103, 119, 135, 151]) am_k31 400 _ _ _ _ _ h
set_option maxRecDepth 100000 in
theorem e_S_copyFrom_53_1 {zN d : Nat} {C : Nat → Nat → Int32} {p : Nat → Option Nat} {P : Option Value → (Nat → Nat → Int32) → (Nat → Option Nat) → Prop} (h : am_At (d + 1) 31 none (am_Ret zN P) 0 [some (.ref 53), some (.ref 1)] [] (am_w zN C p) (0, 0)) : am_Call (d + 1) 31 [.ref 53, .ref 1] (am_w zN C p) (am_Ret zN P) := am_m_go (by decide +kernel) rfl rfl rfl h
set_option maxRecDepth 100000 in
theorem s_S_copyFrom_53_1_0 {zN d : Nat} {Post : Option Value → aW → Prop} {C : Nat → Nat → Int32} {p : Nat → Option Nat} (h : ¬ (0 : Int32) < 0 ∧ ¬ (0 : Int32) < 0 ∧ ¬ (4 : Int32) < 0 ∧ (0 : Int32).toNatClampNeg + (4 : Int32).toNatClampNeg ≤ 4 ∧ (0 : Int32).toNatClampNeg + (4 : Int32).toNatClampNeg ≤ 4 ∧ (am_At (d + 1) 31 none Post 30 [some (.ref 53), some (.ref 1)] [] (am_w zN (am_uR (am_u2 (am_u2 C 53 0 (C 1 0)) 53 1 ((am_u2 C 53 0 (C 1 0)) 1 1)) 54 (va_cpy ((am_u2 (am_u2 C 53 0 (C 1 0)) 53 1 ((am_u2 C 53 0 (C 1 0)) 1 1)) 2) ((am_u2 (am_u2 C 53 0 (C 1 0)) 53 1 ((am_u2 C 53 0 (C 1 0)) 1 1)) 54) (0 : Int32).toNatClampNeg (0 : Int32).toNatClampNeg (4 : Int32).toNatClampNeg)) p) (0, 0))) : am_At (d + 1) 31 none Post 0 [some (.ref 53), some (.ref 1)] [] (am_w zN C p) (0, 0) := am_wp_ok (stops := [30, 44, 58, 73, 88, 103, 119, 135, 151]) am_k31 400 _ _ _ _ _ h
set_option maxRecDepth 100000 in
theorem s_S_copyFrom_53_1_30 {zN d : Nat} {Post : Option Value → aW → Prop} {C : Nat → Nat → Int32} {p : Nat → Option Nat} (h : ¬ (0 : Int32) < 0 ∧ ¬ (0 : Int32) < 0 ∧ ¬ (4 : Int32) < 0 ∧ (0 : Int32).toNatClampNeg + (4 : Int32).toNatClampNeg ≤ 4 ∧ (0 : Int32).toNatClampNeg + (4 : Int32).toNatClampNeg ≤ 4 ∧ (am_At (d + 1) 31 none Post 44 [some (.ref 53), some (.ref 1)] [] (am_w zN (am_uR C 55 (va_cpy (C 3) (C 55) (0 : Int32).toNatClampNeg (0 : Int32).toNatClampNeg (4 : Int32).toNatClampNeg)) p) (0, 0))) : am_At (d + 1) 31 none Post 30 [some (.ref 53), some (.ref 1)] [] (am_w zN C p) (0, 0) := am_wp_ok (stops := [30, 44, 58, 73, 88, 103, 119, 135, 151]) am_k31 400 _ _ _ _ _ h
set_option maxRecDepth 100000 in
theorem s_S_copyFrom_53_1_44 {zN d : Nat} {Post : Option Value → aW → Prop} {C : Nat → Nat → Int32} {p : Nat → Option Nat} (h : ¬ (0 : Int32) < 0 ∧ ¬ (0 : Int32) < 0 ∧ ¬ (4 : Int32) < 0 ∧ (0 : Int32).toNatClampNeg + (4 : Int32).toNatClampNeg ≤ 4 ∧ (0 : Int32).toNatClampNeg + (4 : Int32).toNatClampNeg ≤ 4 ∧ (am_At (d + 1) 31 none Post 58 [some (.ref 53), some (.ref 1)] [] (am_w zN (am_uR C 56 (va_cpy (C 4) (C 56) (0 : Int32).toNatClampNeg (0 : Int32).toNatClampNeg (4 : Int32).toNatClampNeg)) p) (0, 0))) : am_At (d + 1) 31 none Post 44 [some (.ref 53), some (.ref 1)] [] (am_w zN C p) (0, 0) := am_wp_ok (stops := [30, 44, 58, 73, 88, 103, 119, 135, 151]) am_k31 400 _ _ _ _ _ h
set_option maxRecDepth 100000 in
theorem s_S_copyFrom_53_1_58 {zN d : Nat} {Post : Option Value → aW → Prop} {C : Nat → Nat → Int32} {p : Nat → Option Nat} (h : ¬ (0 : Int32) < 0 ∧ ¬ (0 : Int32) < 0 ∧ ¬ (6 : Int32) < 0 ∧ (0 : Int32).toNatClampNeg + (6 : Int32).toNatClampNeg ≤ 6 ∧ (0 : Int32).toNatClampNeg + (6 : Int32).toNatClampNeg ≤ 6 ∧ (am_At (d + 1) 31 none Post 73 [some (.ref 53), some (.ref 1)] [] (am_w zN (am_uR C 57 (va_cpy (C 5) (C 57) (0 : Int32).toNatClampNeg (0 : Int32).toNatClampNeg (6 : Int32).toNatClampNeg)) p) (0, 0))) : am_At (d + 1) 31 none Post 58 [some (.ref 53), some (.ref 1)] [] (am_w zN C p) (0, 0) := am_wp_ok (stops := [30, 44, 58, 73, 88, 103, 119, 135, 151]) am_k31 400 _ _ _ _ _ h
set_option maxRecDepth 100000 in
theorem s_S_copyFrom_53_1_73 {zN d : Nat} {Post : Option Value → aW → Prop} {C : Nat → Nat → Int32} {p : Nat → Option Nat} (h : ¬ (0 : Int32) < 0 ∧ ¬ (0 : Int32) < 0 ∧ ¬ (48 : Int32) < 0 ∧ (0 : Int32).toNatClampNeg + (48 : Int32).toNatClampNeg ≤ 48 ∧ (0 : Int32).toNatClampNeg + (48 : Int32).toNatClampNeg ≤ 48 ∧ (am_At (d + 1) 31 none Post 88 [some (.ref 53), some (.ref 1)] [] (am_w zN (am_uR C 58 (va_cpy (C 6) (C 58) (0 : Int32).toNatClampNeg (0 : Int32).toNatClampNeg (48 : Int32).toNatClampNeg)) p) (0, 0))) : am_At (d + 1) 31 none Post 73 [some (.ref 53), some (.ref 1)] [] (am_w zN C p) (0, 0) := am_wp_ok (stops := [30, 44, 58, 73, 88, 103, 119, 135, 151]) am_k31 400 _ _ _ _ _ h
set_option maxRecDepth 100000 in
theorem s_S_copyFrom_53_1_88 {zN d : Nat} {Post : Option Value → aW → Prop} {C : Nat → Nat → Int32} {p : Nat → Option Nat} (h : ¬ (0 : Int32) < 0 ∧ ¬ (0 : Int32) < 0 ∧ ¬ (48 : Int32) < 0 ∧ (0 : Int32).toNatClampNeg + (48 : Int32).toNatClampNeg ≤ 48 ∧ (0 : Int32).toNatClampNeg + (48 : Int32).toNatClampNeg ≤ 48 ∧ (am_At (d + 1) 31 none Post 103 [some (.ref 53), some (.ref 1)] [] (am_w zN (am_uR C 59 (va_cpy (C 7) (C 59) (0 : Int32).toNatClampNeg (0 : Int32).toNatClampNeg (48 : Int32).toNatClampNeg)) p) (0, 0))) : am_At (d + 1) 31 none Post 88 [some (.ref 53), some (.ref 1)] [] (am_w zN C p) (0, 0) := am_wp_ok (stops := [30, 44, 58, 73, 88, 103, 119, 135, 151]) am_k31 400 _ _ _ _ _ h
set_option maxRecDepth 100000 in
theorem s_S_copyFrom_53_1_103 {zN d : Nat} {Post : Option Value → aW → Prop} {C : Nat → Nat → Int32} {p : Nat → Option Nat} (h : ¬ (0 : Int32) < 0 ∧ ¬ (0 : Int32) < 0 ∧ ¬ (288 : Int32) < 0 ∧ (0 : Int32).toNatClampNeg + (288 : Int32).toNatClampNeg ≤ 288 ∧ (0 : Int32).toNatClampNeg + (288 : Int32).toNatClampNeg ≤ 288 ∧ (am_At (d + 1) 31 none Post 119 [some (.ref 53), some (.ref 1)] [] (am_w zN (am_uR C 60 (va_cpy (C 8) (C 60) (0 : Int32).toNatClampNeg (0 : Int32).toNatClampNeg (288 : Int32).toNatClampNeg)) p) (0, 0))) : am_At (d + 1) 31 none Post 103 [some (.ref 53), some (.ref 1)] [] (am_w zN C p) (0, 0) := am_wp_ok (stops := [30, 44, 58, 73, 88, 103, 119, 135, 151]) am_k31 400 _ _ _ _ _ h
set_option maxRecDepth 100000 in
theorem s_S_copyFrom_53_1_119 {zN d : Nat} {Post : Option Value → aW → Prop} {C : Nat → Nat → Int32} {p : Nat → Option Nat} (h : ¬ (0 : Int32) < 0 ∧ ¬ (0 : Int32) < 0 ∧ ¬ (288 : Int32) < 0 ∧ (0 : Int32).toNatClampNeg + (288 : Int32).toNatClampNeg ≤ 288 ∧ (0 : Int32).toNatClampNeg + (288 : Int32).toNatClampNeg ≤ 288 ∧ (am_At (d + 1) 31 none Post 135 [some (.ref 53), some (.ref 1)] [] (am_w zN (am_uR C 61 (va_cpy (C 9) (C 61) (0 : Int32).toNatClampNeg (0 : Int32).toNatClampNeg (288 : Int32).toNatClampNeg)) p) (0, 0))) : am_At (d + 1) 31 none Post 119 [some (.ref 53), some (.ref 1)] [] (am_w zN C p) (0, 0) := am_wp_ok (stops := [30, 44, 58, 73, 88, 103, 119, 135, 151]) am_k31 400 _ _ _ _ _ h
set_option maxRecDepth 100000 in
theorem s_S_copyFrom_53_1_135 {zN d : Nat} {Post : Option Value → aW → Prop} {C : Nat → Nat → Int32} {p : Nat → Option Nat} (h : ¬ (0 : Int32) < 0 ∧ ¬ (0 : Int32) < 0 ∧ ¬ (288 : Int32) < 0 ∧ (0 : Int32).toNatClampNeg + (288 : Int32).toNatClampNeg ≤ 288 ∧ (0 : Int32).toNatClampNeg + (288 : Int32).toNatClampNeg ≤ 288 ∧ (∀ i : Nat, i < (288 : Int32).toNatClampNeg → C 10 ((0 : Int32).toNatClampNeg + i) = 0 ∨ C 10 ((0 : Int32).toNatClampNeg + i) = 1) ∧ (am_At (d + 1) 31 none Post 151 [some (.ref 53), some (.ref 1)] [] (am_w zN (am_uR C 62 (va_cpy (C 10) (C 62) (0 : Int32).toNatClampNeg (0 : Int32).toNatClampNeg (288 : Int32).toNatClampNeg)) p) (0, 0))) : am_At (d + 1) 31 none Post 135 [some (.ref 53), some (.ref 1)] [] (am_w zN C p) (0, 0) := am_wp_ok (stops := [30, 44, 58, 73, 88, 103, 119, 135, 151]) am_k31 400 _ _ _ _ _ h
set_option maxRecDepth 100000 in
theorem s_S_copyFrom_53_1_151 {zN d : Nat} {Post : Option Value → aW → Prop} {C : Nat → Nat → Int32} {p : Nat → Option Nat} (h : Post none (am_w zN C p)) : am_At (d + 1) 31 none Post 151 [some (.ref 53), some (.ref 1)] [] (am_w zN C p) (0, 0) := am_wp_ok (stops := [30, 44, 58, 73, 88, 103, 119, 135, 151]) am_k31 400 _ _ _ _ _ h
set_option maxRecDepth 100000 in
theorem e_S_copyFrom_1_23 {zN d : Nat} {C : Nat → Nat → Int32} {p : Nat → Option Nat} {P : Option Value → (Nat → Nat → Int32) → (Nat → Option Nat) → Prop} (h : am_At (d + 1) 31 none (am_Ret zN P) 0 [some (.ref 1), some (.ref 23)] [] (am_w zN C p) (0, 0)) : am_Call (d + 1) 31 [.ref 1, .ref 23] (am_w zN C p) (am_Ret zN P) := am_m_go (by decide +kernel) rfl rfl rfl h
set_option maxRecDepth 100000 in
theorem s_S_copyFrom_1_23_0 {zN d : Nat} {Post : Option Value → aW → Prop} {C : Nat → Nat → Int32} {p : Nat → Option Nat} (h : ¬ (0 : Int32) < 0 ∧ ¬ (0 : Int32) < 0 ∧ ¬ (4 : Int32) < 0 ∧ (0 : Int32).toNatClampNeg + (4 : Int32).toNatClampNeg ≤ 4 ∧ (0 : Int32).toNatClampNeg + (4 : Int32).toNatClampNeg ≤ 4 ∧ (am_At (d + 1) 31 none Post 30 [some (.ref 1), some (.ref 23)] [] (am_w zN (am_uR (am_u2 (am_u2 C 1 0 (C 23 0)) 1 1 ((am_u2 C 1 0 (C 23 0)) 23 1)) 2 (va_cpy ((am_u2 (am_u2 C 1 0 (C 23 0)) 1 1 ((am_u2 C 1 0 (C 23 0)) 23 1)) 24) ((am_u2 (am_u2 C 1 0 (C 23 0)) 1 1 ((am_u2 C 1 0 (C 23 0)) 23 1)) 2) (0 : Int32).toNatClampNeg (0 : Int32).toNatClampNeg (4 : Int32).toNatClampNeg)) p) (0, 0))) : am_At (d + 1) 31 none Post 0 [some (.ref 1), some (.ref 23)] [] (am_w zN C p) (0, 0) := am_wp_ok (stops := [30, 44, 58, 73, 88, 103, 119, 135, 151]) am_k31 400 _ _ _ _ _ h
set_option maxRecDepth 100000 in
theorem s_S_copyFrom_1_23_30 {zN d : Nat} {Post : Option Value → aW → Prop} {C : Nat → Nat → Int32} {p : Nat → Option Nat} (h : ¬ (0 : Int32) < 0 ∧ ¬ (0 : Int32) < 0 ∧ ¬ (4 : Int32) < 0 ∧ (0 : Int32).toNatClampNeg + (4 : Int32).toNatClampNeg ≤ 4 ∧ (0 : Int32).toNatClampNeg + (4 : Int32).toNatClampNeg ≤ 4 ∧ (am_At (d + 1) 31 none Post 44 [some (.ref 1), some (.ref 23)] [] (am_w zN (am_uR C 3 (va_cpy (C 25) (C 3) (0 : Int32).toNatClampNeg (0 : Int32).toNatClampNeg (4 : Int32).toNatClampNeg)) p) (0, 0))) : am_At (d + 1) 31 none Post 30 [some (.ref 1), some (.ref 23)] [] (am_w zN C p) (0, 0) := am_wp_ok (stops := [30, 44, 58, 73, 88, 103, 119, 135, 151]) am_k31 400 _ _ _ _ _ h
set_option maxRecDepth 100000 in
theorem s_S_copyFrom_1_23_44 {zN d : Nat} {Post : Option Value → aW → Prop} {C : Nat → Nat → Int32} {p : Nat → Option Nat} (h : ¬ (0 : Int32) < 0 ∧ ¬ (0 : Int32) < 0 ∧ ¬ (4 : Int32) < 0 ∧ (0 : Int32).toNatClampNeg + (4 : Int32).toNatClampNeg ≤ 4 ∧ (0 : Int32).toNatClampNeg + (4 : Int32).toNatClampNeg ≤ 4 ∧ (am_At (d + 1) 31 none Post 58 [some (.ref 1), some (.ref 23)] [] (am_w zN (am_uR C 4 (va_cpy (C 26) (C 4) (0 : Int32).toNatClampNeg (0 : Int32).toNatClampNeg (4 : Int32).toNatClampNeg)) p) (0, 0))) : am_At (d + 1) 31 none Post 44 [some (.ref 1), some (.ref 23)] [] (am_w zN C p) (0, 0) := am_wp_ok (stops := [30, 44, 58, 73, 88, 103, 119, 135, 151]) am_k31 400 _ _ _ _ _ h
set_option maxRecDepth 100000 in
theorem s_S_copyFrom_1_23_58 {zN d : Nat} {Post : Option Value → aW → Prop} {C : Nat → Nat → Int32} {p : Nat → Option Nat} (h : ¬ (0 : Int32) < 0 ∧ ¬ (0 : Int32) < 0 ∧ ¬ (6 : Int32) < 0 ∧ (0 : Int32).toNatClampNeg + (6 : Int32).toNatClampNeg ≤ 6 ∧ (0 : Int32).toNatClampNeg + (6 : Int32).toNatClampNeg ≤ 6 ∧ (am_At (d + 1) 31 none Post 73 [some (.ref 1), some (.ref 23)] [] (am_w zN (am_uR C 5 (va_cpy (C 27) (C 5) (0 : Int32).toNatClampNeg (0 : Int32).toNatClampNeg (6 : Int32).toNatClampNeg)) p) (0, 0))) : am_At (d + 1) 31 none Post 58 [some (.ref 1), some (.ref 23)] [] (am_w zN C p) (0, 0) := am_wp_ok (stops := [30, 44, 58, 73, 88, 103, 119, 135, 151]) am_k31 400 _ _ _ _ _ h
set_option maxRecDepth 100000 in
theorem s_S_copyFrom_1_23_73 {zN d : Nat} {Post : Option Value → aW → Prop} {C : Nat → Nat → Int32} {p : Nat → Option Nat} (h : ¬ (0 : Int32) < 0 ∧ ¬ (0 : Int32) < 0 ∧ ¬ (48 : Int32) < 0 ∧ (0 : Int32).toNatClampNeg + (48 : Int32).toNatClampNeg ≤ 48 ∧ (0 : Int32).toNatClampNeg + (48 : Int32).toNatClampNeg ≤ 48 ∧ (am_At (d + 1) 31 none Post 88 [some (.ref 1), some (.ref 23)] [] (am_w zN (am_uR C 6 (va_cpy (C 28) (C 6) (0 : Int32).toNatClampNeg (0 : Int32).toNatClampNeg (48 : Int32).toNatClampNeg)) p) (0, 0))) : am_At (d + 1) 31 none Post 73 [some (.ref 1), some (.ref 23)] [] (am_w zN C p) (0, 0) := am_wp_ok (stops := [30, 44, 58, 73, 88, 103, 119, 135, 151]) am_k31 400 _ _ _ _ _ h
set_option maxRecDepth 100000 in
theorem s_S_copyFrom_1_23_88 {zN d : Nat} {Post : Option Value → aW → Prop} {C : Nat → Nat → Int32} {p : Nat → Option Nat} (h : ¬ (0 : Int32) < 0 ∧ ¬ (0 : Int32) < 0 ∧ ¬ (48 : Int32) < 0 ∧ (0 : Int32).toNatClampNeg + (48 : Int32).toNatClampNeg ≤ 48 ∧ (0 : Int32).toNatClampNeg + (48 : Int32).toNatClampNeg ≤ 48 ∧ (am_At (d + 1) 31 none Post 103 [some (.ref 1), some (.ref 23)] [] (am_w zN (am_uR C 7 (va_cpy (C 29) (C 7) (0 : Int32).toNatClampNeg (0 : Int32).toNatClampNeg (48 : Int32).toNatClampNeg)) p) (0, 0))) : am_At (d + 1) 31 none Post 88 [some (.ref 1), some (.ref 23)] [] (am_w zN C p) (0, 0) := am_wp_ok (stops := [30, 44, 58, 73, 88, 103, 119, 135, 151]) am_k31 400 _ _ _ _ _ h
set_option maxRecDepth 100000 in
theorem s_S_copyFrom_1_23_103 {zN d : Nat} {Post : Option Value → aW → Prop} {C : Nat → Nat → Int32} {p : Nat → Option Nat} (h : ¬ (0 : Int32) < 0 ∧ ¬ (0 : Int32) < 0 ∧ ¬ (288 : Int32) < 0 ∧ (0 : Int32).toNatClampNeg + (288 : Int32).toNatClampNeg ≤ 288 ∧ (0 : Int32).toNatClampNeg + (288 : Int32).toNatClampNeg ≤ 288 ∧ (am_At (d + 1) 31 none Post 119 [some (.ref 1), some (.ref 23)] [] (am_w zN (am_uR C 8 (va_cpy (C 30) (C 8) (0 : Int32).toNatClampNeg (0 : Int32).toNatClampNeg (288 : Int32).toNatClampNeg)) p) (0, 0))) : am_At (d + 1) 31 none Post 103 [some (.ref 1), some (.ref 23)] [] (am_w zN C p) (0, 0) := am_wp_ok (stops := [30, 44, 58, 73, 88, 103, 119, 135, 151]) am_k31 400 _ _ _ _ _ h
set_option maxRecDepth 100000 in
theorem s_S_copyFrom_1_23_119 {zN d : Nat} {Post : Option Value → aW → Prop} {C : Nat → Nat → Int32} {p : Nat → Option Nat} (h : ¬ (0 : Int32) < 0 ∧ ¬ (0 : Int32) < 0 ∧ ¬ (288 : Int32) < 0 ∧ (0 : Int32).toNatClampNeg + (288 : Int32).toNatClampNeg ≤ 288 ∧ (0 : Int32).toNatClampNeg + (288 : Int32).toNatClampNeg ≤ 288 ∧ (am_At (d + 1) 31 none Post 135 [some (.ref 1), some (.ref 23)] [] (am_w zN (am_uR C 9 (va_cpy (C 31) (C 9) (0 : Int32).toNatClampNeg (0 : Int32).toNatClampNeg (288 : Int32).toNatClampNeg)) p) (0, 0))) : am_At (d + 1) 31 none Post 119 [some (.ref 1), some (.ref 23)] [] (am_w zN C p) (0, 0) := am_wp_ok (stops := [30, 44, 58, 73, 88, 103, 119, 135, 151]) am_k31 400 _ _ _ _ _ h
set_option maxRecDepth 100000 in
theorem s_S_copyFrom_1_23_135 {zN d : Nat} {Post : Option Value → aW → Prop} {C : Nat → Nat → Int32} {p : Nat → Option Nat} (h : ¬ (0 : Int32) < 0 ∧ ¬ (0 : Int32) < 0 ∧ ¬ (288 : Int32) < 0 ∧ (0 : Int32).toNatClampNeg + (288 : Int32).toNatClampNeg ≤ 288 ∧ (0 : Int32).toNatClampNeg + (288 : Int32).toNatClampNeg ≤ 288 ∧ (∀ i : Nat, i < (288 : Int32).toNatClampNeg → C 32 ((0 : Int32).toNatClampNeg + i) = 0 ∨ C 32 ((0 : Int32).toNatClampNeg + i) = 1) ∧ (am_At (d + 1) 31 none Post 151 [some (.ref 1), some (.ref 23)] [] (am_w zN (am_uR C 10 (va_cpy (C 32) (C 10) (0 : Int32).toNatClampNeg (0 : Int32).toNatClampNeg (288 : Int32).toNatClampNeg)) p) (0, 0))) : am_At (d + 1) 31 none Post 135 [some (.ref 1), some (.ref 23)] [] (am_w zN C p) (0, 0) := am_wp_ok (stops := [30, 44, 58, 73, 88, 103, 119, 135, 151]) am_k31 400 _ _ _ _ _ h
set_option maxRecDepth 100000 in
theorem s_S_copyFrom_1_23_151 {zN d : Nat} {Post : Option Value → aW → Prop} {C : Nat → Nat → Int32} {p : Nat → Option Nat} (h : Post none (am_w zN C p)) : am_At (d + 1) 31 none Post 151 [some (.ref 1), some (.ref 23)] [] (am_w zN C p) (0, 0) := am_wp_ok (stops := [30, 44, 58, 73, 88, 103, 119, 135, 151]) am_k31 400 _ _ _ _ _ h
set_option maxRecDepth 100000 in
theorem e_S_copyFrom_1_33 {zN d : Nat} {C : Nat → Nat → Int32} {p : Nat → Option Nat} {P : Option Value → (Nat → Nat → Int32) → (Nat → Option Nat) → Prop} (h : am_At (d + 1) 31 none (am_Ret zN P) 0 [some (.ref 1), some (.ref 33)] [] (am_w zN C p) (0, 0)) : am_Call (d + 1) 31 [.ref 1, .ref 33] (am_w zN C p) (am_Ret zN P) := am_m_go (by decide +kernel) rfl rfl rfl h
set_option maxRecDepth 100000 in
theorem s_S_copyFrom_1_33_0 {zN d : Nat} {Post : Option Value → aW → Prop} {C : Nat → Nat → Int32} {p : Nat → Option Nat} (h : ¬ (0 : Int32) < 0 ∧ ¬ (0 : Int32) < 0 ∧ ¬ (4 : Int32) < 0 ∧ (0 : Int32).toNatClampNeg + (4 : Int32).toNatClampNeg ≤ 4 ∧ (0 : Int32).toNatClampNeg + (4 : Int32).toNatClampNeg ≤ 4 ∧ (am_At (d + 1) 31 none Post 30 [some (.ref 1), some (.ref 33)] [] (am_w zN (am_uR (am_u2 (am_u2 C 1 0 (C 33 0)) 1 1 ((am_u2 C 1 0 (C 33 0)) 33 1)) 2 (va_cpy ((am_u2 (am_u2 C 1 0 (C 33 0)) 1 1 ((am_u2 C 1 0 (C 33 0)) 33 1)) 34) ((am_u2 (am_u2 C 1 0 (C 33 0)) 1 1 ((am_u2 C 1 0 (C 33 0)) 33 1)) 2) (0 : Int32).toNatClampNeg (0 : Int32).toNatClampNeg (4 : Int32).toNatClampNeg)) p) (0, 0))) : am_At (d + 1) 31 none Post 0 [some (.ref 1), some (.ref 33)] [] (am_w zN C p) (0, 0) := am_wp_ok (stops := [30, 44, 58, 73, 88, 103, 119, 135, 151]) am_k31 400 _ _ _ _ _ h
set_option maxRecDepth 100000 in
theorem s_S_copyFrom_1_33_30 {zN d : Nat} {Post : Option Value → aW → Prop} {C : Nat → Nat → Int32} {p : Nat → Option Nat} (h : ¬ (0 : Int32) < 0 ∧ ¬ (0 : Int32) < 0 ∧ ¬ (4 : Int32) < 0 ∧ (0 : Int32).toNatClampNeg + (4 : Int32).toNatClampNeg ≤ 4 ∧ (0 : Int32).toNatClampNeg + (4 : Int32).toNatClampNeg ≤ 4 ∧ (am_At (d + 1) 31 none Post 44 [some (.ref 1), some (.ref 33)] [] (am_w zN (am_uR C 3 (va_cpy (C 35) (C 3) (0 : Int32).toNatClampNeg (0 : Int32).toNatClampNeg (4 : Int32).toNatClampNeg)) p) (0, 0))) : am_At (d + 1) 31 none Post 30 [some (.ref 1), some (.ref 33)] [] (am_w zN C p) (0, 0) := am_wp_ok (stops := [30, 44, 58, 73, 88, 103, 119, 135, 151]) am_k31 400 _ _ _ _ _ h
set_option maxRecDepth 100000 in
theorem s_S_copyFrom_1_33_44 {zN d : Nat} {Post : Option Value → aW → Prop} {C : Nat → Nat → Int32} {p : Nat → Option Nat} (h : ¬ (0 : Int32) < 0 ∧ ¬ (0 : Int32) < 0 ∧ ¬ (4 : Int32) < 0 ∧ (0 : Int32).toNatClampNeg + (4 : Int32).toNatClampNeg ≤ 4 ∧ (0 : Int32).toNatClampNeg + (4 : Int32).toNatClampNeg ≤ 4 ∧ (am_At (d + 1) 31 none Post 58 [some (.ref 1), some (.ref 33)] [] (am_w zN (am_uR C 4 (va_cpy (C 36) (C 4) (0 : Int32).toNatClampNeg (0 : Int32).toNatClampNeg (4 : Int32).toNatClampNeg)) p) (0, 0))) : am_At (d + 1) 31 none Post 44 [some (.ref 1), some (.ref 33)] [] (am_w zN C p) (0, 0) := am_wp_ok (stops := [30, 44, 58, 73, 88, 103, 119, 135, 151]) am_k31 400 _ _ _ _ _ h
set_option maxRecDepth 100000 in
theorem s_S_copyFrom_1_33_58 {zN d : Nat} {Post : Option Value → aW → Prop} {C : Nat → Nat → Int32} {p : Nat → Option Nat} (h : ¬ (0 : Int32) < 0 ∧ ¬ (0 : Int32) < 0 ∧ ¬ (6 : Int32) < 0 ∧ (0 : Int32).toNatClampNeg + (6 : Int32).toNatClampNeg ≤ 6 ∧ (0 : Int32).toNatClampNeg + (6 : Int32).toNatClampNeg ≤ 6 ∧ (am_At (d + 1) 31 none Post 73 [some (.ref 1), some (.ref 33)] [] (am_w zN (am_uR C 5 (va_cpy (C 37) (C 5) (0 : Int32).toNatClampNeg (0 : Int32).toNatClampNeg (6 : Int32).toNatClampNeg)) p) (0, 0))) : am_At (d + 1) 31 none Post 58 [some (.ref 1), some (.ref 33)] [] (am_w zN C p) (0, 0) := am_wp_ok (stops := [30, 44, 58, 73, 88, 103, 119, 135, 151]) am_k31 400 _ _ _ _ _ h
set_option maxRecDepth 100000 in
theorem s_S_copyFrom_1_33_73 {zN d : Nat} {Post : Option Value → aW → Prop} {C : Nat → Nat → Int32} {p : Nat → Option Nat} (h : ¬ (0 : Int32) < 0 ∧ ¬ (0 : Int32) < 0 ∧ ¬ (48 : Int32) < 0 ∧ (0 : Int32).toNatClampNeg + (48 : Int32).toNatClampNeg ≤ 48 ∧ (0 : Int32).toNatClampNeg + (48 : Int32).toNatClampNeg ≤ 48 ∧ (am_At (d + 1) 31 none Post 88 [some (.ref 1), some (.ref 33)] [] (am_w zN (am_uR C 6 (va_cpy (C 38) (C 6) (0 : Int32).toNatClampNeg (0 : Int32).toNatClampNeg (48 : Int32).toNatClampNeg)) p) (0, 0))) : am_At (d + 1) 31 none Post 73 [some (.ref 1), some (.ref 33)] [] (am_w zN C p) (0, 0) := am_wp_ok (stops := [30, 44, 58, 73, 88, 103, 119, 135, 151]) am_k31 400 _ _ _ _ _ h
set_option maxRecDepth 100000 in
theorem s_S_copyFrom_1_33_88 {zN d : Nat} {Post : Option Value → aW → Prop} {C : Nat → Nat → Int32} {p : Nat → Option Nat} (h : ¬ (0 : Int32) < 0 ∧ ¬ (0 : Int32) < 0 ∧ ¬ (48 : Int32) < 0 ∧ (0 : Int32).toNatClampNeg + (48 : Int32).toNatClampNeg ≤ 48 ∧ (0 : Int32).toNatClampNeg + (48 : Int32).toNatClampNeg ≤ 48 ∧ (am_At (d + 1) 31 none Post 103 [some (.ref 1), some (.ref 33)] [] (am_w zN (am_uR C 7 (va_cpy (C 39) (C 7) (0 : Int32).toNatClampNeg (0 : Int32).toNatClampNeg (48 : Int32).toNatClampNeg)) p) (0, 0))) : am_At (d + 1) 31 none Post 88 [some (.ref 1), some (.ref 33)] [] (am_w zN C p) (0, 0) := am_wp_ok (stops := [30, 44, 58, 73, 88, 103, 119, 135, 151]) am_k31 400 _ _ _ _ _ h
set_option maxRecDepth 100000 in
theorem s_S_copyFrom_1_33_103 {zN d : Nat} {Post : Option Value → aW → Prop} {C : Nat → Nat → Int32} {p : Nat → Option Nat} (h : ¬ (0 : Int32) < 0 ∧ ¬ (0 : Int32) < 0 ∧ ¬ (288 : Int32) < 0 ∧ (0 : Int32).toNatClampNeg + (288 : Int32).toNatClampNeg ≤ 288 ∧ (0 : Int32).toNatClampNeg + (288 : Int32).toNatClampNeg ≤ 288 ∧ (am_At (d + 1) 31 none Post 119 [some (.ref 1), some (.ref 33)] [] (am_w zN (am_uR C 8 (va_cpy (C 40) (C 8) (0 : Int32).toNatClampNeg (0 : Int32).toNatClampNeg (288 : Int32).toNatClampNeg)) p) (0, 0))) : am_At (d + 1) 31 none Post 103 [some (.ref 1), some (.ref 33)] [] (am_w zN C p) (0, 0) := am_wp_ok (stops := [30, 44, 58, 73, 88, 103, 119, 135, 151]) am_k31 400 _ _ _ _ _ h
set_option maxRecDepth 100000 in
theorem s_S_copyFrom_1_33_119 {zN d : Nat} {Post : Option Value → aW → Prop} {C : Nat → Nat → Int32} {p : Nat → Option Nat} (h : ¬ (0 : Int32) < 0 ∧ ¬ (0 : Int32) < 0 ∧ ¬ (288 : Int32) < 0 ∧ (0 : Int32).toNatClampNeg + (288 : Int32).toNatClampNeg ≤ 288 ∧ (0 : Int32).toNatClampNeg + (288 : Int32).toNatClampNeg ≤ 288 ∧ (am_At (d + 1) 31 none Post 135 [some (.ref 1), some (.ref 33)] [] (am_w zN (am_uR C 9 (va_cpy (C 41) (C 9) (0 : Int32).toNatClampNeg (0 : Int32).toNatClampNeg (288 : Int32).toNatClampNeg)) p) (0, 0))) : am_At (d + 1) 31 none Post 119 [some (.ref 1), some (.ref 33)] [] (am_w zN C p) (0, 0) := am_wp_ok (stops := [30, 44, 58, 73, 88, 103, 119, 135, 151]) am_k31 400 _ _ _ _ _ h
set_option maxRecDepth 100000 in
theorem s_S_copyFrom_1_33_135 {zN d : Nat} {Post : Option Value → aW → Prop} {C : Nat → Nat → Int32} {p : Nat → Option Nat} (h : ¬ (0 : Int32) < 0 ∧ ¬ (0 : Int32) < 0 ∧ ¬ (288 : Int32) < 0 ∧ (0 : Int32).toNatClampNeg + (288 : Int32).toNatClampNeg ≤ 288 ∧ (0 : Int32).toNatClampNeg + (288 : Int32).toNatClampNeg ≤ 288 ∧ (∀ i : Nat, i < (288 : Int32).toNatClampNeg → C 42 ((0 : Int32).toNatClampNeg + i) = 0 ∨ C 42 ((0 : Int32).toNatClampNeg + i) = 1) ∧ (am_At (d + 1) 31 none Post 151 [some (.ref 1), some (.ref 33)] [] (am_w zN (am_uR C 10 (va_cpy (C 42) (C 10) (0 : Int32).toNatClampNeg (0 : Int32).toNatClampNeg (288 : Int32).toNatClampNeg)) p) (0, 0))) : am_At (d + 1) 31 none Post 135 [some (.ref 1), some (.ref 33)] [] (am_w zN C p) (0, 0) := am_wp_ok (stops := [30, 44, 58, 73, 88, 103, 119, 135, 151]) am_k31 400 _ _ _ _ _ h
set_option maxRecDepth 100000 in
theorem s_S_copyFrom_1_33_151 {zN d : Nat} {Post : Option Value → aW → Prop} {C : Nat → Nat → Int32} {p : Nat → Option Nat} (h : Post none (am_w zN C p)) : am_At (d + 1) 31 none Post 151 [some (.ref 1), some (.ref 33)] [] (am_w zN C p) (0, 0) := am_wp_ok (stops := [30, 44, 58, 73, 88, 103, 119, 135, 151]) am_k31 400 _ _ _ _ _ h
set_option maxRecDepth 100000 in
theorem e_S_copyFrom_1_43 {zN d : Nat} {C : Nat → Nat → Int32} {p : Nat → Option Nat} {P : Option Value → (Nat → Nat → Int32) → (Nat → Option Nat) → Prop} (h : am_At (d + 1) 31 none (am_Ret zN P) 0 [some (.ref 1), some (.ref 43)] [] (am_w zN C p) (0, 0)) : am_Call (d + 1) 31 [.ref 1, .ref 43] (am_w zN C p) (am_Ret zN P) := am_m_go (by decide +kernel) rfl rfl rfl h
set_option maxRecDepth 100000 in
theorem s_S_copyFrom_1_43_0 {zN d : Nat} {Post : Option Value → aW → Prop} {C : Nat → Nat → Int32} {p : Nat → Option Nat} (h : ¬ (0 : Int32) < 0 ∧ ¬ (0 : Int32) < 0 ∧ ¬ (4 : Int32) < 0 ∧ (0 : Int32).toNatClampNeg + (4 : Int32).toNatClampNeg ≤ 4 ∧ (0 : Int32).toNatClampNeg + (4 : Int32).toNatClampNeg ≤ 4 ∧ (am_At (d + 1) 31 none Post 30 [some (.ref 1), some (.ref 43)] [] (am_w zN (am_uR (am_u2 (am_u2 C 1 0 (C 43 0)) 1 1 ((am_u2 C 1 0 (C 43 0)) 43 1)) 2 (va_cpy ((am_u2 (am_u2 C 1 0 (C 43 0)) 1 1 ((am_u2 C 1 0 (C 43 0)) 43 1)) 44) ((am_u2 (am_u2 C 1 0 (C 43 0)) 1 1 ((am_u2 C 1 0 (C 43 0)) 43 1)) 2) (0 : Int32).toNatClampNeg (0 : Int32).toNatClampNeg (4 : Int32).toNatClampNeg)) p) (0, 0))) : am_At (d + 1) 31 none Post 0 [some (.ref 1), some (.ref 43)] [] (am_w zN C p) (0, 0) := am_wp_ok (stops := [30, 44, 58, 73, 88, 103, 119, 135, 151]) am_k31 400 _ _ _ _ _ h
set_option maxRecDepth 100000 in
theorem s_S_copyFrom_1_43_30 {zN d : Nat} {Post : Option Value → aW → Prop} {C : Nat → Nat → Int32} {p : Nat → Option Nat} (h : ¬ (0 : Int32) < 0 ∧ ¬ (0 : Int32) < 0 ∧ ¬ (4 : Int32) < 0 ∧ (0 : Int32).toNatClampNeg + (4 : Int32).toNatClampNeg ≤ 4 ∧ (0 : Int32).toNatClampNeg + (4 : Int32).toNatClampNeg ≤ 4 ∧ (am_At (d + 1) 31 none Post 44 [some (.ref 1), some (.ref 43)] [] (am_w zN (am_uR C 3 (va_cpy (C 45) (C 3) (0 : Int32).toNatClampNeg (0 : Int32).toNatClampNeg (4 : Int32).toNatClampNeg)) p) (0, 0))) : am_At (d + 1) 31 none Post 30 [some (.ref 1), some (.ref 43)] [] (am_w zN C p) (0, 0) := am_wp_ok (stops := [30, 44, 58, 73, 88, 103, 119, 135, 151]) am_k31 400 _ _ _ _ _ h
set_option maxRecDepth 100000 in
theorem s_S_copyFrom_1_43_44 {zN d : Nat} {Post : Option Value → aW → Prop} {C : Nat → Nat → Int32} {p : Nat → Option Nat} (h : ¬ (0 : Int32) < 0 ∧ ¬ (0 : Int32) < 0 ∧ ¬ (4 : Int32) < 0 ∧ (0 : Int32).toNatClampNeg + (4 : Int32).toNatClampNeg ≤ 4 ∧ (0 : Int32).toNatClampNeg + (4 : Int32).toNatClampNeg ≤ 4 ∧ (am_At (d + 1) 31 none Post 58 [some (.ref 1), some (.ref 43)] [] (am_w zN (am_uR C 4 (va_cpy (C 46) (C 4) (0 : Int32).toNatClampNeg (0 : Int32).toNatClampNeg (4 : Int32).toNatClampNeg)) p) (0, 0))) : am_At (d + 1) 31 none Post 44 [some (.ref 1), some (.ref 43)] [] (am_w zN C p) (0, 0) := am_wp_ok (stops := [30, 44, 58, 73, 88, 103, 119, 135, 151]) am_k31 400 _ _ _ _ _ h
set_option maxRecDepth 100000 in
theorem s_S_copyFrom_1_43_58 {zN d : Nat} {Post : Option Value → aW → Prop} {C : Nat → Nat → Int32} {p : Nat → Option Nat} (h : ¬ (0 : Int32) < 0 ∧ ¬ (0 : Int32) < 0 ∧ ¬ (6 : Int32) < 0 ∧ (0 : Int32).toNatClampNeg + (6 : Int32).toNatClampNeg ≤ 6 ∧ (0 : Int32).toNatClampNeg + (6 : Int32).toNatClampNeg ≤ 6 ∧ (am_At (d + 1) 31 none Post 73 [some (.ref 1), some (.ref 43)] [] (am_w zN (am_uR C 5 (va_cpy (C 47) (C 5) (0 : Int32).toNatClampNeg (0 : Int32).toNatClampNeg (6 : Int32).toNatClampNeg)) p) (0, 0))) : am_At (d + 1) 31 none Post 58 [some (.ref 1), some (.ref 43)] [] (am_w zN C p) (0, 0) := am_wp_ok (stops := [30, 44, 58, 73, 88, 103, 119, 135, 151]) am_k31 400 _ _ _ _ _ h
set_option maxRecDepth 100000 in
theorem s_S_copyFrom_1_43_73 {zN d : Nat} {Post : Option Value → aW → Prop} {C : Nat → Nat → Int32} {p : Nat → Option Nat} (h : ¬ (0 : Int32) < 0 ∧ ¬ (0 : Int32) < 0 ∧ ¬ (48 : Int32) < 0 ∧ (0 : Int32).toNatClampNeg + (48 : Int32).toNatClampNeg ≤ 48 ∧ (0 : Int32).toNatClampNeg + (48 : Int32).toNatClampNeg ≤ 48 ∧ (am_At (d + 1) 31 none Post 88 [some (.ref 1), some (.ref 43)] [] (am_w zN (am_uR C 6 (va_cpy (C 48) (C 6) (0 : Int32).toNatClampNeg (0 : Int32).toNatClampNeg (48 : Int32).toNatClampNeg)) p) (0, 0))) : am_At (d + 1) 31 none Post 73 [some (.ref 1), some (.ref 43)] [] (am_w zN C p) (0, 0) := am_wp_ok (stops := [30, 44, 58, 73, 88, 103, 119, 135, 151]) am_k31 400 _ _ _ _ _ h
set_option maxRecDepth 100000 in
theorem s_S_copyFrom_1_43_88 {zN d : Nat} {Post : Option Value → aW → Prop} {C : Nat → Nat → Int32} {p : Nat → Option Nat} (h : ¬ (0 : Int32) < 0 ∧ ¬ (0 : Int32) < 0 ∧ ¬ (48 : Int32) < 0 ∧ (0 : Int32).toNatClampNeg + (48 : Int32).toNatClampNeg ≤ 48 ∧ (0 : Int32).toNatClampNeg + (48 : Int32).toNatClampNeg ≤ 48 ∧ (am_At (d + 1) 31 none Post 103 [some (.ref 1), some (.ref 43)] [] (am_w zN (am_uR C 7 (va_cpy (C 49) (C 7) (0 : Int32).toNatClampNeg (0 : Int32).toNatClampNeg (48 : Int32).toNatClampNeg)) p) (0, 0))) : am_At (d + 1) 31 none Post 88 [some (.ref 1), some (.ref 43)] [] (am_w zN C p) (0, 0) := am_wp_ok (stops := [30, 44, 58, 73, 88, 103, 119, 135, 151]) am_k31 400 _ _ _ _ _ h
set_option maxRecDepth 100000 in
theorem s_S_copyFrom_1_43_103 {zN d : Nat} {Post : Option Value → aW → Prop} {C : Nat → Nat → Int32} {p : Nat → Option Nat} (h : ¬ (0 : Int32) < 0 ∧ ¬ (0 : Int32) < 0 ∧ ¬ (288 : Int32) < 0 ∧ (0 : Int32).toNatClampNeg + (288 : Int32).toNatClampNeg ≤ 288 ∧ (0 : Int32).toNatClampNeg + (288 : Int32).toNatClampNeg ≤ 288 ∧ (am_At (d + 1) 31 none Post 119 [some (.ref 1), some (.ref 43)] [] (am_w zN (am_uR C 8 (va_cpy (C 50) (C 8) (0 : Int32).toNatClampNeg (0 : Int32).toNatClampNeg (288 : Int32).toNatClampNeg)) p) (0, 0))) : am_At (d + 1) 31 none Post 103 [some (.ref 1), some (.ref 43)] [] (am_w zN C p) (0, 0) := am_wp_ok (stops := [30, 44, 58, 73, 88, 103, 119, 135, 151]) am_k31 400 _ _ _ _ _ h
set_option maxRecDepth 100000 in
theorem s_S_copyFrom_1_43_119 {zN d : Nat} {Post : Option Value → aW → Prop} {C : Nat → Nat → Int32} {p : Nat → Option Nat} (h : ¬ (0 : Int32) < 0 ∧ ¬ (0 : Int32) < 0 ∧ ¬ (288 : Int32) < 0 ∧ (0 : Int32).toNatClampNeg + (288 : Int32).toNatClampNeg ≤ 288 ∧ (0 : Int32).toNatClampNeg + (288 : Int32).toNatClampNeg ≤ 288 ∧ (am_At (d + 1) 31 none Post 135 [some (.ref 1), some (.ref 43)] [] (am_w zN (am_uR C 9 (va_cpy (C 51) (C 9) (0 : Int32).toNatClampNeg (0 : Int32).toNatClampNeg (288 : Int32).toNatClampNeg)) p) (0, 0))) : am_At (d + 1) 31 none Post 119 [some (.ref 1), some (.ref 43)] [] (am_w zN C p) (0, 0) := am_wp_ok (stops := [30, 44, 58, 73, 88, 103, 119, 135, 151]) am_k31 400 _ _ _ _ _ h
set_option maxRecDepth 100000 in
theorem s_S_copyFrom_1_43_135 {zN d : Nat} {Post : Option Value → aW → Prop} {C : Nat → Nat → Int32} {p : Nat → Option Nat} (h : ¬ (0 : Int32) < 0 ∧ ¬ (0 : Int32) < 0 ∧ ¬ (288 : Int32) < 0 ∧ (0 : Int32).toNatClampNeg + (288 : Int32).toNatClampNeg ≤ 288 ∧ (0 : Int32).toNatClampNeg + (288 : Int32).toNatClampNeg ≤ 288 ∧ (∀ i : Nat, i < (288 : Int32).toNatClampNeg → C 52 ((0 : Int32).toNatClampNeg + i) = 0 ∨ C 52 ((0 : Int32).toNatClampNeg + i) = 1) ∧ (am_At (d + 1) 31 none Post 151 [some (.ref 1), some (.ref 43)] [] (am_w zN (am_uR C 10 (va_cpy (C 52) (C 10) (0 : Int32).toNatClampNeg (0 : Int32).toNatClampNeg (288 : Int32).toNatClampNeg)) p) (0, 0))) : am_At (d + 1) 31 none Post 135 [some (.ref 1), some (.ref 43)] [] (am_w zN C p) (0, 0) := am_wp_ok (stops := [30, 44, 58, 73, 88, 103, 119, 135, 151]) am_k31 400 _ _ _ _ _ h
set_option maxRecDepth 100000 in
theorem s_S_copyFrom_1_43_151 {zN d : Nat} {Post : Option Value → aW → Prop} {C : Nat → Nat → Int32} {p : Nat → Option Nat} (h : Post none (am_w zN C p)) : am_At (d + 1) 31 none Post 151 [some (.ref 1), some (.ref 43)] [] (am_w zN C p) (0, 0) := am_wp_ok (stops := [30, 44, 58, 73, 88, 103, 119, 135, 151]) am_k31 400 _ _ _ _ _ h
set_option maxRecDepth 100000 in
theorem e_S_copyFrom_1_53 {zN d : Nat} {C : Nat → Nat → Int32} {p : Nat → Option Nat} {P : Option Value → (Nat → Nat → Int32) → (Nat → Option Nat) → Prop} (h : am_At (d + 1) 31 none (am_Ret zN P) 0 [some (.ref 1), some (.ref 53)] [] (am_w zN C p) (0, 0)) : am_Call (d + 1) 31 [.ref 1, .ref 53] (am_w zN C p) (am_Ret zN P) := am_m_go (by decide +kernel) rfl rfl rfl h
set_option maxRecDepth 100000 in
theorem s_S_copyFrom_1_53_0 {zN d : Nat} {Post : Option Value → aW → Prop} {C : Nat → Nat → Int32} {p : Nat → Option Nat} (h : ¬ (0 : Int32) < 0 ∧ ¬ (0 : Int32) < 0 ∧ ¬ (4 : Int32) < 0 ∧ (0 : Int32).toNatClampNeg + (4 : Int32).toNatClampNeg ≤ 4 ∧ (0 : Int32).toNatClampNeg + (4 : Int32).toNatClampNeg ≤ 4 ∧ (am_At (d + 1) 31 none Post 30 [some (.ref 1), some (.ref 53)] [] (am_w zN (am_uR (am_u2 (am_u2 C 1 0 (C 53 0)) 1 1 ((am_u2 C 1 0 (C 53 0)) 53 1)) 2 (va_cpy ((am_u2 (am_u2 C 1 0 (C 53 0)) 1 1 ((am_u2 C 1 0 (C 53 0)) 53 1)) 54) ((am_u2 (am_u2 C 1 0 (C 53 0)) 1 1 ((am_u2 C 1 0 (C 53 0)) 53 1)) 2) (0 : Int32).toNatClampNeg (0 : Int32).toNatClampNeg (4 : Int32).toNatClampNeg)) p) (0, 0))) : am_At (d + 1) 31 none Post 0 [some (.ref 1), some (.ref 53)] [] (am_w zN C p) (0, 0) := am_wp_ok (stops := [30, 44, 58, 73, 88, 103, 119, 135, 151]) am_k31 400 _ _ _ _ _ h
set_option maxRecDepth 100000 in
theorem s_S_copyFrom_1_53_30 {zN d : Nat} {Post : Option Value → aW → Prop} {C : Nat → Nat → Int32} {p : Nat → Option Nat} (h : ¬ (0 : Int32) < 0 ∧ ¬ (0 : Int32) < 0 ∧ ¬ (4 : Int32) < 0 ∧ (0 : Int32).toNatClampNeg + (4 : Int32).toNatClampNeg ≤ 4 ∧ (0 : Int32).toNatClampNeg + (4 : Int32).toNatClampNeg ≤ 4 ∧ (am_At (d + 1) 31 none Post 44 [some (.ref 1), some (.ref 53)] [] (am_w zN (am_uR C 3 (va_cpy (C 55) (C 3) (0 : Int32).toNatClampNeg (0 : Int32).toNatClampNeg (4 : Int32).toNatClampNeg)) p) (0, 0))) : am_At (d + 1) 31 none Post 30 [some (.ref 1), some (.ref 53)] [] (am_w zN C p) (0, 0) := am_wp_ok (stops := [30, 44, 58, 73, 88, 103, 119, 135, 151]) am_k31 400 _ _ _ _ _ h
set_option maxRecDepth 100000 in
theorem s_S_copyFrom_1_53_44 {zN d : Nat} {Post : Option Value → aW → Prop} {C : Nat → Nat → Int32} {p : Nat → Option Nat} (h : ¬ (0 : Int32) < 0 ∧ ¬ (0 : Int32) < 0 ∧ ¬ (4 : Int32) < 0 ∧ (0 : Int32).toNatClampNeg + (4 : Int32).toNatClampNeg ≤ 4 ∧ (0 : Int32).toNatClampNeg + (4 : Int32).toNatClampNeg ≤ 4 ∧ (am_At (d + 1) 31 none Post 58 [some (.ref 1), some (.ref 53)] [] (am_w zN (am_uR C 4 (va_cpy (C 56) (C 4) (0 : Int32).toNatClampNeg (0 : Int32).toNatClampNeg (4 : Int32).toNatClampNeg)) p) (0, 0))) : am_At (d + 1) 31 none Post 44 [some (.ref 1), some (.ref 53)] [] (am_w zN C p) (0, 0) := am_wp_ok (stops := [30, 44, 58, 73, 88, 103, 119, 135, 151]) am_k31 400 _ _ _ _ _ h
set_option maxRecDepth 100000 in
theorem s_S_copyFrom_1_53_58 {zN d : Nat} {Post : Option Value → aW → Prop} {C : Nat → Nat → Int32} {p : Nat → Option Nat} (h : ¬ (0 : Int32) < 0 ∧ ¬ (0 : Int32) < 0 ∧ ¬ (6 : Int32) < 0 ∧ (0 : Int32).toNatClampNeg + (6 : Int32).toNatClampNeg ≤ 6 ∧ (0 : Int32).toNatClampNeg + (6 : Int32).toNatClampNeg ≤ 6 ∧ (am_At (d + 1) 31 none Post 73 [some (.ref 1), some (.ref 53)] [] (am_w zN (am_uR C 5 (va_cpy (C 57) (C 5) (0 : Int32).toNatClampNeg (0 : Int32).toNatClampNeg (6 : Int32).toNatClampNeg)) p) (0, 0))) : am_At (d + 1) 31 none Post 58 [some (.ref 1), some (.ref 53)] [] (am_w zN C p) (0, 0) := am_wp_ok (stops := [30, 44, 58, 73, 88, 103, 119, 135, 151]) am_k31 400 _ _ _ _ _ h
set_option maxRecDepth 100000 in
theorem s_S_copyFrom_1_53_73 {zN d : Nat} {Post : Option Value → aW → Prop} {C : Nat → Nat → Int32} {p : Nat → Option Nat} (h : ¬ (0 : Int32) < 0 ∧ ¬ (0 : Int32) < 0 ∧ ¬ (48 : Int32) < 0 ∧ (0 : Int32).toNatClampNeg + (48 : Int32).toNatClampNeg ≤ 48 ∧ (0 : Int32).toNatClampNeg + (48 : Int32).toNatClampNeg ≤ 48 ∧ (am_At (d + 1) 31 none Post 88 [some (.ref 1), some (.ref 53)] [] (am_w zN (am_uR C 6 (va_cpy (C 58) (C 6) (0 : Int32).toNatClampNeg (0 : Int32).toNatClampNeg (48 : Int32).toNatClampNeg)) p) (0, 0))) : am_At (d + 1) 31 none Post 73 [some (.ref 1), some (.ref 53)] [] (am_w zN C p) (0, 0) := am_wp_ok (stops := [30, 44, 58, 73, 88, 103, 119, 135, 151]) am_k31 400 _ _ _ _ _ h
set_option maxRecDepth 100000 in
theorem s_S_copyFrom_1_53_88 {zN d : Nat} {Post : Option Value → aW → Prop} {C : Nat → Nat → Int32} {p : Nat → Option Nat} (h : ¬ (0 : Int32) < 0 ∧ ¬ (0 : Int32) < 0 ∧ ¬ (48 : Int32) < 0 ∧ (0 : Int32).toNatClampNeg + (48 : Int32).toNatClampNeg ≤ 48 ∧ (0 : Int32).toNatClampNeg + (48 : Int32).toNatClampNeg ≤ 48 ∧ (am_At (d + 1) 31 none Post 103 [some (.ref 1), some (.ref 53)] [] (am_w zN (am_uR C 7 (va_cpy (C 59) (C 7) (0 : Int32).toNatClampNeg (0 : Int32).toNatClampNeg (48 : Int32).toNatClampNeg)) p) (0, 0))) : am_At (d + 1) 31 none Post 88 [some (.ref 1), some (.ref 53)] [] (am_w zN C p) (0, 0) := am_wp_ok (stops := [30, 44, 58, 73, 88, 103, 119, 135, 151]) am_k31 400 _ _ _ _ _ h
set_option maxRecDepth 100000 in
theorem s_S_copyFrom_1_53_103 {zN d : Nat} {Post : Option Value → aW → Prop} {C : Nat → Nat → Int32} {p : Nat → Option Nat} (h : ¬ (0 : Int32) < 0 ∧ ¬ (0 : Int32) < 0 ∧ ¬ (288 : Int32) < 0 ∧ (0 : Int32).toNatClampNeg + (288 : Int32).toNatClampNeg ≤ 288 ∧ (0 : Int32).toNatClampNeg + (288 : Int32).toNatClampNeg ≤ 288 ∧ (am_At (d + 1) 31 none Post 119 [some (.ref 1), some (.ref 53)] [] (am_w zN (am_uR C 8 (va_cpy (C 60) (C 8) (0 : Int32).toNatClampNeg (0 : Int32).toNatClampNeg (288 : Int32).toNatClampNeg)) p) (0, 0))) : am_At (d + 1) 31 none Post 103 [some (.ref 1), some (.ref 53)] [] (am_w zN C p) (0, 0) := am_wp_ok (stops := [30, 44, 58, 73, 88, 103, 119, 135, 151]) am_k31 400 _ _ _ _ _ h
set_option maxRecDepth 100000 in
theorem s_S_copyFrom_1_53_119 {zN d : Nat} {Post : Option Value → aW → Prop} {C : Nat → Nat → Int32} {p : Nat → Option Nat} (h : ¬ (0 : Int32) < 0 ∧ ¬ (0 : Int32) < 0 ∧ ¬ (288 : Int32) < 0 ∧ (0 : Int32).toNatClampNeg + (288 : Int32).toNatClampNeg ≤ 288 ∧ (0 : Int32).toNatClampNeg + (288 : Int32).toNatClampNeg ≤ 288 ∧ (am_At (d + 1) 31 none Post 135 [some (.ref 1), some (.ref 53)] [] (am_w zN (am_uR C 9 (va_cpy (C 61) (C 9) (0 : Int32).toNatClampNeg (0 : Int32).toNatClampNeg (288 : Int32).toNatClampNeg)) p) (0, 0))) : am_At (d + 1) 31 none Post 119 [some (.ref 1), some (.ref 53)] [] (am_w zN C p) (0, 0) := am_wp_ok (stops := [30, 44, 58, 73, 88, 103, 119, 135, 151]) am_k31 400 _ _ _ _ _ h
set_option maxRecDepth 100000 in
theorem s_S_copyFrom_1_53_135 {zN d : Nat} {Post : Option Value → aW → Prop} {C : Nat → Nat → Int32} {p : Nat → Option Nat} (h : ¬ (0 : Int32) < 0 ∧ ¬ (0 : Int32) < 0 ∧ ¬ (288 : Int32) < 0 ∧ (0 : Int32).toNatClampNeg + (288 : Int32).toNatClampNeg ≤ 288 ∧ (0 : Int32).toNatClampNeg + (288 : Int32).toNatClampNeg ≤ 288 ∧ (∀ i : Nat, i < (288 : Int32).toNatClampNeg → C 62 ((0 : Int32).toNatClampNeg + i) = 0 ∨ C 62 ((0 : Int32).toNatClampNeg + i) = 1) ∧ (am_At (d + 1) 31 none Post 151 [some (.ref 1), some (.ref 53)] [] (am_w zN (am_uR C 10 (va_cpy (C 62) (C 10) (0 : Int32).toNatClampNeg (0 : Int32).toNatClampNeg (288 : Int32).toNatClampNeg)) p) (0, 0))) : am_At (d + 1) 31 none Post 135 [some (.ref 1), some (.ref 53)] [] (am_w zN C p) (0, 0) := am_wp_ok (stops := [30, 44, 58, 73, 88, 103, 119, 135, 151]) am_k31 400 _ _ _ _ _ h
set_option maxRecDepth 100000 in
theorem s_S_copyFrom_1_53_151 {zN d : Nat} {Post : Option Value → aW → Prop} {C : Nat → Nat → Int32} {p : Nat → Option Nat} (h : Post none (am_w zN C p)) : am_At (d + 1) 31 none Post 151 [some (.ref 1), some (.ref 53)] [] (am_w zN C p) (0, 0) := am_wp_ok (stops := [30, 44, 58, 73, 88, 103, 119, 135, 151]) am_k31 400 _ _ _ _ _ h
set_option maxRecDepth 100000 in
theorem e_S_hasSetUp {zN d : Nat} {C : Nat → Nat → Int32} {p : Nat → Option Nat} {x1 : Int32} {P : Option Value → (Nat → Nat → Int32) → (Nat → Option Nat) → Prop} (h : am_At (d + 1) 32 none (am_Ret zN P) 0 [some (.ref 1), some (.int x1)] [] (am_w zN C p) (0, 0)) : am_Call (d + 1) 32 [.ref 1, .int x1] (am_w zN C p) (am_Ret zN P) := am_m_go (by decide +kernel) rfl rfl rfl h
set_option maxRecDepth 100000 in
theorem s_S_hasSetUp_0 {zN d : Nat} {Post : Option Value → aW → Prop} {C : Nat → Nat → Int32} {p : Nat → Option Nat} {x1 : Int32} (h : (x1 < (0 : Int32) → (((0 : Int32) = 0 ∨ (0 : Int32) = 1) ∧ Post (some (.int (0 : Int32))) (am_w zN C p))) ∧ (¬ x1 < (0 : Int32) → (((C 1 0) ≤ x1 → (((0 : Int32) = 0 ∨ (0 : Int32) = 1) ∧ Post (some (.int (0 : Int32))) (am_w zN C p))) ∧ (¬ (C 1 0) ≤ x1 → (((1 : Int32) = 0 ∨ (1 : Int32) = 1) ∧ Post (some (.int (1 : Int32))) (am_w zN C p)))))) : am_At (d + 1) 32 none Post 0 [some (.ref 1), some (.int x1)] [] (am_w zN C p) (0, 0) := am_wp_ok (stops := []) am_k32 400 _ _ _ _ _ h
set_option maxRecDepth 100000 in
theorem e_S_hasRound {zN d : Nat} {C : Nat → Nat → Int32} {p : Nat → Option Nat} {x1 x2 : Int32} {P : Option Value → (Nat → Nat → Int32) → (Nat → Option Nat) → Prop} (h : am_At (d + 1) 33 none (am_Ret zN P) 0 [some (.ref 1), some (.int x1), some (.int x2)] [] (am_w zN C p) (0, 0)) : am_Call (d + 1) 33 [.ref 1, .int x1, .int x2] (am_w zN C p) (am_Ret zN P) := am_m_go (by decide +kernel) rfl rfl rfl h
set_option maxRecDepth 100000 in
theorem s_S_hasRound_0 {zN d : Nat} {Post : Option Value → aW → Prop} {C : Nat → Nat → Int32} {p : Nat → Option Nat} {x1 x2 : Int32} (h : am_Ci d 32 [.ref 1, .int x1] (am_w zN C p) (fun v w1 => am_At (d + 1) 33 none Post 5 [some (.ref 1), some (.int x1), some (.int x2)] [.int v] w1 (0, 0))) : am_At (d + 1) 33 none Post 0 [some (.ref 1), some (.int x1), some (.int x2)] [] (am_w zN C p) (0, 0) := am_wp_ok (stops := [5]) am_k33 400 _ _ _ _ _ h
set_option maxRecDepth 100000 in
theorem s_S_hasRound_5 {zN d : Nat} {Post : Option Value → aW → Prop} {C : Nat → Nat → Int32} {p : Nat → Option Nat} {x1 x2 y0 : Int32} (h : (y0 = (0 : Int32) → (((0 : Int32) = 0 ∨ (0 : Int32) = 1) ∧ Post (some (.int (0 : Int32))) (am_w zN C p))) ∧ (¬ y0 = (0 : Int32) → ((x2 < (0 : Int32) → (((0 : Int32) = 0 ∨ (0 : Int32) = 1) ∧ Post (some (.int (0 : Int32))) (am_w zN C p))) ∧ (¬ x2 < (0 : Int32) → (vp_in x1 4 ∧ (((C 2 x1.toNatClampNeg) ≤ x2 → (((0 : Int32) = 0 ∨ (0 : Int32) = 1) ∧ Post (some (.int (0 : Int32))) (am_w zN C p))) ∧ (¬ (C 2 x1.toNatClampNeg) ≤ x2 → (((1 : Int32) = 0 ∨ (1 : Int32) = 1) ∧ Post (some (.int (1 : Int32))) (am_w zN C p))))))))) : am_At (d + 1) 33 none Post 5 [some (.ref 1), some (.int x1), some (.int x2)] [.int y0] (am_w zN C p) (0, 0) := am_wp_ok (stops := [5]) am_k33 400 _ _ _ _ _ h
set_option maxRecDepth 100000 in
theorem e_S_isClosed {zN d : Nat} {C : Nat → Nat → Int32} {p : Nat → Option Nat} {x1 : Int32} {P : Option Value → (Nat → Nat → Int32) → (Nat → Option Nat) → Prop} (h : am_At (d + 1) 34 none (am_Ret zN P) 0 [some (.ref 1), some (.int x1)] [] (am_w zN C p) (0, 0)) : am_Call (d + 1) 34 [.ref 1, .int x1] (am_w zN C p) (am_Ret zN P) := am_m_go (by decide +kernel) rfl rfl rfl h
set_option maxRecDepth 100000 in
theorem s_S_isClosed_0 {zN d : Nat} {Post : Option Value → aW → Prop} {C : Nat → Nat → Int32} {p : Nat → Option Nat} {x1 : Int32} (h : vp_in x1 48 ∧ (((C 7 x1.toNatClampNeg) = (-1 : Int32) → (((0 : Int32) = 0 ∨ (0 : Int32) = 1) ∧ Post (some (.int (0 : Int32))) (am_w zN C p))) ∧ (¬ (C 7 x1.toNatClampNeg) = (-1 : Int32) → (((1 : Int32) = 0 ∨ (1 : Int32) = 1) ∧ Post (some (.int (1 : Int32))) (am_w zN C p))))) : am_At (d + 1) 34 none Post 0 [some (.ref 1), some (.int x1)] [] (am_w zN C p) (0, 0) := am_wp_ok (stops := []) am_k34 400 _ _ _ _ _ h
set_option maxRecDepth 100000 in
theorem e_S_placeOf {zN d : Nat} {C : Nat → Nat → Int32} {p : Nat → Option Nat} {x1 x2 : Int32} {P : Option Value → (Nat → Nat → Int32) → (Nat → Option Nat) → Prop} (h : am_At (d + 1) 35 none (am_Ret zN P) 0 [some (.ref 1), some (.int x1), some (.int x2), none] [] (am_w zN C p) (0, 0)) : am_Call (d + 1) 35 [.ref 1, .int x1, .int x2] (am_w zN C p) (am_Ret zN P) := am_m_go (by decide +kernel) rfl rfl rfl h
set_option maxRecDepth 100000 in
theorem s_S_placeOf_0 {zN d : Nat} {Post : Option Value → aW → Prop} {C : Nat → Nat → Int32} {p : Nat → Option Nat} {x1 x2 : Int32} (h : am_At (d + 1) 35 none Post 2 [some (.ref 1), some (.int x1), some (.int x2), some (.int (0 : Int32))] [] (am_w zN C p) (0, 0)) : am_At (d + 1) 35 none Post 0 [some (.ref 1), some (.int x1), some (.int x2), none] [] (am_w zN C p) (0, 0) := am_wp_ok (stops := [2]) am_k35 400 _ _ _ _ _ h
set_option maxRecDepth 100000 in
theorem s_S_placeOf_2 {zN d : Nat} {Post : Option Value → aW → Prop} {C : Nat → Nat → Int32} {p : Nat → Option Nat} {x1 x2 x3 : Int32} (h : vp_in x1 48 ∧ (((C 6 x1.toNatClampNeg) ≤ x3 → (Post (some (.int (-1 : Int32))) (am_w zN C p))) ∧ (¬ (C 6 x1.toNatClampNeg) ≤ x3 → (vp_in ((x1 * (6 : Int32)) + x3) 288 ∧ ((¬ (C 8 ((x1 * (6 : Int32)) + x3).toNatClampNeg) = x2 → (am_At (d + 1) 35 none Post 2 [some (.ref 1), some (.int x1), some (.int x2), some (.int (x3 + (1 : Int32)))] [] (am_w zN C p) (0, 0))) ∧ ((C 8 ((x1 * (6 : Int32)) + x3).toNatClampNeg) = x2 → (Post (some (.int x3)) (am_w zN C p)))))))) : am_At (d + 1) 35 none Post 2 [some (.ref 1), some (.int x1), some (.int x2), some (.int x3)] [] (am_w zN C p) (0, 0) := am_wp_ok (stops := [2]) am_k35 400 _ _ _ _ _ h
set_option maxRecDepth 100000 in
theorem e_S_canTake {zN d : Nat} {C : Nat → Nat → Int32} {p : Nat → Option Nat} {x1 x2 : Int32} {P : Option Value → (Nat → Nat → Int32) → (Nat → Option Nat) → Prop} (h : am_At (d + 1) 36 none (am_Ret zN P) 0 [some (.ref 1), some (.int x1), some (.int x2)] [] (am_w zN C p) (0, 0)) : am_Call (d + 1) 36 [.ref 1, .int x1, .int x2] (am_w zN C p) (am_Ret zN P) := am_m_go (by decide +kernel) rfl rfl rfl h
set_option maxRecDepth 100000 in
theorem s_S_canTake_0 {zN d : Nat} {Post : Option Value → aW → Prop} {C : Nat → Nat → Int32} {p : Nat → Option Nat} {x1 x2 : Int32} (h : am_Ci d 34 [.ref 1, .int x1] (am_w zN C p) (fun v w1 => am_At (d + 1) 36 none Post 5 [some (.ref 1), some (.int x1), some (.int x2)] [.int v] w1 (0, 0))) : am_At (d + 1) 36 none Post 0 [some (.ref 1), some (.int x1), some (.int x2)] [] (am_w zN C p) (0, 0) := am_wp_ok (stops := [5, 14]) am_k36 400 _ _ _ _ _ h
set_option maxRecDepth 100000 in
theorem s_S_canTake_5 {zN d : Nat} {Post : Option Value → aW → Prop} {C : Nat → Nat → Int32} {p : Nat → Option Nat} {x1 x2 y0 : Int32} (h : (¬ y0 = (0 : Int32) → (((0 : Int32) = 0 ∨ (0 : Int32) = 1) ∧ Post (some (.int (0 : Int32))) (am_w zN C p))) ∧ (y0 = (0 : Int32) → (am_Ci d 35 [.ref 1, .int x1, .int x2] (am_w zN C p) (fun v w1 => am_At (d + 1) 36 none Post 14 [some (.ref 1), some (.int x1), some (.int x2)] [.int v] w1 (0, 0))))) : am_At (d + 1) 36 none Post 5 [some (.ref 1), some (.int x1), some (.int x2)] [.int y0] (am_w zN C p) (0, 0) := am_wp_ok (stops := [5, 14]) am_k36 400 _ _ _ _ _ h
set_option maxRecDepth 100000 in
theorem s_S_canTake_14 {zN d : Nat} {Post : Option Value → aW → Prop} {C : Nat → Nat → Int32} {p : Nat → Option Nat} {x1 x2 y0 : Int32} (h : (¬ y0 = (-1 : Int32) → (((0 : Int32) = 0 ∨ (0 : Int32) = 1) ∧ Post (some (.int (0 : Int32))) (am_w zN C p))) ∧ (y0 = (-1 : Int32) → (((1 : Int32) = 0 ∨ (1 : Int32) = 1) ∧ Post (some (.int (1 : Int32))) (am_w zN C p)))) : am_At (d + 1) 36 none Post 14 [some (.ref 1), some (.int x1), some (.int x2)] [.int y0] (am_w zN C p) (0, 0) := am_wp_ok (stops := [5, 14]) am_k36 400 _ _ _ _ _ h
set_option maxRecDepth 100000 in
theorem e_S_add {zN d : Nat} {C : Nat → Nat → Int32} {p : Nat → Option Nat} {x1 x2 x3 : Int32} {P : Option Value → (Nat → Nat → Int32) → (Nat → Option Nat) → Prop} (h : am_At (d + 1) 37 none (am_Ret zN P) 0 [some (.ref 1), some (.int x1), some (.int x2), some (.int x3), none] [] (am_w zN C p) (0, 0)) : am_Call (d + 1) 37 [.ref 1, .int x1, .int x2, .int x3] (am_w zN C p) (am_Ret zN P) := am_m_go (by decide +kernel) rfl rfl rfl h
set_option maxRecDepth 100000 in
theorem s_S_add_0 {zN d : Nat} {Post : Option Value → aW → Prop} {C : Nat → Nat → Int32} {p : Nat → Option Nat} {x1 x2 x3 : Int32} (h : vp_in x1 48 ∧ (((C 6 x1.toNatClampNeg) < (6 : Int32) → (vp_in x1 48 ∧ (vp_in ((x1 * (6 : Int32)) + (C 6 x1.toNatClampNeg)) 288 ∧ (vp_in ((x1 * (6 : Int32)) + (C 6 x1.toNatClampNeg)) 288 ∧ (vp_in ((x1 * (6 : Int32)) + (C 6 x1.toNatClampNeg)) 288 ∧ (vp_in x1 48 ∧ (vp_in x1 48 ∧ (Post none (am_w zN (am_u2 (am_u2 (am_u2 (am_u2 C 8 ((x1 * (6 : Int32)) + (C 6 x1.toNatClampNeg)).toNatClampNeg x2) 9 ((x1 * (6 : Int32)) + (C 6 x1.toNatClampNeg)).toNatClampNeg x3) 10 ((x1 * (6 : Int32)) + (C 6 x1.toNatClampNeg)).toNatClampNeg (vp_nar .boolean (0 : Int32))) 6 x1.toNatClampNeg (((am_u2 (am_u2 (am_u2 C 8 ((x1 * (6 : Int32)) + (C 6 x1.toNatClampNeg)).toNatClampNeg x2) 9 ((x1 * (6 : Int32)) + (C 6 x1.toNatClampNeg)).toNatClampNeg x3) 10 ((x1 * (6 : Int32)) + (C 6 x1.toNatClampNeg)).toNatClampNeg (vp_nar .boolean (0 : Int32))) 6 x1.toNatClampNeg) + (1 : Int32))) p))))))))) ∧ (¬ (C 6 x1.toNatClampNeg) < (6 : Int32) → (Post none (am_w zN C p))))) : am_At (d + 1) 37 none Post 0 [some (.ref 1), some (.int x1), some (.int x2), some (.int x3), none] [] (am_w zN C p) (0, 0) := am_wp_ok (stops := []) am_k37 400 _ _ _ _ _ h
set_option maxRecDepth 100000 in
theorem e_S_remove {zN d : Nat} {C : Nat → Nat → Int32} {p : Nat → Option Nat} {x1 x2 : Int32} {P : Option Value → (Nat → Nat → Int32) → (Nat → Option Nat) → Prop} (h : am_At (d + 1) 38 none (am_Ret zN P) 0 [some (.ref 1), some (.int x1), some (.int x2), none, none] [] (am_w zN C p) (0, 0)) : am_Call (d + 1) 38 [.ref 1, .int x1, .int x2] (am_w zN C p) (am_Ret zN P) := am_m_go (by decide +kernel) rfl rfl rfl h
set_option maxRecDepth 100000 in
theorem s_S_remove_0 {zN d : Nat} {Post : Option Value → aW → Prop} {C : Nat → Nat → Int32} {p : Nat → Option Nat} {x1 x2 : Int32} (h : am_Ci d 35 [.ref 1, .int x1, .int x2] (am_w zN C p) (fun v w1 => am_At (d + 1) 38 none Post 6 [some (.ref 1), some (.int x1), some (.int x2), none, none] [.int v] w1 (0, 0))) : am_At (d + 1) 38 none Post 0 [some (.ref 1), some (.int x1), some (.int x2), none, none] [] (am_w zN C p) (0, 0) := am_wp_ok (stops := [6, 31]) am_k38 400 _ _ _ _ _ h
set_option maxRecDepth 100000 in
theorem s_S_remove_6 {zN d : Nat} {Post : Option Value → aW → Prop} {C : Nat → Nat → Int32} {p : Nat → Option Nat} {x1 x2 y0 : Int32} (h : (¬ y0 = (-1 : Int32) → (vp_in x1 48 ∧ (vp_in x1 48 ∧ (am_At (d + 1) 38 none Post 31 [some (.ref 1), some (.int x1), some (.int x2), some (.int y0), some (.int ((x1 * (6 : Int32)) + y0))] [] (am_w zN (am_u2 C 6 x1.toNatClampNeg ((C 6 x1.toNatClampNeg) - (1 : Int32))) p) (0, 0))))) ∧ (y0 = (-1 : Int32) → (Post none (am_w zN C p)))) : am_At (d + 1) 38 none Post 6 [some (.ref 1), some (.int x1), some (.int x2), none, none] [.int y0] (am_w zN C p) (0, 0) := am_wp_ok (stops := [6, 31]) am_k38 400 _ _ _ _ _ h
set_option maxRecDepth 100000 in
theorem s_S_remove_31 {zN d : Nat} {Post : Option Value → aW → Prop} {C : Nat → Nat → Int32} {p : Nat → Option Nat} {x1 x2 x3 x4 : Int32} (h : vp_in x1 48 ∧ ((((x1 * (6 : Int32)) + (C 6 x1.toNatClampNeg)) ≤ x4 → (Post none (am_w zN C p))) ∧ (¬ ((x1 * (6 : Int32)) + (C 6 x1.toNatClampNeg)) ≤ x4 → (vp_in (x4 + (1 : Int32)) 288 ∧ (vp_in x4 288 ∧ (vp_in (x4 + (1 : Int32)) 288 ∧ (vp_in x4 288 ∧ (vp_in (x4 + (1 : Int32)) 288 ∧ (vp_in x4 288 ∧ (am_At (d + 1) 38 none Post 31 [some (.ref 1), some (.int x1), some (.int x2), some (.int x3), some (.int (x4 + (1 : Int32)))] [] (am_w zN (am_u2 (am_u2 (am_u2 C 8 x4.toNatClampNeg (C 8 (x4 + (1 : Int32)).toNatClampNeg)) 9 x4.toNatClampNeg ((am_u2 C 8 x4.toNatClampNeg (C 8 (x4 + (1 : Int32)).toNatClampNeg)) 9 (x4 + (1 : Int32)).toNatClampNeg)) 10 x4.toNatClampNeg (vp_nar .boolean ((am_u2 (am_u2 C 8 x4.toNatClampNeg (C 8 (x4 + (1 : Int32)).toNatClampNeg)) 9 x4.toNatClampNeg ((am_u2 C 8 x4.toNatClampNeg (C 8 (x4 + (1 : Int32)).toNatClampNeg)) 9 (x4 + (1 : Int32)).toNatClampNeg)) 10 (x4 + (1 : Int32)).toNatClampNeg))) p) (0, 0))))))))))) : am_At (d + 1) 38 none Post 31 [some (.ref 1), some (.int x1), some (.int x2), some (.int x3), some (.int x4)] [] (am_w zN C p) (0, 0) := am_wp_ok (stops := [6, 31]) am_k38 400 _ _ _ _ _ h
set_option maxRecDepth 100000 in
theorem e_S_strikeBoth {zN d : Nat} {C : Nat → Nat → Int32} {p : Nat → Option Nat} {x1 x2 x3 : Int32} {P : Option Value → (Nat → Nat → Int32) → (Nat → Option Nat) → Prop} (h : am_At (d + 1) 39 none (am_Ret zN P) 0 [some (.ref 1), some (.int x1), some (.int x2), some (.int x3), none, none, none] [] (am_w zN C p) (0, 0)) : am_Call (d + 1) 39 [.ref 1, .int x1, .int x2, .int x3] (am_w zN C p) (am_Ret zN P) := am_m_go (by decide +kernel) rfl rfl rfl h
set_option maxRecDepth 100000 in
theorem s_S_strikeBoth_0 {zN d : Nat} {Post : Option Value → aW → Prop} {C : Nat → Nat → Int32} {p : Nat → Option Nat} {x1 x2 x3 : Int32} (h : am_At (d + 1) 39 none Post 3 [some (.ref 1), some (.int x1), some (.int x2), some (.int x3), some (.int (0 : Int32)), none, none] [] (am_w zN C p) (0, 0)) : am_At (d + 1) 39 none Post 0 [some (.ref 1), some (.int x1), some (.int x2), some (.int x3), none, none, none] [] (am_w zN C p) (0, 0) := am_wp_ok (stops := [3, 16, 25]) am_k39 400 _ _ _ _ _ h
set_option maxRecDepth 100000 in
theorem s_S_strikeBoth_3 {zN d : Nat} {Post : Option Value → aW → Prop} {C : Nat → Nat → Int32} {p : Nat → Option Nat} {x1 x2 x3 x4 : Int32} {o5 o6 : Option Value} (h : ((2 : Int32) ≤ x4 → (Post none (am_w zN C p))) ∧ (¬ (2 : Int32) ≤ x4 → (am_Ci d 78 [.int x1, .int x2, .int x4] (am_w zN C p) (fun v w1 => am_At (d + 1) 39 none Post 16 [some (.ref 1), some (.int x1), some (.int x2), some (.int x3), some (.int x4), o5, o6] [.int v] w1 (0, 0))))) : am_At (d + 1) 39 none Post 3 [some (.ref 1), some (.int x1), some (.int x2), some (.int x3), some (.int x4), o5, o6] [] (am_w zN C p) (0, 0) := am_wp_ok (stops := [3, 16, 25]) am_k39 400 _ _ _ _ _ h
set_option maxRecDepth 100000 in
theorem s_S_strikeBoth_16 {zN d : Nat} {Post : Option Value → aW → Prop} {C : Nat → Nat → Int32} {p : Nat → Option Nat} {x1 x2 x3 x4 y0 : Int32} {o5 o6 : Option Value} (h : am_Ci d 35 [.ref 1, .int y0, .int x3] (am_w zN C p) (fun v w1 => am_At (d + 1) 39 none Post 25 [some (.ref 1), some (.int x1), some (.int x2), some (.int x3), some (.int x4), some (.int y0), o6] [.int v] w1 (0, 0))) : am_At (d + 1) 39 none Post 16 [some (.ref 1), some (.int x1), some (.int x2), some (.int x3), some (.int x4), o5, o6] [.int y0] (am_w zN C p) (0, 0) := am_wp_ok (stops := [3, 16, 25]) am_k39 400 _ _ _ _ _ h
set_option maxRecDepth 100000 in
theorem s_S_strikeBoth_25 {zN d : Nat} {Post : Option Value → aW → Prop} {C : Nat → Nat → Int32} {p : Nat → Option Nat} {x1 x2 x3 x4 x5 y0 : Int32} {o6 : Option Value} (h : (y0 = (-1 : Int32) → (am_At (d + 1) 39 none Post 3 [some (.ref 1), some (.int x1), some (.int x2), some (.int x3), some (.int (x4 + (1 : Int32))), some (.int x5), some (.int y0)] [] (am_w zN C p) (0, 0))) ∧ (¬ y0 = (-1 : Int32) → (vp_in ((x5 * (6 : Int32)) + y0) 288 ∧ (am_At (d + 1) 39 none Post 3 [some (.ref 1), some (.int x1), some (.int x2), some (.int x3), some (.int (x4 + (1 : Int32))), some (.int x5), some (.int y0)] [] (am_w zN (am_u2 C 10 ((x5 * (6 : Int32)) + y0).toNatClampNeg (vp_nar .boolean (1 : Int32))) p) (0, 0))))) : am_At (d + 1) 39 none Post 25 [some (.ref 1), some (.int x1), some (.int x2), some (.int x3), some (.int x4), some (.int x5), o6] [.int y0] (am_w zN C p) (0, 0) := am_wp_ok (stops := [3, 16, 25]) am_k39 400 _ _ _ _ _ h
set_option maxRecDepth 100000 in
theorem e_S_driftOf {zN d : Nat} {C : Nat → Nat → Int32} {p : Nat → Option Nat} {x1 : Int32} {P : Option Value → (Nat → Nat → Int32) → (Nat → Option Nat) → Prop} (h : am_At (d + 1) 40 none (am_Ret zN P) 0 [some (.ref 1), some (.int x1)] [] (am_w zN C p) (0, 0)) : am_Call (d + 1) 40 [.ref 1, .int x1] (am_w zN C p) (am_Ret zN P) := am_m_go (by decide +kernel) rfl rfl rfl h
set_option maxRecDepth 100000 in
theorem s_S_driftOf_0 {zN d : Nat} {Post : Option Value → aW → Prop} {C : Nat → Nat → Int32} {p : Nat → Option Nat} {x1 : Int32} (h : vp_in x1 48 ∧ (vp_in (x1 * (6 : Int32)) 288 ∧ (am_Ci d 79 [.int ((C 7 x1.toNatClampNeg) - (C 9 (x1 * (6 : Int32)).toNatClampNeg))] (am_w zN C p) (fun v w1 => am_At (d + 1) 40 none Post 19 [some (.ref 1), some (.int x1)] [.int v] w1 (0, 0))))) : am_At (d + 1) 40 none Post 0 [some (.ref 1), some (.int x1)] [] (am_w zN C p) (0, 0) := am_wp_ok (stops := [19]) am_k40 400 _ _ _ _ _ h
set_option maxRecDepth 100000 in
theorem s_S_driftOf_19 {zN d : Nat} {Post : Option Value → aW → Prop} {C : Nat → Nat → Int32} {p : Nat → Option Nat} {x1 y0 : Int32} (h : Post (some (.int y0)) (am_w zN C p)) : am_At (d + 1) 40 none Post 19 [some (.ref 1), some (.int x1)] [.int y0] (am_w zN C p) (0, 0) := am_wp_ok (stops := [19]) am_k40 400 _ _ _ _ _ h
set_option maxRecDepth 100000 in
theorem e_S_corrected {zN d : Nat} {C : Nat → Nat → Int32} {p : Nat → Option Nat} {x1 x2 : Int32} {P : Option Value → (Nat → Nat → Int32) → (Nat → Option Nat) → Prop} (h : am_At (d + 1) 41 none (am_Ret zN P) 0 [some (.ref 1), some (.int x1), some (.int x2), none] [] (am_w zN C p) (0, 0)) : am_Call (d + 1) 41 [.ref 1, .int x1, .int x2] (am_w zN C p) (am_Ret zN P) := am_m_go (by decide +kernel) rfl rfl rfl h
set_option maxRecDepth 100000 in
theorem s_S_corrected_0 {zN d : Nat} {Post : Option Value → aW → Prop} {C : Nat → Nat → Int32} {p : Nat → Option Nat} {x1 x2 : Int32} (h : (x2 < (0 : Int32) → (Post (some (.int (0 : Int32))) (am_w zN C p))) ∧ (¬ x2 < (0 : Int32) → (vp_in x1 48 ∧ ((x2 < (C 6 x1.toNatClampNeg) → (vp_in ((x1 * (6 : Int32)) + x2) 288 ∧ (am_Ci d 34 [.ref 1, .int x1] (am_w zN C p) (fun v w1 => am_At (d + 1) 41 none Post 33 [some (.ref 1), some (.int x1), some (.int x2), some (.int (C 9 ((x1 * (6 : Int32)) + x2).toNatClampNeg))] [.int v] w1 (0, 0))))) ∧ (¬ x2 < (C 6 x1.toNatClampNeg) → (Post (some (.int (0 : Int32))) (am_w zN C p))))))) : am_At (d + 1) 41 none Post 0 [some (.ref 1), some (.int x1), some (.int x2), none] [] (am_w zN C p) (0, 0) := am_wp_ok (stops := [33, 44, 55]) am_k41 400 _ _ _ _ _ h
set_option maxRecDepth 100000 in
theorem s_S_corrected_33 {zN d : Nat} {Post : Option Value → aW → Prop} {C : Nat → Nat → Int32} {p : Nat → Option Nat} {x1 x2 x3 y0 : Int32} (h : (¬ y0 = (0 : Int32) → (am_Ci d 40 [.ref 1, .int x1] (am_w zN C p) (fun v w1 => am_At (d + 1) 41 none Post 44 [some (.ref 1), some (.int x1), some (.int x2), some (.int x3)] [.int v, .int x3] w1 (0, 0)))) ∧ (y0 = (0 : Int32) → (Post (some (.int x3)) (am_w zN C p)))) : am_At (d + 1) 41 none Post 33 [some (.ref 1), some (.int x1), some (.int x2), some (.int x3)] [.int y0] (am_w zN C p) (0, 0) := am_wp_ok (stops := [33, 44, 55]) am_k41 400 _ _ _ _ _ h
set_option maxRecDepth 100000 in
theorem s_S_corrected_44 {zN d : Nat} {Post : Option Value → aW → Prop} {C : Nat → Nat → Int32} {p : Nat → Option Nat} {x1 x2 x3 y0 y1 : Int32} (h : vp_in x1 48 ∧ (am_Ci d 159 [.int (y1 * x2), .int (C 6 x1.toNatClampNeg)] (am_w zN C p) (fun v w1 => am_At (d + 1) 41 none Post 55 [some (.ref 1), some (.int x1), some (.int x2), some (.int x3)] [.int v, .int y0] w1 (0, 0)))) : am_At (d + 1) 41 none Post 44 [some (.ref 1), some (.int x1), some (.int x2), some (.int x3)] [.int y1, .int y0] (am_w zN C p) (0, 0) := am_wp_ok (stops := [33, 44, 55]) am_k41 400 _ _ _ _ _ h
set_option maxRecDepth 100000 in
theorem s_S_corrected_55 {zN d : Nat} {Post : Option Value → aW → Prop} {C : Nat → Nat → Int32} {p : Nat → Option Nat} {x1 x2 x3 y0 y1 : Int32} (h : Post (some (.int (y0 - y1))) (am_w zN C p)) : am_At (d + 1) 41 none Post 55 [some (.ref 1), some (.int x1), some (.int x2), some (.int x3)] [.int y1, .int y0] (am_w zN C p) (0, 0) := am_wp_ok (stops := [33, 44, 55]) am_k41 400 _ _ _ _ _ h
set_option maxRecDepth 100000 in
theorem e_S_whyNotUsed {zN d : Nat} {C : Nat → Nat → Int32} {p : Nat → Option Nat} {x1 x2 x3 : Int32} {P : Option Value → (Nat → Nat → Int32) → (Nat → Option Nat) → Prop} (h : am_At (d + 1) 42 none (am_Ret zN P) 0 [some (.ref 1), some (.int x1), some (.int x2), some (.int x3), none] [] (am_w zN C p) (0, 0)) : am_Call (d + 1) 42 [.ref 1, .int x1, .int x2, .int x3] (am_w zN C p) (am_Ret zN P) := am_m_go (by decide +kernel) rfl rfl rfl h
set_option maxRecDepth 100000 in
theorem s_S_whyNotUsed_0 {zN d : Nat} {Post : Option Value → aW → Prop} {C : Nat → Nat → Int32} {p : Nat → Option Nat} {x1 x2 x3 : Int32} (h : am_Ci d 43 [.ref 1, .int x1, .int x2, .int x3] (am_w zN C p) (fun v w1 => am_At (d + 1) 42 none Post 7 [some (.ref 1), some (.int x1), some (.int x2), some (.int x3), none] [.int v] w1 (0, 0))) : am_At (d + 1) 42 none Post 0 [some (.ref 1), some (.int x1), some (.int x2), some (.int x3), none] [] (am_w zN C p) (0, 0) := am_wp_ok (stops := [7, 28]) am_k42 400 _ _ _ _ _ h
set_option maxRecDepth 100000 in
theorem s_S_whyNotUsed_7 {zN d : Nat} {Post : Option Value → aW → Prop} {C : Nat → Nat → Int32} {p : Nat → Option Nat} {x1 x2 x3 y0 : Int32} (h : (¬ y0 = (0 : Int32) → (Post (some (.int y0)) (am_w zN C p))) ∧ (y0 = (0 : Int32) → ((¬ x3 = (0 : Int32) → (am_Ci d 43 [.ref 1, .int x1, .int x2, .int (0 : Int32)] (am_w zN C p) (fun v w1 => am_At (d + 1) 42 none Post 28 [some (.ref 1), some (.int x1), some (.int x2), some (.int x3), some (.int y0)] [.int v] w1 (0, 0)))) ∧ (x3 = (0 : Int32) → (Post (some (.int y0)) (am_w zN C p)))))) : am_At (d + 1) 42 none Post 7 [some (.ref 1), some (.int x1), some (.int x2), some (.int x3), none] [.int y0] (am_w zN C p) (0, 0) := am_wp_ok (stops := [7, 28]) am_k42 400 _ _ _ _ _ h
set_option maxRecDepth 100000 in
theorem s_S_whyNotUsed_28 {zN d : Nat} {Post : Option Value → aW → Prop} {C : Nat → Nat → Int32} {p : Nat → Option Nat} {x1 x2 x3 x4 y0 : Int32} (h : (¬ y0 = (0 : Int32) → (Post (some (.int (4 : Int32))) (am_w zN C p))) ∧ (y0 = (0 : Int32) → (Post (some (.int (0 : Int32))) (am_w zN C p)))) : am_At (d + 1) 42 none Post 28 [some (.ref 1), some (.int x1), some (.int x2), some (.int x3), some (.int x4)] [.int y0] (am_w zN C p) (0, 0) := am_wp_ok (stops := [7, 28]) am_k42 400 _ _ _ _ _ h
set_option maxRecDepth 100000 in
theorem e_S_ownReason {zN d : Nat} {C : Nat → Nat → Int32} {p : Nat → Option Nat} {x1 x2 x3 : Int32} {P : Option Value → (Nat → Nat → Int32) → (Nat → Option Nat) → Prop} (h : am_At (d + 1) 43 none (am_Ret zN P) 0 [some (.ref 1), some (.int x1), some (.int x2), some (.int x3), none, none, none, none, none] [] (am_w zN C p) (0, 0)) : am_Call (d + 1) 43 [.ref 1, .int x1, .int x2, .int x3] (am_w zN C p) (am_Ret zN P) := am_m_go (by decide +kernel) rfl rfl rfl h
set_option maxRecDepth 100000 in
theorem s_S_ownReason_0 {zN d : Nat} {Post : Option Value → aW → Prop} {C : Nat → Nat → Int32} {p : Nat → Option Nat} {x1 x2 x3 : Int32} (h : am_Ci d 78 [.int x1, .int x2, .int (0 : Int32)] (am_w zN C p) (fun v w1 => am_At (d + 1) 43 none Post 6 [some (.ref 1), some (.int x1), some (.int x2), some (.int x3), none, none, none, none, none] [.int v] w1 (0, 0))) : am_At (d + 1) 43 none Post 0 [some (.ref 1), some (.int x1), some (.int x2), some (.int x3), none, none, none, none, none] [] (am_w zN C p) (0, 0) := am_wp_ok (stops := [6, 14, 23, 32, 82, 87]) am_k43 400 _ _ _ _ _ h
set_option maxRecDepth 100000 in
theorem s_S_ownReason_6 {zN d : Nat} {Post : Option Value → aW → Prop} {C : Nat → Nat → Int32} {p : Nat → Option Nat} {x1 x2 x3 y0 : Int32} (h : am_Ci d 78 [.int x1, .int x2, .int (1 : Int32)] (am_w zN C p) (fun v w1 => am_At (d + 1) 43 none Post 14 [some (.ref 1), some (.int x1), some (.int x2), some (.int x3), some (.int y0), none, none, none, none] [.int v] w1 (0, 0))) : am_At (d + 1) 43 none Post 6 [some (.ref 1), some (.int x1), some (.int x2), some (.int x3), none, none, none, none, none] [.int y0] (am_w zN C p) (0, 0) := am_wp_ok (stops := [6, 14, 23, 32, 82, 87]) am_k43 400 _ _ _ _ _ h
set_option maxRecDepth 100000 in
theorem s_S_ownReason_14 {zN d : Nat} {Post : Option Value → aW → Prop} {C : Nat → Nat → Int32} {p : Nat → Option Nat} {x1 x2 x3 x4 y0 : Int32} (h : am_Ci d 35 [.ref 1, .int x4, .int x3] (am_w zN C p) (fun v w1 => am_At (d + 1) 43 none Post 23 [some (.ref 1), some (.int x1), some (.int x2), some (.int x3), some (.int x4), some (.int y0), none, none, none] [.int v] w1 (0, 0))) : am_At (d + 1) 43 none Post 14 [some (.ref 1), some (.int x1), some (.int x2), some (.int x3), some (.int x4), none, none, none, none] [.int y0] (am_w zN C p) (0, 0) := am_wp_ok (stops := [6, 14, 23, 32, 82, 87]) am_k43 400 _ _ _ _ _ h
set_option maxRecDepth 100000 in
theorem s_S_ownReason_23 {zN d : Nat} {Post : Option Value → aW → Prop} {C : Nat → Nat → Int32} {p : Nat → Option Nat} {x1 x2 x3 x4 x5 y0 : Int32} (h : am_Ci d 35 [.ref 1, .int x5, .int x3] (am_w zN C p) (fun v w1 => am_At (d + 1) 43 none Post 32 [some (.ref 1), some (.int x1), some (.int x2), some (.int x3), some (.int x4), some (.int x5), some (.int y0), none, none] [.int v] w1 (0, 0))) : am_At (d + 1) 43 none Post 23 [some (.ref 1), some (.int x1), some (.int x2), some (.int x3), some (.int x4), some (.int x5), none, none, none] [.int y0] (am_w zN C p) (0, 0) := am_wp_ok (stops := [6, 14, 23, 32, 82, 87]) am_k43 400 _ _ _ _ _ h
set_option maxRecDepth 100000 in
theorem s_S_ownReason_32 {zN d : Nat} {Post : Option Value → aW → Prop} {C : Nat → Nat → Int32} {p : Nat → Option Nat} {x1 x2 x3 x4 x5 x6 y0 : Int32} (h : (¬ x6 = (-1 : Int32) → ((¬ y0 = (-1 : Int32) → (vp_in ((x4 * (6 : Int32)) + x6) 288 ∧ ((¬ (C 10 ((x4 * (6 : Int32)) + x6).toNatClampNeg) = (0 : Int32) → (am_At (d + 1) 43 none Post 82 [some (.ref 1), some (.int x1), some (.int x2), some (.int x3), some (.int x4), some (.int x5), some (.int x6), some (.int y0), none] [] (am_w zN C p) (0, 0))) ∧ ((C 10 ((x4 * (6 : Int32)) + x6).toNatClampNeg) = (0 : Int32) → (vp_in ((x5 * (6 : Int32)) + y0) 288 ∧ (((C 10 ((x5 * (6 : Int32)) + y0).toNatClampNeg) = (0 : Int32) → (am_At (d + 1) 43 none Post 87 [some (.ref 1), some (.int x1), some (.int x2), some (.int x3), some (.int x4), some (.int x5), some (.int x6), some (.int y0), none] [.int (0 : Int32)] (am_w zN C p) (0, 0))) ∧ (¬ (C 10 ((x5 * (6 : Int32)) + y0).toNatClampNeg) = (0 : Int32) → (am_At (d + 1) 43 none Post 82 [some (.ref 1), some (.int x1), some (.int x2), some (.int x3), some (.int x4), some (.int x5), some (.int x6), some (.int y0), none] [] (am_w zN C p) (0, 0))))))))) ∧ (y0 = (-1 : Int32) → (Post (some (.int (2 : Int32))) (am_w zN C p))))) ∧ (x6 = (-1 : Int32) → (Post (some (.int (1 : Int32))) (am_w zN C p)))) : am_At (d + 1) 43 none Post 32 [some (.ref 1), some (.int x1), some (.int x2), some (.int x3), some (.int x4), some (.int x5), some (.int x6), none, none] [.int y0] (am_w zN C p) (0, 0) := am_wp_ok (stops := [6, 14, 23, 32, 82, 87]) am_k43 400 _ _ _ _ _ h
set_option maxRecDepth 100000 in
theorem s_S_ownReason_82 {zN d : Nat} {Post : Option Value → aW → Prop} {C : Nat → Nat → Int32} {p : Nat → Option Nat} {x1 x2 x3 x4 x5 x6 x7 : Int32} (h : am_At (d + 1) 43 none Post 87 [some (.ref 1), some (.int x1), some (.int x2), some (.int x3), some (.int x4), some (.int x5), some (.int x6), some (.int x7), none] [.int (1 : Int32)] (am_w zN C p) (0, 0)) : am_At (d + 1) 43 none Post 82 [some (.ref 1), some (.int x1), some (.int x2), some (.int x3), some (.int x4), some (.int x5), some (.int x6), some (.int x7), none] [] (am_w zN C p) (0, 0) := am_wp_ok (stops := [6, 14, 23, 32, 82, 87]) am_k43 400 _ _ _ _ _ h
set_option maxRecDepth 100000 in
theorem s_S_ownReason_87 {zN d : Nat} {Post : Option Value → aW → Prop} {C : Nat → Nat → Int32} {p : Nat → Option Nat} {x1 x2 x3 x4 x5 x6 x7 y0 : Int32} (h : (y0 = (0 : Int32) → (Post (some (.int (0 : Int32))) (am_w zN C p))) ∧ (¬ y0 = (0 : Int32) → (Post (some (.int (3 : Int32))) (am_w zN C p)))) : am_At (d + 1) 43 none Post 87 [some (.ref 1), some (.int x1), some (.int x2), some (.int x3), some (.int x4), some (.int x5), some (.int x6), some (.int x7), none] [.int y0] (am_w zN C p) (0, 0) := am_wp_ok (stops := [6, 14, 23, 32, 82, 87]) am_k43 400 _ _ _ _ _ h
set_option maxRecDepth 100000 in
theorem e_S_struckIn {zN d : Nat} {C : Nat → Nat → Int32} {p : Nat → Option Nat} {x1 : Int32} {P : Option Value → (Nat → Nat → Int32) → (Nat → Option Nat) → Prop} (h : am_At (d + 1) 44 none (am_Ret zN P) 0 [some (.ref 1), some (.int x1), none, none] [] (am_w zN C p) (0, 0)) : am_Call (d + 1) 44 [.ref 1, .int x1] (am_w zN C p) (am_Ret zN P) := am_m_go (by decide +kernel) rfl rfl rfl h
set_option maxRecDepth 100000 in
theorem s_S_struckIn_0 {zN d : Nat} {Post : Option Value → aW → Prop} {C : Nat → Nat → Int32} {p : Nat → Option Nat} {x1 : Int32} (h : am_At (d + 1) 44 none Post 4 [some (.ref 1), some (.int x1), some (.int (0 : Int32)), some (.int (0 : Int32))] [] (am_w zN C p) (0, 0)) : am_At (d + 1) 44 none Post 0 [some (.ref 1), some (.int x1), none, none] [] (am_w zN C p) (0, 0) := am_wp_ok (stops := [4]) am_k44 400 _ _ _ _ _ h
set_option maxRecDepth 100000 in
theorem s_S_struckIn_4 {zN d : Nat} {Post : Option Value → aW → Prop} {C : Nat → Nat → Int32} {p : Nat → Option Nat} {x1 x2 x3 : Int32} (h : vp_in x1 48 ∧ (((C 6 x1.toNatClampNeg) ≤ x3 → (Post (some (.int x2)) (am_w zN C p))) ∧ (¬ (C 6 x1.toNatClampNeg) ≤ x3 → (vp_in ((x1 * (6 : Int32)) + x3) 288 ∧ (((C 10 ((x1 * (6 : Int32)) + x3).toNatClampNeg) = (0 : Int32) → (am_At (d + 1) 44 none Post 4 [some (.ref 1), some (.int x1), some (.int x2), some (.int (x3 + (1 : Int32)))] [] (am_w zN C p) (0, 0))) ∧ (¬ (C 10 ((x1 * (6 : Int32)) + x3).toNatClampNeg) = (0 : Int32) → (am_At (d + 1) 44 none Post 4 [some (.ref 1), some (.int x1), some (.int (x2 + (1 : Int32))), some (.int (x3 + (1 : Int32)))] [] (am_w zN C p) (0, 0)))))))) : am_At (d + 1) 44 none Post 4 [some (.ref 1), some (.int x1), some (.int x2), some (.int x3)] [] (am_w zN C p) (0, 0) := am_wp_ok (stops := [4]) am_k44 400 _ _ _ _ _ h
set_option maxRecDepth 100000 in
theorem e_S_struckInRound {zN d : Nat} {C : Nat → Nat → Int32} {p : Nat → Option Nat} {x1 x2 : Int32} {P : Option Value → (Nat → Nat → Int32) → (Nat → Option Nat) → Prop} (h : am_At (d + 1) 45 none (am_Ret zN P) 0 [some (.ref 1), some (.int x1), some (.int x2)] [] (am_w zN C p) (0, 0)) : am_Call (d + 1) 45 [.ref 1, .int x1, .int x2] (am_w zN C p) (am_Ret zN P) := am_m_go (by decide +kernel) rfl rfl rfl h
set_option maxRecDepth 100000 in
theorem s_S_struckInRound_0 {zN d : Nat} {Post : Option Value → aW → Prop} {C : Nat → Nat → Int32} {p : Nat → Option Nat} {x1 x2 : Int32} (h : am_Ci d 78 [.int x1, .int x2, .int (0 : Int32)] (am_w zN C p) (fun v w1 => am_At (d + 1) 45 none Post 7 [some (.ref 1), some (.int x1), some (.int x2)] [.int v, .ref 1] w1 (0, 0))) : am_At (d + 1) 45 none Post 0 [some (.ref 1), some (.int x1), some (.int x2)] [] (am_w zN C p) (0, 0) := am_wp_ok (stops := [7, 10, 17, 20]) am_k45 400 _ _ _ _ _ h
set_option maxRecDepth 100000 in
theorem s_S_struckInRound_7 {zN d : Nat} {Post : Option Value → aW → Prop} {C : Nat → Nat → Int32} {p : Nat → Option Nat} {x1 x2 y1 : Int32} (h : am_Ci d 44 [.ref 1, .int y1] (am_w zN C p) (fun v w1 => am_At (d + 1) 45 none Post 10 [some (.ref 1), some (.int x1), some (.int x2)] [.int v] w1 (0, 0))) : am_At (d + 1) 45 none Post 7 [some (.ref 1), some (.int x1), some (.int x2)] [.int y1, .ref 1] (am_w zN C p) (0, 0) := am_wp_ok (stops := [7, 10, 17, 20]) am_k45 400 _ _ _ _ _ h
set_option maxRecDepth 100000 in
theorem s_S_struckInRound_10 {zN d : Nat} {Post : Option Value → aW → Prop} {C : Nat → Nat → Int32} {p : Nat → Option Nat} {x1 x2 y0 : Int32} (h : am_Ci d 78 [.int x1, .int x2, .int (1 : Int32)] (am_w zN C p) (fun v w1 => am_At (d + 1) 45 none Post 17 [some (.ref 1), some (.int x1), some (.int x2)] [.int v, .ref 1, .int y0] w1 (0, 0))) : am_At (d + 1) 45 none Post 10 [some (.ref 1), some (.int x1), some (.int x2)] [.int y0] (am_w zN C p) (0, 0) := am_wp_ok (stops := [7, 10, 17, 20]) am_k45 400 _ _ _ _ _ h
set_option maxRecDepth 100000 in
theorem s_S_struckInRound_17 {zN d : Nat} {Post : Option Value → aW → Prop} {C : Nat → Nat → Int32} {p : Nat → Option Nat} {x1 x2 y0 y2 : Int32} (h : am_Ci d 44 [.ref 1, .int y2] (am_w zN C p) (fun v w1 => am_At (d + 1) 45 none Post 20 [some (.ref 1), some (.int x1), some (.int x2)] [.int v, .int y0] w1 (0, 0))) : am_At (d + 1) 45 none Post 17 [some (.ref 1), some (.int x1), some (.int x2)] [.int y2, .ref 1, .int y0] (am_w zN C p) (0, 0) := am_wp_ok (stops := [7, 10, 17, 20]) am_k45 400 _ _ _ _ _ h
set_option maxRecDepth 100000 in
theorem s_S_struckInRound_20 {zN d : Nat} {Post : Option Value → aW → Prop} {C : Nat → Nat → Int32} {p : Nat → Option Nat} {x1 x2 y0 y1 : Int32} (h : Post (some (.int (y0 + y1))) (am_w zN C p)) : am_At (d + 1) 45 none Post 20 [some (.ref 1), some (.int x1), some (.int x2)] [.int y1, .int y0] (am_w zN C p) (0, 0) := am_wp_ok (stops := [7, 10, 17, 20]) am_k45 400 _ _ _ _ _ h
set_option maxRecDepth 100000 in
theorem e_S_allRounds {zN d : Nat} {C : Nat → Nat → Int32} {p : Nat → Option Nat} {P : Option Value → (Nat → Nat → Int32) → (Nat → Option Nat) → Prop} (h : am_At (d + 1) 46 none (am_Ret zN P) 0 [some (.ref 1), none, none] [] (am_w zN C p) (0, 0)) : am_Call (d + 1) 46 [.ref 1] (am_w zN C p) (am_Ret zN P) := am_m_go (by decide +kernel) rfl rfl rfl h
set_option maxRecDepth 100000 in
theorem s_S_allRounds_0 {zN d : Nat} {Post : Option Value → aW → Prop} {C : Nat → Nat → Int32} {p : Nat → Option Nat} (h : am_At (d + 1) 46 none Post 4 [some (.ref 1), some (.int (0 : Int32)), some (.int (0 : Int32))] [] (am_w zN C p) (0, 0)) : am_At (d + 1) 46 none Post 0 [some (.ref 1), none, none] [] (am_w zN C p) (0, 0) := am_wp_ok (stops := [4]) am_k46 400 _ _ _ _ _ h
set_option maxRecDepth 100000 in
theorem s_S_allRounds_4 {zN d : Nat} {Post : Option Value → aW → Prop} {C : Nat → Nat → Int32} {p : Nat → Option Nat} {x1 x2 : Int32} (h : ((C 1 0) ≤ x2 → (Post (some (.int x1)) (am_w zN C p))) ∧ (¬ (C 1 0) ≤ x2 → (vp_in x2 4 ∧ (am_At (d + 1) 46 none Post 4 [some (.ref 1), some (.int (x1 + (C 2 x2.toNatClampNeg))), some (.int (x2 + (1 : Int32)))] [] (am_w zN C p) (0, 0))))) : am_At (d + 1) 46 none Post 4 [some (.ref 1), some (.int x1), some (.int x2)] [] (am_w zN C p) (0, 0) := am_wp_ok (stops := [4]) am_k46 400 _ _ _ _ _ h
set_option maxRecDepth 100000 in
theorem e_S_allPointings {zN d : Nat} {C : Nat → Nat → Int32} {p : Nat → Option Nat} {P : Option Value → (Nat → Nat → Int32) → (Nat → Option Nat) → Prop} (h : am_At (d + 1) 47 none (am_Ret zN P) 0 [some (.ref 1), none, none] [] (am_w zN C p) (0, 0)) : am_Call (d + 1) 47 [.ref 1] (am_w zN C p) (am_Ret zN P) := am_m_go (by decide +kernel) rfl rfl rfl h
set_option maxRecDepth 100000 in
theorem s_S_allPointings_0 {zN d : Nat} {Post : Option Value → aW → Prop} {C : Nat → Nat → Int32} {p : Nat → Option Nat} (h : am_At (d + 1) 47 none Post 4 [some (.ref 1), some (.int (0 : Int32)), some (.int (0 : Int32))] [] (am_w zN C p) (0, 0)) : am_At (d + 1) 47 none Post 0 [some (.ref 1), none, none] [] (am_w zN C p) (0, 0) := am_wp_ok (stops := [4]) am_k47 400 _ _ _ _ _ h
set_option maxRecDepth 100000 in
theorem s_S_allPointings_4 {zN d : Nat} {Post : Option Value → aW → Prop} {C : Nat → Nat → Int32} {p : Nat → Option Nat} {x1 x2 : Int32} (h : ((48 : Int32) ≤ x2 → (Post (some (.int x1)) (am_w zN C p))) ∧ (¬ (48 : Int32) ≤ x2 → (vp_in x2 48 ∧ (am_At (d + 1) 47 none Post 4 [some (.ref 1), some (.int (x1 + (C 6 x2.toNatClampNeg))), some (.int (x2 + (1 : Int32)))] [] (am_w zN C p) (0, 0))))) : am_At (d + 1) 47 none Post 4 [some (.ref 1), some (.int x1), some (.int x2)] [] (am_w zN C p) (0, 0) := am_wp_ok (stops := [4]) am_k47 400 _ _ _ _ _ h
set_option maxRecDepth 100000 in
theorem e_S_allStruck {zN d : Nat} {C : Nat → Nat → Int32} {p : Nat → Option Nat} {P : Option Value → (Nat → Nat → Int32) → (Nat → Option Nat) → Prop} (h : am_At (d + 1) 48 none (am_Ret zN P) 0 [some (.ref 1), none, none] [] (am_w zN C p) (0, 0)) : am_Call (d + 1) 48 [.ref 1] (am_w zN C p) (am_Ret zN P) := am_m_go (by decide +kernel) rfl rfl rfl h
set_option maxRecDepth 100000 in
theorem s_S_allStruck_0 {zN d : Nat} {Post : Option Value → aW → Prop} {C : Nat → Nat → Int32} {p : Nat → Option Nat} (h : am_At (d + 1) 48 none Post 4 [some (.ref 1), some (.int (0 : Int32)), some (.int (0 : Int32))] [] (am_w zN C p) (0, 0)) : am_At (d + 1) 48 none Post 0 [some (.ref 1), none, none] [] (am_w zN C p) (0, 0) := am_wp_ok (stops := [4, 16]) am_k48 400 _ _ _ _ _ h
set_option maxRecDepth 100000 in
theorem s_S_allStruck_4 {zN d : Nat} {Post : Option Value → aW → Prop} {C : Nat → Nat → Int32} {p : Nat → Option Nat} {x1 x2 : Int32} (h : ((48 : Int32) ≤ x2 → (Post (some (.int x1)) (am_w zN C p))) ∧ (¬ (48 : Int32) ≤ x2 → (am_Ci d 44 [.ref 1, .int x2] (am_w zN C p) (fun v w1 => am_At (d + 1) 48 none Post 16 [some (.ref 1), some (.int x1), some (.int x2)] [.int v, .int x1] w1 (0, 0))))) : am_At (d + 1) 48 none Post 4 [some (.ref 1), some (.int x1), some (.int x2)] [] (am_w zN C p) (0, 0) := am_wp_ok (stops := [4, 16]) am_k48 400 _ _ _ _ _ h
set_option maxRecDepth 100000 in
theorem s_S_allStruck_16 {zN d : Nat} {Post : Option Value → aW → Prop} {C : Nat → Nat → Int32} {p : Nat → Option Nat} {x1 x2 y0 y1 : Int32} (h : am_At (d + 1) 48 none Post 4 [some (.ref 1), some (.int (y0 + y1)), some (.int (x2 + (1 : Int32)))] [] (am_w zN C p) (0, 0)) : am_At (d + 1) 48 none Post 16 [some (.ref 1), some (.int x1), some (.int x2)] [.int y1, .int y0] (am_w zN C p) (0, 0) := am_wp_ok (stops := [4, 16]) am_k48 400 _ _ _ _ _ h
set_option maxRecDepth 100000 in
theorem e_S_allClosings {zN d : Nat} {C : Nat → Nat → Int32} {p : Nat → Option Nat} {P : Option Value → (Nat → Nat → Int32) → (Nat → Option Nat) → Prop} (h : am_At (d + 1) 49 none (am_Ret zN P) 0 [some (.ref 1), none, none] [] (am_w zN C p) (0, 0)) : am_Call (d + 1) 49 [.ref 1] (am_w zN C p) (am_Ret zN P) := am_m_go (by decide +kernel) rfl rfl rfl h
set_option maxRecDepth 100000 in
theorem s_S_allClosings_0 {zN d : Nat} {Post : Option Value → aW → Prop} {C : Nat → Nat → Int32} {p : Nat → Option Nat} (h : am_At (d + 1) 49 none Post 4 [some (.ref 1), some (.int (0 : Int32)), some (.int (0 : Int32))] [] (am_w zN C p) (0, 0)) : am_At (d + 1) 49 none Post 0 [some (.ref 1), none, none] [] (am_w zN C p) (0, 0) := am_wp_ok (stops := [4, 15]) am_k49 400 _ _ _ _ _ h
set_option maxRecDepth 100000 in
theorem s_S_allClosings_4 {zN d : Nat} {Post : Option Value → aW → Prop} {C : Nat → Nat → Int32} {p : Nat → Option Nat} {x1 x2 : Int32} (h : ((48 : Int32) ≤ x2 → (Post (some (.int x1)) (am_w zN C p))) ∧ (¬ (48 : Int32) ≤ x2 → (am_Ci d 34 [.ref 1, .int x2] (am_w zN C p) (fun v w1 => am_At (d + 1) 49 none Post 15 [some (.ref 1), some (.int x1), some (.int x2)] [.int v] w1 (0, 0))))) : am_At (d + 1) 49 none Post 4 [some (.ref 1), some (.int x1), some (.int x2)] [] (am_w zN C p) (0, 0) := am_wp_ok (stops := [4, 15]) am_k49 400 _ _ _ _ _ h
set_option maxRecDepth 100000 in
theorem s_S_allClosings_15 {zN d : Nat} {Post : Option Value → aW → Prop} {C : Nat → Nat → Int32} {p : Nat → Option Nat} {x1 x2 y0 : Int32} (h : (y0 = (0 : Int32) → (am_At (d + 1) 49 none Post 4 [some (.ref 1), some (.int x1), some (.int (x2 + (1 : Int32)))] [] (am_w zN C p) (0, 0))) ∧ (¬ y0 = (0 : Int32) → (am_At (d + 1) 49 none Post 4 [some (.ref 1), some (.int (x1 + (1 : Int32))), some (.int (x2 + (1 : Int32)))] [] (am_w zN C p) (0, 0)))) : am_At (d + 1) 49 none Post 15 [some (.ref 1), some (.int x1), some (.int x2)] [.int y0] (am_w zN C p) (0, 0) := am_wp_ok (stops := [4, 15]) am_k49 400 _ _ _ _ _ h
end
section
set_option maxRecDepth 100000 in
theorem e_H_record {zN d : Nat} {C : Nat → Nat → Int32} {p : Nat → Option Nat} {P : Option Value → (Nat → Nat → Int32) → (Nat → Option Nat) → Prop} (h : am_At (d + 1) 1 none (am_Ret zN P) 0 [some (.ref 21), some (.ref 1)] [] (am_w zN C p) (0, 0)) : am_Call (d + 1) 1 [.ref 21, .ref 1] (am_w zN C p) (am_Ret zN P) := am_m_go (by decide +kernel) rfl rfl rfl h
set_option maxRecDepth 100000 in
theorem s_H_record_0 {zN d : Nat} {Post : Option Value → aW → Prop} {C : Nat → Nat → Int32} {p : Nat → Option Nat} (h : (¬ (C 21 1) = (4 : Int32) → (am_At (d + 1) 1 none Post 12 [some (.ref 21), some (.ref 1)] [] (am_w zN C p) (0, 0))) ∧ ((C 21 1) = (4 : Int32) → (am_Cv d 3 [.ref 21] (am_w zN C p) (fun w1 => am_At (d + 1) 1 none Post 12 [some (.ref 21), some (.ref 1)] [] w1 (0, 0))))) : am_At (d + 1) 1 none Post 0 [some (.ref 21), some (.ref 1)] [] (am_w zN C p) (0, 0) := am_wp_ok (stops := [12, 25]) am_k1 400 _ _ _ _ _ h
set_option maxRecDepth 100000 in
theorem s_H_record_12 {zN d : Nat} {Post : Option Value → aW → Prop} {C : Nat → Nat → Int32} {p : Nat → Option Nat} (h : vp_in (C 21 1) 4 ∧ ∃ j1, (am_F p) 22 (C 21 1).toNatClampNeg = some j1 ∧ (am_ob (am_w zN C p) j1 3 (am_Cv d 31 [.ref j1, .ref 1] (am_w zN C p) (fun w1 => am_At (d + 1) 1 none Post 25 [some (.ref 21), some (.ref 1)] [] w1 (0, 0))))) : am_At (d + 1) 1 none Post 12 [some (.ref 21), some (.ref 1)] [] (am_w zN C p) (0, 0) := am_wp_ok (stops := [12, 25]) am_k1 400 _ _ _ _ _ h
set_option maxRecDepth 100000 in
theorem s_H_record_25 {zN d : Nat} {Post : Option Value → aW → Prop} {C : Nat → Nat → Int32} {p : Nat → Option Nat} (h : Post none (am_w zN (am_u2 C 21 1 ((C 21 1) + (1 : Int32))) p)) : am_At (d + 1) 1 none Post 25 [some (.ref 21), some (.ref 1)] [] (am_w zN C p) (0, 0) := am_wp_ok (stops := [12, 25]) am_k1 400 _ _ _ _ _ h
set_option maxRecDepth 100000 in
theorem e_H_takeBack {zN d : Nat} {C : Nat → Nat → Int32} {p : Nat → Option Nat} {P : Option Value → (Nat → Nat → Int32) → (Nat → Option Nat) → Prop} (h : am_At (d + 1) 2 none (am_Ret zN P) 0 [some (.ref 21), some (.ref 1)] [] (am_w zN C p) (0, 0)) : am_Call (d + 1) 2 [.ref 21, .ref 1] (am_w zN C p) (am_Ret zN P) := am_m_go (by decide +kernel) rfl rfl rfl h
set_option maxRecDepth 100000 in
theorem s_H_takeBack_0 {zN d : Nat} {Post : Option Value → aW → Prop} {C : Nat → Nat → Int32} {p : Nat → Option Nat} (h : (¬ (C 21 1) = (0 : Int32) → (vp_in ((am_u2 C 21 1 ((C 21 1) - (1 : Int32))) 21 1) 4 ∧ ∃ j1, (am_F p) 22 ((am_u2 C 21 1 ((C 21 1) - (1 : Int32))) 21 1).toNatClampNeg = some j1 ∧ (am_Cv d 31 [.ref 1, .ref j1] (am_w zN (am_u2 C 21 1 ((C 21 1) - (1 : Int32))) p) (fun w1 => am_At (d + 1) 2 none Post 31 [some (.ref 21), some (.ref 1)] [] w1 (0, 0))))) ∧ ((C 21 1) = (0 : Int32) → (Post none (am_w zN C p)))) : am_At (d + 1) 2 none Post 0 [some (.ref 21), some (.ref 1)] [] (am_w zN C p) (0, 0) := am_wp_ok (stops := [31]) am_k2 400 _ _ _ _ _ h
set_option maxRecDepth 100000 in
theorem s_H_takeBack_31 {zN d : Nat} {Post : Option Value → aW → Prop} {C : Nat → Nat → Int32} {p : Nat → Option Nat} (h : Post none (am_w zN C p)) : am_At (d + 1) 2 none Post 31 [some (.ref 21), some (.ref 1)] [] (am_w zN C p) (0, 0) := am_wp_ok (stops := [31]) am_k2 400 _ _ _ _ _ h
set_option maxRecDepth 100000 in
theorem e_H_dropOldest {zN d : Nat} {C : Nat → Nat → Int32} {p : Nat → Option Nat} {P : Option Value → (Nat → Nat → Int32) → (Nat → Option Nat) → Prop} (h : am_At (d + 1) 3 none (am_Ret zN P) 0 [some (.ref 21), none, none] [] (am_w zN C p) (0, 0)) : am_Call (d + 1) 3 [.ref 21] (am_w zN C p) (am_Ret zN P) := am_m_go (by decide +kernel) rfl rfl rfl h
set_option maxRecDepth 100000 in
theorem s_H_dropOldest_0 {zN d : Nat} {Post : Option Value → aW → Prop} {C : Nat → Nat → Int32} {p : Nat → Option Nat} (h : vp_in (0 : Int32) 4 ∧ ∃ j1, (am_F p) 22 (0 : Int32).toNatClampNeg = some j1 ∧ (am_At (d + 1) 3 none Post 9 [some (.ref 21), some (.ref j1), some (.int (1 : Int32))] [] (am_w zN C p) (0, 0))) : am_At (d + 1) 3 none Post 0 [some (.ref 21), none, none] [] (am_w zN C p) (0, 0) := am_wp_ok (stops := [9]) am_k3 400 _ _ _ _ _ h
set_option maxRecDepth 100000 in
theorem s_H_dropOldest_9 {zN d : Nat} {Post : Option Value → aW → Prop} {C : Nat → Nat → Int32} {p : Nat → Option Nat} {x2 : Int32} {j_1 : Nat} (h : ((4 : Int32) ≤ x2 → (vp_in (3 : Int32) 4 ∧ am_ob (am_w zN C p) j_1 3 (Post none ((zN + 74, am_sh, (am_u2 C 21 1 ((C 21 1) - (1 : Int32))), (am_uF (am_F p) 22 (3 : Int32).toNatClampNeg (some j_1))) : aW)))) ∧ (¬ (4 : Int32) ≤ x2 → (vp_in x2 4 ∧ ∃ j1, (am_F p) 22 x2.toNatClampNeg = some j1 ∧ (vp_in (x2 - (1 : Int32)) 4 ∧ am_ob (am_w zN C p) j1 3 (am_At (d + 1) 3 none Post 9 [some (.ref 21), some (.ref j_1), some (.int (x2 + (1 : Int32)))] [] ((zN + 74, am_sh, C, (am_uF (am_F p) 22 (x2 - (1 : Int32)).toNatClampNeg (some j1))) : aW) (0, 0)))))) : am_At (d + 1) 3 none Post 9 [some (.ref 21), some (.ref j_1), some (.int x2)] [] (am_w zN C p) (0, 0) := am_wp_ok (stops := [9]) am_k3 400 _ _ _ _ _ h
end
section
set_option maxRecDepth 100000 in
theorem e_R_reckon {zN d : Nat} {C : Nat → Nat → Int32} {p : Nat → Option Nat} {x2 : Int32} {P : Option Value → (Nat → Nat → Int32) → (Nat → Option Nat) → Prop} (h : am_At (d + 1) 14 none (am_Ret zN P) 0 [some (.ref 68), some (.ref 1), some (.int x2), none] [] (am_w zN C p) (0, 0)) : am_Call (d + 1) 14 [.ref 68, .ref 1, .int x2] (am_w zN C p) (am_Ret zN P) := am_m_go (by decide +kernel) rfl rfl rfl h
set_option maxRecDepth 100000 in
theorem s_R_reckon_0 {zN d : Nat} {Post : Option Value → aW → Prop} {C : Nat → Nat → Int32} {p : Nat → Option Nat} {x2 : Int32} (h : vp_in x2 4 ∧ (am_At (d + 1) 14 none Post 12 [some (.ref 68), some (.ref 1), some (.int x2), some (.int (0 : Int32))] [] (am_w zN (am_u2 C 68 0 (C 2 x2.toNatClampNeg)) p) (0, 0))) : am_At (d + 1) 14 none Post 0 [some (.ref 68), some (.ref 1), some (.int x2), none] [] (am_w zN C p) (0, 0) := am_wp_ok (stops := [12, 27, 35, 46]) am_k14 400 _ _ _ _ _ h
set_option maxRecDepth 100000 in
theorem s_R_reckon_12 {zN d : Nat} {Post : Option Value → aW → Prop} {C : Nat → Nat → Int32} {p : Nat → Option Nat} {x2 x3 : Int32} (h : ((C 68 0) ≤ x3 → (am_At (d + 1) 14 none Post 35 [some (.ref 68), some (.ref 1), some (.int x2), some (.int (0 : Int32))] [] (am_w zN C p) (0, 0))) ∧ (¬ (C 68 0) ≤ x3 → (am_Cv d 15 [.ref 68, .ref 1, .int x2, .int x3] (am_w zN C p) (fun w1 => am_At (d + 1) 14 none Post 27 [some (.ref 68), some (.ref 1), some (.int x2), some (.int x3)] [] w1 (0, 0))))) : am_At (d + 1) 14 none Post 12 [some (.ref 68), some (.ref 1), some (.int x2), some (.int x3)] [] (am_w zN C p) (0, 0) := am_wp_ok (stops := [12, 27, 35, 46]) am_k14 400 _ _ _ _ _ h
set_option maxRecDepth 100000 in
theorem s_R_reckon_27 {zN d : Nat} {Post : Option Value → aW → Prop} {C : Nat → Nat → Int32} {p : Nat → Option Nat} {x2 x3 : Int32} (h : am_At (d + 1) 14 none Post 12 [some (.ref 68), some (.ref 1), some (.int x2), some (.int (x3 + (1 : Int32)))] [] (am_w zN C p) (0, 0)) : am_At (d + 1) 14 none Post 27 [some (.ref 68), some (.ref 1), some (.int x2), some (.int x3)] [] (am_w zN C p) (0, 0) := am_wp_ok (stops := [12, 27, 35, 46]) am_k14 400 _ _ _ _ _ h
set_option maxRecDepth 100000 in
theorem s_R_reckon_35 {zN d : Nat} {Post : Option Value → aW → Prop} {C : Nat → Nat → Int32} {p : Nat → Option Nat} {x2 x3 : Int32} (h : ((6 : Int32) ≤ x3 → (Post none (am_w zN C p))) ∧ (¬ (6 : Int32) ≤ x3 → (am_Cv d 16 [.ref 68, .int x3] (am_w zN C p) (fun w1 => am_At (d + 1) 14 none Post 46 [some (.ref 68), some (.ref 1), some (.int x2), some (.int x3)] [] w1 (0, 0))))) : am_At (d + 1) 14 none Post 35 [some (.ref 68), some (.ref 1), some (.int x2), some (.int x3)] [] (am_w zN C p) (0, 0) := am_wp_ok (stops := [12, 27, 35, 46]) am_k14 400 _ _ _ _ _ h
set_option maxRecDepth 100000 in
theorem s_R_reckon_46 {zN d : Nat} {Post : Option Value → aW → Prop} {C : Nat → Nat → Int32} {p : Nat → Option Nat} {x2 x3 : Int32} (h : am_At (d + 1) 14 none Post 35 [some (.ref 68), some (.ref 1), some (.int x2), some (.int (x3 + (1 : Int32)))] [] (am_w zN C p) (0, 0)) : am_At (d + 1) 14 none Post 46 [some (.ref 68), some (.ref 1), some (.int x2), some (.int x3)] [] (am_w zN C p) (0, 0) := am_wp_ok (stops := [12, 27, 35, 46]) am_k14 400 _ _ _ _ _ h
set_option maxRecDepth 100000 in
theorem e_R_reckonRound {zN d : Nat} {C : Nat → Nat → Int32} {p : Nat → Option Nat} {x2 x3 : Int32} {P : Option Value → (Nat → Nat → Int32) → (Nat → Option Nat) → Prop} (h : am_At (d + 1) 15 none (am_Ret zN P) 0 [some (.ref 68), some (.ref 1), some (.int x2), some (.int x3), none, none, none, none, none, none, none, none] [] (am_w zN C p) (0, 0)) : am_Call (d + 1) 15 [.ref 68, .ref 1, .int x2, .int x3] (am_w zN C p) (am_Ret zN P) := am_m_go (by decide +kernel) rfl rfl rfl h
set_option maxRecDepth 100000 in
theorem s_R_reckonRound_0 {zN d : Nat} {Post : Option Value → aW → Prop} {C : Nat → Nat → Int32} {p : Nat → Option Nat} {x2 x3 : Int32} (h : am_Ci d 78 [.int x2, .int x3, .int (0 : Int32)] (am_w zN C p) (fun v w1 => am_At (d + 1) 15 none Post 6 [some (.ref 68), some (.ref 1), some (.int x2), some (.int x3), none, none, none, none, none, none, none, none] [.int v] w1 (0, 0))) : am_At (d + 1) 15 none Post 0 [some (.ref 68), some (.ref 1), some (.int x2), some (.int x3), none, none, none, none, none, none, none, none] [] (am_w zN C p) (0, 0) := am_wp_ok (stops := [6, 14, 29, 44, 61, 64, 77, 80, 93, 103, 115, 146, 168]) am_k15 400 _ _ _ _ _ h
set_option maxRecDepth 100000 in
theorem s_R_reckonRound_6 {zN d : Nat} {Post : Option Value → aW → Prop} {C : Nat → Nat → Int32} {p : Nat → Option Nat} {x2 x3 y0 : Int32} (h : am_Ci d 78 [.int x2, .int x3, .int (1 : Int32)] (am_w zN C p) (fun v w1 => am_At (d + 1) 15 none Post 14 [some (.ref 68), some (.ref 1), some (.int x2), some (.int x3), some (.int y0), none, none, none, none, none, none, none] [.int v] w1 (0, 0))) : am_At (d + 1) 15 none Post 6 [some (.ref 68), some (.ref 1), some (.int x2), some (.int x3), none, none, none, none, none, none, none, none] [.int y0] (am_w zN C p) (0, 0) := am_wp_ok (stops := [6, 14, 29, 44, 61, 64, 77, 80, 93, 103, 115, 146, 168]) am_k15 400 _ _ _ _ _ h
set_option maxRecDepth 100000 in
theorem s_R_reckonRound_14 {zN d : Nat} {Post : Option Value → aW → Prop} {C : Nat → Nat → Int32} {p : Nat → Option Nat} {x2 x3 x4 y0 : Int32} (h : vp_in x3 6 ∧ (am_At (d + 1) 15 none Post 29 [some (.ref 68), some (.ref 1), some (.int x2), some (.int x3), some (.int x4), some (.int y0), some (.int (0 : Int32)), some (.int (0 : Int32)), none, none, none, none] [] (am_w zN (am_u2 C 69 x3.toNatClampNeg (0 : Int32)) p) (0, 0))) : am_At (d + 1) 15 none Post 14 [some (.ref 68), some (.ref 1), some (.int x2), some (.int x3), some (.int x4), none, none, none, none, none, none, none] [.int y0] (am_w zN C p) (0, 0) := am_wp_ok (stops := [6, 14, 29, 44, 61, 64, 77, 80, 93, 103, 115, 146, 168]) am_k15 400 _ _ _ _ _ h
set_option maxRecDepth 100000 in
theorem s_R_reckonRound_29 {zN d : Nat} {Post : Option Value → aW → Prop} {C : Nat → Nat → Int32} {p : Nat → Option Nat} {x2 x3 x4 x5 x6 x7 : Int32} {o8 o9 o10 o11 : Option Value} (h : ((6 : Int32) ≤ x7 → (Post none (am_w zN C p))) ∧ (¬ (6 : Int32) ≤ x7 → (am_Ci d 42 [.ref 1, .int x2, .int x3, .int x7] (am_w zN C p) (fun v w1 => am_At (d + 1) 15 none Post 44 [some (.ref 68), some (.ref 1), some (.int x2), some (.int x3), some (.int x4), some (.int x5), some (.int x6), some (.int x7), o8, o9, o10, o11] [.int v] w1 (0, 0))))) : am_At (d + 1) 15 none Post 29 [some (.ref 68), some (.ref 1), some (.int x2), some (.int x3), some (.int x4), some (.int x5), some (.int x6), some (.int x7), o8, o9, o10, o11] [] (am_w zN C p) (0, 0) := am_wp_ok (stops := [6, 14, 29, 44, 61, 64, 77, 80, 93, 103, 115, 146, 168]) am_k15 400 _ _ _ _ _ h
set_option maxRecDepth 100000 in
theorem s_R_reckonRound_44 {zN d : Nat} {Post : Option Value → aW → Prop} {C : Nat → Nat → Int32} {p : Nat → Option Nat} {x2 x3 x4 x5 x6 x7 y0 : Int32} {o8 o9 o10 o11 : Option Value} (h : (y0 = (0 : Int32) → (am_Ci d 35 [.ref 1, .int x4, .int x7] (am_w zN C p) (fun v w1 => am_At (d + 1) 15 none Post 61 [some (.ref 68), some (.ref 1), some (.int x2), some (.int x3), some (.int x4), some (.int x5), some (.int x6), some (.int x7), o8, o9, o10, o11] [.int v, .int x4, .ref 1] w1 (0, 0)))) ∧ (¬ y0 = (0 : Int32) → (am_At (d + 1) 15 none Post 29 [some (.ref 68), some (.ref 1), some (.int x2), some (.int x3), some (.int x4), some (.int x5), some (.int x6), some (.int (x7 + (1 : Int32))), o8, o9, o10, o11] [] (am_w zN C p) (0, 0)))) : am_At (d + 1) 15 none Post 44 [some (.ref 68), some (.ref 1), some (.int x2), some (.int x3), some (.int x4), some (.int x5), some (.int x6), some (.int x7), o8, o9, o10, o11] [.int y0] (am_w zN C p) (0, 0) := am_wp_ok (stops := [6, 14, 29, 44, 61, 64, 77, 80, 93, 103, 115, 146, 168]) am_k15 400 _ _ _ _ _ h
set_option maxRecDepth 100000 in
theorem s_R_reckonRound_61 {zN d : Nat} {Post : Option Value → aW → Prop} {C : Nat → Nat → Int32} {p : Nat → Option Nat} {x2 x3 x4 x5 x6 x7 y1 y2 : Int32} {o8 o9 o10 o11 : Option Value} (h : am_Ci d 41 [.ref 1, .int y1, .int y2] (am_w zN C p) (fun v w1 => am_At (d + 1) 15 none Post 64 [some (.ref 68), some (.ref 1), some (.int x2), some (.int x3), some (.int x4), some (.int x5), some (.int x6), some (.int x7), o8, o9, o10, o11] [.int v] w1 (0, 0))) : am_At (d + 1) 15 none Post 61 [some (.ref 68), some (.ref 1), some (.int x2), some (.int x3), some (.int x4), some (.int x5), some (.int x6), some (.int x7), o8, o9, o10, o11] [.int y2, .int y1, .ref 1] (am_w zN C p) (0, 0) := am_wp_ok (stops := [6, 14, 29, 44, 61, 64, 77, 80, 93, 103, 115, 146, 168]) am_k15 400 _ _ _ _ _ h
set_option maxRecDepth 100000 in
theorem s_R_reckonRound_64 {zN d : Nat} {Post : Option Value → aW → Prop} {C : Nat → Nat → Int32} {p : Nat → Option Nat} {x2 x3 x4 x5 x6 x7 y0 : Int32} {o8 o9 o10 o11 : Option Value} (h : am_Ci d 35 [.ref 1, .int x5, .int x7] (am_w zN C p) (fun v w1 => am_At (d + 1) 15 none Post 77 [some (.ref 68), some (.ref 1), some (.int x2), some (.int x3), some (.int x4), some (.int x5), some (.int x6), some (.int x7), some (.int y0), o9, o10, o11] [.int v, .int x5, .ref 1] w1 (0, 0))) : am_At (d + 1) 15 none Post 64 [some (.ref 68), some (.ref 1), some (.int x2), some (.int x3), some (.int x4), some (.int x5), some (.int x6), some (.int x7), o8, o9, o10, o11] [.int y0] (am_w zN C p) (0, 0) := am_wp_ok (stops := [6, 14, 29, 44, 61, 64, 77, 80, 93, 103, 115, 146, 168]) am_k15 400 _ _ _ _ _ h
set_option maxRecDepth 100000 in
theorem s_R_reckonRound_77 {zN d : Nat} {Post : Option Value → aW → Prop} {C : Nat → Nat → Int32} {p : Nat → Option Nat} {x2 x3 x4 x5 x6 x7 x8 y1 y2 : Int32} {o9 o10 o11 : Option Value} (h : am_Ci d 41 [.ref 1, .int y1, .int y2] (am_w zN C p) (fun v w1 => am_At (d + 1) 15 none Post 80 [some (.ref 68), some (.ref 1), some (.int x2), some (.int x3), some (.int x4), some (.int x5), some (.int x6), some (.int x7), some (.int x8), o9, o10, o11] [.int v] w1 (0, 0))) : am_At (d + 1) 15 none Post 77 [some (.ref 68), some (.ref 1), some (.int x2), some (.int x3), some (.int x4), some (.int x5), some (.int x6), some (.int x7), some (.int x8), o9, o10, o11] [.int y2, .int y1, .ref 1] (am_w zN C p) (0, 0) := am_wp_ok (stops := [6, 14, 29, 44, 61, 64, 77, 80, 93, 103, 115, 146, 168]) am_k15 400 _ _ _ _ _ h
set_option maxRecDepth 100000 in
theorem s_R_reckonRound_80 {zN d : Nat} {Post : Option Value → aW → Prop} {C : Nat → Nat → Int32} {p : Nat → Option Nat} {x2 x3 x4 x5 x6 x7 x8 y0 : Int32} {o9 o10 o11 : Option Value} (h : am_Ci d 79 [.int ((y0 - (648000 : Int32)) - x8)] (am_w zN C p) (fun v w1 => am_At (d + 1) 15 none Post 93 [some (.ref 68), some (.ref 1), some (.int x2), some (.int x3), some (.int x4), some (.int x5), some (.int x6), some (.int x7), some (.int x8), some (.int y0), o10, o11] [.int v] w1 (0, 0))) : am_At (d + 1) 15 none Post 80 [some (.ref 68), some (.ref 1), some (.int x2), some (.int x3), some (.int x4), some (.int x5), some (.int x6), some (.int x7), some (.int x8), o9, o10, o11] [.int y0] (am_w zN C p) (0, 0) := am_wp_ok (stops := [6, 14, 29, 44, 61, 64, 77, 80, 93, 103, 115, 146, 168]) am_k15 400 _ _ _ _ _ h
set_option maxRecDepth 100000 in
theorem s_R_reckonRound_93 {zN d : Nat} {Post : Option Value → aW → Prop} {C : Nat → Nat → Int32} {p : Nat → Option Nat} {x2 x3 x4 x5 x6 x7 x8 x9 y0 : Int32} {o10 o11 : Option Value} (h : am_Ci d 159 [.int y0, .int (2 : Int32)] (am_w zN C p) (fun v w1 => am_At (d + 1) 15 none Post 103 [some (.ref 68), some (.ref 1), some (.int x2), some (.int x3), some (.int x4), some (.int x5), some (.int x6), some (.int x7), some (.int x8), some (.int x9), some (.int y0), o11] [.int v, .int x8] w1 (0, 0))) : am_At (d + 1) 15 none Post 93 [some (.ref 68), some (.ref 1), some (.int x2), some (.int x3), some (.int x4), some (.int x5), some (.int x6), some (.int x7), some (.int x8), some (.int x9), o10, o11] [.int y0] (am_w zN C p) (0, 0) := am_wp_ok (stops := [6, 14, 29, 44, 61, 64, 77, 80, 93, 103, 115, 146, 168]) am_k15 400 _ _ _ _ _ h
set_option maxRecDepth 100000 in
theorem s_R_reckonRound_103 {zN d : Nat} {Post : Option Value → aW → Prop} {C : Nat → Nat → Int32} {p : Nat → Option Nat} {x2 x3 x4 x5 x6 x7 x8 x9 x10 y0 y1 : Int32} {o11 : Option Value} (h : (¬ x7 = (0 : Int32) → (am_At (d + 1) 15 none Post 115 [some (.ref 68), some (.ref 1), some (.int x2), some (.int x3), some (.int x4), some (.int x5), some (.int x6), some (.int x7), some (.int x8), some (.int x9), some (.int x10), some (.int (y0 + y1))] [] (am_w zN C p) (0, 0))) ∧ (x7 = (0 : Int32) → (am_At (d + 1) 15 none Post 115 [some (.ref 68), some (.ref 1), some (.int x2), some (.int x3), some (.int x4), some (.int x5), some (.int (y0 + y1)), some (.int x7), some (.int x8), some (.int x9), some (.int x10), some (.int (y0 + y1))] [] (am_w zN C p) (0, 0)))) : am_At (d + 1) 15 none Post 103 [some (.ref 68), some (.ref 1), some (.int x2), some (.int x3), some (.int x4), some (.int x5), some (.int x6), some (.int x7), some (.int x8), some (.int x9), some (.int x10), o11] [.int y1, .int y0] (am_w zN C p) (0, 0) := am_wp_ok (stops := [6, 14, 29, 44, 61, 64, 77, 80, 93, 103, 115, 146, 168]) am_k15 400 _ _ _ _ _ h
set_option maxRecDepth 100000 in
theorem s_R_reckonRound_115 {zN d : Nat} {Post : Option Value → aW → Prop} {C : Nat → Nat → Int32} {p : Nat → Option Nat} {x2 x3 x4 x5 x6 x7 x8 x9 x10 x11 : Int32} (h : vp_in x3 6 ∧ (vp_in x3 6 ∧ (am_Ci d 159 [.int (-x10), .int (2 : Int32)] (am_w zN (am_u2 C 69 x3.toNatClampNeg ((C 69 x3.toNatClampNeg) ||| ((1 : Int32) <<< (x7 &&& 31)))) p) (fun v w1 => am_At (d + 1) 15 none Post 146 [some (.ref 68), some (.ref 1), some (.int x2), some (.int x3), some (.int x4), some (.int x5), some (.int x6), some (.int x7), some (.int x8), some (.int x9), some (.int x10), some (.int x11)] [.int v, .int ((x3 * (6 : Int32)) + x7), .ref 71] w1 (0, 0))))) : am_At (d + 1) 15 none Post 115 [some (.ref 68), some (.ref 1), some (.int x2), some (.int x3), some (.int x4), some (.int x5), some (.int x6), some (.int x7), some (.int x8), some (.int x9), some (.int x10), some (.int x11)] [] (am_w zN C p) (0, 0) := am_wp_ok (stops := [6, 14, 29, 44, 61, 64, 77, 80, 93, 103, 115, 146, 168]) am_k15 400 _ _ _ _ _ h
set_option maxRecDepth 100000 in
theorem s_R_reckonRound_146 {zN d : Nat} {Post : Option Value → aW → Prop} {C : Nat → Nat → Int32} {p : Nat → Option Nat} {x2 x3 x4 x5 x6 x7 x8 x9 x10 x11 y1 y2 : Int32} (h : vp_in y1 36 ∧ (am_Ci d 160 [.int (x11 - x6), .int (1296000 : Int32)] (am_w zN (am_u2 C 71 y1.toNatClampNeg y2) p) (fun v w1 => am_At (d + 1) 15 none Post 168 [some (.ref 68), some (.ref 1), some (.int x2), some (.int x3), some (.int x4), some (.int x5), some (.int x6), some (.int x7), some (.int x8), some (.int x9), some (.int x10), some (.int x11)] [.int v, .int ((x3 * (6 : Int32)) + x7), .ref 70] w1 (0, 0)))) : am_At (d + 1) 15 none Post 146 [some (.ref 68), some (.ref 1), some (.int x2), some (.int x3), some (.int x4), some (.int x5), some (.int x6), some (.int x7), some (.int x8), some (.int x9), some (.int x10), some (.int x11)] [.int y2, .int y1, .ref 71] (am_w zN C p) (0, 0) := am_wp_ok (stops := [6, 14, 29, 44, 61, 64, 77, 80, 93, 103, 115, 146, 168]) am_k15 400 _ _ _ _ _ h
set_option maxRecDepth 100000 in
theorem s_R_reckonRound_168 {zN d : Nat} {Post : Option Value → aW → Prop} {C : Nat → Nat → Int32} {p : Nat → Option Nat} {x2 x3 x4 x5 x6 x7 x8 x9 x10 x11 y1 y2 : Int32} (h : vp_in y1 36 ∧ (am_At (d + 1) 15 none Post 29 [some (.ref 68), some (.ref 1), some (.int x2), some (.int x3), some (.int x4), some (.int x5), some (.int x6), some (.int (x7 + (1 : Int32))), some (.int x8), some (.int x9), some (.int x10), some (.int x11)] [] (am_w zN (am_u2 C 70 y1.toNatClampNeg y2) p) (0, 0))) : am_At (d + 1) 15 none Post 168 [some (.ref 68), some (.ref 1), some (.int x2), some (.int x3), some (.int x4), some (.int x5), some (.int x6), some (.int x7), some (.int x8), some (.int x9), some (.int x10), some (.int x11)] [.int y2, .int y1, .ref 70] (am_w zN C p) (0, 0) := am_wp_ok (stops := [6, 14, 29, 44, 61, 64, 77, 80, 93, 103, 115, 146, 168]) am_k15 400 _ _ _ _ _ h
set_option maxRecDepth 100000 in
theorem e_R_reckonDirection {zN d : Nat} {C : Nat → Nat → Int32} {p : Nat → Option Nat} {x1 : Int32} {P : Option Value → (Nat → Nat → Int32) → (Nat → Option Nat) → Prop} (h : am_At (d + 1) 16 none (am_Ret zN P) 0 [some (.ref 68), some (.int x1), none, none, none, none, none] [] (am_w zN C p) (0, 0)) : am_Call (d + 1) 16 [.ref 68, .int x1] (am_w zN C p) (am_Ret zN P) := am_m_go (by decide +kernel) rfl rfl rfl h
set_option maxRecDepth 100000 in
theorem s_R_reckonDirection_0 {zN d : Nat} {Post : Option Value → aW → Prop} {C : Nat → Nat → Int32} {p : Nat → Option Nat} {x1 : Int32} (h : am_At (d + 1) 16 none Post 10 [some (.ref 68), some (.int x1), some (.int (0 : Int32)), some (.int (0 : Int32)), some (.int (0 : Int32)), some (.int (0 : Int32)), none] [] (am_w zN C p) (0, 0)) : am_At (d + 1) 16 none Post 0 [some (.ref 68), some (.int x1), none, none, none, none, none] [] (am_w zN C p) (0, 0) := am_wp_ok (stops := [10, 26, 62, 98, 104, 110]) am_k16 400 _ _ _ _ _ h
set_option maxRecDepth 100000 in
theorem s_R_reckonDirection_10 {zN d : Nat} {Post : Option Value → aW → Prop} {C : Nat → Nat → Int32} {p : Nat → Option Nat} {x1 x2 x3 x4 x5 : Int32} {o6 : Option Value} (h : ((C 68 0) ≤ x5 → ((¬ x2 = (0 : Int32) → (am_Ci d 159 [.int x4, .int x2] (am_w zN C p) (fun v w1 => am_At (d + 1) 16 none Post 98 [some (.ref 68), some (.int x1), some (.int x2), some (.int x3), some (.int x4), some (.int x5), o6] [.int v, .int x3, .int x1, .ref 73] w1 (0, 0)))) ∧ (x2 = (0 : Int32) → (vp_in x1 6 ∧ (Post none (am_w zN (am_u2 C 73 x1.toNatClampNeg (-1 : Int32)) p)))))) ∧ (¬ (C 68 0) ≤ x5 → (am_Ci d 18 [.ref 68, .int x5, .int x1] (am_w zN C p) (fun v w1 => am_At (d + 1) 16 none Post 26 [some (.ref 68), some (.int x1), some (.int x2), some (.int x3), some (.int x4), some (.int x5), o6] [.int v] w1 (0, 0))))) : am_At (d + 1) 16 none Post 10 [some (.ref 68), some (.int x1), some (.int x2), some (.int x3), some (.int x4), some (.int x5), o6] [] (am_w zN C p) (0, 0) := am_wp_ok (stops := [10, 26, 62, 98, 104, 110]) am_k16 400 _ _ _ _ _ h
set_option maxRecDepth 100000 in
theorem s_R_reckonDirection_26 {zN d : Nat} {Post : Option Value → aW → Prop} {C : Nat → Nat → Int32} {p : Nat → Option Nat} {x1 x2 x3 x4 x5 y0 : Int32} {o6 : Option Value} (h : (¬ y0 = (0 : Int32) → (vp_in ((x5 * (6 : Int32)) + x1) 36 ∧ ((¬ x2 = (0 : Int32) → (am_Ci d 79 [.int ((C 70 ((x5 * (6 : Int32)) + x1).toNatClampNeg) - x3)] (am_w zN C p) (fun v w1 => am_At (d + 1) 16 none Post 62 [some (.ref 68), some (.int x1), some (.int x2), some (.int x3), some (.int x4), some (.int x5), some (.int (C 70 ((x5 * (6 : Int32)) + x1).toNatClampNeg))] [.int v, .int x4] w1 (0, 0)))) ∧ (x2 = (0 : Int32) → (am_Ci d 79 [.int ((C 70 ((x5 * (6 : Int32)) + x1).toNatClampNeg) - (C 70 ((x5 * (6 : Int32)) + x1).toNatClampNeg))] (am_w zN C p) (fun v w1 => am_At (d + 1) 16 none Post 62 [some (.ref 68), some (.int x1), some (.int x2), some (.int (C 70 ((x5 * (6 : Int32)) + x1).toNatClampNeg)), some (.int x4), some (.int x5), some (.int (C 70 ((x5 * (6 : Int32)) + x1).toNatClampNeg))] [.int v, .int x4] w1 (0, 0))))))) ∧ (y0 = (0 : Int32) → (am_At (d + 1) 16 none Post 10 [some (.ref 68), some (.int x1), some (.int x2), some (.int x3), some (.int x4), some (.int (x5 + (1 : Int32))), o6] [] (am_w zN C p) (0, 0)))) : am_At (d + 1) 16 none Post 26 [some (.ref 68), some (.int x1), some (.int x2), some (.int x3), some (.int x4), some (.int x5), o6] [.int y0] (am_w zN C p) (0, 0) := am_wp_ok (stops := [10, 26, 62, 98, 104, 110]) am_k16 400 _ _ _ _ _ h
set_option maxRecDepth 100000 in
theorem s_R_reckonDirection_62 {zN d : Nat} {Post : Option Value → aW → Prop} {C : Nat → Nat → Int32} {p : Nat → Option Nat} {x1 x2 x3 x4 x5 x6 y0 y1 : Int32} (h : am_At (d + 1) 16 none Post 10 [some (.ref 68), some (.int x1), some (.int (x2 + (1 : Int32))), some (.int x3), some (.int (y0 + y1)), some (.int (x5 + (1 : Int32))), some (.int x6)] [] (am_w zN C p) (0, 0)) : am_At (d + 1) 16 none Post 62 [some (.ref 68), some (.int x1), some (.int x2), some (.int x3), some (.int x4), some (.int x5), some (.int x6)] [.int y1, .int y0] (am_w zN C p) (0, 0) := am_wp_ok (stops := [10, 26, 62, 98, 104, 110]) am_k16 400 _ _ _ _ _ h
set_option maxRecDepth 100000 in
theorem s_R_reckonDirection_98 {zN d : Nat} {Post : Option Value → aW → Prop} {C : Nat → Nat → Int32} {p : Nat → Option Nat} {x1 x2 x3 x4 x5 y1 y2 y3 : Int32} {o6 : Option Value} (h : am_Ci d 160 [.int (y2 + y3), .int (1296000 : Int32)] (am_w zN C p) (fun v w1 => am_At (d + 1) 16 none Post 104 [some (.ref 68), some (.int x1), some (.int x2), some (.int x3), some (.int x4), some (.int x5), o6] [.int v, .int y1, .ref 73] w1 (0, 0))) : am_At (d + 1) 16 none Post 98 [some (.ref 68), some (.int x1), some (.int x2), some (.int x3), some (.int x4), some (.int x5), o6] [.int y3, .int y2, .int y1, .ref 73] (am_w zN C p) (0, 0) := am_wp_ok (stops := [10, 26, 62, 98, 104, 110]) am_k16 400 _ _ _ _ _ h
set_option maxRecDepth 100000 in
theorem s_R_reckonDirection_104 {zN d : Nat} {Post : Option Value → aW → Prop} {C : Nat → Nat → Int32} {p : Nat → Option Nat} {x1 x2 x3 x4 x5 y1 y2 : Int32} {o6 : Option Value} (h : vp_in y1 6 ∧ (am_Cv d 17 [.ref 68, .int x1] (am_w zN (am_u2 C 73 y1.toNatClampNeg y2) p) (fun w1 => am_At (d + 1) 16 none Post 110 [some (.ref 68), some (.int x1), some (.int x2), some (.int x3), some (.int x4), some (.int x5), o6] [] w1 (0, 0)))) : am_At (d + 1) 16 none Post 104 [some (.ref 68), some (.int x1), some (.int x2), some (.int x3), some (.int x4), some (.int x5), o6] [.int y2, .int y1, .ref 73] (am_w zN C p) (0, 0) := am_wp_ok (stops := [10, 26, 62, 98, 104, 110]) am_k16 400 _ _ _ _ _ h
set_option maxRecDepth 100000 in
theorem s_R_reckonDirection_110 {zN d : Nat} {Post : Option Value → aW → Prop} {C : Nat → Nat → Int32} {p : Nat → Option Nat} {x1 x2 x3 x4 x5 : Int32} {o6 : Option Value} (h : Post none (am_w zN C p)) : am_At (d + 1) 16 none Post 110 [some (.ref 68), some (.int x1), some (.int x2), some (.int x3), some (.int x4), some (.int x5), o6] [] (am_w zN C p) (0, 0) := am_wp_ok (stops := [10, 26, 62, 98, 104, 110]) am_k16 400 _ _ _ _ _ h
set_option maxRecDepth 100000 in
theorem e_R_reckonLeft {zN d : Nat} {C : Nat → Nat → Int32} {p : Nat → Option Nat} {x1 : Int32} {P : Option Value → (Nat → Nat → Int32) → (Nat → Option Nat) → Prop} (h : am_At (d + 1) 17 none (am_Ret zN P) 0 [some (.ref 68), some (.int x1), none, none] [] (am_w zN C p) (0, 0)) : am_Call (d + 1) 17 [.ref 68, .int x1] (am_w zN C p) (am_Ret zN P) := am_m_go (by decide +kernel) rfl rfl rfl h
set_option maxRecDepth 100000 in
theorem s_R_reckonLeft_0 {zN d : Nat} {Post : Option Value → aW → Prop} {C : Nat → Nat → Int32} {p : Nat → Option Nat} {x1 : Int32} (h : am_At (d + 1) 17 none Post 2 [some (.ref 68), some (.int x1), some (.int (0 : Int32)), none] [] (am_w zN C p) (0, 0)) : am_At (d + 1) 17 none Post 0 [some (.ref 68), some (.int x1), none, none] [] (am_w zN C p) (0, 0) := am_wp_ok (stops := [2, 16, 47]) am_k17 400 _ _ _ _ _ h
set_option maxRecDepth 100000 in
theorem s_R_reckonLeft_2 {zN d : Nat} {Post : Option Value → aW → Prop} {C : Nat → Nat → Int32} {p : Nat → Option Nat} {x1 x2 : Int32} {o3 : Option Value} (h : ((C 68 0) ≤ x2 → (Post none (am_w zN C p))) ∧ (¬ (C 68 0) ≤ x2 → (am_Ci d 18 [.ref 68, .int x2, .int x1] (am_w zN C p) (fun v w1 => am_At (d + 1) 17 none Post 16 [some (.ref 68), some (.int x1), some (.int x2), o3] [.int v] w1 (0, 0))))) : am_At (d + 1) 17 none Post 2 [some (.ref 68), some (.int x1), some (.int x2), o3] [] (am_w zN C p) (0, 0) := am_wp_ok (stops := [2, 16, 47]) am_k17 400 _ _ _ _ _ h
set_option maxRecDepth 100000 in
theorem s_R_reckonLeft_16 {zN d : Nat} {Post : Option Value → aW → Prop} {C : Nat → Nat → Int32} {p : Nat → Option Nat} {x1 x2 y0 : Int32} {o3 : Option Value} (h : (y0 = (0 : Int32) → (am_At (d + 1) 17 none Post 2 [some (.ref 68), some (.int x1), some (.int (x2 + (1 : Int32))), o3] [] (am_w zN C p) (0, 0))) ∧ (¬ y0 = (0 : Int32) → (vp_in ((x2 * (6 : Int32)) + x1) 36 ∧ (vp_in x1 6 ∧ (am_Ci d 79 [.int ((C 70 ((x2 * (6 : Int32)) + x1).toNatClampNeg) - (C 73 x1.toNatClampNeg))] (am_w zN C p) (fun v w1 => am_At (d + 1) 17 none Post 47 [some (.ref 68), some (.int x1), some (.int x2), some (.int ((x2 * (6 : Int32)) + x1))] [.int v, .int ((x2 * (6 : Int32)) + x1), .ref 72] w1 (0, 0))))))) : am_At (d + 1) 17 none Post 16 [some (.ref 68), some (.int x1), some (.int x2), o3] [.int y0] (am_w zN C p) (0, 0) := am_wp_ok (stops := [2, 16, 47]) am_k17 400 _ _ _ _ _ h
set_option maxRecDepth 100000 in
theorem s_R_reckonLeft_47 {zN d : Nat} {Post : Option Value → aW → Prop} {C : Nat → Nat → Int32} {p : Nat → Option Nat} {x1 x2 x3 y1 y2 : Int32} (h : vp_in y1 36 ∧ (am_At (d + 1) 17 none Post 2 [some (.ref 68), some (.int x1), some (.int (x2 + (1 : Int32))), some (.int x3)] [] (am_w zN (am_u2 C 72 y1.toNatClampNeg y2) p) (0, 0))) : am_At (d + 1) 17 none Post 47 [some (.ref 68), some (.int x1), some (.int x2), some (.int x3)] [.int y2, .int y1, .ref 72] (am_w zN C p) (0, 0) := am_wp_ok (stops := [2, 16, 47]) am_k17 400 _ _ _ _ _ h
set_option maxRecDepth 100000 in
theorem e_R_isUsed {zN d : Nat} {C : Nat → Nat → Int32} {p : Nat → Option Nat} {x1 x2 : Int32} {P : Option Value → (Nat → Nat → Int32) → (Nat → Option Nat) → Prop} (h : am_At (d + 1) 18 none (am_Ret zN P) 0 [some (.ref 68), some (.int x1), some (.int x2)] [] (am_w zN C p) (0, 0)) : am_Call (d + 1) 18 [.ref 68, .int x1, .int x2] (am_w zN C p) (am_Ret zN P) := am_m_go (by decide +kernel) rfl rfl rfl h
set_option maxRecDepth 100000 in
theorem s_R_isUsed_0 {zN d : Nat} {Post : Option Value → aW → Prop} {C : Nat → Nat → Int32} {p : Nat → Option Nat} {x1 x2 : Int32} (h : vp_in x1 6 ∧ ((((C 69 x1.toNatClampNeg) &&& ((1 : Int32) <<< (x2 &&& 31))) = (0 : Int32) → (((0 : Int32) = 0 ∨ (0 : Int32) = 1) ∧ Post (some (.int (0 : Int32))) (am_w zN C p))) ∧ (¬ ((C 69 x1.toNatClampNeg) &&& ((1 : Int32) <<< (x2 &&& 31))) = (0 : Int32) → (((1 : Int32) = 0 ∨ (1 : Int32) = 1) ∧ Post (some (.int (1 : Int32))) (am_w zN C p))))) : am_At (d + 1) 18 none Post 0 [some (.ref 68), some (.int x1), some (.int x2)] [] (am_w zN C p) (0, 0) := am_wp_ok (stops := []) am_k18 400 _ _ _ _ _ h
set_option maxRecDepth 100000 in
theorem e_R_hasDirection {zN d : Nat} {C : Nat → Nat → Int32} {p : Nat → Option Nat} {x1 : Int32} {P : Option Value → (Nat → Nat → Int32) → (Nat → Option Nat) → Prop} (h : am_At (d + 1) 19 none (am_Ret zN P) 0 [some (.ref 68), some (.int x1)] [] (am_w zN C p) (0, 0)) : am_Call (d + 1) 19 [.ref 68, .int x1] (am_w zN C p) (am_Ret zN P) := am_m_go (by decide +kernel) rfl rfl rfl h
set_option maxRecDepth 100000 in
theorem s_R_hasDirection_0 {zN d : Nat} {Post : Option Value → aW → Prop} {C : Nat → Nat → Int32} {p : Nat → Option Nat} {x1 : Int32} (h : vp_in x1 6 ∧ (((C 73 x1.toNatClampNeg) = (-1 : Int32) → (((0 : Int32) = 0 ∨ (0 : Int32) = 1) ∧ Post (some (.int (0 : Int32))) (am_w zN C p))) ∧ (¬ (C 73 x1.toNatClampNeg) = (-1 : Int32) → (((1 : Int32) = 0 ∨ (1 : Int32) = 1) ∧ Post (some (.int (1 : Int32))) (am_w zN C p))))) : am_At (d + 1) 19 none Post 0 [some (.ref 68), some (.int x1)] [] (am_w zN C p) (0, 0) := am_wp_ok (stops := []) am_k19 400 _ _ _ _ _ h
set_option maxRecDepth 100000 in
theorem e_R_roundsOf {zN d : Nat} {C : Nat → Nat → Int32} {p : Nat → Option Nat} {x1 : Int32} {P : Option Value → (Nat → Nat → Int32) → (Nat → Option Nat) → Prop} (h : am_At (d + 1) 20 none (am_Ret zN P) 0 [some (.ref 68), some (.int x1), none, none] [] (am_w zN C p) (0, 0)) : am_Call (d + 1) 20 [.ref 68, .int x1] (am_w zN C p) (am_Ret zN P) := am_m_go (by decide +kernel) rfl rfl rfl h
set_option maxRecDepth 100000 in
theorem s_R_roundsOf_0 {zN d : Nat} {Post : Option Value → aW → Prop} {C : Nat → Nat → Int32} {p : Nat → Option Nat} {x1 : Int32} (h : am_At (d + 1) 20 none Post 4 [some (.ref 68), some (.int x1), some (.int (0 : Int32)), some (.int (0 : Int32))] [] (am_w zN C p) (0, 0)) : am_At (d + 1) 20 none Post 0 [some (.ref 68), some (.int x1), none, none] [] (am_w zN C p) (0, 0) := am_wp_ok (stops := [4, 18]) am_k20 400 _ _ _ _ _ h
set_option maxRecDepth 100000 in
theorem s_R_roundsOf_4 {zN d : Nat} {Post : Option Value → aW → Prop} {C : Nat → Nat → Int32} {p : Nat → Option Nat} {x1 x2 x3 : Int32} (h : ((C 68 0) ≤ x3 → (Post (some (.int x2)) (am_w zN C p))) ∧ (¬ (C 68 0) ≤ x3 → (am_Ci d 18 [.ref 68, .int x3, .int x1] (am_w zN C p) (fun v w1 => am_At (d + 1) 20 none Post 18 [some (.ref 68), some (.int x1), some (.int x2), some (.int x3)] [.int v] w1 (0, 0))))) : am_At (d + 1) 20 none Post 4 [some (.ref 68), some (.int x1), some (.int x2), some (.int x3)] [] (am_w zN C p) (0, 0) := am_wp_ok (stops := [4, 18]) am_k20 400 _ _ _ _ _ h
set_option maxRecDepth 100000 in
theorem s_R_roundsOf_18 {zN d : Nat} {Post : Option Value → aW → Prop} {C : Nat → Nat → Int32} {p : Nat → Option Nat} {x1 x2 x3 y0 : Int32} (h : (y0 = (0 : Int32) → (am_At (d + 1) 20 none Post 4 [some (.ref 68), some (.int x1), some (.int x2), some (.int (x3 + (1 : Int32)))] [] (am_w zN C p) (0, 0))) ∧ (¬ y0 = (0 : Int32) → (am_At (d + 1) 20 none Post 4 [some (.ref 68), some (.int x1), some (.int (x2 ||| ((1 : Int32) <<< (x3 &&& 31)))), some (.int (x3 + (1 : Int32)))] [] (am_w zN C p) (0, 0)))) : am_At (d + 1) 20 none Post 18 [some (.ref 68), some (.int x1), some (.int x2), some (.int x3)] [.int y0] (am_w zN C p) (0, 0) := am_wp_ok (stops := [4, 18]) am_k20 400 _ _ _ _ _ h
set_option maxRecDepth 100000 in
theorem e_R_leftWithoutSign {zN d : Nat} {C : Nat → Nat → Int32} {p : Nat → Option Nat} {x1 x2 : Int32} {P : Option Value → (Nat → Nat → Int32) → (Nat → Option Nat) → Prop} (h : am_At (d + 1) 21 none (am_Ret zN P) 0 [some (.ref 68), some (.int x1), some (.int x2)] [] (am_w zN C p) (0, 0)) : am_Call (d + 1) 21 [.ref 68, .int x1, .int x2] (am_w zN C p) (am_Ret zN P) := am_m_go (by decide +kernel) rfl rfl rfl h
set_option maxRecDepth 100000 in
theorem s_R_leftWithoutSign_0 {zN d : Nat} {Post : Option Value → aW → Prop} {C : Nat → Nat → Int32} {p : Nat → Option Nat} {x1 x2 : Int32} (h : am_Ci d 18 [.ref 68, .int x1, .int x2] (am_w zN C p) (fun v w1 => am_At (d + 1) 21 none Post 6 [some (.ref 68), some (.int x1), some (.int x2)] [.int v] w1 (0, 0))) : am_At (d + 1) 21 none Post 0 [some (.ref 68), some (.int x1), some (.int x2)] [] (am_w zN C p) (0, 0) := am_wp_ok (stops := [6]) am_k21 400 _ _ _ _ _ h
set_option maxRecDepth 100000 in
theorem s_R_leftWithoutSign_6 {zN d : Nat} {Post : Option Value → aW → Prop} {C : Nat → Nat → Int32} {p : Nat → Option Nat} {x1 x2 y0 : Int32} (h : (y0 = (0 : Int32) → (Post (some (.int (0 : Int32))) (am_w zN C p))) ∧ (¬ y0 = (0 : Int32) → (vp_in ((x1 * (6 : Int32)) + x2) 36 ∧ (Post (some (.int (if (0 : Int32) ≤ (C 72 ((x1 * (6 : Int32)) + x2).toNatClampNeg) then (C 72 ((x1 * (6 : Int32)) + x2).toNatClampNeg) else 0 - (C 72 ((x1 * (6 : Int32)) + x2).toNatClampNeg)))) (am_w zN C p))))) : am_At (d + 1) 21 none Post 6 [some (.ref 68), some (.int x1), some (.int x2)] [.int y0] (am_w zN C p) (0, 0) := am_wp_ok (stops := [6]) am_k21 400 _ _ _ _ _ h
set_option maxRecDepth 100000 in
theorem e_R_mostLeft {zN d : Nat} {C : Nat → Nat → Int32} {p : Nat → Option Nat} {x1 : Int32} {P : Option Value → (Nat → Nat → Int32) → (Nat → Option Nat) → Prop} (h : am_At (d + 1) 22 none (am_Ret zN P) 0 [some (.ref 68), some (.int x1), none, none] [] (am_w zN C p) (0, 0)) : am_Call (d + 1) 22 [.ref 68, .int x1] (am_w zN C p) (am_Ret zN P) := am_m_go (by decide +kernel) rfl rfl rfl h
set_option maxRecDepth 100000 in
theorem s_R_mostLeft_0 {zN d : Nat} {Post : Option Value → aW → Prop} {C : Nat → Nat → Int32} {p : Nat → Option Nat} {x1 : Int32} (h : am_At (d + 1) 22 none Post 4 [some (.ref 68), some (.int x1), some (.int (0 : Int32)), some (.int (0 : Int32))] [] (am_w zN C p) (0, 0)) : am_At (d + 1) 22 none Post 0 [some (.ref 68), some (.int x1), none, none] [] (am_w zN C p) (0, 0) := am_wp_ok (stops := [4, 19]) am_k22 400 _ _ _ _ _ h
set_option maxRecDepth 100000 in
theorem s_R_mostLeft_4 {zN d : Nat} {Post : Option Value → aW → Prop} {C : Nat → Nat → Int32} {p : Nat → Option Nat} {x1 x2 x3 : Int32} (h : ((C 68 0) ≤ x3 → (Post (some (.int x2)) (am_w zN C p))) ∧ (¬ (C 68 0) ≤ x3 → (am_Ci d 21 [.ref 68, .int x3, .int x1] (am_w zN C p) (fun v w1 => am_At (d + 1) 22 none Post 19 [some (.ref 68), some (.int x1), some (.int x2), some (.int x3)] [.int v, .int x2] w1 (0, 0))))) : am_At (d + 1) 22 none Post 4 [some (.ref 68), some (.int x1), some (.int x2), some (.int x3)] [] (am_w zN C p) (0, 0) := am_wp_ok (stops := [4, 19]) am_k22 400 _ _ _ _ _ h
set_option maxRecDepth 100000 in
theorem s_R_mostLeft_19 {zN d : Nat} {Post : Option Value → aW → Prop} {C : Nat → Nat → Int32} {p : Nat → Option Nat} {x1 x2 x3 y0 y1 : Int32} (h : am_At (d + 1) 22 none Post 4 [some (.ref 68), some (.int x1), some (.int (if y0 < y1 then y1 else y0)), some (.int (x3 + (1 : Int32)))] [] (am_w zN C p) (0, 0)) : am_At (d + 1) 22 none Post 19 [some (.ref 68), some (.int x1), some (.int x2), some (.int x3)] [.int y1, .int y0] (am_w zN C p) (0, 0) := am_wp_ok (stops := [4, 19]) am_k22 400 _ _ _ _ _ h
set_option maxRecDepth 100000 in
theorem e_R_badTargets {zN d : Nat} {C : Nat → Nat → Int32} {p : Nat → Option Nat} {x1 x2 : Int32} {P : Option Value → (Nat → Nat → Int32) → (Nat → Option Nat) → Prop} (h : am_At (d + 1) 23 none (am_Ret zN P) 0 [some (.ref 68), some (.int x1), some (.int x2), none, none] [] (am_w zN C p) (0, 0)) : am_Call (d + 1) 23 [.ref 68, .int x1, .int x2] (am_w zN C p) (am_Ret zN P) := am_m_go (by decide +kernel) rfl rfl rfl h
set_option maxRecDepth 100000 in
theorem s_R_badTargets_0 {zN d : Nat} {Post : Option Value → aW → Prop} {C : Nat → Nat → Int32} {p : Nat → Option Nat} {x1 x2 : Int32} (h : am_At (d + 1) 23 none Post 5 [some (.ref 68), some (.int x1), some (.int x2), some (.int (0 : Int32)), some (.int (0 : Int32))] [] (am_w zN C p) (0, 0)) : am_At (d + 1) 23 none Post 0 [some (.ref 68), some (.int x1), some (.int x2), none, none] [] (am_w zN C p) (0, 0) := am_wp_ok (stops := [5, 19]) am_k23 400 _ _ _ _ _ h
set_option maxRecDepth 100000 in
theorem s_R_badTargets_5 {zN d : Nat} {Post : Option Value → aW → Prop} {C : Nat → Nat → Int32} {p : Nat → Option Nat} {x1 x2 x3 x4 : Int32} (h : ((6 : Int32) ≤ x4 → (Post (some (.int x3)) (am_w zN C p))) ∧ (¬ (6 : Int32) ≤ x4 → (am_Ci d 21 [.ref 68, .int x1, .int x4] (am_w zN C p) (fun v w1 => am_At (d + 1) 23 none Post 19 [some (.ref 68), some (.int x1), some (.int x2), some (.int x3), some (.int x4)] [.int v] w1 (0, 0))))) : am_At (d + 1) 23 none Post 5 [some (.ref 68), some (.int x1), some (.int x2), some (.int x3), some (.int x4)] [] (am_w zN C p) (0, 0) := am_wp_ok (stops := [5, 19]) am_k23 400 _ _ _ _ _ h
set_option maxRecDepth 100000 in
theorem s_R_badTargets_19 {zN d : Nat} {Post : Option Value → aW → Prop} {C : Nat → Nat → Int32} {p : Nat → Option Nat} {x1 x2 x3 x4 y0 : Int32} (h : (y0 ≤ x2 → (am_At (d + 1) 23 none Post 5 [some (.ref 68), some (.int x1), some (.int x2), some (.int x3), some (.int (x4 + (1 : Int32)))] [] (am_w zN C p) (0, 0))) ∧ (¬ y0 ≤ x2 → (am_At (d + 1) 23 none Post 5 [some (.ref 68), some (.int x1), some (.int x2), some (.int (x3 ||| ((1 : Int32) <<< (x4 &&& 31)))), some (.int (x4 + (1 : Int32)))] [] (am_w zN C p) (0, 0)))) : am_At (d + 1) 23 none Post 19 [some (.ref 68), some (.int x1), some (.int x2), some (.int x3), some (.int x4)] [.int y0] (am_w zN C p) (0, 0) := am_wp_ok (stops := [5, 19]) am_k23 400 _ _ _ _ _ h
set_option maxRecDepth 100000 in
theorem e_R_worst {zN d : Nat} {C : Nat → Nat → Int32} {p : Nat → Option Nat} {x1 : Int32} {P : Option Value → (Nat → Nat → Int32) → (Nat → Option Nat) → Prop} (h : am_At (d + 1) 24 none (am_Ret zN P) 0 [some (.ref 68), some (.int x1), none, none, none, none, none] [] (am_w zN C p) (0, 0)) : am_Call (d + 1) 24 [.ref 68, .int x1] (am_w zN C p) (am_Ret zN P) := am_m_go (by decide +kernel) rfl rfl rfl h
set_option maxRecDepth 100000 in
theorem s_R_worst_0 {zN d : Nat} {Post : Option Value → aW → Prop} {C : Nat → Nat → Int32} {p : Nat → Option Nat} {x1 : Int32} (h : am_At (d + 1) 24 none Post 7 [some (.ref 68), some (.int x1), some (.int (-1 : Int32)), some (.int x1), some (.int (0 : Int32)), none, none] [] (am_w zN C p) (0, 0)) : am_At (d + 1) 24 none Post 0 [some (.ref 68), some (.int x1), none, none, none, none, none] [] (am_w zN C p) (0, 0) := am_wp_ok (stops := [7, 19, 34]) am_k24 400 _ _ _ _ _ h
set_option maxRecDepth 100000 in
theorem s_R_worst_7 {zN d : Nat} {Post : Option Value → aW → Prop} {C : Nat → Nat → Int32} {p : Nat → Option Nat} {x1 x2 x3 x4 : Int32} {o5 o6 : Option Value} (h : ((C 68 0) ≤ x4 → (Post (some (.int x2)) (am_w zN C p))) ∧ (¬ (C 68 0) ≤ x4 → (am_At (d + 1) 24 none Post 19 [some (.ref 68), some (.int x1), some (.int x2), some (.int x3), some (.int x4), some (.int (0 : Int32)), o6] [] (am_w zN C p) (0, 0)))) : am_At (d + 1) 24 none Post 7 [some (.ref 68), some (.int x1), some (.int x2), some (.int x3), some (.int x4), o5, o6] [] (am_w zN C p) (0, 0) := am_wp_ok (stops := [7, 19, 34]) am_k24 400 _ _ _ _ _ h
set_option maxRecDepth 100000 in
theorem s_R_worst_19 {zN d : Nat} {Post : Option Value → aW → Prop} {C : Nat → Nat → Int32} {p : Nat → Option Nat} {x1 x2 x3 x4 x5 : Int32} {o6 : Option Value} (h : ((6 : Int32) ≤ x5 → (am_At (d + 1) 24 none Post 7 [some (.ref 68), some (.int x1), some (.int x2), some (.int x3), some (.int (x4 + (1 : Int32))), some (.int x5), o6] [] (am_w zN C p) (0, 0))) ∧ (¬ (6 : Int32) ≤ x5 → (am_Ci d 21 [.ref 68, .int x4, .int x5] (am_w zN C p) (fun v w1 => am_At (d + 1) 24 none Post 34 [some (.ref 68), some (.int x1), some (.int x2), some (.int x3), some (.int x4), some (.int x5), o6] [.int v] w1 (0, 0))))) : am_At (d + 1) 24 none Post 19 [some (.ref 68), some (.int x1), some (.int x2), some (.int x3), some (.int x4), some (.int x5), o6] [] (am_w zN C p) (0, 0) := am_wp_ok (stops := [7, 19, 34]) am_k24 400 _ _ _ _ _ h
set_option maxRecDepth 100000 in
theorem s_R_worst_34 {zN d : Nat} {Post : Option Value → aW → Prop} {C : Nat → Nat → Int32} {p : Nat → Option Nat} {x1 x2 x3 x4 x5 y0 : Int32} {o6 : Option Value} (h : (y0 ≤ x3 → (am_At (d + 1) 24 none Post 19 [some (.ref 68), some (.int x1), some (.int x2), some (.int x3), some (.int x4), some (.int (x5 + (1 : Int32))), some (.int y0)] [] (am_w zN C p) (0, 0))) ∧ (¬ y0 ≤ x3 → (am_At (d + 1) 24 none Post 19 [some (.ref 68), some (.int x1), some (.int ((x4 * (6 : Int32)) + x5)), some (.int y0), some (.int x4), some (.int (x5 + (1 : Int32))), some (.int y0)] [] (am_w zN C p) (0, 0)))) : am_At (d + 1) 24 none Post 34 [some (.ref 68), some (.int x1), some (.int x2), some (.int x3), some (.int x4), some (.int x5), o6] [.int y0] (am_w zN C p) (0, 0) := am_wp_ok (stops := [7, 19, 34]) am_k24 400 _ _ _ _ _ h
set_option maxRecDepth 100000 in
theorem e_R_meanError {zN d : Nat} {C : Nat → Nat → Int32} {p : Nat → Option Nat} {x1 : Int32} {P : Option Value → (Nat → Nat → Int32) → (Nat → Option Nat) → Prop} (h : am_At (d + 1) 25 none (am_Ret zN P) 0 [some (.ref 68), some (.int x1), none, none, none] [] (am_w zN C p) (0, 0)) : am_Call (d + 1) 25 [.ref 68, .int x1] (am_w zN C p) (am_Ret zN P) := am_m_go (by decide +kernel) rfl rfl rfl h
set_option maxRecDepth 100000 in
theorem s_R_meanError_0 {zN d : Nat} {Post : Option Value → aW → Prop} {C : Nat → Nat → Int32} {p : Nat → Option Nat} {x1 : Int32} (h : vp_in x1 6 ∧ (am_Ci d 158 [.int (C 69 x1.toNatClampNeg)] (am_w zN C p) (fun v w1 => am_At (d + 1) 25 none Post 9 [some (.ref 68), some (.int x1), none, none, none] [.int v] w1 (0, 0)))) : am_At (d + 1) 25 none Post 0 [some (.ref 68), some (.int x1), none, none, none] [] (am_w zN C p) (0, 0) := am_wp_ok (stops := [9, 22, 36, 65]) am_k25 400 _ _ _ _ _ h
set_option maxRecDepth 100000 in
theorem s_R_meanError_9 {zN d : Nat} {Post : Option Value → aW → Prop} {C : Nat → Nat → Int32} {p : Nat → Option Nat} {x1 y0 : Int32} (h : (¬ y0 = (0 : Int32) → (am_At (d + 1) 25 none Post 22 [some (.ref 68), some (.int x1), some (.int y0), some (.int (0 : Int32)), some (.int (0 : Int32))] [] (am_w zN C p) (0, 0))) ∧ (y0 = (0 : Int32) → (Post (some (.int (-2000005 : Int32))) (am_w zN C p)))) : am_At (d + 1) 25 none Post 9 [some (.ref 68), some (.int x1), none, none, none] [.int y0] (am_w zN C p) (0, 0) := am_wp_ok (stops := [9, 22, 36, 65]) am_k25 400 _ _ _ _ _ h
set_option maxRecDepth 100000 in
theorem s_R_meanError_22 {zN d : Nat} {Post : Option Value → aW → Prop} {C : Nat → Nat → Int32} {p : Nat → Option Nat} {x1 x2 x3 x4 : Int32} (h : ((6 : Int32) ≤ x4 → (am_Ci d 159 [.int x3, .int x2] (am_w zN C p) (fun v w1 => am_At (d + 1) 25 none Post 65 [some (.ref 68), some (.int x1), some (.int x2), some (.int x3), some (.int x4)] [.int v] w1 (0, 0)))) ∧ (¬ (6 : Int32) ≤ x4 → (am_Ci d 18 [.ref 68, .int x1, .int x4] (am_w zN C p) (fun v w1 => am_At (d + 1) 25 none Post 36 [some (.ref 68), some (.int x1), some (.int x2), some (.int x3), some (.int x4)] [.int v] w1 (0, 0))))) : am_At (d + 1) 25 none Post 22 [some (.ref 68), some (.int x1), some (.int x2), some (.int x3), some (.int x4)] [] (am_w zN C p) (0, 0) := am_wp_ok (stops := [9, 22, 36, 65]) am_k25 400 _ _ _ _ _ h
set_option maxRecDepth 100000 in
theorem s_R_meanError_36 {zN d : Nat} {Post : Option Value → aW → Prop} {C : Nat → Nat → Int32} {p : Nat → Option Nat} {x1 x2 x3 x4 y0 : Int32} (h : (y0 = (0 : Int32) → (am_At (d + 1) 25 none Post 22 [some (.ref 68), some (.int x1), some (.int x2), some (.int x3), some (.int (x4 + (1 : Int32)))] [] (am_w zN C p) (0, 0))) ∧ (¬ y0 = (0 : Int32) → (vp_in ((x1 * (6 : Int32)) + x4) 36 ∧ (am_At (d + 1) 25 none Post 22 [some (.ref 68), some (.int x1), some (.int x2), some (.int (x3 + (C 71 ((x1 * (6 : Int32)) + x4).toNatClampNeg))), some (.int (x4 + (1 : Int32)))] [] (am_w zN C p) (0, 0))))) : am_At (d + 1) 25 none Post 36 [some (.ref 68), some (.int x1), some (.int x2), some (.int x3), some (.int x4)] [.int y0] (am_w zN C p) (0, 0) := am_wp_ok (stops := [9, 22, 36, 65]) am_k25 400 _ _ _ _ _ h
set_option maxRecDepth 100000 in
theorem s_R_meanError_65 {zN d : Nat} {Post : Option Value → aW → Prop} {C : Nat → Nat → Int32} {p : Nat → Option Nat} {x1 x2 x3 x4 y0 : Int32} (h : Post (some (.int y0)) (am_w zN C p)) : am_At (d + 1) 25 none Post 65 [some (.ref 68), some (.int x1), some (.int x2), some (.int x3), some (.int x4)] [.int y0] (am_w zN C p) (0, 0) := am_wp_ok (stops := [9, 22, 36, 65]) am_k25 400 _ _ _ _ _ h
set_option maxRecDepth 100000 in
theorem e_R_angleBetween {zN d : Nat} {C : Nat → Nat → Int32} {p : Nat → Option Nat} {x1 x2 : Int32} {P : Option Value → (Nat → Nat → Int32) → (Nat → Option Nat) → Prop} (h : am_At (d + 1) 26 none (am_Ret zN P) 0 [some (.ref 68), some (.int x1), some (.int x2)] [] (am_w zN C p) (0, 0)) : am_Call (d + 1) 26 [.ref 68, .int x1, .int x2] (am_w zN C p) (am_Ret zN P) := am_m_go (by decide +kernel) rfl rfl rfl h
set_option maxRecDepth 100000 in
theorem s_R_angleBetween_0 {zN d : Nat} {Post : Option Value → aW → Prop} {C : Nat → Nat → Int32} {p : Nat → Option Nat} {x1 x2 : Int32} (h : vp_in x2 6 ∧ (vp_in x1 6 ∧ (am_Ci d 160 [.int ((C 73 x2.toNatClampNeg) - (C 73 x1.toNatClampNeg)), .int (1296000 : Int32)] (am_w zN C p) (fun v w1 => am_At (d + 1) 26 none Post 18 [some (.ref 68), some (.int x1), some (.int x2)] [.int v] w1 (0, 0))))) : am_At (d + 1) 26 none Post 0 [some (.ref 68), some (.int x1), some (.int x2)] [] (am_w zN C p) (0, 0) := am_wp_ok (stops := [18]) am_k26 400 _ _ _ _ _ h
set_option maxRecDepth 100000 in
theorem s_R_angleBetween_18 {zN d : Nat} {Post : Option Value → aW → Prop} {C : Nat → Nat → Int32} {p : Nat → Option Nat} {x1 x2 y0 : Int32} (h : Post (some (.int y0)) (am_w zN C p)) : am_At (d + 1) 26 none Post 18 [some (.ref 68), some (.int x1), some (.int x2)] [.int y0] (am_w zN C p) (0, 0) := am_wp_ok (stops := [18]) am_k26 400 _ _ _ _ _ h
set_option maxRecDepth 100000 in
theorem e_R_sumOfAngles {zN d : Nat} {C : Nat → Nat → Int32} {p : Nat → Option Nat} {x1 : Int32} {P : Option Value → (Nat → Nat → Int32) → (Nat → Option Nat) → Prop} (h : am_At (d + 1) 27 none (am_Ret zN P) 0 [some (.ref 68), some (.int x1), none, none, none, none] [] (am_w zN C p) (0, 0)) : am_Call (d + 1) 27 [.ref 68, .int x1] (am_w zN C p) (am_Ret zN P) := am_m_go (by decide +kernel) rfl rfl rfl h
set_option maxRecDepth 100000 in
theorem s_R_sumOfAngles_0 {zN d : Nat} {Post : Option Value → aW → Prop} {C : Nat → Nat → Int32} {p : Nat → Option Nat} {x1 : Int32} (h : am_At (d + 1) 27 none Post 7 [some (.ref 68), some (.int x1), some (.int (0 : Int32)), some (.int (0 : Int32)), some (.int (0 : Int32)), none] [] (am_w zN C p) (0, 0)) : am_At (d + 1) 27 none Post 0 [some (.ref 68), some (.int x1), none, none, none, none] [] (am_w zN C p) (0, 0) := am_wp_ok (stops := [7, 24, 42]) am_k27 400 _ _ _ _ _ h
set_option maxRecDepth 100000 in
theorem s_R_sumOfAngles_7 {zN d : Nat} {Post : Option Value → aW → Prop} {C : Nat → Nat → Int32} {p : Nat → Option Nat} {x1 x2 x3 x4 : Int32} {o5 : Option Value} (h : ((6 : Int32) ≤ x4 → (Post (some (.int x2)) (am_w zN C p))) ∧ (¬ (6 : Int32) ≤ x4 → ((x3 = x1 → (Post (some (.int x2)) (am_w zN C p))) ∧ (¬ x3 = x1 → (am_Ci d 28 [.ref 68, .int x3] (am_w zN C p) (fun v w1 => am_At (d + 1) 27 none Post 24 [some (.ref 68), some (.int x1), some (.int x2), some (.int x3), some (.int x4), o5] [.int v] w1 (0, 0))))))) : am_At (d + 1) 27 none Post 7 [some (.ref 68), some (.int x1), some (.int x2), some (.int x3), some (.int x4), o5] [] (am_w zN C p) (0, 0) := am_wp_ok (stops := [7, 24, 42]) am_k27 400 _ _ _ _ _ h
set_option maxRecDepth 100000 in
theorem s_R_sumOfAngles_24 {zN d : Nat} {Post : Option Value → aW → Prop} {C : Nat → Nat → Int32} {p : Nat → Option Nat} {x1 x2 x3 x4 y0 : Int32} {o5 : Option Value} (h : (¬ y0 = (-1 : Int32) → (am_Ci d 26 [.ref 68, .int x3, .int y0] (am_w zN C p) (fun v w1 => am_At (d + 1) 27 none Post 42 [some (.ref 68), some (.int x1), some (.int x2), some (.int x3), some (.int x4), some (.int y0)] [.int v, .int x2] w1 (0, 0)))) ∧ (y0 = (-1 : Int32) → (Post (some (.int x2)) (am_w zN C p)))) : am_At (d + 1) 27 none Post 24 [some (.ref 68), some (.int x1), some (.int x2), some (.int x3), some (.int x4), o5] [.int y0] (am_w zN C p) (0, 0) := am_wp_ok (stops := [7, 24, 42]) am_k27 400 _ _ _ _ _ h
set_option maxRecDepth 100000 in
theorem s_R_sumOfAngles_42 {zN d : Nat} {Post : Option Value → aW → Prop} {C : Nat → Nat → Int32} {p : Nat → Option Nat} {x1 x2 x3 x4 x5 y0 y1 : Int32} (h : am_At (d + 1) 27 none Post 7 [some (.ref 68), some (.int x1), some (.int (y0 + y1)), some (.int x5), some (.int (x4 + (1 : Int32))), some (.int x5)] [] (am_w zN C p) (0, 0)) : am_At (d + 1) 27 none Post 42 [some (.ref 68), some (.int x1), some (.int x2), some (.int x3), some (.int x4), some (.int x5)] [.int y1, .int y0] (am_w zN C p) (0, 0) := am_wp_ok (stops := [7, 24, 42]) am_k27 400 _ _ _ _ _ h
set_option maxRecDepth 100000 in
theorem e_R_neighbour {zN d : Nat} {C : Nat → Nat → Int32} {p : Nat → Option Nat} {x1 : Int32} {P : Option Value → (Nat → Nat → Int32) → (Nat → Option Nat) → Prop} (h : am_At (d + 1) 28 none (am_Ret zN P) 0 [some (.ref 68), some (.int x1), none, none, none] [] (am_w zN C p) (0, 0)) : am_Call (d + 1) 28 [.ref 68, .int x1] (am_w zN C p) (am_Ret zN P) := am_m_go (by decide +kernel) rfl rfl rfl h
set_option maxRecDepth 100000 in
theorem s_R_neighbour_0 {zN d : Nat} {Post : Option Value → aW → Prop} {C : Nat → Nat → Int32} {p : Nat → Option Nat} {x1 : Int32} (h : am_At (d + 1) 28 none Post 4 [some (.ref 68), some (.int x1), some (.int (-1 : Int32)), some (.int (0 : Int32)), none] [] (am_w zN C p) (0, 0)) : am_At (d + 1) 28 none Post 0 [some (.ref 68), some (.int x1), none, none, none] [] (am_w zN C p) (0, 0) := am_wp_ok (stops := [4, 15, 24, 31, 32]) am_k28 400 _ _ _ _ _ h
set_option maxRecDepth 100000 in
theorem s_R_neighbour_4 {zN d : Nat} {Post : Option Value → aW → Prop} {C : Nat → Nat → Int32} {p : Nat → Option Nat} {x1 x2 x3 : Int32} {o4 : Option Value} (h : ((6 : Int32) ≤ x3 → (Post (some (.int x2)) (am_w zN C p))) ∧ (¬ (6 : Int32) ≤ x3 → (am_Ci d 19 [.ref 68, .int x3] (am_w zN C p) (fun v w1 => am_At (d + 1) 28 none Post 15 [some (.ref 68), some (.int x1), some (.int x2), some (.int x3), o4] [.int v] w1 (0, 0))))) : am_At (d + 1) 28 none Post 4 [some (.ref 68), some (.int x1), some (.int x2), some (.int x3), o4] [] (am_w zN C p) (0, 0) := am_wp_ok (stops := [4, 15, 24, 31, 32]) am_k28 400 _ _ _ _ _ h
set_option maxRecDepth 100000 in
theorem s_R_neighbour_15 {zN d : Nat} {Post : Option Value → aW → Prop} {C : Nat → Nat → Int32} {p : Nat → Option Nat} {x1 x2 x3 y0 : Int32} {o4 : Option Value} (h : (y0 = (0 : Int32) → (am_At (d + 1) 28 none Post 31 [some (.ref 68), some (.int x1), some (.int x2), some (.int x3), o4] [] (am_w zN C p) (0, 0))) ∧ (¬ y0 = (0 : Int32) → (am_Ci d 29 [.ref 68, .int x3, .int x1] (am_w zN C p) (fun v w1 => am_At (d + 1) 28 none Post 24 [some (.ref 68), some (.int x1), some (.int x2), some (.int x3), o4] [.int v] w1 (0, 0))))) : am_At (d + 1) 28 none Post 15 [some (.ref 68), some (.int x1), some (.int x2), some (.int x3), o4] [.int y0] (am_w zN C p) (0, 0) := am_wp_ok (stops := [4, 15, 24, 31, 32]) am_k28 400 _ _ _ _ _ h
set_option maxRecDepth 100000 in
theorem s_R_neighbour_24 {zN d : Nat} {Post : Option Value → aW → Prop} {C : Nat → Nat → Int32} {p : Nat → Option Nat} {x1 x2 x3 y0 : Int32} {o4 : Option Value} (h : (y0 = (0 : Int32) → (am_At (d + 1) 28 none Post 31 [some (.ref 68), some (.int x1), some (.int x2), some (.int x3), o4] [] (am_w zN C p) (0, 0))) ∧ (¬ y0 = (0 : Int32) → (am_At (d + 1) 28 none Post 32 [some (.ref 68), some (.int x1), some (.int x2), some (.int x3), o4] [.int (1 : Int32)] (am_w zN C p) (0, 0)))) : am_At (d + 1) 28 none Post 24 [some (.ref 68), some (.int x1), some (.int x2), some (.int x3), o4] [.int y0] (am_w zN C p) (0, 0) := am_wp_ok (stops := [4, 15, 24, 31, 32]) am_k28 400 _ _ _ _ _ h
set_option maxRecDepth 100000 in
theorem s_R_neighbour_31 {zN d : Nat} {Post : Option Value → aW → Prop} {C : Nat → Nat → Int32} {p : Nat → Option Nat} {x1 x2 x3 : Int32} {o4 : Option Value} (h : am_At (d + 1) 28 none Post 32 [some (.ref 68), some (.int x1), some (.int x2), some (.int x3), o4] [.int (0 : Int32)] (am_w zN C p) (0, 0)) : am_At (d + 1) 28 none Post 31 [some (.ref 68), some (.int x1), some (.int x2), some (.int x3), o4] [] (am_w zN C p) (0, 0) := am_wp_ok (stops := [4, 15, 24, 31, 32]) am_k28 400 _ _ _ _ _ h
set_option maxRecDepth 100000 in
theorem s_R_neighbour_32 {zN d : Nat} {Post : Option Value → aW → Prop} {C : Nat → Nat → Int32} {p : Nat → Option Nat} {x1 x2 x3 y0 : Int32} {o4 : Option Value} (h : (y0 = (0 : Int32) → (am_At (d + 1) 28 none Post 4 [some (.ref 68), some (.int x1), some (.int x2), some (.int (x3 + (1 : Int32))), some (.int y0)] [] (am_w zN C p) (0, 0))) ∧ (¬ y0 = (0 : Int32) → ((x2 = (-1 : Int32) → (am_At (d + 1) 28 none Post 4 [some (.ref 68), some (.int x1), some (.int x3), some (.int (x3 + (1 : Int32))), some (.int y0)] [] (am_w zN C p) (0, 0))) ∧ (¬ x2 = (-1 : Int32) → (vp_in x3 6 ∧ (vp_in x2 6 ∧ (((C 73 x2.toNatClampNeg) ≤ (C 73 x3.toNatClampNeg) → (am_At (d + 1) 28 none Post 4 [some (.ref 68), some (.int x1), some (.int x2), some (.int (x3 + (1 : Int32))), some (.int y0)] [] (am_w zN C p) (0, 0))) ∧ (¬ (C 73 x2.toNatClampNeg) ≤ (C 73 x3.toNatClampNeg) → (am_At (d + 1) 28 none Post 4 [some (.ref 68), some (.int x1), some (.int x3), some (.int (x3 + (1 : Int32))), some (.int y0)] [] (am_w zN C p) (0, 0)))))))))) : am_At (d + 1) 28 none Post 32 [some (.ref 68), some (.int x1), some (.int x2), some (.int x3), o4] [.int y0] (am_w zN C p) (0, 0) := am_wp_ok (stops := [4, 15, 24, 31, 32]) am_k28 400 _ _ _ _ _ h
set_option maxRecDepth 100000 in
theorem e_R_isBehind {zN d : Nat} {C : Nat → Nat → Int32} {p : Nat → Option Nat} {x1 x2 : Int32} {P : Option Value → (Nat → Nat → Int32) → (Nat → Option Nat) → Prop} (h : am_At (d + 1) 29 none (am_Ret zN P) 0 [some (.ref 68), some (.int x1), some (.int x2)] [] (am_w zN C p) (0, 0)) : am_Call (d + 1) 29 [.ref 68, .int x1, .int x2] (am_w zN C p) (am_Ret zN P) := am_m_go (by decide +kernel) rfl rfl rfl h
set_option maxRecDepth 100000 in
theorem s_R_isBehind_0 {zN d : Nat} {Post : Option Value → aW → Prop} {C : Nat → Nat → Int32} {p : Nat → Option Nat} {x1 x2 : Int32} (h : vp_in x1 6 ∧ (vp_in x2 6 ∧ ((¬ (C 73 x1.toNatClampNeg) = (C 73 x2.toNatClampNeg) → (vp_in x1 6 ∧ (vp_in x2 6 ∧ (((C 73 x1.toNatClampNeg) ≤ (C 73 x2.toNatClampNeg) → (((0 : Int32) = 0 ∨ (0 : Int32) = 1) ∧ Post (some (.int (0 : Int32))) (am_w zN C p))) ∧ (¬ (C 73 x1.toNatClampNeg) ≤ (C 73 x2.toNatClampNeg) → (((1 : Int32) = 0 ∨ (1 : Int32) = 1) ∧ Post (some (.int (1 : Int32))) (am_w zN C p))))))) ∧ ((C 73 x1.toNatClampNeg) = (C 73 x2.toNatClampNeg) → ((x1 ≤ x2 → (((0 : Int32) = 0 ∨ (0 : Int32) = 1) ∧ Post (some (.int (0 : Int32))) (am_w zN C p))) ∧ (¬ x1 ≤ x2 → (((1 : Int32) = 0 ∨ (1 : Int32) = 1) ∧ Post (some (.int (1 : Int32))) (am_w zN C p)))))))) : am_At (d + 1) 29 none Post 0 [some (.ref 68), some (.int x1), some (.int x2)] [] (am_w zN C p) (0, 0) := am_wp_ok (stops := []) am_k29 400 _ _ _ _ _ h
end
section
set_option maxRecDepth 100000 in
theorem e_F_setUp {zN d : Nat} {C : Nat → Nat → Int32} {p : Nat → Option Nat} {P : Option Value → (Nat → Nat → Int32) → (Nat → Option Nat) → Prop} (h : am_At (d + 1) 51 none (am_Ret zN P) 0 [some (.ref 0)] [] (am_w zN C p) (0, 0)) : am_Call (d + 1) 51 [.ref 0] (am_w zN C p) (am_Ret zN P) := am_m_go (by decide +kernel) rfl rfl rfl h
set_option maxRecDepth 100000 in
theorem s_F_setUp_0 {zN d : Nat} {Post : Option Value → aW → Prop} {C : Nat → Nat → Int32} {p : Nat → Option Nat} (h : ((C 1 0) < (4 : Int32) → (am_Cv d 1 [.ref 21, .ref 1] (am_w zN C p) (fun w1 => am_At (d + 1) 51 none Post 25 [some (.ref 0)] [] w1 (0, 0)))) ∧ (¬ (C 1 0) < (4 : Int32) → (Post (some (.int (-2000003 : Int32))) (am_w zN C p)))) : am_At (d + 1) 51 none Post 0 [some (.ref 0)] [] (am_w zN C p) (0, 0) := am_wp_ok (stops := [25]) am_k51 400 _ _ _ _ _ h
set_option maxRecDepth 100000 in
theorem s_F_setUp_25 {zN d : Nat} {Post : Option Value → aW → Prop} {C : Nat → Nat → Int32} {p : Nat → Option Nat} (h : Post (some (.int (((am_u2 C 1 0 ((C 1 0) + (1 : Int32))) 1 0) - (1 : Int32)))) (am_w zN (am_u2 C 1 0 ((C 1 0) + (1 : Int32))) p)) : am_At (d + 1) 51 none Post 25 [some (.ref 0)] [] (am_w zN C p) (0, 0) := am_wp_ok (stops := [25]) am_k51 400 _ _ _ _ _ h
set_option maxRecDepth 100000 in
theorem e_F_begin {zN d : Nat} {C : Nat → Nat → Int32} {p : Nat → Option Nat} {x1 : Int32} {P : Option Value → (Nat → Nat → Int32) → (Nat → Option Nat) → Prop} (h : am_At (d + 1) 52 none (am_Ret zN P) 0 [some (.ref 0), some (.int x1)] [] (am_w zN C p) (0, 0)) : am_Call (d + 1) 52 [.ref 0, .int x1] (am_w zN C p) (am_Ret zN P) := am_m_go (by decide +kernel) rfl rfl rfl h
set_option maxRecDepth 100000 in
theorem s_F_begin_0 {zN d : Nat} {Post : Option Value → aW → Prop} {C : Nat → Nat → Int32} {p : Nat → Option Nat} {x1 : Int32} (h : am_Ci d 32 [.ref 1, .int x1] (am_w zN C p) (fun v w1 => am_At (d + 1) 52 none Post 8 [some (.ref 0), some (.int x1)] [.int v] w1 (0, 0))) : am_At (d + 1) 52 none Post 0 [some (.ref 0), some (.int x1)] [] (am_w zN C p) (0, 0) := am_wp_ok (stops := [8, 42]) am_k52 400 _ _ _ _ _ h
set_option maxRecDepth 100000 in
theorem s_F_begin_8 {zN d : Nat} {Post : Option Value → aW → Prop} {C : Nat → Nat → Int32} {p : Nat → Option Nat} {x1 y0 : Int32} (h : (¬ y0 = (0 : Int32) → (vp_in x1 4 ∧ (((C 2 x1.toNatClampNeg) < (6 : Int32) → (am_Cv d 1 [.ref 21, .ref 1] (am_w zN C p) (fun w1 => am_At (d + 1) 52 none Post 42 [some (.ref 0), some (.int x1)] [] w1 (0, 0)))) ∧ (¬ (C 2 x1.toNatClampNeg) < (6 : Int32) → (Post (some (.int (-2000003 : Int32))) (am_w zN C p)))))) ∧ (y0 = (0 : Int32) → (Post (some (.int (-2000001 : Int32))) (am_w zN C p)))) : am_At (d + 1) 52 none Post 8 [some (.ref 0), some (.int x1)] [.int y0] (am_w zN C p) (0, 0) := am_wp_ok (stops := [8, 42]) am_k52 400 _ _ _ _ _ h
set_option maxRecDepth 100000 in
theorem s_F_begin_42 {zN d : Nat} {Post : Option Value → aW → Prop} {C : Nat → Nat → Int32} {p : Nat → Option Nat} {x1 : Int32} (h : vp_in x1 4 ∧ (vp_in x1 4 ∧ (vp_in x1 4 ∧ (Post (some (.int (((am_u2 C 2 x1.toNatClampNeg ((C 2 x1.toNatClampNeg) + (1 : Int32))) 2 x1.toNatClampNeg) - (1 : Int32)))) (am_w zN (am_u2 C 2 x1.toNatClampNeg ((C 2 x1.toNatClampNeg) + (1 : Int32))) p))))) : am_At (d + 1) 52 none Post 42 [some (.ref 0), some (.int x1)] [] (am_w zN C p) (0, 0) := am_wp_ok (stops := [8, 42]) am_k52 400 _ _ _ _ _ h
set_option maxRecDepth 100000 in
theorem e_F_point {zN d : Nat} {C : Nat → Nat → Int32} {p : Nat → Option Nat} {x1 x2 x3 x4 x5 : Int32} {P : Option Value → (Nat → Nat → Int32) → (Nat → Option Nat) → Prop} (h : am_At (d + 1) 53 none (am_Ret zN P) 0 [some (.ref 0), some (.int x1), some (.int x2), some (.int x3), some (.int x4), some (.int x5), none] [] (am_w zN C p) (0, 0)) : am_Call (d + 1) 53 [.ref 0, .int x1, .int x2, .int x3, .int x4, .int x5] (am_w zN C p) (am_Ret zN P) := am_m_go (by decide +kernel) rfl rfl rfl h
set_option maxRecDepth 100000 in
theorem s_F_point_0 {zN d : Nat} {Post : Option Value → aW → Prop} {C : Nat → Nat → Int32} {p : Nat → Option Nat} {x1 x2 x3 x4 x5 : Int32} (h : am_Ci d 33 [.ref 1, .int x1, .int x2] (am_w zN C p) (fun v w1 => am_At (d + 1) 53 none Post 9 [some (.ref 0), some (.int x1), some (.int x2), some (.int x3), some (.int x4), some (.int x5), none] [.int v] w1 (0, 0))) : am_At (d + 1) 53 none Post 0 [some (.ref 0), some (.int x1), some (.int x2), some (.int x3), some (.int x4), some (.int x5), none] [] (am_w zN C p) (0, 0) := am_wp_ok (stops := [9, 16, 27, 35, 48, 60, 77, 89]) am_k53 400 _ _ _ _ _ h
set_option maxRecDepth 100000 in
theorem s_F_point_9 {zN d : Nat} {Post : Option Value → aW → Prop} {C : Nat → Nat → Int32} {p : Nat → Option Nat} {x1 x2 x3 x4 x5 y0 : Int32} (h : (y0 = (0 : Int32) → (Post (some (.int (-2000001 : Int32))) (am_w zN C p))) ∧ (¬ y0 = (0 : Int32) → (am_Ci d 75 [.int x3] (am_w zN C p) (fun v w1 => am_At (d + 1) 53 none Post 16 [some (.ref 0), some (.int x1), some (.int x2), some (.int x3), some (.int x4), some (.int x5), none] [.int v] w1 (0, 0))))) : am_At (d + 1) 53 none Post 9 [some (.ref 0), some (.int x1), some (.int x2), some (.int x3), some (.int x4), some (.int x5), none] [.int y0] (am_w zN C p) (0, 0) := am_wp_ok (stops := [9, 16, 27, 35, 48, 60, 77, 89]) am_k53 400 _ _ _ _ _ h
set_option maxRecDepth 100000 in
theorem s_F_point_16 {zN d : Nat} {Post : Option Value → aW → Prop} {C : Nat → Nat → Int32} {p : Nat → Option Nat} {x1 x2 x3 x4 x5 y0 : Int32} (h : (¬ y0 = (0 : Int32) → (am_Ci d 76 [.int x4] (am_w zN C p) (fun v w1 => am_At (d + 1) 53 none Post 27 [some (.ref 0), some (.int x1), some (.int x2), some (.int x3), some (.int x4), some (.int x5), none] [.int v] w1 (0, 0)))) ∧ (y0 = (0 : Int32) → (Post (some (.int (-2000001 : Int32))) (am_w zN C p)))) : am_At (d + 1) 53 none Post 16 [some (.ref 0), some (.int x1), some (.int x2), some (.int x3), some (.int x4), some (.int x5), none] [.int y0] (am_w zN C p) (0, 0) := am_wp_ok (stops := [9, 16, 27, 35, 48, 60, 77, 89]) am_k53 400 _ _ _ _ _ h
set_option maxRecDepth 100000 in
theorem s_F_point_27 {zN d : Nat} {Post : Option Value → aW → Prop} {C : Nat → Nat → Int32} {p : Nat → Option Nat} {x1 x2 x3 x4 x5 y0 : Int32} (h : (y0 = (0 : Int32) → (Post (some (.int (-2000002 : Int32))) (am_w zN C p))) ∧ (¬ y0 = (0 : Int32) → (am_Ci d 77 [.int x5] (am_w zN C p) (fun v w1 => am_At (d + 1) 53 none Post 35 [some (.ref 0), some (.int x1), some (.int x2), some (.int x3), some (.int x4), some (.int x5), none] [.int v] w1 (0, 0))))) : am_At (d + 1) 53 none Post 27 [some (.ref 0), some (.int x1), some (.int x2), some (.int x3), some (.int x4), some (.int x5), none] [.int y0] (am_w zN C p) (0, 0) := am_wp_ok (stops := [9, 16, 27, 35, 48, 60, 77, 89]) am_k53 400 _ _ _ _ _ h
set_option maxRecDepth 100000 in
theorem s_F_point_35 {zN d : Nat} {Post : Option Value → aW → Prop} {C : Nat → Nat → Int32} {p : Nat → Option Nat} {x1 x2 x3 x4 x5 y0 : Int32} (h : (¬ y0 = (0 : Int32) → (am_Ci d 78 [.int x1, .int x2, .int x4] (am_w zN C p) (fun v w1 => am_At (d + 1) 53 none Post 48 [some (.ref 0), some (.int x1), some (.int x2), some (.int x3), some (.int x4), some (.int x5), none] [.int v] w1 (0, 0)))) ∧ (y0 = (0 : Int32) → (Post (some (.int (-2000002 : Int32))) (am_w zN C p)))) : am_At (d + 1) 53 none Post 35 [some (.ref 0), some (.int x1), some (.int x2), some (.int x3), some (.int x4), some (.int x5), none] [.int y0] (am_w zN C p) (0, 0) := am_wp_ok (stops := [9, 16, 27, 35, 48, 60, 77, 89]) am_k53 400 _ _ _ _ _ h
set_option maxRecDepth 100000 in
theorem s_F_point_48 {zN d : Nat} {Post : Option Value → aW → Prop} {C : Nat → Nat → Int32} {p : Nat → Option Nat} {x1 x2 x3 x4 x5 y0 : Int32} (h : am_Ci d 36 [.ref 1, .int y0, .int x3] (am_w zN C p) (fun v w1 => am_At (d + 1) 53 none Post 60 [some (.ref 0), some (.int x1), some (.int x2), some (.int x3), some (.int x4), some (.int x5), some (.int y0)] [.int v] w1 (0, 0))) : am_At (d + 1) 53 none Post 48 [some (.ref 0), some (.int x1), some (.int x2), some (.int x3), some (.int x4), some (.int x5), none] [.int y0] (am_w zN C p) (0, 0) := am_wp_ok (stops := [9, 16, 27, 35, 48, 60, 77, 89]) am_k53 400 _ _ _ _ _ h
set_option maxRecDepth 100000 in
theorem s_F_point_60 {zN d : Nat} {Post : Option Value → aW → Prop} {C : Nat → Nat → Int32} {p : Nat → Option Nat} {x1 x2 x3 x4 x5 x6 y0 : Int32} (h : (¬ y0 = (0 : Int32) → (am_Cv d 1 [.ref 21, .ref 1] (am_w zN C p) (fun w1 => am_At (d + 1) 53 none Post 77 [some (.ref 0), some (.int x1), some (.int x2), some (.int x3), some (.int x4), some (.int x5), some (.int x6)] [] w1 (0, 0)))) ∧ (y0 = (0 : Int32) → (Post (some (.int (-2000004 : Int32))) (am_w zN C p)))) : am_At (d + 1) 53 none Post 60 [some (.ref 0), some (.int x1), some (.int x2), some (.int x3), some (.int x4), some (.int x5), some (.int x6)] [.int y0] (am_w zN C p) (0, 0) := am_wp_ok (stops := [9, 16, 27, 35, 48, 60, 77, 89]) am_k53 400 _ _ _ _ _ h
set_option maxRecDepth 100000 in
theorem s_F_point_77 {zN d : Nat} {Post : Option Value → aW → Prop} {C : Nat → Nat → Int32} {p : Nat → Option Nat} {x1 x2 x3 x4 x5 x6 : Int32} (h : am_Cv d 37 [.ref 1, .int x6, .int x3, .int x5] (am_w zN C p) (fun w1 => am_At (d + 1) 53 none Post 89 [some (.ref 0), some (.int x1), some (.int x2), some (.int x3), some (.int x4), some (.int x5), some (.int x6)] [] w1 (0, 0))) : am_At (d + 1) 53 none Post 77 [some (.ref 0), some (.int x1), some (.int x2), some (.int x3), some (.int x4), some (.int x5), some (.int x6)] [] (am_w zN C p) (0, 0) := am_wp_ok (stops := [9, 16, 27, 35, 48, 60, 77, 89]) am_k53 400 _ _ _ _ _ h
set_option maxRecDepth 100000 in
theorem s_F_point_89 {zN d : Nat} {Post : Option Value → aW → Prop} {C : Nat → Nat → Int32} {p : Nat → Option Nat} {x1 x2 x3 x4 x5 x6 : Int32} (h : vp_in x6 48 ∧ (Post (some (.int (C 6 x6.toNatClampNeg))) (am_w zN C p))) : am_At (d + 1) 53 none Post 89 [some (.ref 0), some (.int x1), some (.int x2), some (.int x3), some (.int x4), some (.int x5), some (.int x6)] [] (am_w zN C p) (0, 0) := am_wp_ok (stops := [9, 16, 27, 35, 48, 60, 77, 89]) am_k53 400 _ _ _ _ _ h
set_option maxRecDepth 100000 in
theorem e_F_close {zN d : Nat} {C : Nat → Nat → Int32} {p : Nat → Option Nat} {x1 x2 x3 x4 : Int32} {P : Option Value → (Nat → Nat → Int32) → (Nat → Option Nat) → Prop} (h : am_At (d + 1) 55 none (am_Ret zN P) 0 [some (.ref 0), some (.int x1), some (.int x2), some (.int x3), some (.int x4), none] [] (am_w zN C p) (0, 0)) : am_Call (d + 1) 55 [.ref 0, .int x1, .int x2, .int x3, .int x4] (am_w zN C p) (am_Ret zN P) := am_m_go (by decide +kernel) rfl rfl rfl h
set_option maxRecDepth 100000 in
theorem s_F_close_0 {zN d : Nat} {Post : Option Value → aW → Prop} {C : Nat → Nat → Int32} {p : Nat → Option Nat} {x1 x2 x3 x4 : Int32} (h : am_Ci d 33 [.ref 1, .int x1, .int x2] (am_w zN C p) (fun v w1 => am_At (d + 1) 55 none Post 9 [some (.ref 0), some (.int x1), some (.int x2), some (.int x3), some (.int x4), none] [.int v] w1 (0, 0))) : am_At (d + 1) 55 none Post 0 [some (.ref 0), some (.int x1), some (.int x2), some (.int x3), some (.int x4), none] [] (am_w zN C p) (0, 0) := am_wp_ok (stops := [9, 19, 27, 39, 50, 80, 101]) am_k55 400 _ _ _ _ _ h
set_option maxRecDepth 100000 in
theorem s_F_close_9 {zN d : Nat} {Post : Option Value → aW → Prop} {C : Nat → Nat → Int32} {p : Nat → Option Nat} {x1 x2 x3 x4 y0 : Int32} (h : (¬ y0 = (0 : Int32) → (am_Ci d 76 [.int x3] (am_w zN C p) (fun v w1 => am_At (d + 1) 55 none Post 19 [some (.ref 0), some (.int x1), some (.int x2), some (.int x3), some (.int x4), none] [.int v] w1 (0, 0)))) ∧ (y0 = (0 : Int32) → (Post (some (.int (-2000001 : Int32))) (am_w zN C p)))) : am_At (d + 1) 55 none Post 9 [some (.ref 0), some (.int x1), some (.int x2), some (.int x3), some (.int x4), none] [.int y0] (am_w zN C p) (0, 0) := am_wp_ok (stops := [9, 19, 27, 39, 50, 80, 101]) am_k55 400 _ _ _ _ _ h
set_option maxRecDepth 100000 in
theorem s_F_close_19 {zN d : Nat} {Post : Option Value → aW → Prop} {C : Nat → Nat → Int32} {p : Nat → Option Nat} {x1 x2 x3 x4 y0 : Int32} (h : (y0 = (0 : Int32) → (Post (some (.int (-2000002 : Int32))) (am_w zN C p))) ∧ (¬ y0 = (0 : Int32) → (am_Ci d 77 [.int x4] (am_w zN C p) (fun v w1 => am_At (d + 1) 55 none Post 27 [some (.ref 0), some (.int x1), some (.int x2), some (.int x3), some (.int x4), none] [.int v] w1 (0, 0))))) : am_At (d + 1) 55 none Post 19 [some (.ref 0), some (.int x1), some (.int x2), some (.int x3), some (.int x4), none] [.int y0] (am_w zN C p) (0, 0) := am_wp_ok (stops := [9, 19, 27, 39, 50, 80, 101]) am_k55 400 _ _ _ _ _ h
set_option maxRecDepth 100000 in
theorem s_F_close_27 {zN d : Nat} {Post : Option Value → aW → Prop} {C : Nat → Nat → Int32} {p : Nat → Option Nat} {x1 x2 x3 x4 y0 : Int32} (h : (¬ y0 = (0 : Int32) → (am_Ci d 78 [.int x1, .int x2, .int x3] (am_w zN C p) (fun v w1 => am_At (d + 1) 55 none Post 39 [some (.ref 0), some (.int x1), some (.int x2), some (.int x3), some (.int x4), none] [.int v] w1 (0, 0)))) ∧ (y0 = (0 : Int32) → (Post (some (.int (-2000002 : Int32))) (am_w zN C p)))) : am_At (d + 1) 55 none Post 27 [some (.ref 0), some (.int x1), some (.int x2), some (.int x3), some (.int x4), none] [.int y0] (am_w zN C p) (0, 0) := am_wp_ok (stops := [9, 19, 27, 39, 50, 80, 101]) am_k55 400 _ _ _ _ _ h
set_option maxRecDepth 100000 in
theorem s_F_close_39 {zN d : Nat} {Post : Option Value → aW → Prop} {C : Nat → Nat → Int32} {p : Nat → Option Nat} {x1 x2 x3 x4 y0 : Int32} (h : am_Ci d 34 [.ref 1, .int y0] (am_w zN C p) (fun v w1 => am_At (d + 1) 55 none Post 50 [some (.ref 0), some (.int x1), some (.int x2), some (.int x3), some (.int x4), some (.int y0)] [.int v] w1 (0, 0))) : am_At (d + 1) 55 none Post 39 [some (.ref 0), some (.int x1), some (.int x2), some (.int x3), some (.int x4), none] [.int y0] (am_w zN C p) (0, 0) := am_wp_ok (stops := [9, 19, 27, 39, 50, 80, 101]) am_k55 400 _ _ _ _ _ h
set_option maxRecDepth 100000 in
theorem s_F_close_50 {zN d : Nat} {Post : Option Value → aW → Prop} {C : Nat → Nat → Int32} {p : Nat → Option Nat} {x1 x2 x3 x4 x5 y0 : Int32} (h : (¬ y0 = (0 : Int32) → (Post (some (.int (-2000004 : Int32))) (am_w zN C p))) ∧ (y0 = (0 : Int32) → (vp_in x5 48 ∧ ((¬ (C 6 x5.toNatClampNeg) = (0 : Int32) → (am_Cv d 1 [.ref 21, .ref 1] (am_w zN C p) (fun w1 => am_At (d + 1) 55 none Post 80 [some (.ref 0), some (.int x1), some (.int x2), some (.int x3), some (.int x4), some (.int x5)] [] w1 (0, 0)))) ∧ ((C 6 x5.toNatClampNeg) = (0 : Int32) → (Post (some (.int (-2000004 : Int32))) (am_w zN C p))))))) : am_At (d + 1) 55 none Post 50 [some (.ref 0), some (.int x1), some (.int x2), some (.int x3), some (.int x4), some (.int x5)] [.int y0] (am_w zN C p) (0, 0) := am_wp_ok (stops := [9, 19, 27, 39, 50, 80, 101]) am_k55 400 _ _ _ _ _ h
set_option maxRecDepth 100000 in
theorem s_F_close_80 {zN d : Nat} {Post : Option Value → aW → Prop} {C : Nat → Nat → Int32} {p : Nat → Option Nat} {x1 x2 x3 x4 x5 : Int32} (h : vp_in x5 48 ∧ (am_Ci d 40 [.ref 1, .int x5] (am_w zN (am_u2 C 7 x5.toNatClampNeg x4) p) (fun v w1 => am_At (d + 1) 55 none Post 101 [some (.ref 0), some (.int x1), some (.int x2), some (.int x3), some (.int x4), some (.int x5)] [.int v] w1 (0, 0)))) : am_At (d + 1) 55 none Post 80 [some (.ref 0), some (.int x1), some (.int x2), some (.int x3), some (.int x4), some (.int x5)] [] (am_w zN C p) (0, 0) := am_wp_ok (stops := [9, 19, 27, 39, 50, 80, 101]) am_k55 400 _ _ _ _ _ h
set_option maxRecDepth 100000 in
theorem s_F_close_101 {zN d : Nat} {Post : Option Value → aW → Prop} {C : Nat → Nat → Int32} {p : Nat → Option Nat} {x1 x2 x3 x4 x5 y0 : Int32} (h : Post (some (.int y0)) (am_w zN C p)) : am_At (d + 1) 55 none Post 101 [some (.ref 0), some (.int x1), some (.int x2), some (.int x3), some (.int x4), some (.int x5)] [.int y0] (am_w zN C p) (0, 0) := am_wp_ok (stops := [9, 19, 27, 39, 50, 80, 101]) am_k55 400 _ _ _ _ _ h
set_option maxRecDepth 100000 in
theorem e_F_strike {zN d : Nat} {C : Nat → Nat → Int32} {p : Nat → Option Nat} {x1 x2 x3 x4 x5 : Int32} {P : Option Value → (Nat → Nat → Int32) → (Nat → Option Nat) → Prop} (h : am_At (d + 1) 56 none (am_Ret zN P) 0 [some (.ref 0), some (.int x1), some (.int x2), some (.int x3), some (.int x4), some (.int x5), none, none] [] (am_w zN C p) (0, 0)) : am_Call (d + 1) 56 [.ref 0, .int x1, .int x2, .int x3, .int x4, .int x5] (am_w zN C p) (am_Ret zN P) := am_m_go (by decide +kernel) rfl rfl rfl h
set_option maxRecDepth 100000 in
theorem s_F_strike_0 {zN d : Nat} {Post : Option Value → aW → Prop} {C : Nat → Nat → Int32} {p : Nat → Option Nat} {x1 x2 x3 x4 x5 : Int32} (h : am_Ci d 33 [.ref 1, .int x1, .int x2] (am_w zN C p) (fun v w1 => am_At (d + 1) 56 none Post 9 [some (.ref 0), some (.int x1), some (.int x2), some (.int x3), some (.int x4), some (.int x5), none, none] [.int v] w1 (0, 0))) : am_At (d + 1) 56 none Post 0 [some (.ref 0), some (.int x1), some (.int x2), some (.int x3), some (.int x4), some (.int x5), none, none] [] (am_w zN C p) (0, 0) := am_wp_ok (stops := [9, 20, 33, 45, 91, 118]) am_k56 400 _ _ _ _ _ h
set_option maxRecDepth 100000 in
theorem s_F_strike_9 {zN d : Nat} {Post : Option Value → aW → Prop} {C : Nat → Nat → Int32} {p : Nat → Option Nat} {x1 x2 x3 x4 x5 y0 : Int32} (h : (¬ y0 = (0 : Int32) → (am_Ci d 76 [.int x4] (am_w zN C p) (fun v w1 => am_At (d + 1) 56 none Post 20 [some (.ref 0), some (.int x1), some (.int x2), some (.int x3), some (.int x4), some (.int x5), none, none] [.int v] w1 (0, 0)))) ∧ (y0 = (0 : Int32) → (Post (some (.int (-2000001 : Int32))) (am_w zN C p)))) : am_At (d + 1) 56 none Post 9 [some (.ref 0), some (.int x1), some (.int x2), some (.int x3), some (.int x4), some (.int x5), none, none] [.int y0] (am_w zN C p) (0, 0) := am_wp_ok (stops := [9, 20, 33, 45, 91, 118]) am_k56 400 _ _ _ _ _ h
set_option maxRecDepth 100000 in
theorem s_F_strike_20 {zN d : Nat} {Post : Option Value → aW → Prop} {C : Nat → Nat → Int32} {p : Nat → Option Nat} {x1 x2 x3 x4 x5 y0 : Int32} (h : (¬ y0 = (0 : Int32) → (am_Ci d 78 [.int x1, .int x2, .int x4] (am_w zN C p) (fun v w1 => am_At (d + 1) 56 none Post 33 [some (.ref 0), some (.int x1), some (.int x2), some (.int x3), some (.int x4), some (.int x5), none, none] [.int v] w1 (0, 0)))) ∧ (y0 = (0 : Int32) → (Post (some (.int (-2000002 : Int32))) (am_w zN C p)))) : am_At (d + 1) 56 none Post 20 [some (.ref 0), some (.int x1), some (.int x2), some (.int x3), some (.int x4), some (.int x5), none, none] [.int y0] (am_w zN C p) (0, 0) := am_wp_ok (stops := [9, 20, 33, 45, 91, 118]) am_k56 400 _ _ _ _ _ h
set_option maxRecDepth 100000 in
theorem s_F_strike_33 {zN d : Nat} {Post : Option Value → aW → Prop} {C : Nat → Nat → Int32} {p : Nat → Option Nat} {x1 x2 x3 x4 x5 y0 : Int32} (h : am_Ci d 35 [.ref 1, .int y0, .int x3] (am_w zN C p) (fun v w1 => am_At (d + 1) 56 none Post 45 [some (.ref 0), some (.int x1), some (.int x2), some (.int x3), some (.int x4), some (.int x5), some (.int y0), none] [.int v] w1 (0, 0))) : am_At (d + 1) 56 none Post 33 [some (.ref 0), some (.int x1), some (.int x2), some (.int x3), some (.int x4), some (.int x5), none, none] [.int y0] (am_w zN C p) (0, 0) := am_wp_ok (stops := [9, 20, 33, 45, 91, 118]) am_k56 400 _ _ _ _ _ h
set_option maxRecDepth 100000 in
theorem s_F_strike_45 {zN d : Nat} {Post : Option Value → aW → Prop} {C : Nat → Nat → Int32} {p : Nat → Option Nat} {x1 x2 x3 x4 x5 x6 y0 : Int32} (h : (¬ y0 = (-1 : Int32) → (vp_in ((x6 * (6 : Int32)) + y0) 288 ∧ ((¬ (C 10 ((x6 * (6 : Int32)) + y0).toNatClampNeg) = x5 → (am_Cv d 1 [.ref 21, .ref 1] (am_w zN C p) (fun w1 => am_At (d + 1) 56 none Post 91 [some (.ref 0), some (.int x1), some (.int x2), some (.int x3), some (.int x4), some (.int x5), some (.int x6), some (.int y0)] [] w1 (0, 0)))) ∧ ((C 10 ((x6 * (6 : Int32)) + y0).toNatClampNeg) = x5 → (Post (some (.int (-2000005 : Int32))) (am_w zN C p)))))) ∧ (y0 = (-1 : Int32) → (Post (some (.int (-2000001 : Int32))) (am_w zN C p)))) : am_At (d + 1) 56 none Post 45 [some (.ref 0), some (.int x1), some (.int x2), some (.int x3), some (.int x4), some (.int x5), some (.int x6), none] [.int y0] (am_w zN C p) (0, 0) := am_wp_ok (stops := [9, 20, 33, 45, 91, 118]) am_k56 400 _ _ _ _ _ h
set_option maxRecDepth 100000 in
theorem s_F_strike_91 {zN d : Nat} {Post : Option Value → aW → Prop} {C : Nat → Nat → Int32} {p : Nat → Option Nat} {x1 x2 x3 x4 x5 x6 x7 : Int32} (h : vp_in ((x6 * (6 : Int32)) + x7) 288 ∧ (am_Ci d 45 [.ref 1, .int x1, .int x2] (am_w zN (am_u2 C 10 ((x6 * (6 : Int32)) + x7).toNatClampNeg (vp_nar .boolean x5)) p) (fun v w1 => am_At (d + 1) 56 none Post 118 [some (.ref 0), some (.int x1), some (.int x2), some (.int x3), some (.int x4), some (.int x5), some (.int x6), some (.int x7)] [.int v] w1 (0, 0)))) : am_At (d + 1) 56 none Post 91 [some (.ref 0), some (.int x1), some (.int x2), some (.int x3), some (.int x4), some (.int x5), some (.int x6), some (.int x7)] [] (am_w zN C p) (0, 0) := am_wp_ok (stops := [9, 20, 33, 45, 91, 118]) am_k56 400 _ _ _ _ _ h
set_option maxRecDepth 100000 in
theorem s_F_strike_118 {zN d : Nat} {Post : Option Value → aW → Prop} {C : Nat → Nat → Int32} {p : Nat → Option Nat} {x1 x2 x3 x4 x5 x6 x7 y0 : Int32} (h : Post (some (.int y0)) (am_w zN C p)) : am_At (d + 1) 56 none Post 118 [some (.ref 0), some (.int x1), some (.int x2), some (.int x3), some (.int x4), some (.int x5), some (.int x6), some (.int x7)] [.int y0] (am_w zN C p) (0, 0) := am_wp_ok (stops := [9, 20, 33, 45, 91, 118]) am_k56 400 _ _ _ _ _ h
set_option maxRecDepth 100000 in
theorem e_F_wipe {zN d : Nat} {C : Nat → Nat → Int32} {p : Nat → Option Nat} {x1 x2 x3 : Int32} {P : Option Value → (Nat → Nat → Int32) → (Nat → Option Nat) → Prop} (h : am_At (d + 1) 57 none (am_Ret zN P) 0 [some (.ref 0), some (.int x1), some (.int x2), some (.int x3), none, none, none, none] [] (am_w zN C p) (0, 0)) : am_Call (d + 1) 57 [.ref 0, .int x1, .int x2, .int x3] (am_w zN C p) (am_Ret zN P) := am_m_go (by decide +kernel) rfl rfl rfl h
set_option maxRecDepth 100000 in
theorem s_F_wipe_0 {zN d : Nat} {Post : Option Value → aW → Prop} {C : Nat → Nat → Int32} {p : Nat → Option Nat} {x1 x2 x3 : Int32} (h : am_Ci d 33 [.ref 1, .int x1, .int x2] (am_w zN C p) (fun v w1 => am_At (d + 1) 57 none Post 9 [some (.ref 0), some (.int x1), some (.int x2), some (.int x3), none, none, none, none] [.int v] w1 (0, 0))) : am_At (d + 1) 57 none Post 0 [some (.ref 0), some (.int x1), some (.int x2), some (.int x3), none, none, none, none] [] (am_w zN C p) (0, 0) := am_wp_ok (stops := [9, 16, 28, 41, 53, 69, 75, 109, 112, 129, 133]) am_k57 400 _ _ _ _ _ h
set_option maxRecDepth 100000 in
theorem s_F_wipe_9 {zN d : Nat} {Post : Option Value → aW → Prop} {C : Nat → Nat → Int32} {p : Nat → Option Nat} {x1 x2 x3 y0 : Int32} (h : (y0 = (0 : Int32) → (Post (some (.int (-2000001 : Int32))) (am_w zN C p))) ∧ (¬ y0 = (0 : Int32) → (am_Ci d 75 [.int x3] (am_w zN C p) (fun v w1 => am_At (d + 1) 57 none Post 16 [some (.ref 0), some (.int x1), some (.int x2), some (.int x3), none, none, none, none] [.int v] w1 (0, 0))))) : am_At (d + 1) 57 none Post 9 [some (.ref 0), some (.int x1), some (.int x2), some (.int x3), none, none, none, none] [.int y0] (am_w zN C p) (0, 0) := am_wp_ok (stops := [9, 16, 28, 41, 53, 69, 75, 109, 112, 129, 133]) am_k57 400 _ _ _ _ _ h
set_option maxRecDepth 100000 in
theorem s_F_wipe_16 {zN d : Nat} {Post : Option Value → aW → Prop} {C : Nat → Nat → Int32} {p : Nat → Option Nat} {x1 x2 x3 y0 : Int32} (h : (¬ y0 = (0 : Int32) → (am_At (d + 1) 57 none Post 28 [some (.ref 0), some (.int x1), some (.int x2), some (.int x3), some (.int (0 : Int32)), some (.int (0 : Int32)), none, none] [] (am_w zN C p) (0, 0))) ∧ (y0 = (0 : Int32) → (Post (some (.int (-2000001 : Int32))) (am_w zN C p)))) : am_At (d + 1) 57 none Post 16 [some (.ref 0), some (.int x1), some (.int x2), some (.int x3), none, none, none, none] [.int y0] (am_w zN C p) (0, 0) := am_wp_ok (stops := [9, 16, 28, 41, 53, 69, 75, 109, 112, 129, 133]) am_k57 400 _ _ _ _ _ h
set_option maxRecDepth 100000 in
theorem s_F_wipe_28 {zN d : Nat} {Post : Option Value → aW → Prop} {C : Nat → Nat → Int32} {p : Nat → Option Nat} {x1 x2 x3 x4 x5 : Int32} {o6 o7 : Option Value} (h : ((2 : Int32) ≤ x5 → ((¬ x4 = (0 : Int32) → (am_Cv d 1 [.ref 21, .ref 1] (am_w zN C p) (fun w1 => am_At (d + 1) 57 none Post 109 [some (.ref 0), some (.int x1), some (.int x2), some (.int x3), some (.int x4), some (.int x5), o6, o7] [] w1 (0, 0)))) ∧ (x4 = (0 : Int32) → (Post (some (.int (-2000005 : Int32))) (am_w zN C p))))) ∧ (¬ (2 : Int32) ≤ x5 → (am_Ci d 78 [.int x1, .int x2, .int x5] (am_w zN C p) (fun v w1 => am_At (d + 1) 57 none Post 41 [some (.ref 0), some (.int x1), some (.int x2), some (.int x3), some (.int x4), some (.int x5), o6, o7] [.int v] w1 (0, 0))))) : am_At (d + 1) 57 none Post 28 [some (.ref 0), some (.int x1), some (.int x2), some (.int x3), some (.int x4), some (.int x5), o6, o7] [] (am_w zN C p) (0, 0) := am_wp_ok (stops := [9, 16, 28, 41, 53, 69, 75, 109, 112, 129, 133]) am_k57 400 _ _ _ _ _ h
set_option maxRecDepth 100000 in
theorem s_F_wipe_41 {zN d : Nat} {Post : Option Value → aW → Prop} {C : Nat → Nat → Int32} {p : Nat → Option Nat} {x1 x2 x3 x4 x5 y0 : Int32} {o6 o7 : Option Value} (h : am_Ci d 35 [.ref 1, .int y0, .int x3] (am_w zN C p) (fun v w1 => am_At (d + 1) 57 none Post 53 [some (.ref 0), some (.int x1), some (.int x2), some (.int x3), some (.int x4), some (.int x5), some (.int y0), o7] [.int v] w1 (0, 0))) : am_At (d + 1) 57 none Post 41 [some (.ref 0), some (.int x1), some (.int x2), some (.int x3), some (.int x4), some (.int x5), o6, o7] [.int y0] (am_w zN C p) (0, 0) := am_wp_ok (stops := [9, 16, 28, 41, 53, 69, 75, 109, 112, 129, 133]) am_k57 400 _ _ _ _ _ h
set_option maxRecDepth 100000 in
theorem s_F_wipe_53 {zN d : Nat} {Post : Option Value → aW → Prop} {C : Nat → Nat → Int32} {p : Nat → Option Nat} {x1 x2 x3 x4 x5 x6 y0 : Int32} {o7 : Option Value} (h : (¬ y0 = (0 : Int32) → (am_At (d + 1) 57 none Post 75 [some (.ref 0), some (.int x1), some (.int x2), some (.int x3), some (.int x4), some (.int x5), some (.int x6), some (.int y0)] [] (am_w zN C p) (0, 0))) ∧ (y0 = (0 : Int32) → (am_Ci d 34 [.ref 1, .int x6] (am_w zN C p) (fun v w1 => am_At (d + 1) 57 none Post 69 [some (.ref 0), some (.int x1), some (.int x2), some (.int x3), some (.int x4), some (.int x5), some (.int x6), some (.int y0)] [.int v] w1 (0, 0))))) : am_At (d + 1) 57 none Post 53 [some (.ref 0), some (.int x1), some (.int x2), some (.int x3), some (.int x4), some (.int x5), some (.int x6), o7] [.int y0] (am_w zN C p) (0, 0) := am_wp_ok (stops := [9, 16, 28, 41, 53, 69, 75, 109, 112, 129, 133]) am_k57 400 _ _ _ _ _ h
set_option maxRecDepth 100000 in
theorem s_F_wipe_69 {zN d : Nat} {Post : Option Value → aW → Prop} {C : Nat → Nat → Int32} {p : Nat → Option Nat} {x1 x2 x3 x4 x5 x6 x7 y0 : Int32} (h : (y0 = (0 : Int32) → (am_At (d + 1) 57 none Post 75 [some (.ref 0), some (.int x1), some (.int x2), some (.int x3), some (.int x4), some (.int x5), some (.int x6), some (.int x7)] [] (am_w zN C p) (0, 0))) ∧ (¬ y0 = (0 : Int32) → (Post (some (.int (-2000004 : Int32))) (am_w zN C p)))) : am_At (d + 1) 57 none Post 69 [some (.ref 0), some (.int x1), some (.int x2), some (.int x3), some (.int x4), some (.int x5), some (.int x6), some (.int x7)] [.int y0] (am_w zN C p) (0, 0) := am_wp_ok (stops := [9, 16, 28, 41, 53, 69, 75, 109, 112, 129, 133]) am_k57 400 _ _ _ _ _ h
set_option maxRecDepth 100000 in
theorem s_F_wipe_75 {zN d : Nat} {Post : Option Value → aW → Prop} {C : Nat → Nat → Int32} {p : Nat → Option Nat} {x1 x2 x3 x4 x5 x6 x7 : Int32} (h : (x7 = (-1 : Int32) → (am_At (d + 1) 57 none Post 28 [some (.ref 0), some (.int x1), some (.int x2), some (.int x3), some (.int x4), some (.int (x5 + (1 : Int32))), some (.int x6), some (.int x7)] [] (am_w zN C p) (0, 0))) ∧ (¬ x7 = (-1 : Int32) → (am_At (d + 1) 57 none Post 28 [some (.ref 0), some (.int x1), some (.int x2), some (.int x3), some (.int (x4 + (1 : Int32))), some (.int (x5 + (1 : Int32))), some (.int x6), some (.int x7)] [] (am_w zN C p) (0, 0)))) : am_At (d + 1) 57 none Post 75 [some (.ref 0), some (.int x1), some (.int x2), some (.int x3), some (.int x4), some (.int x5), some (.int x6), some (.int x7)] [] (am_w zN C p) (0, 0) := am_wp_ok (stops := [9, 16, 28, 41, 53, 69, 75, 109, 112, 129, 133]) am_k57 400 _ _ _ _ _ h
set_option maxRecDepth 100000 in
theorem s_F_wipe_109 {zN d : Nat} {Post : Option Value → aW → Prop} {C : Nat → Nat → Int32} {p : Nat → Option Nat} {x1 x2 x3 x4 x5 : Int32} {o6 o7 : Option Value} (h : am_At (d + 1) 57 none Post 112 [some (.ref 0), some (.int x1), some (.int x2), some (.int x3), some (.int x4), some (.int (0 : Int32)), o6, o7] [] (am_w zN C p) (0, 0)) : am_At (d + 1) 57 none Post 109 [some (.ref 0), some (.int x1), some (.int x2), some (.int x3), some (.int x4), some (.int x5), o6, o7] [] (am_w zN C p) (0, 0) := am_wp_ok (stops := [9, 16, 28, 41, 53, 69, 75, 109, 112, 129, 133]) am_k57 400 _ _ _ _ _ h
set_option maxRecDepth 100000 in
theorem s_F_wipe_112 {zN d : Nat} {Post : Option Value → aW → Prop} {C : Nat → Nat → Int32} {p : Nat → Option Nat} {x1 x2 x3 x4 x5 : Int32} {o6 o7 : Option Value} (h : ((2 : Int32) ≤ x5 → (Post (some (.int x4)) (am_w zN C p))) ∧ (¬ (2 : Int32) ≤ x5 → (am_Ci d 78 [.int x1, .int x2, .int x5] (am_w zN C p) (fun v w1 => am_At (d + 1) 57 none Post 129 [some (.ref 0), some (.int x1), some (.int x2), some (.int x3), some (.int x4), some (.int x5), o6, o7] [.int v, .ref 1] w1 (0, 0))))) : am_At (d + 1) 57 none Post 112 [some (.ref 0), some (.int x1), some (.int x2), some (.int x3), some (.int x4), some (.int x5), o6, o7] [] (am_w zN C p) (0, 0) := am_wp_ok (stops := [9, 16, 28, 41, 53, 69, 75, 109, 112, 129, 133]) am_k57 400 _ _ _ _ _ h
set_option maxRecDepth 100000 in
theorem s_F_wipe_129 {zN d : Nat} {Post : Option Value → aW → Prop} {C : Nat → Nat → Int32} {p : Nat → Option Nat} {x1 x2 x3 x4 x5 y1 : Int32} {o6 o7 : Option Value} (h : am_Cv d 38 [.ref 1, .int y1, .int x3] (am_w zN C p) (fun w1 => am_At (d + 1) 57 none Post 133 [some (.ref 0), some (.int x1), some (.int x2), some (.int x3), some (.int x4), some (.int x5), o6, o7] [] w1 (0, 0))) : am_At (d + 1) 57 none Post 129 [some (.ref 0), some (.int x1), some (.int x2), some (.int x3), some (.int x4), some (.int x5), o6, o7] [.int y1, .ref 1] (am_w zN C p) (0, 0) := am_wp_ok (stops := [9, 16, 28, 41, 53, 69, 75, 109, 112, 129, 133]) am_k57 400 _ _ _ _ _ h
set_option maxRecDepth 100000 in
theorem s_F_wipe_133 {zN d : Nat} {Post : Option Value → aW → Prop} {C : Nat → Nat → Int32} {p : Nat → Option Nat} {x1 x2 x3 x4 x5 : Int32} {o6 o7 : Option Value} (h : am_At (d + 1) 57 none Post 112 [some (.ref 0), some (.int x1), some (.int x2), some (.int x3), some (.int x4), some (.int (x5 + (1 : Int32))), o6, o7] [] (am_w zN C p) (0, 0)) : am_At (d + 1) 57 none Post 133 [some (.ref 0), some (.int x1), some (.int x2), some (.int x3), some (.int x4), some (.int x5), o6, o7] [] (am_w zN C p) (0, 0) := am_wp_ok (stops := [9, 16, 28, 41, 53, 69, 75, 109, 112, 129, 133]) am_k57 400 _ _ _ _ _ h
set_option maxRecDepth 100000 in
theorem e_F_clean {zN d : Nat} {C : Nat → Nat → Int32} {p : Nat → Option Nat} {x1 : Int32} {P : Option Value → (Nat → Nat → Int32) → (Nat → Option Nat) → Prop} (h : am_At (d + 1) 58 none (am_Ret zN P) 0 [some (.ref 0), some (.int x1), none, none] [] (am_w zN C p) (0, 0)) : am_Call (d + 1) 58 [.ref 0, .int x1] (am_w zN C p) (am_Ret zN P) := am_m_go (by decide +kernel) rfl rfl rfl h
set_option maxRecDepth 100000 in
theorem s_F_clean_0 {zN d : Nat} {Post : Option Value → aW → Prop} {C : Nat → Nat → Int32} {p : Nat → Option Nat} {x1 : Int32} (h : am_Ci d 32 [.ref 1, .int x1] (am_w zN C p) (fun v w1 => am_At (d + 1) 58 none Post 8 [some (.ref 0), some (.int x1), none, none] [.int v] w1 (0, 0))) : am_At (d + 1) 58 none Post 0 [some (.ref 0), some (.int x1), none, none] [] (am_w zN C p) (0, 0) := am_wp_ok (stops := [8, 26, 40, 60, 62, 89, 104, 118]) am_k58 400 _ _ _ _ _ h
set_option maxRecDepth 100000 in
theorem s_F_clean_8 {zN d : Nat} {Post : Option Value → aW → Prop} {C : Nat → Nat → Int32} {p : Nat → Option Nat} {x1 y0 : Int32} (h : (¬ y0 = (0 : Int32) → (am_Cv d 14 [.ref 68, .ref 1, .int x1] (am_w zN C p) (fun w1 => am_At (d + 1) 58 none Post 26 [some (.ref 0), some (.int x1), none, none] [] w1 (0, 0)))) ∧ (y0 = (0 : Int32) → (Post (some (.int (-2000001 : Int32))) (am_w zN C p)))) : am_At (d + 1) 58 none Post 8 [some (.ref 0), some (.int x1), none, none] [.int y0] (am_w zN C p) (0, 0) := am_wp_ok (stops := [8, 26, 40, 60, 62, 89, 104, 118]) am_k58 400 _ _ _ _ _ h
set_option maxRecDepth 100000 in
theorem s_F_clean_26 {zN d : Nat} {Post : Option Value → aW → Prop} {C : Nat → Nat → Int32} {p : Nat → Option Nat} {x1 : Int32} (h : am_Ci d 24 [.ref 68, .int (C 1 1)] (am_w zN C p) (fun v w1 => am_At (d + 1) 58 none Post 40 [some (.ref 0), some (.int x1), none, none] [.int v] w1 (0, 0))) : am_At (d + 1) 58 none Post 26 [some (.ref 0), some (.int x1), none, none] [] (am_w zN C p) (0, 0) := am_wp_ok (stops := [8, 26, 40, 60, 62, 89, 104, 118]) am_k58 400 _ _ _ _ _ h
set_option maxRecDepth 100000 in
theorem s_F_clean_40 {zN d : Nat} {Post : Option Value → aW → Prop} {C : Nat → Nat → Int32} {p : Nat → Option Nat} {x1 y0 : Int32} (h : (¬ y0 = (-1 : Int32) → (am_Cv d 1 [.ref 21, .ref 1] (am_w zN C p) (fun w1 => am_At (d + 1) 58 none Post 60 [some (.ref 0), some (.int x1), some (.int y0), none] [] w1 (0, 0)))) ∧ (y0 = (-1 : Int32) → (Post (some (.int (-2000005 : Int32))) (am_w zN C p)))) : am_At (d + 1) 58 none Post 40 [some (.ref 0), some (.int x1), none, none] [.int y0] (am_w zN C p) (0, 0) := am_wp_ok (stops := [8, 26, 40, 60, 62, 89, 104, 118]) am_k58 400 _ _ _ _ _ h
set_option maxRecDepth 100000 in
theorem s_F_clean_60 {zN d : Nat} {Post : Option Value → aW → Prop} {C : Nat → Nat → Int32} {p : Nat → Option Nat} {x1 x2 : Int32} (h : am_At (d + 1) 58 none Post 62 [some (.ref 0), some (.int x1), some (.int x2), some (.int (0 : Int32))] [] (am_w zN C p) (0, 0)) : am_At (d + 1) 58 none Post 60 [some (.ref 0), some (.int x1), some (.int x2), none] [] (am_w zN C p) (0, 0) := am_wp_ok (stops := [8, 26, 40, 60, 62, 89, 104, 118]) am_k58 400 _ _ _ _ _ h
set_option maxRecDepth 100000 in
theorem s_F_clean_62 {zN d : Nat} {Post : Option Value → aW → Prop} {C : Nat → Nat → Int32} {p : Nat → Option Nat} {x1 x2 x3 : Int32} (h : (x2 = (-1 : Int32) → (Post (some (.int x3)) (am_w zN C p))) ∧ (¬ x2 = (-1 : Int32) → (((36 : Int32) ≤ x3 → (Post (some (.int x3)) (am_w zN C p))) ∧ (¬ (36 : Int32) ≤ x3 → (¬ (6 : Int32) = 0 ∧ (¬ (6 : Int32) = 0 ∧ (am_Cv d 39 [.ref 1, .int x1, .int (x2 / (6 : Int32)), .int (x2 - x2 / (6 : Int32) * (6 : Int32))] (am_w zN C p) (fun w1 => am_At (d + 1) 58 none Post 89 [some (.ref 0), some (.int x1), some (.int x2), some (.int x3)] [] w1 (0, 0))))))))) : am_At (d + 1) 58 none Post 62 [some (.ref 0), some (.int x1), some (.int x2), some (.int x3)] [] (am_w zN C p) (0, 0) := am_wp_ok (stops := [8, 26, 40, 60, 62, 89, 104, 118]) am_k58 400 _ _ _ _ _ h
set_option maxRecDepth 100000 in
theorem s_F_clean_89 {zN d : Nat} {Post : Option Value → aW → Prop} {C : Nat → Nat → Int32} {p : Nat → Option Nat} {x1 x2 x3 : Int32} (h : am_Cv d 14 [.ref 68, .ref 1, .int x1] (am_w zN C p) (fun w1 => am_At (d + 1) 58 none Post 104 [some (.ref 0), some (.int x1), some (.int x2), some (.int (x3 + (1 : Int32)))] [] w1 (0, 0))) : am_At (d + 1) 58 none Post 89 [some (.ref 0), some (.int x1), some (.int x2), some (.int x3)] [] (am_w zN C p) (0, 0) := am_wp_ok (stops := [8, 26, 40, 60, 62, 89, 104, 118]) am_k58 400 _ _ _ _ _ h
set_option maxRecDepth 100000 in
theorem s_F_clean_104 {zN d : Nat} {Post : Option Value → aW → Prop} {C : Nat → Nat → Int32} {p : Nat → Option Nat} {x1 x2 x3 : Int32} (h : am_Ci d 24 [.ref 68, .int (C 1 1)] (am_w zN C p) (fun v w1 => am_At (d + 1) 58 none Post 118 [some (.ref 0), some (.int x1), some (.int x2), some (.int x3)] [.int v] w1 (0, 0))) : am_At (d + 1) 58 none Post 104 [some (.ref 0), some (.int x1), some (.int x2), some (.int x3)] [] (am_w zN C p) (0, 0) := am_wp_ok (stops := [8, 26, 40, 60, 62, 89, 104, 118]) am_k58 400 _ _ _ _ _ h
set_option maxRecDepth 100000 in
theorem s_F_clean_118 {zN d : Nat} {Post : Option Value → aW → Prop} {C : Nat → Nat → Int32} {p : Nat → Option Nat} {x1 x2 x3 y0 : Int32} (h : am_At (d + 1) 58 none Post 62 [some (.ref 0), some (.int x1), some (.int y0), some (.int x3)] [] (am_w zN C p) (0, 0)) : am_At (d + 1) 58 none Post 118 [some (.ref 0), some (.int x1), some (.int x2), some (.int x3)] [.int y0] (am_w zN C p) (0, 0) := am_wp_ok (stops := [8, 26, 40, 60, 62, 89, 104, 118]) am_k58 400 _ _ _ _ _ h
set_option maxRecDepth 100000 in
theorem e_F_setLimit {zN d : Nat} {C : Nat → Nat → Int32} {p : Nat → Option Nat} {x1 : Int32} {P : Option Value → (Nat → Nat → Int32) → (Nat → Option Nat) → Prop} (h : am_At (d + 1) 59 none (am_Ret zN P) 0 [some (.ref 0), some (.int x1), none] [] (am_w zN C p) (0, 0)) : am_Call (d + 1) 59 [.ref 0, .int x1] (am_w zN C p) (am_Ret zN P) := am_m_go (by decide +kernel) rfl rfl rfl h
set_option maxRecDepth 100000 in
theorem s_F_setLimit_0 {zN d : Nat} {Post : Option Value → aW → Prop} {C : Nat → Nat → Int32} {p : Nat → Option Nat} {x1 : Int32} (h : (x1 < (1 : Int32) → (Post (some (.int (-2000002 : Int32))) (am_w zN C p))) ∧ (¬ x1 < (1 : Int32) → ((x1 ≤ (600 : Int32) → ((¬ (C 1 1) = x1 → (am_Cv d 1 [.ref 21, .ref 1] (am_w zN C p) (fun w1 => am_At (d + 1) 59 none Post 42 [some (.ref 0), some (.int x1), some (.int (C 1 1))] [] w1 (0, 0)))) ∧ ((C 1 1) = x1 → (Post (some (.int (-2000005 : Int32))) (am_w zN C p))))) ∧ (¬ x1 ≤ (600 : Int32) → (Post (some (.int (-2000002 : Int32))) (am_w zN C p)))))) : am_At (d + 1) 59 none Post 0 [some (.ref 0), some (.int x1), none] [] (am_w zN C p) (0, 0) := am_wp_ok (stops := [42]) am_k59 400 _ _ _ _ _ h
set_option maxRecDepth 100000 in
theorem s_F_setLimit_42 {zN d : Nat} {Post : Option Value → aW → Prop} {C : Nat → Nat → Int32} {p : Nat → Option Nat} {x1 x2 : Int32} (h : Post (some (.int x2)) (am_w zN (am_u2 C 1 1 x1) p)) : am_At (d + 1) 59 none Post 42 [some (.ref 0), some (.int x1), some (.int x2)] [] (am_w zN C p) (0, 0) := am_wp_ok (stops := [42]) am_k59 400 _ _ _ _ _ h
set_option maxRecDepth 100000 in
theorem e_F_centre {zN d : Nat} {C : Nat → Nat → Int32} {p : Nat → Option Nat} {x1 x2 x3 : Int32} {P : Option Value → (Nat → Nat → Int32) → (Nat → Option Nat) → Prop} (h : am_At (d + 1) 60 none (am_Ret zN P) 0 [some (.ref 0), some (.int x1), some (.int x2), some (.int x3), none, none] [] (am_w zN C p) (0, 0)) : am_Call (d + 1) 60 [.ref 0, .int x1, .int x2, .int x3] (am_w zN C p) (am_Ret zN P) := am_m_go (by decide +kernel) rfl rfl rfl h
set_option maxRecDepth 100000 in
theorem s_F_centre_0 {zN d : Nat} {Post : Option Value → aW → Prop} {C : Nat → Nat → Int32} {p : Nat → Option Nat} {x1 x2 x3 : Int32} (h : am_Ci d 32 [.ref 1, .int x1] (am_w zN C p) (fun v w1 => am_At (d + 1) 60 none Post 8 [some (.ref 0), some (.int x1), some (.int x2), some (.int x3), none, none] [.int v] w1 (0, 0))) : am_At (d + 1) 60 none Post 0 [some (.ref 0), some (.int x1), some (.int x2), some (.int x3), none, none] [] (am_w zN C p) (0, 0) := am_wp_ok (stops := [8, 85]) am_k60 400 _ _ _ _ _ h
set_option maxRecDepth 100000 in
theorem s_F_centre_8 {zN d : Nat} {Post : Option Value → aW → Prop} {C : Nat → Nat → Int32} {p : Nat → Option Nat} {x1 x2 x3 y0 : Int32} (h : (¬ y0 = (0 : Int32) → ((x2 < (0 : Int32) → (Post (some (.int (-2000002 : Int32))) (am_w zN C p))) ∧ (¬ x2 < (0 : Int32) → (((99 : Int32) < x2 → (Post (some (.int (-2000002 : Int32))) (am_w zN C p))) ∧ (¬ (99 : Int32) < x2 → ((x3 < (0 : Int32) → (Post (some (.int (-2000002 : Int32))) (am_w zN C p))) ∧ (¬ x3 < (0 : Int32) → ((x3 < (24 : Int32) → (vp_in x1 4 ∧ (vp_in x1 4 ∧ ((¬ (C 3 x1.toNatClampNeg) = x2 → (am_Cv d 1 [.ref 21, .ref 1] (am_w zN C p) (fun w1 => am_At (d + 1) 60 none Post 85 [some (.ref 0), some (.int x1), some (.int x2), some (.int x3), some (.int (C 3 x1.toNatClampNeg)), some (.int (C 4 x1.toNatClampNeg))] [] w1 (0, 0)))) ∧ ((C 3 x1.toNatClampNeg) = x2 → ((¬ (C 4 x1.toNatClampNeg) = x3 → (am_Cv d 1 [.ref 21, .ref 1] (am_w zN C p) (fun w1 => am_At (d + 1) 60 none Post 85 [some (.ref 0), some (.int x1), some (.int x2), some (.int x3), some (.int (C 3 x1.toNatClampNeg)), some (.int (C 4 x1.toNatClampNeg))] [] w1 (0, 0)))) ∧ ((C 4 x1.toNatClampNeg) = x3 → (Post (some (.int (-2000005 : Int32))) (am_w zN C p))))))))) ∧ (¬ x3 < (24 : Int32) → (Post (some (.int (-2000002 : Int32))) (am_w zN C p))))))))))) ∧ (y0 = (0 : Int32) → (Post (some (.int (-2000001 : Int32))) (am_w zN C p)))) : am_At (d + 1) 60 none Post 8 [some (.ref 0), some (.int x1), some (.int x2), some (.int x3), none, none] [.int y0] (am_w zN C p) (0, 0) := am_wp_ok (stops := [8, 85]) am_k60 400 _ _ _ _ _ h
set_option maxRecDepth 100000 in
theorem s_F_centre_85 {zN d : Nat} {Post : Option Value → aW → Prop} {C : Nat → Nat → Int32} {p : Nat → Option Nat} {x1 x2 x3 x4 x5 : Int32} (h : vp_in x1 4 ∧ (vp_in x1 4 ∧ (Post (some (.int ((x4 * (100 : Int32)) + x5))) (am_w zN (am_u2 (am_u2 C 3 x1.toNatClampNeg x2) 4 x1.toNatClampNeg x3) p)))) : am_At (d + 1) 60 none Post 85 [some (.ref 0), some (.int x1), some (.int x2), some (.int x3), some (.int x4), some (.int x5)] [] (am_w zN C p) (0, 0) := am_wp_ok (stops := [8, 85]) am_k60 400 _ _ _ _ _ h
set_option maxRecDepth 100000 in
theorem e_F_setDistance {zN d : Nat} {C : Nat → Nat → Int32} {p : Nat → Option Nat} {x1 x2 : Int32} {P : Option Value → (Nat → Nat → Int32) → (Nat → Option Nat) → Prop} (h : am_At (d + 1) 61 none (am_Ret zN P) 0 [some (.ref 0), some (.int x1), some (.int x2), none] [] (am_w zN C p) (0, 0)) : am_Call (d + 1) 61 [.ref 0, .int x1, .int x2] (am_w zN C p) (am_Ret zN P) := am_m_go (by decide +kernel) rfl rfl rfl h
set_option maxRecDepth 100000 in
theorem s_F_setDistance_0 {zN d : Nat} {Post : Option Value → aW → Prop} {C : Nat → Nat → Int32} {p : Nat → Option Nat} {x1 x2 : Int32} (h : am_Ci d 75 [.int x1] (am_w zN C p) (fun v w1 => am_At (d + 1) 61 none Post 4 [some (.ref 0), some (.int x1), some (.int x2), none] [.int v] w1 (0, 0))) : am_At (d + 1) 61 none Post 0 [some (.ref 0), some (.int x1), some (.int x2), none] [] (am_w zN C p) (0, 0) := am_wp_ok (stops := [4, 54]) am_k61 400 _ _ _ _ _ h
set_option maxRecDepth 100000 in
theorem s_F_setDistance_4 {zN d : Nat} {Post : Option Value → aW → Prop} {C : Nat → Nat → Int32} {p : Nat → Option Nat} {x1 x2 y0 : Int32} (h : (¬ y0 = (0 : Int32) → ((x2 < (1 : Int32) → (Post (some (.int (-2000002 : Int32))) (am_w zN C p))) ∧ (¬ x2 < (1 : Int32) → ((x2 ≤ (9999 : Int32) → (vp_in x1 6 ∧ ((¬ (C 5 x1.toNatClampNeg) = x2 → (am_Cv d 1 [.ref 21, .ref 1] (am_w zN C p) (fun w1 => am_At (d + 1) 61 none Post 54 [some (.ref 0), some (.int x1), some (.int x2), some (.int (C 5 x1.toNatClampNeg))] [] w1 (0, 0)))) ∧ ((C 5 x1.toNatClampNeg) = x2 → (Post (some (.int (-2000005 : Int32))) (am_w zN C p)))))) ∧ (¬ x2 ≤ (9999 : Int32) → (Post (some (.int (-2000002 : Int32))) (am_w zN C p))))))) ∧ (y0 = (0 : Int32) → (Post (some (.int (-2000001 : Int32))) (am_w zN C p)))) : am_At (d + 1) 61 none Post 4 [some (.ref 0), some (.int x1), some (.int x2), none] [.int y0] (am_w zN C p) (0, 0) := am_wp_ok (stops := [4, 54]) am_k61 400 _ _ _ _ _ h
set_option maxRecDepth 100000 in
theorem s_F_setDistance_54 {zN d : Nat} {Post : Option Value → aW → Prop} {C : Nat → Nat → Int32} {p : Nat → Option Nat} {x1 x2 x3 : Int32} (h : vp_in x1 6 ∧ (Post (some (.int x3)) (am_w zN (am_u2 C 5 x1.toNatClampNeg x2) p))) : am_At (d + 1) 61 none Post 54 [some (.ref 0), some (.int x1), some (.int x2), some (.int x3)] [] (am_w zN C p) (0, 0) := am_wp_ok (stops := [4, 54]) am_k61 400 _ _ _ _ _ h
set_option maxRecDepth 100000 in
theorem e_F_undo {zN d : Nat} {C : Nat → Nat → Int32} {p : Nat → Option Nat} {P : Option Value → (Nat → Nat → Int32) → (Nat → Option Nat) → Prop} (h : am_At (d + 1) 64 none (am_Ret zN P) 0 [some (.ref 0)] [] (am_w zN C p) (0, 0)) : am_Call (d + 1) 64 [.ref 0] (am_w zN C p) (am_Ret zN P) := am_m_go (by decide +kernel) rfl rfl rfl h
set_option maxRecDepth 100000 in
theorem s_F_undo_0 {zN d : Nat} {Post : Option Value → aW → Prop} {C : Nat → Nat → Int32} {p : Nat → Option Nat} (h : (¬ (C 21 1) = (0 : Int32) → (am_Cv d 2 [.ref 21, .ref 1] (am_w zN C p) (fun w1 => am_At (d + 1) 64 none Post 24 [some (.ref 0)] [] w1 (0, 0)))) ∧ ((C 21 1) = (0 : Int32) → (Post (some (.int (-2000005 : Int32))) (am_w zN C p)))) : am_At (d + 1) 64 none Post 0 [some (.ref 0)] [] (am_w zN C p) (0, 0) := am_wp_ok (stops := [24]) am_k64 400 _ _ _ _ _ h
set_option maxRecDepth 100000 in
theorem s_F_undo_24 {zN d : Nat} {Post : Option Value → aW → Prop} {C : Nat → Nat → Int32} {p : Nat → Option Nat} (h : Post (some (.int (C 21 1))) (am_w zN C p)) : am_At (d + 1) 64 none Post 24 [some (.ref 0)] [] (am_w zN C p) (0, 0) := am_wp_ok (stops := [24]) am_k64 400 _ _ _ _ _ h
set_option maxRecDepth 100000 in
theorem e_F_pointing {zN d : Nat} {C : Nat → Nat → Int32} {p : Nat → Option Nat} {x1 x2 x3 x4 x5 : Int32} {P : Option Value → (Nat → Nat → Int32) → (Nat → Option Nat) → Prop} (h : am_At (d + 1) 67 none (am_Ret zN P) 0 [some (.ref 0), some (.int x1), some (.int x2), some (.int x3), some (.int x4), some (.int x5), none, none] [] (am_w zN C p) (0, 0)) : am_Call (d + 1) 67 [.ref 0, .int x1, .int x2, .int x3, .int x4, .int x5] (am_w zN C p) (am_Ret zN P) := am_m_go (by decide +kernel) rfl rfl rfl h
set_option maxRecDepth 100000 in
theorem s_F_pointing_0 {zN d : Nat} {Post : Option Value → aW → Prop} {C : Nat → Nat → Int32} {p : Nat → Option Nat} {x1 x2 x3 x4 x5 : Int32} (h : am_Ci d 33 [.ref 1, .int x1, .int x2] (am_w zN C p) (fun v w1 => am_At (d + 1) 67 none Post 9 [some (.ref 0), some (.int x1), some (.int x2), some (.int x3), some (.int x4), some (.int x5), none, none] [.int v] w1 (0, 0))) : am_At (d + 1) 67 none Post 0 [some (.ref 0), some (.int x1), some (.int x2), some (.int x3), some (.int x4), some (.int x5), none, none] [] (am_w zN C p) (0, 0) := am_wp_ok (stops := [9, 19, 47, 156]) am_k67 400 _ _ _ _ _ h
set_option maxRecDepth 100000 in
theorem s_F_pointing_9 {zN d : Nat} {Post : Option Value → aW → Prop} {C : Nat → Nat → Int32} {p : Nat → Option Nat} {x1 x2 x3 x4 x5 y0 : Int32} (h : (¬ y0 = (0 : Int32) → (am_Ci d 76 [.int x3] (am_w zN C p) (fun v w1 => am_At (d + 1) 67 none Post 19 [some (.ref 0), some (.int x1), some (.int x2), some (.int x3), some (.int x4), some (.int x5), none, none] [.int v] w1 (0, 0)))) ∧ (y0 = (0 : Int32) → (Post (some (.int (-2000001 : Int32))) (am_w zN C p)))) : am_At (d + 1) 67 none Post 9 [some (.ref 0), some (.int x1), some (.int x2), some (.int x3), some (.int x4), some (.int x5), none, none] [.int y0] (am_w zN C p) (0, 0) := am_wp_ok (stops := [9, 19, 47, 156]) am_k67 400 _ _ _ _ _ h
set_option maxRecDepth 100000 in
theorem s_F_pointing_19 {zN d : Nat} {Post : Option Value → aW → Prop} {C : Nat → Nat → Int32} {p : Nat → Option Nat} {x1 x2 x3 x4 x5 y0 : Int32} (h : (y0 = (0 : Int32) → (Post (some (.int (-2000002 : Int32))) (am_w zN C p))) ∧ (¬ y0 = (0 : Int32) → ((x4 < (0 : Int32) → (Post (some (.int (-2000002 : Int32))) (am_w zN C p))) ∧ (¬ x4 < (0 : Int32) → ((x5 < (0 : Int32) → (Post (some (.int (-2000002 : Int32))) (am_w zN C p))) ∧ (¬ x5 < (0 : Int32) → ((x5 ≤ (3 : Int32) → (am_Ci d 78 [.int x1, .int x2, .int x3] (am_w zN C p) (fun v w1 => am_At (d + 1) 67 none Post 47 [some (.ref 0), some (.int x1), some (.int x2), some (.int x3), some (.int x4), some (.int x5), none, none] [.int v] w1 (0, 0)))) ∧ (¬ x5 ≤ (3 : Int32) → (Post (some (.int (-2000002 : Int32))) (am_w zN C p)))))))))) : am_At (d + 1) 67 none Post 19 [some (.ref 0), some (.int x1), some (.int x2), some (.int x3), some (.int x4), some (.int x5), none, none] [.int y0] (am_w zN C p) (0, 0) := am_wp_ok (stops := [9, 19, 47, 156]) am_k67 400 _ _ _ _ _ h
set_option maxRecDepth 100000 in
theorem s_F_pointing_47 {zN d : Nat} {Post : Option Value → aW → Prop} {C : Nat → Nat → Int32} {p : Nat → Option Nat} {x1 x2 x3 x4 x5 y0 : Int32} (h : vp_in y0 48 ∧ ((x4 < (C 6 y0.toNatClampNeg) → ((x5 = (0 : Int32) → (vp_in ((y0 * (6 : Int32)) + x4) 288 ∧ (Post (some (.int (C 8 ((y0 * (6 : Int32)) + x4).toNatClampNeg))) (am_w zN C p)))) ∧ (¬ x5 = (0 : Int32) → ((x5 = (1 : Int32) → (vp_in ((y0 * (6 : Int32)) + x4) 288 ∧ (Post (some (.int (C 9 ((y0 * (6 : Int32)) + x4).toNatClampNeg))) (am_w zN C p)))) ∧ (¬ x5 = (1 : Int32) → ((x5 = (2 : Int32) → (vp_in ((y0 * (6 : Int32)) + x4) 288 ∧ (((C 10 ((y0 * (6 : Int32)) + x4).toNatClampNeg) = (0 : Int32) → (Post (some (.int (0 : Int32))) (am_w zN C p))) ∧ (¬ (C 10 ((y0 * (6 : Int32)) + x4).toNatClampNeg) = (0 : Int32) → (Post (some (.int (1 : Int32))) (am_w zN C p)))))) ∧ (¬ x5 = (2 : Int32) → (am_Ci d 41 [.ref 1, .int y0, .int x4] (am_w zN C p) (fun v w1 => am_At (d + 1) 67 none Post 156 [some (.ref 0), some (.int x1), some (.int x2), some (.int x3), some (.int x4), some (.int x5), some (.int y0), some (.int ((y0 * (6 : Int32)) + x4))] [.int v] w1 (0, 0)))))))))) ∧ (¬ x4 < (C 6 y0.toNatClampNeg) → (Post (some (.int (-2000005 : Int32))) (am_w zN C p))))) : am_At (d + 1) 67 none Post 47 [some (.ref 0), some (.int x1), some (.int x2), some (.int x3), some (.int x4), some (.int x5), none, none] [.int y0] (am_w zN C p) (0, 0) := am_wp_ok (stops := [9, 19, 47, 156]) am_k67 400 _ _ _ _ _ h
set_option maxRecDepth 100000 in
theorem s_F_pointing_156 {zN d : Nat} {Post : Option Value → aW → Prop} {C : Nat → Nat → Int32} {p : Nat → Option Nat} {x1 x2 x3 x4 x5 x6 x7 y0 : Int32} (h : Post (some (.int y0)) (am_w zN C p)) : am_At (d + 1) 67 none Post 156 [some (.ref 0), some (.int x1), some (.int x2), some (.int x3), some (.int x4), some (.int x5), some (.int x6), some (.int x7)] [.int y0] (am_w zN C p) (0, 0) := am_wp_ok (stops := [9, 19, 47, 156]) am_k67 400 _ _ _ _ _ h
set_option maxRecDepth 100000 in
theorem e_F_round {zN d : Nat} {C : Nat → Nat → Int32} {p : Nat → Option Nat} {x1 x2 x3 : Int32} {P : Option Value → (Nat → Nat → Int32) → (Nat → Option Nat) → Prop} (h : am_At (d + 1) 68 none (am_Ret zN P) 0 [some (.ref 0), some (.int x1), some (.int x2), some (.int x3)] [] (am_w zN C p) (0, 0)) : am_Call (d + 1) 68 [.ref 0, .int x1, .int x2, .int x3] (am_w zN C p) (am_Ret zN P) := am_m_go (by decide +kernel) rfl rfl rfl h
set_option maxRecDepth 100000 in
theorem s_F_round_0 {zN d : Nat} {Post : Option Value → aW → Prop} {C : Nat → Nat → Int32} {p : Nat → Option Nat} {x1 x2 x3 : Int32} (h : am_Ci d 33 [.ref 1, .int x1, .int x2] (am_w zN C p) (fun v w1 => am_At (d + 1) 68 none Post 9 [some (.ref 0), some (.int x1), some (.int x2), some (.int x3)] [.int v] w1 (0, 0))) : am_At (d + 1) 68 none Post 0 [some (.ref 0), some (.int x1), some (.int x2), some (.int x3)] [] (am_w zN C p) (0, 0) := am_wp_ok (stops := [9, 40, 97, 108, 111, 131, 140, 156]) am_k68 400 _ _ _ _ _ h
set_option maxRecDepth 100000 in
theorem s_F_round_9 {zN d : Nat} {Post : Option Value → aW → Prop} {C : Nat → Nat → Int32} {p : Nat → Option Nat} {x1 x2 x3 y0 : Int32} (h : (¬ y0 = (0 : Int32) → ((x3 < (0 : Int32) → (Post (some (.int (-2000002 : Int32))) (am_w zN C p))) ∧ (¬ x3 < (0 : Int32) → ((x3 ≤ (7 : Int32) → (am_Cv d 14 [.ref 68, .ref 1, .int x1] (am_w zN C p) (fun w1 => am_At (d + 1) 68 none Post 40 [some (.ref 0), some (.int x1), some (.int x2), some (.int x3)] [] w1 (0, 0)))) ∧ (¬ x3 ≤ (7 : Int32) → (Post (some (.int (-2000002 : Int32))) (am_w zN C p))))))) ∧ (y0 = (0 : Int32) → (Post (some (.int (-2000001 : Int32))) (am_w zN C p)))) : am_At (d + 1) 68 none Post 9 [some (.ref 0), some (.int x1), some (.int x2), some (.int x3)] [.int y0] (am_w zN C p) (0, 0) := am_wp_ok (stops := [9, 40, 97, 108, 111, 131, 140, 156]) am_k68 400 _ _ _ _ _ h
set_option maxRecDepth 100000 in
theorem s_F_round_40 {zN d : Nat} {Post : Option Value → aW → Prop} {C : Nat → Nat → Int32} {p : Nat → Option Nat} {x1 x2 x3 : Int32} (h : ((x3 = (0 : Int32) → (am_Ci d 78 [.int x1, .int x2, .int x3] (am_w zN C p) (fun v w1 => am_At (d + 1) 68 none Post 97 [some (.ref 0), some (.int x1), some (.int x2), some (.int x3)] [.int v, .ref 6] w1 (0, 0)))) ∧ (¬ x3 = (0 : Int32) → ((x3 = (1 : Int32) → (am_Ci d 78 [.int x1, .int x2, .int x3] (am_w zN C p) (fun v w1 => am_At (d + 1) 68 none Post 97 [some (.ref 0), some (.int x1), some (.int x2), some (.int x3)] [.int v, .ref 6] w1 (0, 0)))) ∧ (¬ x3 = (1 : Int32) → ((x3 = (2 : Int32) → (am_Ci d 78 [.int x1, .int x2, .int (x3 - (2 : Int32))] (am_w zN C p) (fun v w1 => am_At (d + 1) 68 none Post 108 [some (.ref 0), some (.int x1), some (.int x2), some (.int x3)] [.int v, .ref 0] w1 (0, 0)))) ∧ (¬ x3 = (2 : Int32) → ((x3 = (3 : Int32) → (am_Ci d 78 [.int x1, .int x2, .int (x3 - (2 : Int32))] (am_w zN C p) (fun v w1 => am_At (d + 1) 68 none Post 108 [some (.ref 0), some (.int x1), some (.int x2), some (.int x3)] [.int v, .ref 0] w1 (0, 0)))) ∧ (¬ x3 = (3 : Int32) → ((x3 = (4 : Int32) → (vp_in x2 6 ∧ (Post (some (.int (C 69 x2.toNatClampNeg))) (am_w zN C p)))) ∧ (¬ x3 = (4 : Int32) → ((x3 = (5 : Int32) → (am_Ci d 45 [.ref 1, .int x1, .int x2] (am_w zN C p) (fun v w1 => am_At (d + 1) 68 none Post 131 [some (.ref 0), some (.int x1), some (.int x2), some (.int x3)] [.int v] w1 (0, 0)))) ∧ (¬ x3 = (5 : Int32) → ((x3 = (6 : Int32) → (am_Ci d 25 [.ref 68, .int x2] (am_w zN C p) (fun v w1 => am_At (d + 1) 68 none Post 140 [some (.ref 0), some (.int x1), some (.int x2), some (.int x3)] [.int v] w1 (0, 0)))) ∧ (¬ x3 = (6 : Int32) → (am_Ci d 23 [.ref 68, .int x2, .int (C 1 1)] (am_w zN C p) (fun v w1 => am_At (d + 1) 68 none Post 156 [some (.ref 0), some (.int x1), some (.int x2), some (.int x3)] [.int v] w1 (0, 0)))))))))))))))))) : am_At (d + 1) 68 none Post 40 [some (.ref 0), some (.int x1), some (.int x2), some (.int x3)] [] (am_w zN C p) (0, 0) := am_wp_ok (stops := [9, 40, 97, 108, 111, 131, 140, 156]) am_k68 400 _ _ _ _ _ h
set_option maxRecDepth 100000 in
theorem s_F_round_97 {zN d : Nat} {Post : Option Value → aW → Prop} {C : Nat → Nat → Int32} {p : Nat → Option Nat} {x1 x2 x3 y1 : Int32} (h : vp_in y1 48 ∧ (Post (some (.int (C 6 y1.toNatClampNeg))) (am_w zN C p))) : am_At (d + 1) 68 none Post 97 [some (.ref 0), some (.int x1), some (.int x2), some (.int x3)] [.int y1, .ref 6] (am_w zN C p) (0, 0) := am_wp_ok (stops := [9, 40, 97, 108, 111, 131, 140, 156]) am_k68 400 _ _ _ _ _ h
set_option maxRecDepth 100000 in
theorem s_F_round_108 {zN d : Nat} {Post : Option Value → aW → Prop} {C : Nat → Nat → Int32} {p : Nat → Option Nat} {x1 x2 x3 y1 : Int32} (h : am_Ci d 81 [.ref 0, .int y1] (am_w zN C p) (fun v w1 => am_At (d + 1) 68 none Post 111 [some (.ref 0), some (.int x1), some (.int x2), some (.int x3)] [.int v] w1 (0, 0))) : am_At (d + 1) 68 none Post 108 [some (.ref 0), some (.int x1), some (.int x2), some (.int x3)] [.int y1, .ref 0] (am_w zN C p) (0, 0) := am_wp_ok (stops := [9, 40, 97, 108, 111, 131, 140, 156]) am_k68 400 _ _ _ _ _ h
set_option maxRecDepth 100000 in
theorem s_F_round_111 {zN d : Nat} {Post : Option Value → aW → Prop} {C : Nat → Nat → Int32} {p : Nat → Option Nat} {x1 x2 x3 y0 : Int32} (h : Post (some (.int y0)) (am_w zN C p)) : am_At (d + 1) 68 none Post 111 [some (.ref 0), some (.int x1), some (.int x2), some (.int x3)] [.int y0] (am_w zN C p) (0, 0) := am_wp_ok (stops := [9, 40, 97, 108, 111, 131, 140, 156]) am_k68 400 _ _ _ _ _ h
set_option maxRecDepth 100000 in
theorem s_F_round_131 {zN d : Nat} {Post : Option Value → aW → Prop} {C : Nat → Nat → Int32} {p : Nat → Option Nat} {x1 x2 x3 y0 : Int32} (h : Post (some (.int y0)) (am_w zN C p)) : am_At (d + 1) 68 none Post 131 [some (.ref 0), some (.int x1), some (.int x2), some (.int x3)] [.int y0] (am_w zN C p) (0, 0) := am_wp_ok (stops := [9, 40, 97, 108, 111, 131, 140, 156]) am_k68 400 _ _ _ _ _ h
set_option maxRecDepth 100000 in
theorem s_F_round_140 {zN d : Nat} {Post : Option Value → aW → Prop} {C : Nat → Nat → Int32} {p : Nat → Option Nat} {x1 x2 x3 y0 : Int32} (h : Post (some (.int y0)) (am_w zN C p)) : am_At (d + 1) 68 none Post 140 [some (.ref 0), some (.int x1), some (.int x2), some (.int x3)] [.int y0] (am_w zN C p) (0, 0) := am_wp_ok (stops := [9, 40, 97, 108, 111, 131, 140, 156]) am_k68 400 _ _ _ _ _ h
set_option maxRecDepth 100000 in
theorem s_F_round_156 {zN d : Nat} {Post : Option Value → aW → Prop} {C : Nat → Nat → Int32} {p : Nat → Option Nat} {x1 x2 x3 y0 : Int32} (h : Post (some (.int y0)) (am_w zN C p)) : am_At (d + 1) 68 none Post 156 [some (.ref 0), some (.int x1), some (.int x2), some (.int x3)] [.int y0] (am_w zN C p) (0, 0) := am_wp_ok (stops := [9, 40, 97, 108, 111, 131, 140, 156]) am_k68 400 _ _ _ _ _ h
set_option maxRecDepth 100000 in
theorem e_F_reduced {zN d : Nat} {C : Nat → Nat → Int32} {p : Nat → Option Nat} {x1 x2 x3 x4 : Int32} {P : Option Value → (Nat → Nat → Int32) → (Nat → Option Nat) → Prop} (h : am_At (d + 1) 69 none (am_Ret zN P) 0 [some (.ref 0), some (.int x1), some (.int x2), some (.int x3), some (.int x4), none] [] (am_w zN C p) (0, 0)) : am_Call (d + 1) 69 [.ref 0, .int x1, .int x2, .int x3, .int x4] (am_w zN C p) (am_Ret zN P) := am_m_go (by decide +kernel) rfl rfl rfl h
set_option maxRecDepth 100000 in
theorem s_F_reduced_0 {zN d : Nat} {Post : Option Value → aW → Prop} {C : Nat → Nat → Int32} {p : Nat → Option Nat} {x1 x2 x3 x4 : Int32} (h : am_Ci d 33 [.ref 1, .int x1, .int x2] (am_w zN C p) (fun v w1 => am_At (d + 1) 69 none Post 9 [some (.ref 0), some (.int x1), some (.int x2), some (.int x3), some (.int x4), none] [.int v] w1 (0, 0))) : am_At (d + 1) 69 none Post 0 [some (.ref 0), some (.int x1), some (.int x2), some (.int x3), some (.int x4), none] [] (am_w zN C p) (0, 0) := am_wp_ok (stops := [9, 16, 52, 65, 74]) am_k69 400 _ _ _ _ _ h
set_option maxRecDepth 100000 in
theorem s_F_reduced_9 {zN d : Nat} {Post : Option Value → aW → Prop} {C : Nat → Nat → Int32} {p : Nat → Option Nat} {x1 x2 x3 x4 y0 : Int32} (h : (y0 = (0 : Int32) → (Post (some (.int (-2000001 : Int32))) (am_w zN C p))) ∧ (¬ y0 = (0 : Int32) → (am_Ci d 75 [.int x3] (am_w zN C p) (fun v w1 => am_At (d + 1) 69 none Post 16 [some (.ref 0), some (.int x1), some (.int x2), some (.int x3), some (.int x4), none] [.int v] w1 (0, 0))))) : am_At (d + 1) 69 none Post 9 [some (.ref 0), some (.int x1), some (.int x2), some (.int x3), some (.int x4), none] [.int y0] (am_w zN C p) (0, 0) := am_wp_ok (stops := [9, 16, 52, 65, 74]) am_k69 400 _ _ _ _ _ h
set_option maxRecDepth 100000 in
theorem s_F_reduced_16 {zN d : Nat} {Post : Option Value → aW → Prop} {C : Nat → Nat → Int32} {p : Nat → Option Nat} {x1 x2 x3 x4 y0 : Int32} (h : (¬ y0 = (0 : Int32) → ((x4 < (0 : Int32) → (Post (some (.int (-2000002 : Int32))) (am_w zN C p))) ∧ (¬ x4 < (0 : Int32) → ((x4 ≤ (3 : Int32) → ((¬ x4 = (3 : Int32) → (am_Cv d 14 [.ref 68, .ref 1, .int x1] (am_w zN C p) (fun w1 => am_At (d + 1) 69 none Post 65 [some (.ref 0), some (.int x1), some (.int x2), some (.int x3), some (.int x4), none] [] w1 (0, 0)))) ∧ (x4 = (3 : Int32) → (am_Ci d 42 [.ref 1, .int x1, .int x2, .int x3] (am_w zN C p) (fun v w1 => am_At (d + 1) 69 none Post 52 [some (.ref 0), some (.int x1), some (.int x2), some (.int x3), some (.int x4), none] [.int v] w1 (0, 0)))))) ∧ (¬ x4 ≤ (3 : Int32) → (Post (some (.int (-2000002 : Int32))) (am_w zN C p))))))) ∧ (y0 = (0 : Int32) → (Post (some (.int (-2000001 : Int32))) (am_w zN C p)))) : am_At (d + 1) 69 none Post 16 [some (.ref 0), some (.int x1), some (.int x2), some (.int x3), some (.int x4), none] [.int y0] (am_w zN C p) (0, 0) := am_wp_ok (stops := [9, 16, 52, 65, 74]) am_k69 400 _ _ _ _ _ h
set_option maxRecDepth 100000 in
theorem s_F_reduced_52 {zN d : Nat} {Post : Option Value → aW → Prop} {C : Nat → Nat → Int32} {p : Nat → Option Nat} {x1 x2 x3 x4 y0 : Int32} (h : Post (some (.int y0)) (am_w zN C p)) : am_At (d + 1) 69 none Post 52 [some (.ref 0), some (.int x1), some (.int x2), some (.int x3), some (.int x4), none] [.int y0] (am_w zN C p) (0, 0) := am_wp_ok (stops := [9, 16, 52, 65, 74]) am_k69 400 _ _ _ _ _ h
set_option maxRecDepth 100000 in
theorem s_F_reduced_65 {zN d : Nat} {Post : Option Value → aW → Prop} {C : Nat → Nat → Int32} {p : Nat → Option Nat} {x1 x2 x3 x4 : Int32} (h : am_Ci d 18 [.ref 68, .int x2, .int x3] (am_w zN C p) (fun v w1 => am_At (d + 1) 69 none Post 74 [some (.ref 0), some (.int x1), some (.int x2), some (.int x3), some (.int x4), none] [.int v] w1 (0, 0))) : am_At (d + 1) 69 none Post 65 [some (.ref 0), some (.int x1), some (.int x2), some (.int x3), some (.int x4), none] [] (am_w zN C p) (0, 0) := am_wp_ok (stops := [9, 16, 52, 65, 74]) am_k69 400 _ _ _ _ _ h
set_option maxRecDepth 100000 in
theorem s_F_reduced_74 {zN d : Nat} {Post : Option Value → aW → Prop} {C : Nat → Nat → Int32} {p : Nat → Option Nat} {x1 x2 x3 x4 y0 : Int32} (h : (¬ y0 = (0 : Int32) → ((x4 = (0 : Int32) → (vp_in ((x2 * (6 : Int32)) + x3) 36 ∧ (Post (some (.int (C 70 ((x2 * (6 : Int32)) + x3).toNatClampNeg))) (am_w zN C p)))) ∧ (¬ x4 = (0 : Int32) → ((x4 = (1 : Int32) → (vp_in ((x2 * (6 : Int32)) + x3) 36 ∧ (Post (some (.int (C 72 ((x2 * (6 : Int32)) + x3).toNatClampNeg))) (am_w zN C p)))) ∧ (¬ x4 = (1 : Int32) → (vp_in ((x2 * (6 : Int32)) + x3) 36 ∧ (Post (some (.int (C 71 ((x2 * (6 : Int32)) + x3).toNatClampNeg))) (am_w zN C p)))))))) ∧ (y0 = (0 : Int32) → (Post (some (.int (-2000005 : Int32))) (am_w zN C p)))) : am_At (d + 1) 69 none Post 74 [some (.ref 0), some (.int x1), some (.int x2), some (.int x3), some (.int x4), none] [.int y0] (am_w zN C p) (0, 0) := am_wp_ok (stops := [9, 16, 52, 65, 74]) am_k69 400 _ _ _ _ _ h
set_option maxRecDepth 100000 in
theorem e_F_direction {zN d : Nat} {C : Nat → Nat → Int32} {p : Nat → Option Nat} {x1 x2 x3 : Int32} {P : Option Value → (Nat → Nat → Int32) → (Nat → Option Nat) → Prop} (h : am_At (d + 1) 70 none (am_Ret zN P) 0 [some (.ref 0), some (.int x1), some (.int x2), some (.int x3)] [] (am_w zN C p) (0, 0)) : am_Call (d + 1) 70 [.ref 0, .int x1, .int x2, .int x3] (am_w zN C p) (am_Ret zN P) := am_m_go (by decide +kernel) rfl rfl rfl h
set_option maxRecDepth 100000 in
theorem s_F_direction_0 {zN d : Nat} {Post : Option Value → aW → Prop} {C : Nat → Nat → Int32} {p : Nat → Option Nat} {x1 x2 x3 : Int32} (h : am_Ci d 32 [.ref 1, .int x1] (am_w zN C p) (fun v w1 => am_At (d + 1) 70 none Post 8 [some (.ref 0), some (.int x1), some (.int x2), some (.int x3)] [.int v] w1 (0, 0))) : am_At (d + 1) 70 none Post 0 [some (.ref 0), some (.int x1), some (.int x2), some (.int x3)] [] (am_w zN C p) (0, 0) := am_wp_ok (stops := [8, 15, 45, 58, 67, 116, 123, 132]) am_k70 400 _ _ _ _ _ h
set_option maxRecDepth 100000 in
theorem s_F_direction_8 {zN d : Nat} {Post : Option Value → aW → Prop} {C : Nat → Nat → Int32} {p : Nat → Option Nat} {x1 x2 x3 y0 : Int32} (h : (y0 = (0 : Int32) → (Post (some (.int (-2000001 : Int32))) (am_w zN C p))) ∧ (¬ y0 = (0 : Int32) → (am_Ci d 75 [.int x2] (am_w zN C p) (fun v w1 => am_At (d + 1) 70 none Post 15 [some (.ref 0), some (.int x1), some (.int x2), some (.int x3)] [.int v] w1 (0, 0))))) : am_At (d + 1) 70 none Post 8 [some (.ref 0), some (.int x1), some (.int x2), some (.int x3)] [.int y0] (am_w zN C p) (0, 0) := am_wp_ok (stops := [8, 15, 45, 58, 67, 116, 123, 132]) am_k70 400 _ _ _ _ _ h
set_option maxRecDepth 100000 in
theorem s_F_direction_15 {zN d : Nat} {Post : Option Value → aW → Prop} {C : Nat → Nat → Int32} {p : Nat → Option Nat} {x1 x2 x3 y0 : Int32} (h : (¬ y0 = (0 : Int32) → ((x3 < (0 : Int32) → (Post (some (.int (-2000002 : Int32))) (am_w zN C p))) ∧ (¬ x3 < (0 : Int32) → ((x3 ≤ (4 : Int32) → (am_Cv d 14 [.ref 68, .ref 1, .int x1] (am_w zN C p) (fun w1 => am_At (d + 1) 70 none Post 45 [some (.ref 0), some (.int x1), some (.int x2), some (.int x3)] [] w1 (0, 0)))) ∧ (¬ x3 ≤ (4 : Int32) → (Post (some (.int (-2000002 : Int32))) (am_w zN C p))))))) ∧ (y0 = (0 : Int32) → (Post (some (.int (-2000001 : Int32))) (am_w zN C p)))) : am_At (d + 1) 70 none Post 15 [some (.ref 0), some (.int x1), some (.int x2), some (.int x3)] [.int y0] (am_w zN C p) (0, 0) := am_wp_ok (stops := [8, 15, 45, 58, 67, 116, 123, 132]) am_k70 400 _ _ _ _ _ h
set_option maxRecDepth 100000 in
theorem s_F_direction_45 {zN d : Nat} {Post : Option Value → aW → Prop} {C : Nat → Nat → Int32} {p : Nat → Option Nat} {x1 x2 x3 : Int32} (h : (¬ x3 = (4 : Int32) → (am_Ci d 19 [.ref 68, .int x2] (am_w zN C p) (fun v w1 => am_At (d + 1) 70 none Post 67 [some (.ref 0), some (.int x1), some (.int x2), some (.int x3)] [.int v] w1 (0, 0)))) ∧ (x3 = (4 : Int32) → (am_Ci d 20 [.ref 68, .int x2] (am_w zN C p) (fun v w1 => am_At (d + 1) 70 none Post 58 [some (.ref 0), some (.int x1), some (.int x2), some (.int x3)] [.int v] w1 (0, 0))))) : am_At (d + 1) 70 none Post 45 [some (.ref 0), some (.int x1), some (.int x2), some (.int x3)] [] (am_w zN C p) (0, 0) := am_wp_ok (stops := [8, 15, 45, 58, 67, 116, 123, 132]) am_k70 400 _ _ _ _ _ h
set_option maxRecDepth 100000 in
theorem s_F_direction_58 {zN d : Nat} {Post : Option Value → aW → Prop} {C : Nat → Nat → Int32} {p : Nat → Option Nat} {x1 x2 x3 y0 : Int32} (h : Post (some (.int y0)) (am_w zN C p)) : am_At (d + 1) 70 none Post 58 [some (.ref 0), some (.int x1), some (.int x2), some (.int x3)] [.int y0] (am_w zN C p) (0, 0) := am_wp_ok (stops := [8, 15, 45, 58, 67, 116, 123, 132]) am_k70 400 _ _ _ _ _ h
set_option maxRecDepth 100000 in
theorem s_F_direction_67 {zN d : Nat} {Post : Option Value → aW → Prop} {C : Nat → Nat → Int32} {p : Nat → Option Nat} {x1 x2 x3 y0 : Int32} (h : (¬ y0 = (0 : Int32) → ((x3 = (0 : Int32) → (vp_in x2 6 ∧ (Post (some (.int (C 73 x2.toNatClampNeg))) (am_w zN C p)))) ∧ (¬ x3 = (0 : Int32) → ((x3 = (1 : Int32) → (am_Ci d 83 [.ref 0, .int x1, .int x2] (am_w zN C p) (fun v w1 => am_At (d + 1) 70 none Post 116 [some (.ref 0), some (.int x1), some (.int x2), some (.int x3)] [.int v] w1 (0, 0)))) ∧ (¬ x3 = (1 : Int32) → ((x3 = (2 : Int32) → (am_Ci d 84 [.ref 0, .int x1, .int x2] (am_w zN C p) (fun v w1 => am_At (d + 1) 70 none Post 123 [some (.ref 0), some (.int x1), some (.int x2), some (.int x3)] [.int v] w1 (0, 0)))) ∧ (¬ x3 = (2 : Int32) → (am_Ci d 22 [.ref 68, .int x2] (am_w zN C p) (fun v w1 => am_At (d + 1) 70 none Post 132 [some (.ref 0), some (.int x1), some (.int x2), some (.int x3)] [.int v] w1 (0, 0)))))))))) ∧ (y0 = (0 : Int32) → (Post (some (.int (-2000005 : Int32))) (am_w zN C p)))) : am_At (d + 1) 70 none Post 67 [some (.ref 0), some (.int x1), some (.int x2), some (.int x3)] [.int y0] (am_w zN C p) (0, 0) := am_wp_ok (stops := [8, 15, 45, 58, 67, 116, 123, 132]) am_k70 400 _ _ _ _ _ h
set_option maxRecDepth 100000 in
theorem s_F_direction_116 {zN d : Nat} {Post : Option Value → aW → Prop} {C : Nat → Nat → Int32} {p : Nat → Option Nat} {x1 x2 x3 y0 : Int32} (h : Post (some (.int y0)) (am_w zN C p)) : am_At (d + 1) 70 none Post 116 [some (.ref 0), some (.int x1), some (.int x2), some (.int x3)] [.int y0] (am_w zN C p) (0, 0) := am_wp_ok (stops := [8, 15, 45, 58, 67, 116, 123, 132]) am_k70 400 _ _ _ _ _ h
set_option maxRecDepth 100000 in
theorem s_F_direction_123 {zN d : Nat} {Post : Option Value → aW → Prop} {C : Nat → Nat → Int32} {p : Nat → Option Nat} {x1 x2 x3 y0 : Int32} (h : Post (some (.int y0)) (am_w zN C p)) : am_At (d + 1) 70 none Post 123 [some (.ref 0), some (.int x1), some (.int x2), some (.int x3)] [.int y0] (am_w zN C p) (0, 0) := am_wp_ok (stops := [8, 15, 45, 58, 67, 116, 123, 132]) am_k70 400 _ _ _ _ _ h
set_option maxRecDepth 100000 in
theorem s_F_direction_132 {zN d : Nat} {Post : Option Value → aW → Prop} {C : Nat → Nat → Int32} {p : Nat → Option Nat} {x1 x2 x3 y0 : Int32} (h : Post (some (.int y0)) (am_w zN C p)) : am_At (d + 1) 70 none Post 132 [some (.ref 0), some (.int x1), some (.int x2), some (.int x3)] [.int y0] (am_w zN C p) (0, 0) := am_wp_ok (stops := [8, 15, 45, 58, 67, 116, 123, 132]) am_k70 400 _ _ _ _ _ h
set_option maxRecDepth 100000 in
theorem e_F_angle {zN d : Nat} {C : Nat → Nat → Int32} {p : Nat → Option Nat} {x1 x2 x3 x4 : Int32} {P : Option Value → (Nat → Nat → Int32) → (Nat → Option Nat) → Prop} (h : am_At (d + 1) 71 none (am_Ret zN P) 0 [some (.ref 0), some (.int x1), some (.int x2), some (.int x3), some (.int x4)] [] (am_w zN C p) (0, 0)) : am_Call (d + 1) 71 [.ref 0, .int x1, .int x2, .int x3, .int x4] (am_w zN C p) (am_Ret zN P) := am_m_go (by decide +kernel) rfl rfl rfl h
set_option maxRecDepth 100000 in
theorem s_F_angle_0 {zN d : Nat} {Post : Option Value → aW → Prop} {C : Nat → Nat → Int32} {p : Nat → Option Nat} {x1 x2 x3 x4 : Int32} (h : am_Ci d 32 [.ref 1, .int x1] (am_w zN C p) (fun v w1 => am_At (d + 1) 71 none Post 8 [some (.ref 0), some (.int x1), some (.int x2), some (.int x3), some (.int x4)] [.int v] w1 (0, 0))) : am_At (d + 1) 71 none Post 0 [some (.ref 0), some (.int x1), some (.int x2), some (.int x3), some (.int x4)] [] (am_w zN C p) (0, 0) := am_wp_ok (stops := [8, 15, 22, 40, 48, 59, 76, 82, 88, 98]) am_k71 400 _ _ _ _ _ h
set_option maxRecDepth 100000 in
theorem s_F_angle_8 {zN d : Nat} {Post : Option Value → aW → Prop} {C : Nat → Nat → Int32} {p : Nat → Option Nat} {x1 x2 x3 x4 y0 : Int32} (h : (y0 = (0 : Int32) → (Post (some (.int (-2000001 : Int32))) (am_w zN C p))) ∧ (¬ y0 = (0 : Int32) → (am_Ci d 75 [.int x2] (am_w zN C p) (fun v w1 => am_At (d + 1) 71 none Post 15 [some (.ref 0), some (.int x1), some (.int x2), some (.int x3), some (.int x4)] [.int v] w1 (0, 0))))) : am_At (d + 1) 71 none Post 8 [some (.ref 0), some (.int x1), some (.int x2), some (.int x3), some (.int x4)] [.int y0] (am_w zN C p) (0, 0) := am_wp_ok (stops := [8, 15, 22, 40, 48, 59, 76, 82, 88, 98]) am_k71 400 _ _ _ _ _ h
set_option maxRecDepth 100000 in
theorem s_F_angle_15 {zN d : Nat} {Post : Option Value → aW → Prop} {C : Nat → Nat → Int32} {p : Nat → Option Nat} {x1 x2 x3 x4 y0 : Int32} (h : (y0 = (0 : Int32) → (Post (some (.int (-2000001 : Int32))) (am_w zN C p))) ∧ (¬ y0 = (0 : Int32) → (am_Ci d 75 [.int x3] (am_w zN C p) (fun v w1 => am_At (d + 1) 71 none Post 22 [some (.ref 0), some (.int x1), some (.int x2), some (.int x3), some (.int x4)] [.int v] w1 (0, 0))))) : am_At (d + 1) 71 none Post 15 [some (.ref 0), some (.int x1), some (.int x2), some (.int x3), some (.int x4)] [.int y0] (am_w zN C p) (0, 0) := am_wp_ok (stops := [8, 15, 22, 40, 48, 59, 76, 82, 88, 98]) am_k71 400 _ _ _ _ _ h
set_option maxRecDepth 100000 in
theorem s_F_angle_22 {zN d : Nat} {Post : Option Value → aW → Prop} {C : Nat → Nat → Int32} {p : Nat → Option Nat} {x1 x2 x3 x4 y0 : Int32} (h : (¬ y0 = (0 : Int32) → (am_Cv d 14 [.ref 68, .ref 1, .int x1] (am_w zN C p) (fun w1 => am_At (d + 1) 71 none Post 40 [some (.ref 0), some (.int x1), some (.int x2), some (.int x3), some (.int x4)] [] w1 (0, 0)))) ∧ (y0 = (0 : Int32) → (Post (some (.int (-2000001 : Int32))) (am_w zN C p)))) : am_At (d + 1) 71 none Post 22 [some (.ref 0), some (.int x1), some (.int x2), some (.int x3), some (.int x4)] [.int y0] (am_w zN C p) (0, 0) := am_wp_ok (stops := [8, 15, 22, 40, 48, 59, 76, 82, 88, 98]) am_k71 400 _ _ _ _ _ h
set_option maxRecDepth 100000 in
theorem s_F_angle_40 {zN d : Nat} {Post : Option Value → aW → Prop} {C : Nat → Nat → Int32} {p : Nat → Option Nat} {x1 x2 x3 x4 : Int32} (h : am_Ci d 19 [.ref 68, .int x2] (am_w zN C p) (fun v w1 => am_At (d + 1) 71 none Post 48 [some (.ref 0), some (.int x1), some (.int x2), some (.int x3), some (.int x4)] [.int v] w1 (0, 0))) : am_At (d + 1) 71 none Post 40 [some (.ref 0), some (.int x1), some (.int x2), some (.int x3), some (.int x4)] [] (am_w zN C p) (0, 0) := am_wp_ok (stops := [8, 15, 22, 40, 48, 59, 76, 82, 88, 98]) am_k71 400 _ _ _ _ _ h
set_option maxRecDepth 100000 in
theorem s_F_angle_48 {zN d : Nat} {Post : Option Value → aW → Prop} {C : Nat → Nat → Int32} {p : Nat → Option Nat} {x1 x2 x3 x4 y0 : Int32} (h : (y0 = (0 : Int32) → (Post (some (.int (-2000005 : Int32))) (am_w zN C p))) ∧ (¬ y0 = (0 : Int32) → (am_Ci d 19 [.ref 68, .int x3] (am_w zN C p) (fun v w1 => am_At (d + 1) 71 none Post 59 [some (.ref 0), some (.int x1), some (.int x2), some (.int x3), some (.int x4)] [.int v] w1 (0, 0))))) : am_At (d + 1) 71 none Post 48 [some (.ref 0), some (.int x1), some (.int x2), some (.int x3), some (.int x4)] [.int y0] (am_w zN C p) (0, 0) := am_wp_ok (stops := [8, 15, 22, 40, 48, 59, 76, 82, 88, 98]) am_k71 400 _ _ _ _ _ h
set_option maxRecDepth 100000 in
theorem s_F_angle_59 {zN d : Nat} {Post : Option Value → aW → Prop} {C : Nat → Nat → Int32} {p : Nat → Option Nat} {x1 x2 x3 x4 y0 : Int32} (h : (¬ y0 = (0 : Int32) → ((x4 = (0 : Int32) → (am_Ci d 26 [.ref 68, .int x2, .int x3] (am_w zN C p) (fun v w1 => am_At (d + 1) 71 none Post 98 [some (.ref 0), some (.int x1), some (.int x2), some (.int x3), some (.int x4)] [.int v] w1 (0, 0)))) ∧ (¬ x4 = (0 : Int32) → (am_Ci d 84 [.ref 0, .int x1, .int x3] (am_w zN C p) (fun v w1 => am_At (d + 1) 71 none Post 76 [some (.ref 0), some (.int x1), some (.int x2), some (.int x3), some (.int x4)] [.int v] w1 (0, 0)))))) ∧ (y0 = (0 : Int32) → (Post (some (.int (-2000005 : Int32))) (am_w zN C p)))) : am_At (d + 1) 71 none Post 59 [some (.ref 0), some (.int x1), some (.int x2), some (.int x3), some (.int x4)] [.int y0] (am_w zN C p) (0, 0) := am_wp_ok (stops := [8, 15, 22, 40, 48, 59, 76, 82, 88, 98]) am_k71 400 _ _ _ _ _ h
set_option maxRecDepth 100000 in
theorem s_F_angle_76 {zN d : Nat} {Post : Option Value → aW → Prop} {C : Nat → Nat → Int32} {p : Nat → Option Nat} {x1 x2 x3 x4 y0 : Int32} (h : am_Ci d 84 [.ref 0, .int x1, .int x2] (am_w zN C p) (fun v w1 => am_At (d + 1) 71 none Post 82 [some (.ref 0), some (.int x1), some (.int x2), some (.int x3), some (.int x4)] [.int v, .int y0] w1 (0, 0))) : am_At (d + 1) 71 none Post 76 [some (.ref 0), some (.int x1), some (.int x2), some (.int x3), some (.int x4)] [.int y0] (am_w zN C p) (0, 0) := am_wp_ok (stops := [8, 15, 22, 40, 48, 59, 76, 82, 88, 98]) am_k71 400 _ _ _ _ _ h
set_option maxRecDepth 100000 in
theorem s_F_angle_82 {zN d : Nat} {Post : Option Value → aW → Prop} {C : Nat → Nat → Int32} {p : Nat → Option Nat} {x1 x2 x3 x4 y0 y1 : Int32} (h : am_Ci d 160 [.int (y0 - y1), .int (1296000 : Int32)] (am_w zN C p) (fun v w1 => am_At (d + 1) 71 none Post 88 [some (.ref 0), some (.int x1), some (.int x2), some (.int x3), some (.int x4)] [.int v] w1 (0, 0))) : am_At (d + 1) 71 none Post 82 [some (.ref 0), some (.int x1), some (.int x2), some (.int x3), some (.int x4)] [.int y1, .int y0] (am_w zN C p) (0, 0) := am_wp_ok (stops := [8, 15, 22, 40, 48, 59, 76, 82, 88, 98]) am_k71 400 _ _ _ _ _ h
set_option maxRecDepth 100000 in
theorem s_F_angle_88 {zN d : Nat} {Post : Option Value → aW → Prop} {C : Nat → Nat → Int32} {p : Nat → Option Nat} {x1 x2 x3 x4 y0 : Int32} (h : Post (some (.int y0)) (am_w zN C p)) : am_At (d + 1) 71 none Post 88 [some (.ref 0), some (.int x1), some (.int x2), some (.int x3), some (.int x4)] [.int y0] (am_w zN C p) (0, 0) := am_wp_ok (stops := [8, 15, 22, 40, 48, 59, 76, 82, 88, 98]) am_k71 400 _ _ _ _ _ h
set_option maxRecDepth 100000 in
theorem s_F_angle_98 {zN d : Nat} {Post : Option Value → aW → Prop} {C : Nat → Nat → Int32} {p : Nat → Option Nat} {x1 x2 x3 x4 y0 : Int32} (h : Post (some (.int y0)) (am_w zN C p)) : am_At (d + 1) 71 none Post 98 [some (.ref 0), some (.int x1), some (.int x2), some (.int x3), some (.int x4)] [.int y0] (am_w zN C p) (0, 0) := am_wp_ok (stops := [8, 15, 22, 40, 48, 59, 76, 82, 88, 98]) am_k71 400 _ _ _ _ _ h
set_option maxRecDepth 100000 in
theorem e_F_byAngles {zN d : Nat} {C : Nat → Nat → Int32} {p : Nat → Option Nat} {x1 x2 : Int32} {P : Option Value → (Nat → Nat → Int32) → (Nat → Option Nat) → Prop} (h : am_At (d + 1) 72 none (am_Ret zN P) 0 [some (.ref 0), some (.int x1), some (.int x2)] [] (am_w zN C p) (0, 0)) : am_Call (d + 1) 72 [.ref 0, .int x1, .int x2] (am_w zN C p) (am_Ret zN P) := am_m_go (by decide +kernel) rfl rfl rfl h
set_option maxRecDepth 100000 in
theorem s_F_byAngles_0 {zN d : Nat} {Post : Option Value → aW → Prop} {C : Nat → Nat → Int32} {p : Nat → Option Nat} {x1 x2 : Int32} (h : am_Ci d 32 [.ref 1, .int x1] (am_w zN C p) (fun v w1 => am_At (d + 1) 72 none Post 8 [some (.ref 0), some (.int x1), some (.int x2)] [.int v] w1 (0, 0))) : am_At (d + 1) 72 none Post 0 [some (.ref 0), some (.int x1), some (.int x2)] [] (am_w zN C p) (0, 0) := am_wp_ok (stops := [8, 15, 33, 41, 55]) am_k72 400 _ _ _ _ _ h
set_option maxRecDepth 100000 in
theorem s_F_byAngles_8 {zN d : Nat} {Post : Option Value → aW → Prop} {C : Nat → Nat → Int32} {p : Nat → Option Nat} {x1 x2 y0 : Int32} (h : (y0 = (0 : Int32) → (Post (some (.int (-2000001 : Int32))) (am_w zN C p))) ∧ (¬ y0 = (0 : Int32) → (am_Ci d 75 [.int x2] (am_w zN C p) (fun v w1 => am_At (d + 1) 72 none Post 15 [some (.ref 0), some (.int x1), some (.int x2)] [.int v] w1 (0, 0))))) : am_At (d + 1) 72 none Post 8 [some (.ref 0), some (.int x1), some (.int x2)] [.int y0] (am_w zN C p) (0, 0) := am_wp_ok (stops := [8, 15, 33, 41, 55]) am_k72 400 _ _ _ _ _ h
set_option maxRecDepth 100000 in
theorem s_F_byAngles_15 {zN d : Nat} {Post : Option Value → aW → Prop} {C : Nat → Nat → Int32} {p : Nat → Option Nat} {x1 x2 y0 : Int32} (h : (¬ y0 = (0 : Int32) → (am_Cv d 14 [.ref 68, .ref 1, .int x1] (am_w zN C p) (fun w1 => am_At (d + 1) 72 none Post 33 [some (.ref 0), some (.int x1), some (.int x2)] [] w1 (0, 0)))) ∧ (y0 = (0 : Int32) → (Post (some (.int (-2000001 : Int32))) (am_w zN C p)))) : am_At (d + 1) 72 none Post 15 [some (.ref 0), some (.int x1), some (.int x2)] [.int y0] (am_w zN C p) (0, 0) := am_wp_ok (stops := [8, 15, 33, 41, 55]) am_k72 400 _ _ _ _ _ h
set_option maxRecDepth 100000 in
theorem s_F_byAngles_33 {zN d : Nat} {Post : Option Value → aW → Prop} {C : Nat → Nat → Int32} {p : Nat → Option Nat} {x1 x2 : Int32} (h : am_Ci d 19 [.ref 68, .int x2] (am_w zN C p) (fun v w1 => am_At (d + 1) 72 none Post 41 [some (.ref 0), some (.int x1), some (.int x2)] [.int v] w1 (0, 0))) : am_At (d + 1) 72 none Post 33 [some (.ref 0), some (.int x1), some (.int x2)] [] (am_w zN C p) (0, 0) := am_wp_ok (stops := [8, 15, 33, 41, 55]) am_k72 400 _ _ _ _ _ h
set_option maxRecDepth 100000 in
theorem s_F_byAngles_41 {zN d : Nat} {Post : Option Value → aW → Prop} {C : Nat → Nat → Int32} {p : Nat → Option Nat} {x1 x2 y0 : Int32} (h : (¬ y0 = (0 : Int32) → (am_Ci d 27 [.ref 68, .int x2] (am_w zN C p) (fun v w1 => am_At (d + 1) 72 none Post 55 [some (.ref 0), some (.int x1), some (.int x2)] [.int v] w1 (0, 0)))) ∧ (y0 = (0 : Int32) → (Post (some (.int (-2000005 : Int32))) (am_w zN C p)))) : am_At (d + 1) 72 none Post 41 [some (.ref 0), some (.int x1), some (.int x2)] [.int y0] (am_w zN C p) (0, 0) := am_wp_ok (stops := [8, 15, 33, 41, 55]) am_k72 400 _ _ _ _ _ h
set_option maxRecDepth 100000 in
theorem s_F_byAngles_55 {zN d : Nat} {Post : Option Value → aW → Prop} {C : Nat → Nat → Int32} {p : Nat → Option Nat} {x1 x2 y0 : Int32} (h : Post (some (.int y0)) (am_w zN C p)) : am_At (d + 1) 72 none Post 55 [some (.ref 0), some (.int x1), some (.int x2)] [.int y0] (am_w zN C p) (0, 0) := am_wp_ok (stops := [8, 15, 33, 41, 55]) am_k72 400 _ _ _ _ _ h
set_option maxRecDepth 100000 in
theorem e_F_count {zN d : Nat} {C : Nat → Nat → Int32} {p : Nat → Option Nat} {x1 : Int32} {P : Option Value → (Nat → Nat → Int32) → (Nat → Option Nat) → Prop} (h : am_At (d + 1) 73 none (am_Ret zN P) 0 [some (.ref 0), some (.int x1)] [] (am_w zN C p) (0, 0)) : am_Call (d + 1) 73 [.ref 0, .int x1] (am_w zN C p) (am_Ret zN P) := am_m_go (by decide +kernel) rfl rfl rfl h
set_option maxRecDepth 100000 in
theorem s_F_count_0 {zN d : Nat} {Post : Option Value → aW → Prop} {C : Nat → Nat → Int32} {p : Nat → Option Nat} {x1 : Int32} (h : ((x1 = (0 : Int32) → (Post (some (.int (C 1 0))) (am_w zN C p))) ∧ (¬ x1 = (0 : Int32) → ((x1 = (1 : Int32) → (am_Ci d 46 [.ref 1] (am_w zN C p) (fun v w1 => am_At (d + 1) 73 none Post 67 [some (.ref 0), some (.int x1)] [.int v] w1 (0, 0)))) ∧ (¬ x1 = (1 : Int32) → ((x1 = (2 : Int32) → (am_Ci d 47 [.ref 1] (am_w zN C p) (fun v w1 => am_At (d + 1) 73 none Post 75 [some (.ref 0), some (.int x1)] [.int v] w1 (0, 0)))) ∧ (¬ x1 = (2 : Int32) → ((x1 = (3 : Int32) → (am_Ci d 48 [.ref 1] (am_w zN C p) (fun v w1 => am_At (d + 1) 73 none Post 83 [some (.ref 0), some (.int x1)] [.int v] w1 (0, 0)))) ∧ (¬ x1 = (3 : Int32) → ((x1 = (4 : Int32) → (am_Ci d 82 [.ref 0] (am_w zN C p) (fun v w1 => am_At (d + 1) 73 none Post 88 [some (.ref 0), some (.int x1)] [.int v] w1 (0, 0)))) ∧ (¬ x1 = (4 : Int32) → ((x1 = (5 : Int32) → (Post (some (.int (C 1 1))) (am_w zN C p))) ∧ (¬ x1 = (5 : Int32) → ((x1 = (6 : Int32) → (am_Ci d 49 [.ref 1] (am_w zN C p) (fun v w1 => am_At (d + 1) 73 none Post 104 [some (.ref 0), some (.int x1)] [.int v] w1 (0, 0)))) ∧ (¬ x1 = (6 : Int32) → ((x1 = (7 : Int32) → (Post (some (.int (C 21 1))) (am_w zN C p))) ∧ (¬ x1 = (7 : Int32) → ((x1 = (8 : Int32) → (Post (some (.int (C 63 1))) (am_w zN C p))) ∧ (¬ x1 = (8 : Int32) → (Post (some (.int (-2000002 : Int32))) (am_w zN C p))))))))))))))))))))) : am_At (d + 1) 73 none Post 0 [some (.ref 0), some (.int x1)] [] (am_w zN C p) (0, 0) := am_wp_ok (stops := [67, 75, 83, 88, 104]) am_k73 400 _ _ _ _ _ h
set_option maxRecDepth 100000 in
theorem s_F_count_67 {zN d : Nat} {Post : Option Value → aW → Prop} {C : Nat → Nat → Int32} {p : Nat → Option Nat} {x1 y0 : Int32} (h : Post (some (.int y0)) (am_w zN C p)) : am_At (d + 1) 73 none Post 67 [some (.ref 0), some (.int x1)] [.int y0] (am_w zN C p) (0, 0) := am_wp_ok (stops := [67, 75, 83, 88, 104]) am_k73 400 _ _ _ _ _ h
set_option maxRecDepth 100000 in
theorem s_F_count_75 {zN d : Nat} {Post : Option Value → aW → Prop} {C : Nat → Nat → Int32} {p : Nat → Option Nat} {x1 y0 : Int32} (h : Post (some (.int y0)) (am_w zN C p)) : am_At (d + 1) 73 none Post 75 [some (.ref 0), some (.int x1)] [.int y0] (am_w zN C p) (0, 0) := am_wp_ok (stops := [67, 75, 83, 88, 104]) am_k73 400 _ _ _ _ _ h
set_option maxRecDepth 100000 in
theorem s_F_count_83 {zN d : Nat} {Post : Option Value → aW → Prop} {C : Nat → Nat → Int32} {p : Nat → Option Nat} {x1 y0 : Int32} (h : Post (some (.int y0)) (am_w zN C p)) : am_At (d + 1) 73 none Post 83 [some (.ref 0), some (.int x1)] [.int y0] (am_w zN C p) (0, 0) := am_wp_ok (stops := [67, 75, 83, 88, 104]) am_k73 400 _ _ _ _ _ h
set_option maxRecDepth 100000 in
theorem s_F_count_88 {zN d : Nat} {Post : Option Value → aW → Prop} {C : Nat → Nat → Int32} {p : Nat → Option Nat} {x1 y0 : Int32} (h : Post (some (.int y0)) (am_w zN C p)) : am_At (d + 1) 73 none Post 88 [some (.ref 0), some (.int x1)] [.int y0] (am_w zN C p) (0, 0) := am_wp_ok (stops := [67, 75, 83, 88, 104]) am_k73 400 _ _ _ _ _ h
set_option maxRecDepth 100000 in
theorem s_F_count_104 {zN d : Nat} {Post : Option Value → aW → Prop} {C : Nat → Nat → Int32} {p : Nat → Option Nat} {x1 y0 : Int32} (h : Post (some (.int y0)) (am_w zN C p)) : am_At (d + 1) 73 none Post 104 [some (.ref 0), some (.int x1)] [.int y0] (am_w zN C p) (0, 0) := am_wp_ok (stops := [67, 75, 83, 88, 104]) am_k73 400 _ _ _ _ _ h
set_option maxRecDepth 100000 in
theorem e_F_centring {zN d : Nat} {C : Nat → Nat → Int32} {p : Nat → Option Nat} {x1 x2 : Int32} {P : Option Value → (Nat → Nat → Int32) → (Nat → Option Nat) → Prop} (h : am_At (d + 1) 74 none (am_Ret zN P) 0 [some (.ref 0), some (.int x1), some (.int x2)] [] (am_w zN C p) (0, 0)) : am_Call (d + 1) 74 [.ref 0, .int x1, .int x2] (am_w zN C p) (am_Ret zN P) := am_m_go (by decide +kernel) rfl rfl rfl h
set_option maxRecDepth 100000 in
theorem s_F_centring_0 {zN d : Nat} {Post : Option Value → aW → Prop} {C : Nat → Nat → Int32} {p : Nat → Option Nat} {x1 x2 : Int32} (h : am_Ci d 32 [.ref 1, .int x1] (am_w zN C p) (fun v w1 => am_At (d + 1) 74 none Post 8 [some (.ref 0), some (.int x1), some (.int x2)] [.int v] w1 (0, 0))) : am_At (d + 1) 74 none Post 0 [some (.ref 0), some (.int x1), some (.int x2)] [] (am_w zN C p) (0, 0) := am_wp_ok (stops := [8]) am_k74 400 _ _ _ _ _ h
set_option maxRecDepth 100000 in
theorem s_F_centring_8 {zN d : Nat} {Post : Option Value → aW → Prop} {C : Nat → Nat → Int32} {p : Nat → Option Nat} {x1 x2 y0 : Int32} (h : (¬ y0 = (0 : Int32) → ((x2 = (0 : Int32) → (vp_in x1 4 ∧ (Post (some (.int (C 3 x1.toNatClampNeg))) (am_w zN C p)))) ∧ (¬ x2 = (0 : Int32) → (vp_in x1 4 ∧ (Post (some (.int (C 4 x1.toNatClampNeg))) (am_w zN C p)))))) ∧ (y0 = (0 : Int32) → (Post (some (.int (-2000001 : Int32))) (am_w zN C p)))) : am_At (d + 1) 74 none Post 8 [some (.ref 0), some (.int x1), some (.int x2)] [.int y0] (am_w zN C p) (0, 0) := am_wp_ok (stops := [8]) am_k74 400 _ _ _ _ _ h
set_option maxRecDepth 100000 in
theorem e_F_isTarget {zN d : Nat} {C : Nat → Nat → Int32} {p : Nat → Option Nat} {x0 : Int32} {P : Option Value → (Nat → Nat → Int32) → (Nat → Option Nat) → Prop} (h : am_At (d + 1) 75 none (am_Ret zN P) 0 [some (.int x0)] [] (am_w zN C p) (0, 0)) : am_Call (d + 1) 75 [.int x0] (am_w zN C p) (am_Ret zN P) := am_m_go (by decide +kernel) rfl rfl rfl h
set_option maxRecDepth 100000 in
theorem s_F_isTarget_0 {zN d : Nat} {Post : Option Value → aW → Prop} {C : Nat → Nat → Int32} {p : Nat → Option Nat} {x0 : Int32} (h : (x0 < (0 : Int32) → (((0 : Int32) = 0 ∨ (0 : Int32) = 1) ∧ Post (some (.int (0 : Int32))) (am_w zN C p))) ∧ (¬ x0 < (0 : Int32) → (((6 : Int32) ≤ x0 → (((0 : Int32) = 0 ∨ (0 : Int32) = 1) ∧ Post (some (.int (0 : Int32))) (am_w zN C p))) ∧ (¬ (6 : Int32) ≤ x0 → (((1 : Int32) = 0 ∨ (1 : Int32) = 1) ∧ Post (some (.int (1 : Int32))) (am_w zN C p)))))) : am_At (d + 1) 75 none Post 0 [some (.int x0)] [] (am_w zN C p) (0, 0) := am_wp_ok (stops := []) am_k75 400 _ _ _ _ _ h
set_option maxRecDepth 100000 in
theorem e_F_isFace {zN d : Nat} {C : Nat → Nat → Int32} {p : Nat → Option Nat} {x0 : Int32} {P : Option Value → (Nat → Nat → Int32) → (Nat → Option Nat) → Prop} (h : am_At (d + 1) 76 none (am_Ret zN P) 0 [some (.int x0)] [] (am_w zN C p) (0, 0)) : am_Call (d + 1) 76 [.int x0] (am_w zN C p) (am_Ret zN P) := am_m_go (by decide +kernel) rfl rfl rfl h
set_option maxRecDepth 100000 in
theorem s_F_isFace_0 {zN d : Nat} {Post : Option Value → aW → Prop} {C : Nat → Nat → Int32} {p : Nat → Option Nat} {x0 : Int32} (h : (x0 < (0 : Int32) → (((0 : Int32) = 0 ∨ (0 : Int32) = 1) ∧ Post (some (.int (0 : Int32))) (am_w zN C p))) ∧ (¬ x0 < (0 : Int32) → (((2 : Int32) ≤ x0 → (((0 : Int32) = 0 ∨ (0 : Int32) = 1) ∧ Post (some (.int (0 : Int32))) (am_w zN C p))) ∧ (¬ (2 : Int32) ≤ x0 → (((1 : Int32) = 0 ∨ (1 : Int32) = 1) ∧ Post (some (.int (1 : Int32))) (am_w zN C p)))))) : am_At (d + 1) 76 none Post 0 [some (.int x0)] [] (am_w zN C p) (0, 0) := am_wp_ok (stops := []) am_k76 400 _ _ _ _ _ h
set_option maxRecDepth 100000 in
theorem e_F_isReading {zN d : Nat} {C : Nat → Nat → Int32} {p : Nat → Option Nat} {x0 : Int32} {P : Option Value → (Nat → Nat → Int32) → (Nat → Option Nat) → Prop} (h : am_At (d + 1) 77 none (am_Ret zN P) 0 [some (.int x0)] [] (am_w zN C p) (0, 0)) : am_Call (d + 1) 77 [.int x0] (am_w zN C p) (am_Ret zN P) := am_m_go (by decide +kernel) rfl rfl rfl h
set_option maxRecDepth 100000 in
theorem s_F_isReading_0 {zN d : Nat} {Post : Option Value → aW → Prop} {C : Nat → Nat → Int32} {p : Nat → Option Nat} {x0 : Int32} (h : (x0 < (0 : Int32) → (((0 : Int32) = 0 ∨ (0 : Int32) = 1) ∧ Post (some (.int (0 : Int32))) (am_w zN C p))) ∧ (¬ x0 < (0 : Int32) → (((1296000 : Int32) ≤ x0 → (((0 : Int32) = 0 ∨ (0 : Int32) = 1) ∧ Post (some (.int (0 : Int32))) (am_w zN C p))) ∧ (¬ (1296000 : Int32) ≤ x0 → (((1 : Int32) = 0 ∨ (1 : Int32) = 1) ∧ Post (some (.int (1 : Int32))) (am_w zN C p)))))) : am_At (d + 1) 77 none Post 0 [some (.int x0)] [] (am_w zN C p) (0, 0) := am_wp_ok (stops := []) am_k77 400 _ _ _ _ _ h
set_option maxRecDepth 100000 in
theorem e_F_rowOf {zN d : Nat} {C : Nat → Nat → Int32} {p : Nat → Option Nat} {x0 x1 x2 : Int32} {P : Option Value → (Nat → Nat → Int32) → (Nat → Option Nat) → Prop} (h : am_At (d + 1) 78 none (am_Ret zN P) 0 [some (.int x0), some (.int x1), some (.int x2)] [] (am_w zN C p) (0, 0)) : am_Call (d + 1) 78 [.int x0, .int x1, .int x2] (am_w zN C p) (am_Ret zN P) := am_m_go (by decide +kernel) rfl rfl rfl h
set_option maxRecDepth 100000 in
theorem s_F_rowOf_0 {zN d : Nat} {Post : Option Value → aW → Prop} {C : Nat → Nat → Int32} {p : Nat → Option Nat} {x0 x1 x2 : Int32} (h : Post (some (.int ((((x0 * (6 : Int32)) + x1) * (2 : Int32)) + x2))) (am_w zN C p)) : am_At (d + 1) 78 none Post 0 [some (.int x0), some (.int x1), some (.int x2)] [] (am_w zN C p) (0, 0) := am_wp_ok (stops := []) am_k78 400 _ _ _ _ _ h
set_option maxRecDepth 100000 in
theorem e_F_nearZero {zN d : Nat} {C : Nat → Nat → Int32} {p : Nat → Option Nat} {x0 : Int32} {P : Option Value → (Nat → Nat → Int32) → (Nat → Option Nat) → Prop} (h : am_At (d + 1) 79 none (am_Ret zN P) 0 [some (.int x0), none] [] (am_w zN C p) (0, 0)) : am_Call (d + 1) 79 [.int x0] (am_w zN C p) (am_Ret zN P) := am_m_go (by decide +kernel) rfl rfl rfl h
set_option maxRecDepth 100000 in
theorem s_F_nearZero_0 {zN d : Nat} {Post : Option Value → aW → Prop} {C : Nat → Nat → Int32} {p : Nat → Option Nat} {x0 : Int32} (h : ¬ (1296000 : Int32) = 0 ∧ (((x0 - x0 / (1296000 : Int32) * (1296000 : Int32)) ≤ (648000 : Int32) → (((-648000 : Int32) < (x0 - x0 / (1296000 : Int32) * (1296000 : Int32)) → (Post (some (.int (x0 - x0 / (1296000 : Int32) * (1296000 : Int32)))) (am_w zN C p))) ∧ (¬ (-648000 : Int32) < (x0 - x0 / (1296000 : Int32) * (1296000 : Int32)) → (Post (some (.int ((x0 - x0 / (1296000 : Int32) * (1296000 : Int32)) + (1296000 : Int32)))) (am_w zN C p))))) ∧ (¬ (x0 - x0 / (1296000 : Int32) * (1296000 : Int32)) ≤ (648000 : Int32) → (Post (some (.int ((x0 - x0 / (1296000 : Int32) * (1296000 : Int32)) - (1296000 : Int32)))) (am_w zN C p))))) : am_At (d + 1) 79 none Post 0 [some (.int x0), none] [] (am_w zN C p) (0, 0) := am_wp_ok (stops := []) am_k79 400 _ _ _ _ _ h
set_option maxRecDepth 100000 in
theorem e_F_toldDrift {zN d : Nat} {C : Nat → Nat → Int32} {p : Nat → Option Nat} {x1 : Int32} {P : Option Value → (Nat → Nat → Int32) → (Nat → Option Nat) → Prop} (h : am_At (d + 1) 81 none (am_Ret zN P) 0 [some (.ref 0), some (.int x1)] [] (am_w zN C p) (0, 0)) : am_Call (d + 1) 81 [.ref 0, .int x1] (am_w zN C p) (am_Ret zN P) := am_m_go (by decide +kernel) rfl rfl rfl h
set_option maxRecDepth 100000 in
theorem s_F_toldDrift_0 {zN d : Nat} {Post : Option Value → aW → Prop} {C : Nat → Nat → Int32} {p : Nat → Option Nat} {x1 : Int32} (h : am_Ci d 34 [.ref 1, .int x1] (am_w zN C p) (fun v w1 => am_At (d + 1) 81 none Post 8 [some (.ref 0), some (.int x1)] [.int v] w1 (0, 0))) : am_At (d + 1) 81 none Post 0 [some (.ref 0), some (.int x1)] [] (am_w zN C p) (0, 0) := am_wp_ok (stops := [8, 19]) am_k81 400 _ _ _ _ _ h
set_option maxRecDepth 100000 in
theorem s_F_toldDrift_8 {zN d : Nat} {Post : Option Value → aW → Prop} {C : Nat → Nat → Int32} {p : Nat → Option Nat} {x1 y0 : Int32} (h : (y0 = (0 : Int32) → (Post (some (.int (-2000005 : Int32))) (am_w zN C p))) ∧ (¬ y0 = (0 : Int32) → (am_Ci d 40 [.ref 1, .int x1] (am_w zN C p) (fun v w1 => am_At (d + 1) 81 none Post 19 [some (.ref 0), some (.int x1)] [.int v] w1 (0, 0))))) : am_At (d + 1) 81 none Post 8 [some (.ref 0), some (.int x1)] [.int y0] (am_w zN C p) (0, 0) := am_wp_ok (stops := [8, 19]) am_k81 400 _ _ _ _ _ h
set_option maxRecDepth 100000 in
theorem s_F_toldDrift_19 {zN d : Nat} {Post : Option Value → aW → Prop} {C : Nat → Nat → Int32} {p : Nat → Option Nat} {x1 y0 : Int32} (h : Post (some (.int y0)) (am_w zN C p)) : am_At (d + 1) 81 none Post 19 [some (.ref 0), some (.int x1)] [.int y0] (am_w zN C p) (0, 0) := am_wp_ok (stops := [8, 19]) am_k81 400 _ _ _ _ _ h
set_option maxRecDepth 100000 in
theorem e_F_allBad {zN d : Nat} {C : Nat → Nat → Int32} {p : Nat → Option Nat} {P : Option Value → (Nat → Nat → Int32) → (Nat → Option Nat) → Prop} (h : am_At (d + 1) 82 none (am_Ret zN P) 0 [some (.ref 0), none, none, none] [] (am_w zN C p) (0, 0)) : am_Call (d + 1) 82 [.ref 0] (am_w zN C p) (am_Ret zN P) := am_m_go (by decide +kernel) rfl rfl rfl h
set_option maxRecDepth 100000 in
theorem s_F_allBad_0 {zN d : Nat} {Post : Option Value → aW → Prop} {C : Nat → Nat → Int32} {p : Nat → Option Nat} (h : am_At (d + 1) 82 none Post 4 [some (.ref 0), some (.int (0 : Int32)), some (.int (0 : Int32)), none] [] (am_w zN C p) (0, 0)) : am_At (d + 1) 82 none Post 0 [some (.ref 0), none, none, none] [] (am_w zN C p) (0, 0) := am_wp_ok (stops := [4, 27, 29, 58, 61]) am_k82 400 _ _ _ _ _ h
set_option maxRecDepth 100000 in
theorem s_F_allBad_4 {zN d : Nat} {Post : Option Value → aW → Prop} {C : Nat → Nat → Int32} {p : Nat → Option Nat} {x1 x2 : Int32} {o3 : Option Value} (h : ((C 1 0) ≤ x2 → (Post (some (.int x1)) (am_w zN C p))) ∧ (¬ (C 1 0) ≤ x2 → (am_Cv d 14 [.ref 68, .ref 1, .int x2] (am_w zN C p) (fun w1 => am_At (d + 1) 82 none Post 27 [some (.ref 0), some (.int x1), some (.int x2), o3] [] w1 (0, 0))))) : am_At (d + 1) 82 none Post 4 [some (.ref 0), some (.int x1), some (.int x2), o3] [] (am_w zN C p) (0, 0) := am_wp_ok (stops := [4, 27, 29, 58, 61]) am_k82 400 _ _ _ _ _ h
set_option maxRecDepth 100000 in
theorem s_F_allBad_27 {zN d : Nat} {Post : Option Value → aW → Prop} {C : Nat → Nat → Int32} {p : Nat → Option Nat} {x1 x2 : Int32} {o3 : Option Value} (h : am_At (d + 1) 82 none Post 29 [some (.ref 0), some (.int x1), some (.int x2), some (.int (0 : Int32))] [] (am_w zN C p) (0, 0)) : am_At (d + 1) 82 none Post 27 [some (.ref 0), some (.int x1), some (.int x2), o3] [] (am_w zN C p) (0, 0) := am_wp_ok (stops := [4, 27, 29, 58, 61]) am_k82 400 _ _ _ _ _ h
set_option maxRecDepth 100000 in
theorem s_F_allBad_29 {zN d : Nat} {Post : Option Value → aW → Prop} {C : Nat → Nat → Int32} {p : Nat → Option Nat} {x1 x2 x3 : Int32} (h : vp_in x2 4 ∧ (((C 2 x2.toNatClampNeg) ≤ x3 → (am_At (d + 1) 82 none Post 4 [some (.ref 0), some (.int x1), some (.int (x2 + (1 : Int32))), some (.int x3)] [] (am_w zN C p) (0, 0))) ∧ (¬ (C 2 x2.toNatClampNeg) ≤ x3 → (am_Ci d 23 [.ref 68, .int x3, .int (C 1 1)] (am_w zN C p) (fun v w1 => am_At (d + 1) 82 none Post 58 [some (.ref 0), some (.int x1), some (.int x2), some (.int x3)] [.int v, .int x1] w1 (0, 0)))))) : am_At (d + 1) 82 none Post 29 [some (.ref 0), some (.int x1), some (.int x2), some (.int x3)] [] (am_w zN C p) (0, 0) := am_wp_ok (stops := [4, 27, 29, 58, 61]) am_k82 400 _ _ _ _ _ h
set_option maxRecDepth 100000 in
theorem s_F_allBad_58 {zN d : Nat} {Post : Option Value → aW → Prop} {C : Nat → Nat → Int32} {p : Nat → Option Nat} {x1 x2 x3 y0 y1 : Int32} (h : am_Ci d 158 [.int y1] (am_w zN C p) (fun v w1 => am_At (d + 1) 82 none Post 61 [some (.ref 0), some (.int x1), some (.int x2), some (.int x3)] [.int v, .int y0] w1 (0, 0))) : am_At (d + 1) 82 none Post 58 [some (.ref 0), some (.int x1), some (.int x2), some (.int x3)] [.int y1, .int y0] (am_w zN C p) (0, 0) := am_wp_ok (stops := [4, 27, 29, 58, 61]) am_k82 400 _ _ _ _ _ h
set_option maxRecDepth 100000 in
theorem s_F_allBad_61 {zN d : Nat} {Post : Option Value → aW → Prop} {C : Nat → Nat → Int32} {p : Nat → Option Nat} {x1 x2 x3 y0 y1 : Int32} (h : am_At (d + 1) 82 none Post 29 [some (.ref 0), some (.int (y0 + y1)), some (.int x2), some (.int (x3 + (1 : Int32)))] [] (am_w zN C p) (0, 0)) : am_At (d + 1) 82 none Post 61 [some (.ref 0), some (.int x1), some (.int x2), some (.int x3)] [.int y1, .int y0] (am_w zN C p) (0, 0) := am_wp_ok (stops := [4, 27, 29, 58, 61]) am_k82 400 _ _ _ _ _ h
set_option maxRecDepth 100000 in
theorem e_F_correction {zN d : Nat} {C : Nat → Nat → Int32} {p : Nat → Option Nat} {x1 x2 : Int32} {P : Option Value → (Nat → Nat → Int32) → (Nat → Option Nat) → Prop} (h : am_At (d + 1) 83 none (am_Ret zN P) 0 [some (.ref 0), some (.int x1), some (.int x2), none, none, none, none] [] (am_w zN C p) (0, 0)) : am_Call (d + 1) 83 [.ref 0, .int x1, .int x2] (am_w zN C p) (am_Ret zN P) := am_m_go (by decide +kernel) rfl rfl rfl h
set_option maxRecDepth 100000 in
theorem s_F_correction_0 {zN d : Nat} {Post : Option Value → aW → Prop} {C : Nat → Nat → Int32} {p : Nat → Option Nat} {x1 x2 : Int32} (h : vp_in x1 4 ∧ (vp_in x2 6 ∧ (am_Ci d 160 [.int ((((C 4 x1.toNatClampNeg) * (54000 : Int32)) - (C 73 x2.toNatClampNeg)) + (27000 : Int32)), .int (1296000 : Int32)] (am_w zN C p) (fun v w1 => am_At (d + 1) 83 none Post 34 [some (.ref 0), some (.int x1), some (.int x2), some (.int (((C 4 x1.toNatClampNeg) * (54000 : Int32)) - (C 73 x2.toNatClampNeg))), none, none, none] [.int v] w1 (0, 0))))) : am_At (d + 1) 83 none Post 0 [some (.ref 0), some (.int x1), some (.int x2), none, none, none, none] [] (am_w zN C p) (0, 0) := am_wp_ok (stops := [34]) am_k83 400 _ _ _ _ _ h
set_option maxRecDepth 100000 in
theorem s_F_correction_34 {zN d : Nat} {Post : Option Value → aW → Prop} {C : Nat → Nat → Int32} {p : Nat → Option Nat} {x1 x2 x3 y0 : Int32} (h : ¬ (54000 : Int32) = 0 ∧ (vp_in x1 4 ∧ (vp_in (y0 / (54000 : Int32)) 24 ∧ (vp_in x2 6 ∧ (¬ ((C 5 x2.toNatClampNeg).toInt64 * (1000000 : Int64)) = 0 ∧ (Post (some (.int ((((C 3 x1.toNatClampNeg).toInt64 * (am_sine (y0 / (54000 : Int32)).toNatClampNeg).toInt64) * (206265 : Int64)) / ((C 5 x2.toNatClampNeg).toInt64 * (1000000 : Int64))).toInt32)) (am_w zN C p))))))) : am_At (d + 1) 83 none Post 34 [some (.ref 0), some (.int x1), some (.int x2), some (.int x3), none, none, none] [.int y0] (am_w zN C p) (0, 0) := am_wp_ok (stops := [34]) am_k83 400 _ _ _ _ _ h
set_option maxRecDepth 100000 in
theorem e_F_centredDirection {zN d : Nat} {C : Nat → Nat → Int32} {p : Nat → Option Nat} {x1 x2 : Int32} {P : Option Value → (Nat → Nat → Int32) → (Nat → Option Nat) → Prop} (h : am_At (d + 1) 84 none (am_Ret zN P) 0 [some (.ref 0), some (.int x1), some (.int x2), none] [] (am_w zN C p) (0, 0)) : am_Call (d + 1) 84 [.ref 0, .int x1, .int x2] (am_w zN C p) (am_Ret zN P) := am_m_go (by decide +kernel) rfl rfl rfl h
set_option maxRecDepth 100000 in
theorem s_F_centredDirection_0 {zN d : Nat} {Post : Option Value → aW → Prop} {C : Nat → Nat → Int32} {p : Nat → Option Nat} {x1 x2 : Int32} (h : vp_in x2 6 ∧ (am_Ci d 83 [.ref 0, .int x1, .int x2] (am_w zN C p) (fun v w1 => am_At (d + 1) 84 none Post 15 [some (.ref 0), some (.int x1), some (.int x2), none] [.int v, .int (C 73 x2.toNatClampNeg)] w1 (0, 0)))) : am_At (d + 1) 84 none Post 0 [some (.ref 0), some (.int x1), some (.int x2), none] [] (am_w zN C p) (0, 0) := am_wp_ok (stops := [15, 22, 30]) am_k84 400 _ _ _ _ _ h
set_option maxRecDepth 100000 in
theorem s_F_centredDirection_15 {zN d : Nat} {Post : Option Value → aW → Prop} {C : Nat → Nat → Int32} {p : Nat → Option Nat} {x1 x2 y0 y1 : Int32} (h : am_Ci d 83 [.ref 0, .int x1, .int (0 : Int32)] (am_w zN C p) (fun v w1 => am_At (d + 1) 84 none Post 22 [some (.ref 0), some (.int x1), some (.int x2), none] [.int v, .int (y0 + y1)] w1 (0, 0))) : am_At (d + 1) 84 none Post 15 [some (.ref 0), some (.int x1), some (.int x2), none] [.int y1, .int y0] (am_w zN C p) (0, 0) := am_wp_ok (stops := [15, 22, 30]) am_k84 400 _ _ _ _ _ h
set_option maxRecDepth 100000 in
theorem s_F_centredDirection_22 {zN d : Nat} {Post : Option Value → aW → Prop} {C : Nat → Nat → Int32} {p : Nat → Option Nat} {x1 x2 y0 y1 : Int32} (h : am_Ci d 160 [.int (y0 - y1), .int (1296000 : Int32)] (am_w zN C p) (fun v w1 => am_At (d + 1) 84 none Post 30 [some (.ref 0), some (.int x1), some (.int x2), some (.int (y0 - y1))] [.int v] w1 (0, 0))) : am_At (d + 1) 84 none Post 22 [some (.ref 0), some (.int x1), some (.int x2), none] [.int y1, .int y0] (am_w zN C p) (0, 0) := am_wp_ok (stops := [15, 22, 30]) am_k84 400 _ _ _ _ _ h
set_option maxRecDepth 100000 in
theorem s_F_centredDirection_30 {zN d : Nat} {Post : Option Value → aW → Prop} {C : Nat → Nat → Int32} {p : Nat → Option Nat} {x1 x2 x3 y0 : Int32} (h : Post (some (.int y0)) (am_w zN C p)) : am_At (d + 1) 84 none Post 30 [some (.ref 0), some (.int x1), some (.int x2), some (.int x3)] [.int y0] (am_w zN C p) (0, 0) := am_wp_ok (stops := [15, 22, 30]) am_k84 400 _ _ _ _ _ h
end
section
/-! numbers -/
variable {zN : Nat}
theorem nI_mul (a b : Nat) : nI a * nI b = nI (a * b) := (Int32.ofNat_mul a b).symm
theorem qr_key {x y : Int} (hy : 0 < y) : (0 ≤ x.tmod y ∧ x / y = x.tdiv y ∧ x % y = x.tmod y) ∨ (x.tmod y < 0 ∧ x / y = x.tdiv y - 1 ∧ x % y = x.tmod y + y) := by
  have h1 := Int.mul_tdiv_add_tmod x y
  obtain ⟨h2, h3⟩ := tmod_bounds (a := x) hy
  by_cases h : 0 ≤ x.tmod y
  · left
    have := (Int.ediv_emod_unique (a := x) (b := y) (r := x.tmod y) (q := x.tdiv y) hy).mpr ⟨by omega, h, h3⟩
    exact ⟨h, this.1, this.2⟩
  · right
    have := (Int.ediv_emod_unique (a := x) (b := y) (r := x.tmod y + y) (q := x.tdiv y - 1) hy).mpr ⟨by rw [Int.mul_sub, Int.mul_one]; omega, by omega, by omega⟩
    exact ⟨by omega, this.1, this.2⟩
theorem tmod_sign {x y : Int} (hy : 0 < y) : (0 ≤ x → 0 ≤ x.tmod y) ∧ (x < 0 → x.tmod y ≤ 0) := by
  refine ⟨fun h => Int.tmod_nonneg _ h, fun h => ?_⟩
  have h1 : (-x).tmod y = -(x.tmod y) := Int.neg_tmod x y
  have h2 : 0 ≤ (-x).tmod y := Int.tmod_nonneg _ (by omega)
  omega
theorem I_div {x y : Int32} (hy : 0 < y.toInt) : (x / y).toInt = x.toInt.tdiv y.toInt := by
  refine Int32.toInt_div_of_ne_right x y ?_
  intro h
  rw [h] at hy
  exact absurd hy (by decide)
theorem I_qm {x y : Int32} (hy : 0 < y.toInt) : (x / y * y).toInt = x.toInt - x.toInt.tmod y.toInt := by
  rw [Int32.toInt_mul, I_div hy]
  have h1 := Int.mul_tdiv_add_tmod x.toInt y.toInt
  have h2 := tmod_sign (x := x.toInt) hy
  obtain ⟨h3, h4⟩ := tmod_bounds (a := x.toInt) hy
  have hx1 := x.toInt_lt
  have hx2 := x.le_toInt
  have e : x.toInt.tdiv y.toInt * y.toInt = x.toInt - x.toInt.tmod y.toInt := by rw [Int.mul_comm]; omega
  have hy1 := y.toInt_lt
  rw [e]
  apply Int.bmod_eq_of_le
  · by_cases h : 0 ≤ x.toInt
    · have := h2.1 h; have : x.toInt.tmod y.toInt ≤ x.toInt := by
        have hq : 0 ≤ x.toInt.tdiv y.toInt := Int.tdiv_nonneg h (by omega)
        have := Int.mul_nonneg (by omega : (0:Int) ≤ y.toInt) hq
        omega
      omega
    · have := h2.2 (by omega); omega
  · by_cases h : 0 ≤ x.toInt
    · have := h2.1 h; omega
    · have h5 := h2.2 (by omega)
      have hq : 0 ≤ (-x.toInt).tdiv y.toInt := Int.tdiv_nonneg (by omega) (by omega)
      rw [Int.neg_tdiv] at hq
      have := Int.mul_nonneg (by omega : (0:Int) ≤ y.toInt) hq
      rw [Int.mul_neg] at this
      omega
theorem I_rem {x y : Int32} (hy : 0 < y.toInt) : (x - x / y * y).toInt = x.toInt.tmod y.toInt := by
  rw [Int32.toInt_sub, I_qm hy, show x.toInt - (x.toInt - x.toInt.tmod y.toInt) = x.toInt.tmod y.toInt by omega]
  obtain ⟨h3, h4⟩ := tmod_bounds (a := x.toInt) hy
  have hy1 := y.toInt_lt
  exact Int.bmod_eq_of_le (by omega) (by omega)
theorem xor_sign (x y : Int32) : 0 ≤ x ^^^ y ↔ (x.toInt < 0 ↔ y.toInt < 0) := by
  rw [Int32.le_iff_toInt_le]
  have h1 : (x ^^^ y).toInt = (x.toBitVec ^^^ y.toBitVec).toInt := rfl
  have h2 : (x.toBitVec ^^^ y.toBitVec).msb = decide ((x.toBitVec ^^^ y.toBitVec).toInt < 0) := BitVec.msb_eq_toInt
  have h3 : x.toBitVec.msb = decide (x.toInt < 0) := BitVec.msb_eq_toInt
  have h4 : y.toBitVec.msb = decide (y.toInt < 0) := BitVec.msb_eq_toInt
  rw [BitVec.msb_xor, h3, h4] at h2
  rw [h1]
  show (0 : Int) ≤ _ ↔ _
  by_cases a : x.toInt < 0 <;> by_cases b : y.toInt < 0 <;> simp [a, b] at h2 ⊢ <;> omega
def fdv (x y : Int32) : Int32 := Int32.ofInt (x.toInt / y.toInt)
def fmd (x : Int32) : Int32 := Int32.ofInt (x.toInt % 1296000)
def nr (x : Int32) : Int32 := Int32.ofInt (if x.toInt % 1296000 ≤ 648000 then x.toInt % 1296000 else x.toInt % 1296000 - 1296000)
def av (x : Int32) : Int32 := if 0 ≤ x then x else 0 - x
theorem fmd_int (x : Int32) : (fmd x).toInt = x.toInt % 1296000 := by
  have h1 := Int.emod_nonneg x.toInt (by decide : (1296000 : Int) ≠ 0)
  have h2 := Int.emod_lt_of_pos x.toInt (by decide : (0 : Int) < 1296000)
  exact Int32.toInt_ofInt_of_le (by omega) (by omega)
theorem fmd_lo (x : Int32) : 0 ≤ (fmd x).toInt := by rw [fmd_int]; exact Int.emod_nonneg _ (by decide)
theorem fmd_hi (x : Int32) : (fmd x).toInt < 1296000 := by rw [fmd_int]; exact Int.emod_lt_of_pos _ (by decide)
theorem toI_eq {x : Int32} {z : Int} (h : x.toInt = z) : x = Int32.ofInt z := by rw [← h, Int32.ofInt_toInt]
theorem sub1_toI {x : Int32} (h : -2147483648 < x.toInt) : (x - 1).toInt = x.toInt - 1 := by
  rw [Int32.toInt_sub]
  have := x.toInt_lt
  exact Int.bmod_eq_of_le (by have : (1 : Int32).toInt = 1 := by decide
                              omega) (by have : (1 : Int32).toInt = 1 := by decide
                                         omega)
theorem tdiv_low {x y : Int32} (hy : 0 < y.toInt) (hr : x.toInt.tmod y.toInt < 0) : -2147483648 < x.toInt.tdiv y.toInt := by
  have h1 := Int.mul_tdiv_add_tmod x.toInt y.toInt
  have hx2 := x.le_toInt
  apply Int.not_le.mp
  intro hq
  have : y.toInt * x.toInt.tdiv y.toInt ≤ 1 * x.toInt.tdiv y.toInt := Int.mul_le_mul_of_nonpos_right (by omega) (by omega)
  omega
theorem fdv_pos {x y : Int32} (hy : 0 < y.toInt) (h : 0 ≤ x.toInt.tmod y.toInt) : x / y = fdv x y := by
  rcases qr_key (x := x.toInt) hy with ⟨-, h2, -⟩ | ⟨h1, -, -⟩
  · exact toI_eq (by rw [I_div hy, h2])
  · omega
theorem fdv_neg {x y : Int32} (hy : 0 < y.toInt) (h : x.toInt.tmod y.toInt < 0) : x / y - 1 = fdv x y := by
  rcases qr_key (x := x.toInt) hy with ⟨h1, -, -⟩ | ⟨-, h2, -⟩
  · omega
  · refine toI_eq ?_
    rw [sub1_toI (by rw [I_div hy]; exact tdiv_low hy h), I_div hy, h2]
theorem m_J_floorDiv {d : Nat} {C : Nat → Nat → Int32} {p : Nat → Option Nat} {x y : Int32} (hy : 0 < y.toInt) : cI zN (d + 1) 159 [.int x, .int y] C p (fdv x y) C p := by
  have hs := tmod_sign (x := x.toInt) hy
  have hqm := I_qm (x := x) hy
  refine e_J_floorDiv (s_J_floorDiv_0 ⟨?_, fun h => ret_I' ?_ rfl rfl, fun h => ⟨fun h2 => ret_I' ?_ rfl rfl, fun h2 => ret_I' ?_ rfl rfl⟩⟩)
  · intro e; rw [e] at hy; exact absurd hy (by decide)
  · rw [xor_sign] at h
    exact fdv_pos hy (hs.1 (by have : ¬ y.toInt < 0 := by omega
                               have := mt h.mp this
                               omega))
  · have := congrArg Int32.toInt h2
    rw [hqm] at this
    exact fdv_pos hy (by omega)
  · rw [xor_sign] at h
    refine fdv_neg hy ?_
    have hx : x.toInt < 0 := by
      apply Classical.byContradiction
      intro hx
      exact h ⟨fun a => absurd a hx, fun a => by omega⟩
    have := hs.2 hx
    have hne : x.toInt.tmod y.toInt ≠ 0 := by
      intro e
      apply h2
      apply Int32.toInt_inj.mp
      rw [hqm, e]
      omega
    omega
theorem circ : (1296000 : Int32).toInt = 1296000 := by decide
theorem circ0 : ¬ (1296000 : Int32) = 0 := by decide
theorem I_remc (x : Int32) : (x - x / 1296000 * 1296000).toInt = x.toInt.tmod 1296000 := I_rem (y := 1296000) (by decide)
theorem fmd_pos {x : Int32} (h : 0 ≤ x.toInt.tmod 1296000) : x - x / 1296000 * 1296000 = fmd x := by
  rcases qr_key (x := x.toInt) (y := 1296000) (by decide) with ⟨-, -, h2⟩ | ⟨h1, -, -⟩
  · exact toI_eq (by rw [I_remc, h2])
  · omega
theorem remc_add {x : Int32} : (x - x / 1296000 * 1296000 + 1296000).toInt = x.toInt.tmod 1296000 + 1296000 := by
  rw [Int32.toInt_add, I_remc, circ]
  obtain ⟨h3, h4⟩ := tmod_bounds (a := x.toInt) (M := 1296000) (by decide)
  exact Int.bmod_eq_of_le (by omega) (by omega)
theorem remc_sub {x : Int32} : (x - x / 1296000 * 1296000 - 1296000).toInt = x.toInt.tmod 1296000 - 1296000 := by
  rw [Int32.toInt_sub, I_remc, circ]
  obtain ⟨h3, h4⟩ := tmod_bounds (a := x.toInt) (M := 1296000) (by decide)
  exact Int.bmod_eq_of_le (by omega) (by omega)
theorem fmd_neg {x : Int32} (h : x.toInt.tmod 1296000 < 0) : x - x / 1296000 * 1296000 + 1296000 = fmd x := by
  rcases qr_key (x := x.toInt) (y := 1296000) (by decide) with ⟨h1, -, -⟩ | ⟨-, -, h2⟩
  · omega
  · exact toI_eq (by rw [remc_add, h2])
theorem m_J_floorMod {d : Nat} {C : Nat → Nat → Int32} {p : Nat → Option Nat} {x : Int32} : cI zN (d + 1) 160 [.int x, .int 1296000] C p (fmd x) C p := by
  have hs := tmod_sign (x := x.toInt) (y := 1296000) (by decide)
  refine e_J_floorMod (s_J_floorMod_0 ⟨circ0, fun h => ret_I' ?_ rfl rfl, fun h => ⟨fun h2 => ret_I' ?_ rfl rfl, fun h2 => ret_I' ?_ rfl rfl⟩⟩)
  · rw [xor_sign, circ] at h
    exact fmd_pos (hs.1 (by omega))
  · have := congrArg Int32.toInt h2
    rw [I_remc] at this
    exact fmd_pos (by rw [this]; decide)
  · rw [xor_sign, circ] at h
    refine fmd_neg ?_
    have := hs.2 (by omega)
    have hne : x.toInt.tmod 1296000 ≠ 0 := by
      intro e
      apply h2
      apply Int32.toInt_inj.mp
      rw [I_remc, e]
      rfl
    omega
theorem half : (648000 : Int32).toInt = 648000 := by decide
theorem m_F_nearZero {d : Nat} {C : Nat → Nat → Int32} {p : Nat → Option Nat} {x : Int32} : cI zN (d + 1) 79 [.int x] C p (nr x) C p := by
  obtain ⟨h3, h4⟩ := tmod_bounds (a := x.toInt) (M := 1296000) (by decide)
  have hm : (-648000 : Int32).toInt = -648000 := by decide
  have hq := qr_key (x := x.toInt) (y := 1296000) (by decide)
  refine e_F_nearZero (s_F_nearZero_0 ⟨circ0, fun h => ⟨fun h2 => ret_I' (toI_eq ?_) rfl rfl, fun h2 => ret_I' (toI_eq ?_) rfl rfl⟩, fun h => ret_I' (toI_eq ?_) rfl rfl⟩)
  · rw [Int32.le_iff_toInt_le, I_remc, half] at h
    rw [Int32.lt_iff_toInt_lt, I_remc, hm] at h2
    rw [I_remc]
    split <;> omega
  · rw [Int32.le_iff_toInt_le, I_remc, half] at h
    rw [Int32.lt_iff_toInt_lt, I_remc, hm] at h2
    rw [remc_add]
    split <;> omega
  · rw [Int32.le_iff_toInt_le, I_remc, half] at h
    rw [remc_sub]
    split <;> omega
end
section
/-! WHAT A FACE, A ROUND, A SET-UP SAY: the same words for the class and for the model -/
theorem cl {n : Nat} (h : n < 5000) : (nI n).toNatClampNeg = n := nI_clamp (by omega)
theorem vpi {n N : Nat} (h : n < N) (hN : N < 5000) : vp_in (nI n) N := vp_in_nI h (by omega)
theorem le5 {a b : Nat} (ha : a < 5000) (hb : b < 5000) : nI a ≤ nI b ↔ a ≤ b := nI_leI (by omega) (by omega)
theorem lt5 {a b : Nat} (ha : a < 5000) (hb : b < 5000) : nI a < nI b ↔ a < b := nI_ltI (by omega) (by omega)
theorem eq5 {a b : Nat} (ha : a < 5000) (hb : b < 5000) : nI a = nI b ↔ a = b := nI_eq (by omega) (by omega)
theorem ix6 (a b : Nat) : nI a * (6 : Int32) + nI b = nI (a * 6 + b) := by
  rw [show (6 : Int32) = nI 6 from rfl, nI_mul, nI_add]
theorem ix60 (a : Nat) : nI a * (6 : Int32) = nI (a * 6) := by
  rw [show (6 : Int32) = nI 6 from rfl, nI_mul]
theorem nI_toI {n : Nat} (h : n < 5000) : (nI n).toInt = (n : Int) := nI_toInt (by omega)
theorem nI_ne {n : Nat} (h : n < 5000) : nI n ≠ -1 ∧ nI n ≠ -2000005 := by
  constructor <;> intro e <;> have := congrArg Int32.toInt e <;> rw [nI_toI h] at this
  · have h2 : (-1 : Int32).toInt = -1 := by decide
    omega
  · have h2 : (-2000005 : Int32).toInt = -2000005 := by decide
    omega
def oI (e : Int32) : Option Nat → Int32
  | some k => nI k
  | none => e
def bI (b : Bool) : Int32 := if b then 1 else 0
theorem bI01 (b : Bool) : bI b = 0 ∨ bI b = 1 := by cases b <;> simp [bI]
theorem bI_t : bI true = 1 := rfl
theorem bI_f : bI false = 0 := rfl
theorem bI_ne {b : Bool} : ¬ bI b = 0 ↔ b = true := by cases b <;> simp [bI]
theorem bI_eq {b : Bool} : bI b = 0 ↔ b = false := by cases b <;> simp [bI]
def fd (tg : Nat → Int32) (t : Int32) : Nat → Nat → Option Nat
  | _, 0 => none
  | k, m + 1 => if tg k = t then some k else fd tg t (k + 1) m
theorem fd_some {tg : Nat → Int32} {t : Int32} : ∀ {m k j : Nat}, fd tg t k m = some j → k ≤ j ∧ j < k + m ∧ tg j = t
  | 0, k, j, h => by cases h
  | m + 1, k, j, h => by
    unfold fd at h
    by_cases e : tg k = t
    · rw [if_pos e] at h
      cases h
      exact ⟨Nat.le_refl _, by omega, e⟩
    · rw [if_neg e] at h
      obtain ⟨h1, h2, h3⟩ := fd_some h
      exact ⟨by omega, by omega, h3⟩
theorem fd_none {tg : Nat → Int32} {t : Int32} : ∀ {m k : Nat}, fd tg t k m = none → ∀ j, k ≤ j → j < k + m → tg j ≠ t
  | 0, k, _, j, h1, h2 => by omega
  | m + 1, k, h, j, h1, h2 => by
    unfold fd at h
    by_cases e : tg k = t
    · rw [if_pos e] at h
      cases h
    · rw [if_neg e] at h
      by_cases hj : j = k
      · rw [hj]; exact e
      · exact fd_none h j (by omega) (by omega)
theorem fd_congr {f g : Nat → Int32} {t : Int32} : ∀ {m k : Nat}, (∀ j, k ≤ j → j < k + m → f j = g j) → fd f t k m = fd g t k m
  | 0, _, _ => rfl
  | m + 1, k, h => by
    unfold fd
    rw [h k (Nat.le_refl _) (by omega), fd_congr (m := m) (k := k + 1) (fun j h1 h2 => h j (by omega) (by omega))]
/-- a face: how many pointings; their targets, readings, whether struck (by place); the closing, -1 without one -/
abbrev aFace : Type := Nat × (Nat → Int32) × (Nat → Int32) × (Nat → Int32) × Int32
def cut (n : Nat) (f : Nat → Int32) : Nat → Int32 := fun k => if k < n then f k else 0
theorem cut_lt {n k : Nat} {f : Nat → Int32} (h : k < n) : cut n f k = f k := if_pos h
/-- the face in the row of a State at o -/
def fS (o : Nat) (C : Nat → Nat → Int32) (row : Nat) : aFace := ((C (o + 5) row).toNatClampNeg, cut (C (o + 5) row).toNatClampNeg (fun k => C (o + 7) (row * 6 + k)), cut (C (o + 5) row).toNatClampNeg (fun k => C (o + 8) (row * 6 + k)), cut (C (o + 5) row).toNatClampNeg (fun k => C (o + 9) (row * 6 + k)), C (o + 6) row)
theorem fS_tg {o : Nat} {C : Nat → Nat → Int32} {row k : Nat} (h : k < (fS o C row).1) : (fS o C row).2.1 k = C (o + 7) (row * 6 + k) := if_pos h
theorem fS_rd {o : Nat} {C : Nat → Nat → Int32} {row k : Nat} (h : k < (fS o C row).1) : (fS o C row).2.2.1 k = C (o + 8) (row * 6 + k) := if_pos h
theorem fS_sk {o : Nat} {C : Nat → Nat → Int32} {row k : Nat} (h : k < (fS o C row).1) : (fS o C row).2.2.2.1 k = C (o + 9) (row * 6 + k) := if_pos h
/-- the face at b of a row of numbers of the model -/
def fM (s : Nat → Int32) (b : Nat) : aFace := ((s b).toNatClampNeg, cut (s b).toNatClampNeg (fun k => s (b + 3 + 3 * k)), cut (s b).toNatClampNeg (fun k => s (b + 4 + 3 * k)), cut (s b).toNatClampNeg (fun k => s (b + 5 + 3 * k)), if s (b + 1) = 1 then s (b + 2) else -1)
theorem fM_tg {s : Nat → Int32} {b k : Nat} (h : k < (fM s b).1) : (fM s b).2.1 k = s (b + 3 + 3 * k) := if_pos h
theorem fM_rd {s : Nat → Int32} {b k : Nat} (h : k < (fM s b).1) : (fM s b).2.2.1 k = s (b + 4 + 3 * k) := if_pos h
theorem fM_sk {s : Nat → Int32} {b k : Nat} (h : k < (fM s b).1) : (fM s b).2.2.2.1 k = s (b + 5 + 3 * k) := if_pos h
/-- a good face -/
def fok (f : aFace) : Prop := f.1 ≤ 6 ∧ (f.2.2.2.2 ≠ -1 → 1 ≤ f.1) ∧ (∀ k, k < f.1 → f.2.2.2.1 k = 0 ∨ f.2.2.2.1 k = 1) ∧ (∀ k, k < f.1 → ∃ t, t < 6 ∧ f.2.1 k = nI t) ∧ (∀ j k, j < f.1 → k < f.1 → f.2.1 j = f.2.1 k → j = k)
def plc (f : aFace) (t : Int32) : Option Nat := fd f.2.1 t 0 f.1
theorem plc_lt {f : aFace} {t : Int32} {k : Nat} (h : plc f t = some k) : k < f.1 ∧ f.2.1 k = t := by
  obtain ⟨-, h2, h3⟩ := fd_some h
  exact ⟨by omega, h3⟩
def drf (f : aFace) : Int32 := nr (f.2.2.2.2 - f.2.2.1 0)
def cor (f : aFace) (k : Nat) : Int32 := if f.2.2.2.2 = -1 then f.2.2.1 k else f.2.2.1 k - fdv (drf f * nI k) (nI f.1)
def own (f g : aFace) (t : Int32) : Nat := match plc f t, plc g t with
  | none, _ => 1
  | some _, none => 2
  | some a, some b => if f.2.2.2.1 a = 0 ∧ g.2.2.2.1 b = 0 then 0 else 3
def why (f g : aFace) (t : Int32) : Nat := if own f g t ≠ 0 ∨ t = 0 then own f g t else if own f g 0 = 0 then 0 else 4
def cot (f : aFace) (t : Int32) : Int32 := match plc f t with
  | some k => cor f k
  | none => 0
def apt (f g : aFace) (t : Int32) : Int32 := nr (cot g t - 648000 - cot f t)
def mea (f g : aFace) (t : Int32) : Int32 := cot f t + fdv (apt f g t) 2
def sgt (f g : aFace) (t : Int32) : Int32 := fdv (-(apt f g t)) 2
def red (f g : aFace) (t : Int32) : Int32 := fmd (mea f g t - mea f g 0)
/-- how many of f at k .. k + m are not 0 -/
def cnt (f : Nat → Int32) : Nat → Nat → Nat
  | _, 0 => 0
  | k, m + 1 => (if f k = 0 then 0 else 1) + cnt f (k + 1) m
theorem cnt_le (f : Nat → Int32) : ∀ (m k : Nat), cnt f k m ≤ m
  | 0, _ => Nat.le_refl _
  | m + 1, k => by
    have := cnt_le f m (k + 1)
    unfold cnt
    split <;> omega
theorem cnt_congr {f g : Nat → Int32} : ∀ {m k : Nat}, (∀ j, k ≤ j → j < k + m → f j = g j) → cnt f k m = cnt g k m
  | 0, _, _ => rfl
  | m + 1, k, h => by
    unfold cnt
    rw [h k (Nat.le_refl _) (by omega), cnt_congr (m := m) (k := k + 1) (fun j h1 h2 => h j (by omega) (by omega))]
def skn (f : aFace) : Nat := cnt f.2.2.2.1 0 f.1
/-- the sum of f at k .. k + m -/
def sm (f : Nat → Nat) : Nat → Nat → Nat
  | _, 0 => 0
  | k, m + 1 => f k + sm f (k + 1) m
theorem sm_le {f : Nat → Nat} {b : Nat} : ∀ {m k : Nat}, (∀ j, k ≤ j → j < k + m → f j ≤ b) → sm f k m ≤ b * m
  | 0, _, _ => Nat.zero_le _
  | m + 1, k, h => by
    have h1 := h k (Nat.le_refl _) (by omega)
    have h2 := sm_le (m := m) (k := k + 1) (fun j h1 h2 => h j (by omega) (by omega))
    unfold sm
    rw [Nat.mul_succ]
    omega
/-- the row of State at o says its count -/
def cok (o : Nat) (C : Nat → Nat → Int32) (row : Nat) : Prop := C (o + 5) row = nI (fS o C row).1 ∧ fok (fS o C row)
end
section
/-! State's methods on the state at 1 -/
variable {zN : Nat}
section
variable {d : Nat} {C : Nat → Nat → Int32} {p : Nat → Option Nat}
def hsu (C : Nat → Nat → Int32) (u : Int32) : Bool := decide (¬ u < 0 ∧ ¬ C 1 0 ≤ u)
def hrd (C : Nat → Nat → Int32) (u r : Int32) : Bool := hsu C u && decide (¬ r < 0 ∧ ¬ C 2 u.toNatClampNeg ≤ r)
theorem m_S_hasSetUp {u : Int32} : cI zN (d + 1) 32 [.ref 1, .int u] C p (bI (hsu C u)) C p := by
  refine e_S_hasSetUp (s_S_hasSetUp_0 ⟨fun h => ⟨Or.inl rfl, ret_I' ?_ rfl rfl⟩, fun h => ⟨fun h2 => ⟨Or.inl rfl, ret_I' ?_ rfl rfl⟩, fun h2 => ⟨Or.inr rfl, ret_I' ?_ rfl rfl⟩⟩⟩)
  · simp [hsu, h, bI]
  · simp only [hsu, h2, not_true_eq_false, and_false, decide_false, bI]; rfl
  · simp only [hsu, h, h2, not_false_eq_true, and_self, decide_true, bI]; rfl
theorem hsu_in {u : Int32} (h4 : C 1 0 ≤ 4) (h : hsu C u = true) : vp_in u 4 := by
  simp only [hsu, decide_eq_true_eq] at h
  rw [vp_in_iff]
  have h1 : (0 : Int32).toInt = 0 := by decide
  have h2 : (4 : Int32).toInt = 4 := by decide
  rw [Int32.lt_iff_toInt_lt, Int32.le_iff_toInt_le] at h
  rw [Int32.le_iff_toInt_le] at h4
  omega
theorem m_S_hasRound {u r : Int32} (h4 : C 1 0 ≤ 4) : cI zN (d + 2) 33 [.ref 1, .int u, .int r] C p (bI (hrd C u r)) C p := by
  refine e_S_hasRound (s_S_hasRound_0 (use_I m_S_hasSetUp (s_S_hasRound_5 ⟨fun h => ⟨Or.inl rfl, ret_I' ?_ rfl rfl⟩, fun h => ⟨fun h2 => ⟨Or.inl rfl, ret_I' ?_ rfl rfl⟩, fun h2 => ⟨hsu_in h4 (bI_ne.mp h), fun h3 => ⟨Or.inl rfl, ret_I' ?_ rfl rfl⟩, fun h3 => ⟨Or.inr rfl, ret_I' ?_ rfl rfl⟩⟩⟩⟩)))
  · rw [hrd, bI_eq.mp h]; rfl
  · simp only [hrd, h2, not_true_eq_false, false_and, decide_false, Bool.and_false, bI]; rfl
  · simp only [hrd, h3, not_true_eq_false, and_false, decide_false, Bool.and_false, bI]; rfl
  · simp only [hrd, bI_ne.mp h, h2, h3, not_false_eq_true, and_self, decide_true, Bool.and_true, bI]; rfl
theorem m_S_isClosed {row : Nat} (hr : row < 48) : cI zN (d + 1) 34 [.ref 1, .int (nI row)] C p (bI (decide ((fS 1 C row).2.2.2.2 ≠ -1))) C p := by
  apply e_S_isClosed
  apply s_S_isClosed_0
  rw [cl (by omega)]
  refine ⟨vpi hr (by decide), fun h => ⟨Or.inl rfl, ret_I' ?_ rfl rfl⟩, fun h => ⟨Or.inr rfl, ret_I' ?_ rfl rfl⟩⟩
  · have h' : (fS 1 C row).2.2.2.2 = -1 := h
    simp [h', bI]
  · have h' : ¬ (fS 1 C row).2.2.2.2 = -1 := h
    simp [h', bI]
theorem m_S_placeOf {row : Nat} {t : Int32} (hr : row < 48) (hc : cok 1 C row) : cI zN (d + 1) 35 [.ref 1, .int (nI row), .int t] C p (oI (-1) (plc (fS 1 C row) t)) C p := by
  obtain ⟨h1, h2, -⟩ := hc
  have loop : ∀ m k, k + m = (fS 1 C row).1 → am_At (d + 1) 35 none (am_Ret zN (am_eI (oI (-1) (fd (fS 1 C row).2.1 t k m)) C p)) 2 [some (.ref 1), some (.int (nI row)), some (.int t), some (.int (nI k))] [] (am_w zN C p) (0, 0) := by
    intro m
    induction m with
    | zero =>
      intro k hk
      apply s_S_placeOf_2
      rw [cl (by omega), show C 6 row = nI (fS 1 C row).1 from h1]
      exact ⟨vpi hr (by decide), fun _ => ret_I, fun h => absurd ((le5 (by omega) (by omega)).mpr (by omega)) h⟩
    | succ m ih =>
      intro k hk
      apply s_S_placeOf_2
      rw [cl (n := row) (by omega), show C 6 row = nI (fS 1 C row).1 from h1, ix6, cl (n := row * 6 + k) (by omega)]
      have hk1 : (fS 1 C row).2.1 k = C 8 (row * 6 + k) := fS_tg (by omega)
      refine ⟨vpi hr (by decide), fun h => ?_, fun h => ⟨vpi (by omega) (by decide), fun hne => ?_, fun he => ?_⟩⟩
      · rw [le5 (by omega) (by omega)] at h
        omega
      · rw [fd, if_neg (by rw [hk1]; exact hne), show nI k + 1 = nI (k + 1) from nI_1 k]
        exact ih (k + 1) (by omega)
      · rw [fd, if_pos (by rw [hk1]; exact he)]
        exact ret_I
  exact e_S_placeOf (s_S_placeOf_0 (loop _ 0 (by omega)))
theorem oI_none {o : Option Nat} {n : Nat} (hn : n ≤ 4000) (h : ∀ k, o = some k → k < n) : oI (-1) o = -1 ↔ o = none := by
  cases o with
  | none => simp [oI]
  | some k =>
    have := h k rfl
    simp only [oI, reduceCtorEq, iff_false]
    exact (nI_ne (by omega)).1
theorem plc_m1 {f : aFace} {t : Int32} (h : f.1 ≤ 6) : oI (-1) (plc f t) = -1 ↔ plc f t = none := oI_none (n := 6) (by decide) (fun k hk => Nat.lt_of_lt_of_le (plc_lt hk).1 h)
theorem m_S_canTake {row : Nat} {t : Int32} (hr : row < 48) (hc : cok 1 C row) : cI zN (d + 2) 36 [.ref 1, .int (nI row), .int t] C p (bI (decide ((fS 1 C row).2.2.2.2 = -1 ∧ plc (fS 1 C row) t = none))) C p := by
  refine e_S_canTake (s_S_canTake_0 (use_I (m_S_isClosed hr) (s_S_canTake_5 ⟨fun h => ⟨Or.inl rfl, ret_I' ?_ rfl rfl⟩, fun h => use_I (m_S_placeOf hr hc) (s_S_canTake_14 ⟨fun h2 => ⟨Or.inl rfl, ret_I' ?_ rfl rfl⟩, fun h2 => ⟨Or.inr rfl, ret_I' ?_ rfl rfl⟩⟩)⟩)))
  · rw [bI_ne, decide_eq_true_eq] at h
    simp [h, bI]
  · rw [plc_m1 hc.2.1] at h2
    simp [h2, bI]
  · rw [plc_m1 hc.2.1] at h2
    rw [bI_eq, decide_eq_false_iff_not, Classical.not_not] at h
    simp [h, h2, bI]
theorem m_F_rowOf {u r f : Nat} : cI zN (d + 1) 78 [.int (nI u), .int (nI r), .int (nI f)] C p (nI ((u * 6 + r) * 2 + f)) C p := by
  refine e_F_rowOf (s_F_rowOf_0 (ret_I' ?_ rfl rfl))
  rw [ix6, show (2 : Int32) = nI 2 from rfl, nI_mul, nI_add]
end
section
variable {d : Nat} {C : Nat → Nat → Int32} {p : Nat → Option Nat}
theorem nar0 : vp_nar .boolean 0 = 0 := by decide
theorem nar1 : vp_nar .boolean 1 = 1 := by decide
def addC (C : Nat → Nat → Int32) (row n : Nat) (t rd : Int32) : Nat → Nat → Int32 := am_u2 (am_u2 (am_u2 (am_u2 C 8 (row * 6 + n) t) 9 (row * 6 + n) rd) 10 (row * 6 + n) 0) 6 row (nI (n + 1))
theorem m_S_add {row n : Nat} {t rd : Int32} (hr : row < 48) (hn : C 6 row = nI n) (h6 : n < 6) : cV zN (d + 1) 37 [.ref 1, .int (nI row), .int t, .int rd] C p (addC C row n t rd) p := by
  apply e_S_add
  apply s_S_add_0
  rw [cl (n := row) (by omega), hn, ix6, cl (n := row * 6 + n) (by omega)]
  have hv := vpi (n := row) (N := 48) hr (by decide)
  have hv2 := vpi (n := row * 6 + n) (N := 288) (by omega) (by decide)
  refine ⟨hv, fun _ => ⟨hv, hv2, hv2, hv2, hv, hv, ret_V' ?_ rfl⟩, fun h => absurd ((lt5 (b := 6) (by omega) (by omega)).mpr h6) h⟩
  rw [nar0]
  have e : am_u2 (am_u2 (am_u2 C 8 (row * 6 + n) t) 9 (row * 6 + n) rd) 10 (row * 6 + n) 0 6 row = nI n := by
    rw [am_u2_ne (by decide), am_u2_ne (by decide), am_u2_ne (by decide), hn]
  rw [e, nI_1]
  rfl
/-- what lies behind place lo moves up by one, as far as hi -/
def shf (C : Nat → Nat → Int32) (lo hi : Nat) : Nat → Nat → Int32 := fun a i => if (a = 8 ∨ a = 9 ∨ a = 10) ∧ lo ≤ i ∧ i < hi then C a (i + 1) else C a i
def rmvC (C : Nat → Nat → Int32) (row n k : Nat) : Nat → Nat → Int32 := shf (am_u2 C 6 row (nI (n - 1))) (row * 6 + k) (row * 6 + (n - 1))
theorem nar01 {x : Int32} (h : x = 0 ∨ x = 1) : vp_nar .boolean x = x := by
  rcases h with h | h <;> rw [h]
  · exact nar0
  · exact nar1
theorem am_u2_at {C : Nat → Nat → Int32} {i k : Nat} {x : Int32} (a b : Nat) : am_u2 C i k x a b = if a = i ∧ b = k then x else C a b := by
  unfold am_u2
  by_cases h1 : a = i <;> by_cases h2 : b = k <;> simp [h1, h2]
theorem shf_step {C : Nat → Nat → Int32} {lo i : Nat} (hlo : lo ≤ i) :
    am_u2 (am_u2 (am_u2 (shf C lo i) 8 i (shf C lo i 8 (i + 1))) 9 i (am_u2 (shf C lo i) 8 i (shf C lo i 8 (i + 1)) 9 (i + 1))) 10 i (C 10 (i + 1)) = shf C lo (i + 1) := by
  funext a b
  simp only [am_u2_at, shf]
  by_cases hb : b = i
  · subst hb
    by_cases h10 : a = 10
    · subst h10
      simp [hlo]
    · by_cases h9 : a = 9
      · subst h9
        simp [hlo, show ¬ (b + 1 < b) by omega]
      · by_cases h8 : a = 8
        · subst h8
          simp [hlo, show ¬ (b + 1 < b) by omega]
        · simp [h8, h9, h10]
  · have e : (b < i ↔ b < i + 1) := by omega
    simp [hb, e]
theorem m_S_remove {row : Nat} {t : Int32} (hr : row < 48) (hc : cok 1 C row) : cV zN (d + 2) 38 [.ref 1, .int (nI row), .int t] C p (match plc (fS 1 C row) t with
    | some k => rmvC C row (fS 1 C row).1 k
    | none => C) p := by
  apply e_S_remove
  apply s_S_remove_0
  refine use_I (m_S_placeOf hr hc) ?_
  apply s_S_remove_6
  obtain ⟨h1, h2, -, h3, -⟩ := hc
  have h1' : C 6 row = nI (fS 1 C row).1 := h1
  rw [plc_m1 h2, cl (n := row) (by omega), h1']
  refine ⟨fun h => ?_, fun h => ?_⟩
  · cases hk : plc (fS 1 C row) t with
    | none => exact absurd hk h
    | some k =>
      have hkn := (plc_lt hk).1
      have hv := vpi (n := row) (N := 48) hr (by decide)
      refine ⟨hv, hv, ?_⟩
      generalize hn : (fS 1 C row).1 = n at *
      have e1 : nI n - 1 = nI (n - 1) := by
        obtain ⟨m, rfl⟩ : ∃ m, n = m + 1 := ⟨n - 1, by omega⟩
        exact nI_pred m
      rw [e1]
      simp only [oI]
      rw [ix6]
      have hsk : ∀ j, j < n → C 10 (row * 6 + j) = 0 ∨ C 10 (row * 6 + j) = 1 := by
        intro j hj
        have := h3 j hj
        rw [fS_sk (by rw [hn]; exact hj)] at this
        exact this
      have loop : ∀ m i, i + m = row * 6 + (n - 1) → row * 6 + k ≤ i → am_At (d + 2) 38 none (am_Ret zN (am_eV (rmvC C row n k) p)) 31 [some (.ref 1), some (.int (nI row)), some (.int t), some (.int (nI k)), some (.int (nI i))] [] (am_w zN (shf (am_u2 C 6 row (nI (n - 1))) (row * 6 + k) i) p) (0, 0) := by
        intro m
        induction m with
        | zero =>
          intro i hi hlo
          apply s_S_remove_31
          have e6 : shf (am_u2 C 6 row (nI (n - 1))) (row * 6 + k) i 6 row = nI (n - 1) := by simp [shf, am_u2]
          rw [cl (n := row) (by omega), e6, ix6]
          refine ⟨hv, fun _ => ret_V' ?_ rfl, fun h => absurd ((le5 (by omega) (by omega)).mpr (by omega)) h⟩
          rw [rmvC, ← hi]
          rfl
        | succ m ih =>
          intro i hi hlo
          apply s_S_remove_31
          have e6 : shf (am_u2 C 6 row (nI (n - 1))) (row * 6 + k) i 6 row = nI (n - 1) := by simp [shf, am_u2]
          rw [cl (n := row) (by omega), e6, ix6, nI_1, cl (n := i) (by omega), cl (n := i + 1) (by omega)]
          have hv1 := vpi (n := i) (N := 288) (by omega) (by decide)
          have hv2 := vpi (n := i + 1) (N := 288) (by omega) (by decide)
          refine ⟨hv, fun h => ?_, fun _ => ⟨hv2, hv1, hv2, hv1, hv2, hv1, ?_⟩⟩
          · rw [le5 (by omega) (by omega)] at h
            omega
          · have e10 : am_u2 (am_u2 (shf (am_u2 C 6 row (nI (n - 1))) (row * 6 + k) i) 8 i (shf (am_u2 C 6 row (nI (n - 1))) (row * 6 + k) i 8 (i + 1))) 9 i (am_u2 (shf (am_u2 C 6 row (nI (n - 1))) (row * 6 + k) i) 8 i (shf (am_u2 C 6 row (nI (n - 1))) (row * 6 + k) i 8 (i + 1)) 9 (i + 1)) 10 (i + 1) = am_u2 C 6 row (nI (n - 1)) 10 (i + 1) := by
              simp [am_u2_at, shf, show ¬ (i + 1 < i) by omega]
            have e10' : am_u2 C 6 row (nI (n - 1)) 10 (i + 1) = C 10 (i + 1) := by simp [am_u2_at]
            have hnr : vp_nar .boolean (C 10 (i + 1)) = C 10 (i + 1) := by
              have := hsk (i + 1 - row * 6) (by omega)
              rw [show row * 6 + (i + 1 - row * 6) = i + 1 by omega] at this
              exact nar01 this
            rw [e10, e10', hnr, ← e10', shf_step hlo]
            exact ih (i + 1) (by omega) (by omega)
      have h0 : am_u2 C 6 row (nI (n - 1)) = shf (am_u2 C 6 row (nI (n - 1))) (row * 6 + k) (row * 6 + k) := by
        funext a b
        simp only [shf]
        rw [if_neg (by omega)]
      rw [h0]
      exact loop (n - 1 - k) (row * 6 + k) (by omega) (Nat.le_refl _)
  · rw [h]
    exact ret_V' rfl rfl
def stkC (C : Nat → Nat → Int32) (row : Nat) (t : Int32) : Nat → Nat → Int32 := match plc (fS 1 C row) t with
  | some k => am_u2 C 10 (row * 6 + k) 1
  | none => C
theorem m_S_strikeBoth {u r : Nat} {t : Int32} (hr : (u * 6 + r) * 2 + 1 < 48) (hc0 : cok 1 C ((u * 6 + r) * 2)) (hc1 : cok 1 (stkC C ((u * 6 + r) * 2) t) ((u * 6 + r) * 2 + 1)) :
    cV zN (d + 2) 39 [.ref 1, .int (nI u), .int (nI r), .int t] C p (stkC (stkC C ((u * 6 + r) * 2) t) ((u * 6 + r) * 2 + 1) t) p := by
  have one : ∀ (f : Nat) (C : Nat → Nat → Int32) (o5 o6 : Option Value) (Post : Option Value → aW → Prop), f < 2 → cok 1 C ((u * 6 + r) * 2 + f) → (∀ o5' o6', am_At (d + 2) 39 none Post 3 [some (.ref 1), some (.int (nI u)), some (.int (nI r)), some (.int t), some (.int (nI (f + 1))), o5', o6'] [] (am_w zN (stkC C ((u * 6 + r) * 2 + f) t) p) (0, 0)) →
      am_At (d + 2) 39 none Post 3 [some (.ref 1), some (.int (nI u)), some (.int (nI r)), some (.int t), some (.int (nI f)), o5, o6] [] (am_w zN C p) (0, 0) := by
    intro f C o5 o6 Post hf hc hk
    apply s_S_strikeBoth_3
    refine ⟨fun h => ?_, fun _ => use_I m_F_rowOf (s_S_strikeBoth_16 (use_I (m_S_placeOf (by omega) hc) (s_S_strikeBoth_25 ⟨fun h => ?_, fun h => ?_⟩)))⟩
    · have := (le5 (a := 2) (b := f) (by omega) (by omega)).mp h
      omega
    · rw [plc_m1 hc.2.1] at h
      rw [nI_1]
      have := hk (some (.int (nI ((u * 6 + r) * 2 + f)))) (some (.int (oI (-1) (plc (fS 1 C ((u * 6 + r) * 2 + f)) t))))
      rw [stkC, h] at this
      rw [h]
      exact this
    · rw [plc_m1 hc.2.1] at h
      cases hp : plc (fS 1 C ((u * 6 + r) * 2 + f)) t with
      | none => exact absurd hp h
      | some k =>
        have hkn := (plc_lt hp).1
        have h6 := hc.2.1
        simp only [oI]
        rw [ix6, nI_1, cl (by omega), nar1]
        refine ⟨vpi (by omega) (by decide), ?_⟩
        have := hk (some (.int (nI ((u * 6 + r) * 2 + f)))) (some (.int (nI k)))
        rw [stkC, hp] at this
        exact this
  apply e_S_strikeBoth
  apply s_S_strikeBoth_0
  refine one 0 C none none _ (by decide) hc0 (fun o5 o6 => one 1 _ o5 o6 _ (by decide) hc1 (fun o5 o6 => s_S_strikeBoth_3 ⟨fun _ => ret_V' rfl rfl, fun h => absurd (by decide) h⟩))
theorem m_S_driftOf {row : Nat} (hr : row < 48) : cI zN (d + 2) 40 [.ref 1, .int (nI row)] C p (nr (C 7 row - C 9 (row * 6))) C p := by
  apply e_S_driftOf
  apply s_S_driftOf_0
  rw [ix60, cl (n := row) (by omega), cl (n := row * 6) (by omega)]
  exact ⟨vpi hr (by decide), vpi (by omega) (by decide), use_I m_F_nearZero (s_S_driftOf_19 ret_I)⟩
theorem m_S_corrected {row k : Nat} (hr : row < 48) (hc : cok 1 C row) (hk : k < (fS 1 C row).1) : cI zN (d + 3) 41 [.ref 1, .int (nI row), .int (nI k)] C p (cor (fS 1 C row) k) C p := by
  obtain ⟨h1, h2, -⟩ := hc
  have h1' : C 6 row = nI (fS 1 C row).1 := h1
  have hrd : (fS 1 C row).2.2.1 k = C 9 (row * 6 + k) := fS_rd hk
  have hrd0 : (fS 1 C row).2.2.1 0 = C 9 (row * 6) := fS_rd (by omega)
  apply e_S_corrected
  apply s_S_corrected_0
  rw [cl (n := row) (by omega), h1', ix6, cl (n := row * 6 + k) (by omega)]
  refine ⟨fun h => absurd h (nI_pos (by omega)), fun _ => ⟨vpi hr (by decide), fun _ => ⟨vpi (by omega) (by decide), use_I (m_S_isClosed hr) (s_S_corrected_33 ⟨fun h => ?_, fun h => ?_⟩)⟩, fun h => absurd ((lt5 (by omega) (by omega)).mpr hk) h⟩⟩
  · rw [bI_ne, decide_eq_true_eq] at h
    refine use_I (m_S_driftOf hr) ?_
    apply s_S_corrected_44
    rw [cl (n := row) (by omega), h1']
    refine ⟨vpi hr (by decide), use_I (m_J_floorDiv ?_) (s_S_corrected_55 (ret_I' ?_ rfl rfl))⟩
    · rw [nI_toI (by omega)]
      omega
    · rw [cor, if_neg h, drf, hrd, hrd0]
      rfl
  · rw [bI_eq, decide_eq_false_iff_not, Classical.not_not] at h
    refine ret_I' ?_ rfl rfl
    rw [cor, if_pos h, hrd]
theorem m_S_struckIn {row : Nat} (hr : row < 48) (hc : cok 1 C row) : cI zN (d + 1) 44 [.ref 1, .int (nI row)] C p (nI (skn (fS 1 C row))) C p := by
  obtain ⟨h1, h2, -⟩ := hc
  have h1' : C 6 row = nI (fS 1 C row).1 := h1
  have loop : ∀ m k a, k + m = (fS 1 C row).1 → a + cnt (fS 1 C row).2.2.2.1 k m = skn (fS 1 C row) → am_At (d + 1) 44 none (am_Ret zN (am_eI (nI (skn (fS 1 C row))) C p)) 4 [some (.ref 1), some (.int (nI row)), some (.int (nI a)), some (.int (nI k))] [] (am_w zN C p) (0, 0) := by
    intro m
    induction m with
    | zero =>
      intro k a hk ha
      apply s_S_struckIn_4
      rw [cl (by omega), h1']
      refine ⟨vpi hr (by decide), fun _ => ret_I' (by rw [← ha]; rfl) rfl rfl, fun h => absurd ((le5 (by omega) (by omega)).mpr (by omega)) h⟩
    | succ m ih =>
      intro k a hk ha
      have hsk : (fS 1 C row).2.2.2.1 k = C 10 (row * 6 + k) := fS_sk (by omega)
      apply s_S_struckIn_4
      rw [cl (n := row) (by omega), h1', ix6, cl (n := row * 6 + k) (by omega), nI_1, nI_1]
      refine ⟨vpi hr (by decide), fun h => ?_, fun _ => ⟨vpi (by omega) (by decide), fun h => ?_, fun h => ?_⟩⟩
      · rw [le5 (by omega) (by omega)] at h
        omega
      · exact ih (k + 1) a (by omega) (by rw [← ha, cnt, if_pos (by rw [hsk]; exact h)]; omega)
      · exact ih (k + 1) (a + 1) (by omega) (by rw [← ha, cnt, if_neg (by rw [hsk]; exact h)]; omega)
  exact e_S_struckIn (s_S_struckIn_0 (loop (fS 1 C row).1 0 0 (by omega) (by rw [skn]; omega)))
theorem m_S_struckInRound {u r : Nat} (hr : (u * 6 + r) * 2 + 1 < 48) (hc0 : cok 1 C ((u * 6 + r) * 2)) (hc1 : cok 1 C ((u * 6 + r) * 2 + 1)) : cI zN (d + 2) 45 [.ref 1, .int (nI u), .int (nI r)] C p (nI (skn (fS 1 C ((u * 6 + r) * 2)) + skn (fS 1 C ((u * 6 + r) * 2 + 1)))) C p := by
  apply e_S_struckInRound
  apply s_S_struckInRound_0
  refine use_I (m_F_rowOf (f := 0)) ?_
  apply s_S_struckInRound_7
  refine use_I (m_S_struckIn (by omega) hc0) ?_
  apply s_S_struckInRound_10
  refine use_I (m_F_rowOf (f := 1)) ?_
  apply s_S_struckInRound_17
  refine use_I (m_S_struckIn (by omega) hc1) ?_
  apply s_S_struckInRound_20
  refine ret_I' ?_ rfl rfl
  rw [nI_add]
  rfl
theorem m_S_ownReason {u r : Nat} {t : Int32} (hr : (u * 6 + r) * 2 + 1 < 48) (hc0 : cok 1 C ((u * 6 + r) * 2)) (hc1 : cok 1 C ((u * 6 + r) * 2 + 1)) : cI zN (d + 2) 43 [.ref 1, .int (nI u), .int (nI r), .int t] C p (nI (own (fS 1 C ((u * 6 + r) * 2)) (fS 1 C ((u * 6 + r) * 2 + 1)) t)) C p := by
  refine e_S_ownReason (s_S_ownReason_0 (use_I (m_F_rowOf (f := 0)) (s_S_ownReason_6 (use_I (m_F_rowOf (f := 1)) (s_S_ownReason_14 (use_I (m_S_placeOf (by omega) hc0) (s_S_ownReason_23 (use_I (m_S_placeOf (by omega) hc1) (s_S_ownReason_32 ?_)))))))))
  simp only [Nat.add_zero]
  rw [plc_m1 hc0.2.1, plc_m1 hc1.2.1]
  refine ⟨fun h0 => ⟨fun h1 => ?_, fun h1 => ret_I' ?_ rfl rfl⟩, fun h0 => ret_I' ?_ rfl rfl⟩
  · cases e0 : plc (fS 1 C ((u * 6 + r) * 2)) t with
    | none => exact absurd e0 h0
    | some a =>
      cases e1 : plc (fS 1 C ((u * 6 + r) * 2 + 1)) t with
      | none => exact absurd e1 h1
      | some b =>
        have ha := (plc_lt e0).1
        have hb := (plc_lt e1).1
        have ha6 := hc0.2.1
        have hb6 := hc1.2.1
        have s0 : (fS 1 C ((u * 6 + r) * 2)).2.2.2.1 a = C 10 ((u * 6 + r) * 2 * 6 + a) := fS_sk ha
        have s1 : (fS 1 C ((u * 6 + r) * 2 + 1)).2.2.2.1 b = C 10 (((u * 6 + r) * 2 + 1) * 6 + b) := fS_sk hb
        simp only [oI]
        rw [ix6, ix6, cl (by omega), cl (by omega), ← s0, ← s1]
        have key : own (fS 1 C ((u * 6 + r) * 2)) (fS 1 C ((u * 6 + r) * 2 + 1)) t = if (fS 1 C ((u * 6 + r) * 2)).2.2.2.1 a = 0 ∧ (fS 1 C ((u * 6 + r) * 2 + 1)).2.2.2.1 b = 0 then 0 else 3 := by
          rw [own, e0, e1]
        rw [key]
        refine ⟨vpi (by omega) (by decide), fun g0 => s_S_ownReason_82 (s_S_ownReason_87 ⟨fun z => absurd z (by decide), fun _ => ret_I' ?_ rfl rfl⟩), fun g0 => ⟨vpi (by omega) (by decide), fun g1 => s_S_ownReason_87 ⟨fun _ => ret_I' ?_ rfl rfl, fun z => absurd rfl z⟩, fun g1 => s_S_ownReason_82 (s_S_ownReason_87 ⟨fun z => absurd z (by decide), fun _ => ret_I' ?_ rfl rfl⟩)⟩⟩
        · rw [if_neg (by simp [g0])]
          rfl
        · rw [if_pos ⟨g0, g1⟩]
          rfl
        · rw [if_neg (by simp [g1])]
          rfl
  · cases e0 : plc (fS 1 C ((u * 6 + r) * 2)) t with
    | none => exact absurd e0 h0
    | some a => rw [own, e0, h1]; rfl
  · rw [own, h0]; rfl
theorem m_S_whyNotUsed {u r : Nat} {t : Int32} (hr : (u * 6 + r) * 2 + 1 < 48) (hc0 : cok 1 C ((u * 6 + r) * 2)) (hc1 : cok 1 C ((u * 6 + r) * 2 + 1)) : cI zN (d + 3) 42 [.ref 1, .int (nI u), .int (nI r), .int t] C p (nI (why (fS 1 C ((u * 6 + r) * 2)) (fS 1 C ((u * 6 + r) * 2 + 1)) t)) C p := by
  have ho : ∀ t, own (fS 1 C ((u * 6 + r) * 2)) (fS 1 C ((u * 6 + r) * 2 + 1)) t < 5000 := by
    intro t
    unfold own
    split
    · decide
    · decide
    · split <;> decide
  have h0 : ∀ t, nI (own (fS 1 C ((u * 6 + r) * 2)) (fS 1 C ((u * 6 + r) * 2 + 1)) t) = 0 ↔ own (fS 1 C ((u * 6 + r) * 2)) (fS 1 C ((u * 6 + r) * 2 + 1)) t = 0 := fun t => eq5 (b := 0) (ho t) (by decide)
  refine e_S_whyNotUsed (s_S_whyNotUsed_0 (use_I (m_S_ownReason hr hc0 hc1) (s_S_whyNotUsed_7 ⟨fun h => ret_I' ?_ rfl rfl, fun h => ⟨fun ht => use_I (m_S_ownReason hr hc0 hc1) (s_S_whyNotUsed_28 ⟨fun h2 => ret_I' ?_ rfl rfl, fun h2 => ret_I' ?_ rfl rfl⟩), fun ht => ret_I' ?_ rfl rfl⟩⟩)))
  · rw [h0] at h
    rw [why, if_pos (Or.inl h)]
  · rw [h0] at h h2
    rw [why, if_neg (by simp [h, ht]), if_neg h2]
    rfl
  · rw [h0] at h h2
    rw [why, if_neg (by simp [h, ht]), if_pos h2]
    rfl
  · rw [why, if_pos (Or.inr ht)]
end
end
section
/-! copyFrom -/
variable {zN : Nat}
def ln (k : Nat) : Nat := [4, 4, 4, 6, 48, 48, 288, 288, 288].getD k 0
/-- the first k rows of the state at b in the state at a -/
def cp (k : Nat) (C : Nat → Nat → Int32) (a b : Nat) : Nat → Nat → Int32 := fun x i => if x = a ∧ i < 2 then C b i else if a < x ∧ x ≤ a + k ∧ i < ln (x - a - 1) then C (b + (x - a)) i else C x i
theorem at_C {d k : Nat} {sx : Option (Nat × (Nat → Int32))} {Post : Option Value → aW → Prop} {pc : Nat} {lc : aL} {st : List Value} {u : Nat × Nat} {C1 C2 : Nat → Nat → Int32} {p : Nat → Option Nat} (h : C1 = C2) (q : am_At d k sx Post pc lc st (am_w zN C2 p) u) : am_At d k sx Post pc lc st (am_w zN C1 p) u := by
  rw [h]
  exact q
theorem cp_zero {C : Nat → Nat → Int32} {a b : Nat} (hab : a + 10 ≤ b ∨ b + 10 ≤ a) : am_u2 (am_u2 C a 0 (C b 0)) a 1 (am_u2 C a 0 (C b 0) b 1) = cp 0 C a b := by
  funext x i
  simp only [am_u2_at, cp]
  have hba : ¬ b = a := by omega
  by_cases hx : x = a
  · subst hx
    by_cases h0 : i = 0
    · subst h0
      simp
    · by_cases h1 : i = 1
      · subst h1
        simp [hba]
      · simp [h0, h1, show ¬ i < 2 by omega]
  · rw [if_neg (fun q => hx q.1), if_neg (fun q => hx q.1), if_neg (fun q => hx q.1), if_neg (by omega)]
theorem cp_step {C : Nat → Nat → Int32} {a b k z1 z2 n : Nat} (hab : a + 10 ≤ b ∨ b + 10 ≤ a) (hk : k < 9) (h1 : z1 = 0) (h2 : z2 = 0) (hn : n = ln k) : am_uR (cp k C a b) (a + 1 + k) (va_cpy (cp k C a b (b + 1 + k)) (cp k C a b (a + 1 + k)) z1 z2 n) = cp (k + 1) C a b := by
  subst h1 h2 hn
  funext x i
  by_cases hx : x = a + 1 + k
  · subst hx
    have hb : cp k C a b (b + 1 + k) i = C (b + 1 + k) i := by
      simp only [cp]
      rw [if_neg (by omega), if_neg (by omega)]
    have ha : cp k C a b (a + 1 + k) i = C (a + 1 + k) i := by
      simp only [cp]
      rw [if_neg (by omega), if_neg (by omega)]
    have e : a + 1 + k - a - 1 = k := by omega
    have e2 : b + (a + 1 + k - a) = b + 1 + k := by omega
    simp only [am_uR, if_pos, va_cpy, Nat.zero_add, Nat.sub_zero, Nat.zero_le, true_and]
    rw [hb, ha]
    simp only [cp]
    rw [if_neg (show ¬ (a + 1 + k = a ∧ i < 2) by omega), e, e2]
    by_cases hi : i < ln k
    · rw [if_pos hi, if_pos ⟨by omega, by omega, hi⟩]
    · rw [if_neg hi, if_neg (fun q => hi q.2.2)]
  · have : (a < x ∧ x ≤ a + (k + 1) ∧ i < ln (x - a - 1)) ↔ (a < x ∧ x ≤ a + k ∧ i < ln (x - a - 1)) := by omega
    simp only [am_uR, if_neg hx, cp, this]
theorem cp_other {C : Nat → Nat → Int32} {a b k x i : Nat} (h : x < a ∨ a + k < x) : cp k C a b x i = C x i := by
  simp only [cp]
  rw [if_neg (by omega), if_neg (by omega)]
theorem cp_at {C : Nat → Nat → Int32} {a b j i : Nat} (hj : j < 9) (hi : i < ln j) : cp 9 C a b (a + 1 + j) i = C (b + 1 + j) i := by
  simp only [cp]
  rw [if_neg (by omega), show a + 1 + j - a - 1 = j by omega, if_pos ⟨by omega, by omega, hi⟩, show b + (a + 1 + j - a) = b + 1 + j by omega]
theorem cp_at0 {C : Nat → Nat → Int32} {a b i : Nat} (hi : i < 2) : cp 9 C a b a i = C b i := by
  simp [cp, hi]
section
variable {d : Nat} {C : Nat → Nat → Int32} {p : Nat → Option Nat}
theorem m_cp_11_1 (h : ∀ i, i < 288 → C 10 i = 0 ∨ C 10 i = 1) : cV zN (d + 1) 31 [.ref 11, .ref 1] C p (cp 9 C 11 1) p := by
  have hab : 11 + 10 ≤ 1 ∨ 1 + 10 ≤ 11 := by decide
  apply e_S_copyFrom_11_1
  apply s_S_copyFrom_11_1_0
  refine ⟨by decide, by decide, by decide, by decide, by decide, ?_⟩
  rw [cp_zero hab]
  refine at_C (cp_step (a := 11) (b := 1) (k := 0) hab (by decide) rfl rfl rfl) ?_
  apply s_S_copyFrom_11_1_30
  refine ⟨by decide, by decide, by decide, by decide, by decide, at_C (cp_step (a := 11) (b := 1) (k := 1) hab (by decide) rfl rfl rfl) ?_⟩
  apply s_S_copyFrom_11_1_44
  refine ⟨by decide, by decide, by decide, by decide, by decide, at_C (cp_step (a := 11) (b := 1) (k := 2) hab (by decide) rfl rfl rfl) ?_⟩
  apply s_S_copyFrom_11_1_58
  refine ⟨by decide, by decide, by decide, by decide, by decide, at_C (cp_step (a := 11) (b := 1) (k := 3) hab (by decide) rfl rfl rfl) ?_⟩
  apply s_S_copyFrom_11_1_73
  refine ⟨by decide, by decide, by decide, by decide, by decide, at_C (cp_step (a := 11) (b := 1) (k := 4) hab (by decide) rfl rfl rfl) ?_⟩
  apply s_S_copyFrom_11_1_88
  refine ⟨by decide, by decide, by decide, by decide, by decide, at_C (cp_step (a := 11) (b := 1) (k := 5) hab (by decide) rfl rfl rfl) ?_⟩
  apply s_S_copyFrom_11_1_103
  refine ⟨by decide, by decide, by decide, by decide, by decide, at_C (cp_step (a := 11) (b := 1) (k := 6) hab (by decide) rfl rfl rfl) ?_⟩
  apply s_S_copyFrom_11_1_119
  refine ⟨by decide, by decide, by decide, by decide, by decide, at_C (cp_step (a := 11) (b := 1) (k := 7) hab (by decide) rfl rfl rfl) ?_⟩
  apply s_S_copyFrom_11_1_135
  refine ⟨by decide, by decide, by decide, by decide, by decide, fun i hi => ?_, at_C (cp_step (a := 11) (b := 1) (k := 8) hab (by decide) rfl rfl rfl) ?_⟩
  · rw [show (0 : Int32).toNatClampNeg = 0 from rfl, Nat.zero_add, cp_other (by decide)]
    exact h i hi
  exact s_S_copyFrom_11_1_151 (ret_V' rfl rfl)
theorem m_cp_1_11 (h : ∀ i, i < 288 → C 20 i = 0 ∨ C 20 i = 1) : cV zN (d + 1) 31 [.ref 1, .ref 11] C p (cp 9 C 1 11) p := by
  have hab : 1 + 10 ≤ 11 ∨ 11 + 10 ≤ 1 := by decide
  apply e_S_copyFrom_1_11
  apply s_S_copyFrom_1_11_0
  refine ⟨by decide, by decide, by decide, by decide, by decide, ?_⟩
  rw [cp_zero hab]
  refine at_C (cp_step (a := 1) (b := 11) (k := 0) hab (by decide) rfl rfl rfl) ?_
  apply s_S_copyFrom_1_11_30
  refine ⟨by decide, by decide, by decide, by decide, by decide, at_C (cp_step (a := 1) (b := 11) (k := 1) hab (by decide) rfl rfl rfl) ?_⟩
  apply s_S_copyFrom_1_11_44
  refine ⟨by decide, by decide, by decide, by decide, by decide, at_C (cp_step (a := 1) (b := 11) (k := 2) hab (by decide) rfl rfl rfl) ?_⟩
  apply s_S_copyFrom_1_11_58
  refine ⟨by decide, by decide, by decide, by decide, by decide, at_C (cp_step (a := 1) (b := 11) (k := 3) hab (by decide) rfl rfl rfl) ?_⟩
  apply s_S_copyFrom_1_11_73
  refine ⟨by decide, by decide, by decide, by decide, by decide, at_C (cp_step (a := 1) (b := 11) (k := 4) hab (by decide) rfl rfl rfl) ?_⟩
  apply s_S_copyFrom_1_11_88
  refine ⟨by decide, by decide, by decide, by decide, by decide, at_C (cp_step (a := 1) (b := 11) (k := 5) hab (by decide) rfl rfl rfl) ?_⟩
  apply s_S_copyFrom_1_11_103
  refine ⟨by decide, by decide, by decide, by decide, by decide, at_C (cp_step (a := 1) (b := 11) (k := 6) hab (by decide) rfl rfl rfl) ?_⟩
  apply s_S_copyFrom_1_11_119
  refine ⟨by decide, by decide, by decide, by decide, by decide, at_C (cp_step (a := 1) (b := 11) (k := 7) hab (by decide) rfl rfl rfl) ?_⟩
  apply s_S_copyFrom_1_11_135
  refine ⟨by decide, by decide, by decide, by decide, by decide, fun i hi => ?_, at_C (cp_step (a := 1) (b := 11) (k := 8) hab (by decide) rfl rfl rfl) ?_⟩
  · rw [show (0 : Int32).toNatClampNeg = 0 from rfl, Nat.zero_add, cp_other (by decide)]
    exact h i hi
  exact s_S_copyFrom_1_11_151 (ret_V' rfl rfl)
theorem m_cp_23_1 (h : ∀ i, i < 288 → C 10 i = 0 ∨ C 10 i = 1) : cV zN (d + 1) 31 [.ref 23, .ref 1] C p (cp 9 C 23 1) p := by
  have hab : 23 + 10 ≤ 1 ∨ 1 + 10 ≤ 23 := by decide
  apply e_S_copyFrom_23_1
  apply s_S_copyFrom_23_1_0
  refine ⟨by decide, by decide, by decide, by decide, by decide, ?_⟩
  rw [cp_zero hab]
  refine at_C (cp_step (a := 23) (b := 1) (k := 0) hab (by decide) rfl rfl rfl) ?_
  apply s_S_copyFrom_23_1_30
  refine ⟨by decide, by decide, by decide, by decide, by decide, at_C (cp_step (a := 23) (b := 1) (k := 1) hab (by decide) rfl rfl rfl) ?_⟩
  apply s_S_copyFrom_23_1_44
  refine ⟨by decide, by decide, by decide, by decide, by decide, at_C (cp_step (a := 23) (b := 1) (k := 2) hab (by decide) rfl rfl rfl) ?_⟩
  apply s_S_copyFrom_23_1_58
  refine ⟨by decide, by decide, by decide, by decide, by decide, at_C (cp_step (a := 23) (b := 1) (k := 3) hab (by decide) rfl rfl rfl) ?_⟩
  apply s_S_copyFrom_23_1_73
  refine ⟨by decide, by decide, by decide, by decide, by decide, at_C (cp_step (a := 23) (b := 1) (k := 4) hab (by decide) rfl rfl rfl) ?_⟩
  apply s_S_copyFrom_23_1_88
  refine ⟨by decide, by decide, by decide, by decide, by decide, at_C (cp_step (a := 23) (b := 1) (k := 5) hab (by decide) rfl rfl rfl) ?_⟩
  apply s_S_copyFrom_23_1_103
  refine ⟨by decide, by decide, by decide, by decide, by decide, at_C (cp_step (a := 23) (b := 1) (k := 6) hab (by decide) rfl rfl rfl) ?_⟩
  apply s_S_copyFrom_23_1_119
  refine ⟨by decide, by decide, by decide, by decide, by decide, at_C (cp_step (a := 23) (b := 1) (k := 7) hab (by decide) rfl rfl rfl) ?_⟩
  apply s_S_copyFrom_23_1_135
  refine ⟨by decide, by decide, by decide, by decide, by decide, fun i hi => ?_, at_C (cp_step (a := 23) (b := 1) (k := 8) hab (by decide) rfl rfl rfl) ?_⟩
  · rw [show (0 : Int32).toNatClampNeg = 0 from rfl, Nat.zero_add, cp_other (by decide)]
    exact h i hi
  exact s_S_copyFrom_23_1_151 (ret_V' rfl rfl)
theorem m_cp_33_1 (h : ∀ i, i < 288 → C 10 i = 0 ∨ C 10 i = 1) : cV zN (d + 1) 31 [.ref 33, .ref 1] C p (cp 9 C 33 1) p := by
  have hab : 33 + 10 ≤ 1 ∨ 1 + 10 ≤ 33 := by decide
  apply e_S_copyFrom_33_1
  apply s_S_copyFrom_33_1_0
  refine ⟨by decide, by decide, by decide, by decide, by decide, ?_⟩
  rw [cp_zero hab]
  refine at_C (cp_step (a := 33) (b := 1) (k := 0) hab (by decide) rfl rfl rfl) ?_
  apply s_S_copyFrom_33_1_30
  refine ⟨by decide, by decide, by decide, by decide, by decide, at_C (cp_step (a := 33) (b := 1) (k := 1) hab (by decide) rfl rfl rfl) ?_⟩
  apply s_S_copyFrom_33_1_44
  refine ⟨by decide, by decide, by decide, by decide, by decide, at_C (cp_step (a := 33) (b := 1) (k := 2) hab (by decide) rfl rfl rfl) ?_⟩
  apply s_S_copyFrom_33_1_58
  refine ⟨by decide, by decide, by decide, by decide, by decide, at_C (cp_step (a := 33) (b := 1) (k := 3) hab (by decide) rfl rfl rfl) ?_⟩
  apply s_S_copyFrom_33_1_73
  refine ⟨by decide, by decide, by decide, by decide, by decide, at_C (cp_step (a := 33) (b := 1) (k := 4) hab (by decide) rfl rfl rfl) ?_⟩
  apply s_S_copyFrom_33_1_88
  refine ⟨by decide, by decide, by decide, by decide, by decide, at_C (cp_step (a := 33) (b := 1) (k := 5) hab (by decide) rfl rfl rfl) ?_⟩
  apply s_S_copyFrom_33_1_103
  refine ⟨by decide, by decide, by decide, by decide, by decide, at_C (cp_step (a := 33) (b := 1) (k := 6) hab (by decide) rfl rfl rfl) ?_⟩
  apply s_S_copyFrom_33_1_119
  refine ⟨by decide, by decide, by decide, by decide, by decide, at_C (cp_step (a := 33) (b := 1) (k := 7) hab (by decide) rfl rfl rfl) ?_⟩
  apply s_S_copyFrom_33_1_135
  refine ⟨by decide, by decide, by decide, by decide, by decide, fun i hi => ?_, at_C (cp_step (a := 33) (b := 1) (k := 8) hab (by decide) rfl rfl rfl) ?_⟩
  · rw [show (0 : Int32).toNatClampNeg = 0 from rfl, Nat.zero_add, cp_other (by decide)]
    exact h i hi
  exact s_S_copyFrom_33_1_151 (ret_V' rfl rfl)
theorem m_cp_43_1 (h : ∀ i, i < 288 → C 10 i = 0 ∨ C 10 i = 1) : cV zN (d + 1) 31 [.ref 43, .ref 1] C p (cp 9 C 43 1) p := by
  have hab : 43 + 10 ≤ 1 ∨ 1 + 10 ≤ 43 := by decide
  apply e_S_copyFrom_43_1
  apply s_S_copyFrom_43_1_0
  refine ⟨by decide, by decide, by decide, by decide, by decide, ?_⟩
  rw [cp_zero hab]
  refine at_C (cp_step (a := 43) (b := 1) (k := 0) hab (by decide) rfl rfl rfl) ?_
  apply s_S_copyFrom_43_1_30
  refine ⟨by decide, by decide, by decide, by decide, by decide, at_C (cp_step (a := 43) (b := 1) (k := 1) hab (by decide) rfl rfl rfl) ?_⟩
  apply s_S_copyFrom_43_1_44
  refine ⟨by decide, by decide, by decide, by decide, by decide, at_C (cp_step (a := 43) (b := 1) (k := 2) hab (by decide) rfl rfl rfl) ?_⟩
  apply s_S_copyFrom_43_1_58
  refine ⟨by decide, by decide, by decide, by decide, by decide, at_C (cp_step (a := 43) (b := 1) (k := 3) hab (by decide) rfl rfl rfl) ?_⟩
  apply s_S_copyFrom_43_1_73
  refine ⟨by decide, by decide, by decide, by decide, by decide, at_C (cp_step (a := 43) (b := 1) (k := 4) hab (by decide) rfl rfl rfl) ?_⟩
  apply s_S_copyFrom_43_1_88
  refine ⟨by decide, by decide, by decide, by decide, by decide, at_C (cp_step (a := 43) (b := 1) (k := 5) hab (by decide) rfl rfl rfl) ?_⟩
  apply s_S_copyFrom_43_1_103
  refine ⟨by decide, by decide, by decide, by decide, by decide, at_C (cp_step (a := 43) (b := 1) (k := 6) hab (by decide) rfl rfl rfl) ?_⟩
  apply s_S_copyFrom_43_1_119
  refine ⟨by decide, by decide, by decide, by decide, by decide, at_C (cp_step (a := 43) (b := 1) (k := 7) hab (by decide) rfl rfl rfl) ?_⟩
  apply s_S_copyFrom_43_1_135
  refine ⟨by decide, by decide, by decide, by decide, by decide, fun i hi => ?_, at_C (cp_step (a := 43) (b := 1) (k := 8) hab (by decide) rfl rfl rfl) ?_⟩
  · rw [show (0 : Int32).toNatClampNeg = 0 from rfl, Nat.zero_add, cp_other (by decide)]
    exact h i hi
  exact s_S_copyFrom_43_1_151 (ret_V' rfl rfl)
theorem m_cp_53_1 (h : ∀ i, i < 288 → C 10 i = 0 ∨ C 10 i = 1) : cV zN (d + 1) 31 [.ref 53, .ref 1] C p (cp 9 C 53 1) p := by
  have hab : 53 + 10 ≤ 1 ∨ 1 + 10 ≤ 53 := by decide
  apply e_S_copyFrom_53_1
  apply s_S_copyFrom_53_1_0
  refine ⟨by decide, by decide, by decide, by decide, by decide, ?_⟩
  rw [cp_zero hab]
  refine at_C (cp_step (a := 53) (b := 1) (k := 0) hab (by decide) rfl rfl rfl) ?_
  apply s_S_copyFrom_53_1_30
  refine ⟨by decide, by decide, by decide, by decide, by decide, at_C (cp_step (a := 53) (b := 1) (k := 1) hab (by decide) rfl rfl rfl) ?_⟩
  apply s_S_copyFrom_53_1_44
  refine ⟨by decide, by decide, by decide, by decide, by decide, at_C (cp_step (a := 53) (b := 1) (k := 2) hab (by decide) rfl rfl rfl) ?_⟩
  apply s_S_copyFrom_53_1_58
  refine ⟨by decide, by decide, by decide, by decide, by decide, at_C (cp_step (a := 53) (b := 1) (k := 3) hab (by decide) rfl rfl rfl) ?_⟩
  apply s_S_copyFrom_53_1_73
  refine ⟨by decide, by decide, by decide, by decide, by decide, at_C (cp_step (a := 53) (b := 1) (k := 4) hab (by decide) rfl rfl rfl) ?_⟩
  apply s_S_copyFrom_53_1_88
  refine ⟨by decide, by decide, by decide, by decide, by decide, at_C (cp_step (a := 53) (b := 1) (k := 5) hab (by decide) rfl rfl rfl) ?_⟩
  apply s_S_copyFrom_53_1_103
  refine ⟨by decide, by decide, by decide, by decide, by decide, at_C (cp_step (a := 53) (b := 1) (k := 6) hab (by decide) rfl rfl rfl) ?_⟩
  apply s_S_copyFrom_53_1_119
  refine ⟨by decide, by decide, by decide, by decide, by decide, at_C (cp_step (a := 53) (b := 1) (k := 7) hab (by decide) rfl rfl rfl) ?_⟩
  apply s_S_copyFrom_53_1_135
  refine ⟨by decide, by decide, by decide, by decide, by decide, fun i hi => ?_, at_C (cp_step (a := 53) (b := 1) (k := 8) hab (by decide) rfl rfl rfl) ?_⟩
  · rw [show (0 : Int32).toNatClampNeg = 0 from rfl, Nat.zero_add, cp_other (by decide)]
    exact h i hi
  exact s_S_copyFrom_53_1_151 (ret_V' rfl rfl)
theorem m_cp_1_23 (h : ∀ i, i < 288 → C 32 i = 0 ∨ C 32 i = 1) : cV zN (d + 1) 31 [.ref 1, .ref 23] C p (cp 9 C 1 23) p := by
  have hab : 1 + 10 ≤ 23 ∨ 23 + 10 ≤ 1 := by decide
  apply e_S_copyFrom_1_23
  apply s_S_copyFrom_1_23_0
  refine ⟨by decide, by decide, by decide, by decide, by decide, ?_⟩
  rw [cp_zero hab]
  refine at_C (cp_step (a := 1) (b := 23) (k := 0) hab (by decide) rfl rfl rfl) ?_
  apply s_S_copyFrom_1_23_30
  refine ⟨by decide, by decide, by decide, by decide, by decide, at_C (cp_step (a := 1) (b := 23) (k := 1) hab (by decide) rfl rfl rfl) ?_⟩
  apply s_S_copyFrom_1_23_44
  refine ⟨by decide, by decide, by decide, by decide, by decide, at_C (cp_step (a := 1) (b := 23) (k := 2) hab (by decide) rfl rfl rfl) ?_⟩
  apply s_S_copyFrom_1_23_58
  refine ⟨by decide, by decide, by decide, by decide, by decide, at_C (cp_step (a := 1) (b := 23) (k := 3) hab (by decide) rfl rfl rfl) ?_⟩
  apply s_S_copyFrom_1_23_73
  refine ⟨by decide, by decide, by decide, by decide, by decide, at_C (cp_step (a := 1) (b := 23) (k := 4) hab (by decide) rfl rfl rfl) ?_⟩
  apply s_S_copyFrom_1_23_88
  refine ⟨by decide, by decide, by decide, by decide, by decide, at_C (cp_step (a := 1) (b := 23) (k := 5) hab (by decide) rfl rfl rfl) ?_⟩
  apply s_S_copyFrom_1_23_103
  refine ⟨by decide, by decide, by decide, by decide, by decide, at_C (cp_step (a := 1) (b := 23) (k := 6) hab (by decide) rfl rfl rfl) ?_⟩
  apply s_S_copyFrom_1_23_119
  refine ⟨by decide, by decide, by decide, by decide, by decide, at_C (cp_step (a := 1) (b := 23) (k := 7) hab (by decide) rfl rfl rfl) ?_⟩
  apply s_S_copyFrom_1_23_135
  refine ⟨by decide, by decide, by decide, by decide, by decide, fun i hi => ?_, at_C (cp_step (a := 1) (b := 23) (k := 8) hab (by decide) rfl rfl rfl) ?_⟩
  · rw [show (0 : Int32).toNatClampNeg = 0 from rfl, Nat.zero_add, cp_other (by decide)]
    exact h i hi
  exact s_S_copyFrom_1_23_151 (ret_V' rfl rfl)
theorem m_cp_1_33 (h : ∀ i, i < 288 → C 42 i = 0 ∨ C 42 i = 1) : cV zN (d + 1) 31 [.ref 1, .ref 33] C p (cp 9 C 1 33) p := by
  have hab : 1 + 10 ≤ 33 ∨ 33 + 10 ≤ 1 := by decide
  apply e_S_copyFrom_1_33
  apply s_S_copyFrom_1_33_0
  refine ⟨by decide, by decide, by decide, by decide, by decide, ?_⟩
  rw [cp_zero hab]
  refine at_C (cp_step (a := 1) (b := 33) (k := 0) hab (by decide) rfl rfl rfl) ?_
  apply s_S_copyFrom_1_33_30
  refine ⟨by decide, by decide, by decide, by decide, by decide, at_C (cp_step (a := 1) (b := 33) (k := 1) hab (by decide) rfl rfl rfl) ?_⟩
  apply s_S_copyFrom_1_33_44
  refine ⟨by decide, by decide, by decide, by decide, by decide, at_C (cp_step (a := 1) (b := 33) (k := 2) hab (by decide) rfl rfl rfl) ?_⟩
  apply s_S_copyFrom_1_33_58
  refine ⟨by decide, by decide, by decide, by decide, by decide, at_C (cp_step (a := 1) (b := 33) (k := 3) hab (by decide) rfl rfl rfl) ?_⟩
  apply s_S_copyFrom_1_33_73
  refine ⟨by decide, by decide, by decide, by decide, by decide, at_C (cp_step (a := 1) (b := 33) (k := 4) hab (by decide) rfl rfl rfl) ?_⟩
  apply s_S_copyFrom_1_33_88
  refine ⟨by decide, by decide, by decide, by decide, by decide, at_C (cp_step (a := 1) (b := 33) (k := 5) hab (by decide) rfl rfl rfl) ?_⟩
  apply s_S_copyFrom_1_33_103
  refine ⟨by decide, by decide, by decide, by decide, by decide, at_C (cp_step (a := 1) (b := 33) (k := 6) hab (by decide) rfl rfl rfl) ?_⟩
  apply s_S_copyFrom_1_33_119
  refine ⟨by decide, by decide, by decide, by decide, by decide, at_C (cp_step (a := 1) (b := 33) (k := 7) hab (by decide) rfl rfl rfl) ?_⟩
  apply s_S_copyFrom_1_33_135
  refine ⟨by decide, by decide, by decide, by decide, by decide, fun i hi => ?_, at_C (cp_step (a := 1) (b := 33) (k := 8) hab (by decide) rfl rfl rfl) ?_⟩
  · rw [show (0 : Int32).toNatClampNeg = 0 from rfl, Nat.zero_add, cp_other (by decide)]
    exact h i hi
  exact s_S_copyFrom_1_33_151 (ret_V' rfl rfl)
theorem m_cp_1_43 (h : ∀ i, i < 288 → C 52 i = 0 ∨ C 52 i = 1) : cV zN (d + 1) 31 [.ref 1, .ref 43] C p (cp 9 C 1 43) p := by
  have hab : 1 + 10 ≤ 43 ∨ 43 + 10 ≤ 1 := by decide
  apply e_S_copyFrom_1_43
  apply s_S_copyFrom_1_43_0
  refine ⟨by decide, by decide, by decide, by decide, by decide, ?_⟩
  rw [cp_zero hab]
  refine at_C (cp_step (a := 1) (b := 43) (k := 0) hab (by decide) rfl rfl rfl) ?_
  apply s_S_copyFrom_1_43_30
  refine ⟨by decide, by decide, by decide, by decide, by decide, at_C (cp_step (a := 1) (b := 43) (k := 1) hab (by decide) rfl rfl rfl) ?_⟩
  apply s_S_copyFrom_1_43_44
  refine ⟨by decide, by decide, by decide, by decide, by decide, at_C (cp_step (a := 1) (b := 43) (k := 2) hab (by decide) rfl rfl rfl) ?_⟩
  apply s_S_copyFrom_1_43_58
  refine ⟨by decide, by decide, by decide, by decide, by decide, at_C (cp_step (a := 1) (b := 43) (k := 3) hab (by decide) rfl rfl rfl) ?_⟩
  apply s_S_copyFrom_1_43_73
  refine ⟨by decide, by decide, by decide, by decide, by decide, at_C (cp_step (a := 1) (b := 43) (k := 4) hab (by decide) rfl rfl rfl) ?_⟩
  apply s_S_copyFrom_1_43_88
  refine ⟨by decide, by decide, by decide, by decide, by decide, at_C (cp_step (a := 1) (b := 43) (k := 5) hab (by decide) rfl rfl rfl) ?_⟩
  apply s_S_copyFrom_1_43_103
  refine ⟨by decide, by decide, by decide, by decide, by decide, at_C (cp_step (a := 1) (b := 43) (k := 6) hab (by decide) rfl rfl rfl) ?_⟩
  apply s_S_copyFrom_1_43_119
  refine ⟨by decide, by decide, by decide, by decide, by decide, at_C (cp_step (a := 1) (b := 43) (k := 7) hab (by decide) rfl rfl rfl) ?_⟩
  apply s_S_copyFrom_1_43_135
  refine ⟨by decide, by decide, by decide, by decide, by decide, fun i hi => ?_, at_C (cp_step (a := 1) (b := 43) (k := 8) hab (by decide) rfl rfl rfl) ?_⟩
  · rw [show (0 : Int32).toNatClampNeg = 0 from rfl, Nat.zero_add, cp_other (by decide)]
    exact h i hi
  exact s_S_copyFrom_1_43_151 (ret_V' rfl rfl)
theorem m_cp_1_53 (h : ∀ i, i < 288 → C 62 i = 0 ∨ C 62 i = 1) : cV zN (d + 1) 31 [.ref 1, .ref 53] C p (cp 9 C 1 53) p := by
  have hab : 1 + 10 ≤ 53 ∨ 53 + 10 ≤ 1 := by decide
  apply e_S_copyFrom_1_53
  apply s_S_copyFrom_1_53_0
  refine ⟨by decide, by decide, by decide, by decide, by decide, ?_⟩
  rw [cp_zero hab]
  refine at_C (cp_step (a := 1) (b := 53) (k := 0) hab (by decide) rfl rfl rfl) ?_
  apply s_S_copyFrom_1_53_30
  refine ⟨by decide, by decide, by decide, by decide, by decide, at_C (cp_step (a := 1) (b := 53) (k := 1) hab (by decide) rfl rfl rfl) ?_⟩
  apply s_S_copyFrom_1_53_44
  refine ⟨by decide, by decide, by decide, by decide, by decide, at_C (cp_step (a := 1) (b := 53) (k := 2) hab (by decide) rfl rfl rfl) ?_⟩
  apply s_S_copyFrom_1_53_58
  refine ⟨by decide, by decide, by decide, by decide, by decide, at_C (cp_step (a := 1) (b := 53) (k := 3) hab (by decide) rfl rfl rfl) ?_⟩
  apply s_S_copyFrom_1_53_73
  refine ⟨by decide, by decide, by decide, by decide, by decide, at_C (cp_step (a := 1) (b := 53) (k := 4) hab (by decide) rfl rfl rfl) ?_⟩
  apply s_S_copyFrom_1_53_88
  refine ⟨by decide, by decide, by decide, by decide, by decide, at_C (cp_step (a := 1) (b := 53) (k := 5) hab (by decide) rfl rfl rfl) ?_⟩
  apply s_S_copyFrom_1_53_103
  refine ⟨by decide, by decide, by decide, by decide, by decide, at_C (cp_step (a := 1) (b := 53) (k := 6) hab (by decide) rfl rfl rfl) ?_⟩
  apply s_S_copyFrom_1_53_119
  refine ⟨by decide, by decide, by decide, by decide, by decide, at_C (cp_step (a := 1) (b := 53) (k := 7) hab (by decide) rfl rfl rfl) ?_⟩
  apply s_S_copyFrom_1_53_135
  refine ⟨by decide, by decide, by decide, by decide, by decide, fun i hi => ?_, at_C (cp_step (a := 1) (b := 53) (k := 8) hab (by decide) rfl rfl rfl) ?_⟩
  · rw [show (0 : Int32).toNatClampNeg = 0 from rfl, Nat.zero_add, cp_other (by decide)]
    exact h i hi
  exact s_S_copyFrom_1_53_151 (ret_V' rfl rfl)
end
end
section
/-! History -/
variable {zN : Nat}
/-- the states' places: q 0 .. q 3, in p -/
def hst (p : Nat → Option Nat) (q : Nat → Nat) : Prop := (∀ i, i < 4 → p i = some (q i) ∧ (q i = 23 ∨ q i = 33 ∨ q i = 43 ∨ q i = 53)) ∧ ∀ i j, i < 4 → j < 4 → q i = q j → i = j
theorem am_uF_F {p : Nat → Option Nat} {i : Nat} {x : Option Nat} : am_uF (am_F p) 22 i x = am_F (fun b => if b = i then x else p b) := by
  funext a b
  simp only [am_uF, am_F]
  by_cases ha : a = 22
  · subst ha
    simp
  · have : Nat.beq a 22 = false := by
      cases hb : Nat.beq a 22 with
      | false => rfl
      | true => exact absurd (Nat.eq_of_beq_eq_true hb) ha
    simp [ha, this]
def rotq (q : Nat → Nat) : Nat → Nat := fun b => if b = 3 then q 0 else q (b + 1)
def rkp (p : Nat → Option Nat) (i : Nat) : Nat → Option Nat := fun b => if b + 1 < i then p (b + 1) else p b
def rotp (p : Nat → Option Nat) : Nat → Option Nat := fun b => if b = 3 then p 0 else if b < 3 then p (b + 1) else p b
theorem hst_rot {p : Nat → Option Nat} {q : Nat → Nat} (h : hst p q) : hst (rotp p) (rotq q) := by
  obtain ⟨h1, h2⟩ := h
  refine ⟨fun i hi => ?_, fun i j hi hj he => ?_⟩
  · by_cases h3 : i = 3
    · subst h3
      exact h1 0 (by decide)
    · have := h1 (i + 1) (by omega)
      simp only [rotp, rotq, if_neg h3, if_pos (show i < 3 by omega)]
      exact this
  · simp only [rotq] at he
    by_cases a : i = 3 <;> by_cases b : j = 3
    · omega
    · rw [if_pos a, if_neg b] at he
      have := h2 _ _ (by decide) (by omega) he
      omega
    · rw [if_neg a, if_pos b] at he
      have := h2 _ _ (by omega) (by decide) he
      omega
    · rw [if_neg a, if_neg b] at he
      have := h2 _ _ (by omega) (by omega) he
      omega
section
variable {d : Nat} {C : Nat → Nat → Int32} {p : Nat → Option Nat} {q : Nat → Nat}
theorem ob3 {C : Nat → Nat → Int32} {p : Nat → Option Nat} {j : Nat} {f : Prop} (hj : j = 23 ∨ j = 33 ∨ j = 43 ∨ j = 53) (h : f) : am_ob (am_w zN C p) j 3 f := by
  rcases hj with e | e | e | e <;> subst e <;> exact am_ob_i rfl rfl h
theorem m_cp_to {j : Nat} (hj : j = 23 ∨ j = 33 ∨ j = 43 ∨ j = 53) (h : ∀ i, i < 288 → C 10 i = 0 ∨ C 10 i = 1) : cV zN (d + 1) 31 [.ref j, .ref 1] C p (cp 9 C j 1) p := by
  rcases hj with e | e | e | e <;> subst e
  · exact m_cp_23_1 h
  · exact m_cp_33_1 h
  · exact m_cp_43_1 h
  · exact m_cp_53_1 h
theorem m_cp_from {j : Nat} (hj : j = 23 ∨ j = 33 ∨ j = 43 ∨ j = 53) (h : ∀ i, i < 288 → C (j + 9) i = 0 ∨ C (j + 9) i = 1) : cV zN (d + 1) 31 [.ref 1, .ref j] C p (cp 9 C 1 j) p := by
  rcases hj with e | e | e | e <;> subst e
  · exact m_cp_1_23 h
  · exact m_cp_1_33 h
  · exact m_cp_1_43 h
  · exact m_cp_1_53 h
theorem m_H_dropOldest (hq : hst p q) : cV zN (d + 1) 3 [.ref 21] C p (am_u2 C 21 1 (C 21 1 - 1)) (rotp p) := by
  obtain ⟨h1, h2⟩ := hq
  have step : ∀ i, 1 ≤ i → i < 4 → ∀ Post : Option Value → aW → Prop, am_At (d + 1) 3 none Post 9 [some (.ref 21), some (.ref (q 0)), some (.int (nI (i + 1)))] [] (am_w zN C (rkp p (i + 1))) (0, 0) → am_At (d + 1) 3 none Post 9 [some (.ref 21), some (.ref (q 0)), some (.int (nI i))] [] (am_w zN C (rkp p i)) (0, 0) := by
    intro i hi1 hi4 Post hk
    apply s_H_dropOldest_9
    have e1 : nI i - 1 = nI (i - 1) := by
      obtain ⟨m, rfl⟩ : ∃ m, i = m + 1 := ⟨i - 1, by omega⟩
      exact nI_pred m
    rw [e1, nI_1, cl (n := i) (by omega), cl (n := i - 1) (by omega)]
    refine ⟨fun h => absurd ((le5 (a := 4) (b := i) (by omega) (by omega)).mp h) (by omega), fun _ => ⟨vpi (by omega) (by decide), q i, ?_, vpi (by omega) (by decide), ob3 (h1 i hi4).2 ?_⟩⟩
    · show rkp p i i = some (q i)
      rw [rkp, if_neg (by omega)]
      exact (h1 i hi4).1
    · rw [am_uF_F]
      have e2 : (fun b => if b = i - 1 then some (q i) else rkp p i b) = rkp p (i + 1) := by
        funext b
        simp only [rkp]
        by_cases hb : b = i - 1
        · subst hb
          rw [if_pos rfl, if_pos (by omega), show i - 1 + 1 = i by omega]
          exact (h1 i hi4).1.symm
        · rw [if_neg hb]
          by_cases hb2 : b + 1 < i
          · rw [if_pos hb2, if_pos (by omega)]
          · rw [if_neg hb2, if_neg (by omega)]
      rw [e2]
      exact hk
  apply e_H_dropOldest
  apply s_H_dropOldest_0
  refine ⟨vpi (n := 0) (by decide) (by decide), q 0, (h1 0 (by decide)).1, ?_⟩
  have e0 : p = rkp p 1 := by
    funext b
    simp only [rkp]
    rw [if_neg (by omega)]
  have fin : am_At (d + 1) 3 none (am_Ret zN (am_eV (am_u2 C 21 1 (C 21 1 - 1)) (rotp p))) 9 [some (.ref 21), some (.ref (q 0)), some (.int (nI 4))] [] (am_w zN C (rkp p 4)) (0, 0) := by
    apply s_H_dropOldest_9
    refine ⟨fun _ => ⟨vpi (n := 3) (by decide) (by decide), ob3 (h1 0 (by decide)).2 ?_⟩, fun h => absurd (by decide) h⟩
    rw [am_uF_F]
    refine ret_V' rfl ?_
    funext b
    show (if b = 3 then some (q 0) else rkp p 4 b) = _
    simp only [rkp, rotp]
    by_cases hb : b = 3
    · rw [if_pos hb, if_pos hb]
      exact (h1 0 (by decide)).1.symm
    · rw [if_neg hb, if_neg hb]
      by_cases hb2 : b < 3
      · rw [if_pos (by omega), if_pos hb2]
      · rw [if_neg (by omega), if_neg hb2]
  have := step 1 (by decide) (by decide) _ (step 2 (by decide) (by decide) _ (step 3 (by decide) (by decide) _ fin))
  rw [← e0] at this
  exact this
/-- what record does: the places, and the numbers -/
def recq (C : Nat → Nat → Int32) (q : Nat → Nat) : Nat → Nat := if C 21 1 = 4 then rotq q else q
def recp (C : Nat → Nat → Int32) (p : Nat → Option Nat) : Nat → Option Nat := if C 21 1 = 4 then rotp p else p
def recn (C : Nat → Nat → Int32) : Nat := if C 21 1 = 4 then 3 else (C 21 1).toNatClampNeg
def recC (C : Nat → Nat → Int32) (q : Nat → Nat) : Nat → Nat → Int32 := am_u2 (cp 9 C (recq C q (recn C)) 1) 21 1 (nI (recn C + 1))
theorem hst_rec (hq : hst p q) : hst (recp C p) (recq C q) := by
  unfold recp recq
  split
  · exact hst_rot hq
  · exact hq
theorem m_H_record {n : Nat} (hq : hst p q) (hn : C 21 1 = nI n) (h4 : n ≤ 4) (hs : ∀ i, i < 288 → C 10 i = 0 ∨ C 10 i = 1) : cV zN (d + 2) 1 [.ref 21, .ref 1] C p (recC C q) (recp C p) := by
  have key : ∀ (C1 : Nat → Nat → Int32) (p1 : Nat → Option Nat) (q1 : Nat → Nat) (m : Nat), hst p1 q1 → m < 4 → C1 21 1 = nI m → (∀ i, i < 288 → C1 10 i = 0 ∨ C1 10 i = 1) → ∀ P, am_Ret zN P none (am_w zN (am_u2 (cp 9 C1 (q1 m) 1) 21 1 (nI (m + 1))) p1) →
      am_At (d + 2) 1 none (am_Ret zN P) 12 [some (.ref 21), some (.ref 1)] [] (am_w zN C1 p1) (0, 0) := by
    intro C1 p1 q1 m hq1 hm hc hs1 P hP
    have hb := (hq1.1 m hm).2
    apply s_H_record_12
    rw [hc, cl (by omega)]
    refine ⟨vpi hm (by decide), q1 m, (hq1.1 m hm).1, ob3 hb (use_V (m_cp_to hb hs1) ?_)⟩
    apply s_H_record_25
    have e : cp 9 C1 (q1 m) 1 21 1 = nI m := by rw [cp_other (by omega), hc]
    rw [e, nI_1]
    exact hP
  apply e_H_record
  apply s_H_record_0
  refine ⟨fun h => ?_, fun h => use_V (m_H_dropOldest hq) ?_⟩
  · have hm : n < 4 := by
      rw [hn] at h
      have h' : ¬ n = 4 := fun e => h (by rw [e]; rfl)
      omega
    refine key C p q n hq hm hn hs _ (ret_V' ?_ ?_)
    · simp only [recC, recq, recn, if_neg h]
      rw [hn, cl (by omega)]
    · simp only [recp, if_neg h]
  · refine key (am_u2 C 21 1 (C 21 1 - 1)) (rotp p) (rotq q) 3 (hst_rot hq) (by decide) ?_ ?_ _ (ret_V' ?_ ?_)
    · rw [h]
      rfl
    · intro i hi
      rw [am_u2_ne (by decide)]
      exact hs i hi
    · simp only [recC, recq, recn, if_pos h]
      funext x i
      simp only [am_u2_at]
      by_cases hx : x = 21 ∧ i = 1
      · rw [if_pos hx, if_pos hx]
      · rw [if_neg hx, if_neg hx]
        have hj := ((hst_rot hq).1 3 (by decide)).2
        have hne : ∀ z, am_u2 C 21 1 (C 21 1 - 1) (1 + z) i = C (1 + z) i ∨ 20 ≤ z := by
          intro z
          by_cases hz : 20 ≤ z
          · exact Or.inr hz
          · left
            rw [am_u2_ne (by omega)]
        generalize rotq q 3 = j at *
        simp only [cp]
        by_cases c1 : x = j ∧ i < 2
        · rw [if_pos c1, if_pos c1, am_u2_ne (by decide)]
        · rw [if_neg c1, if_neg c1]
          by_cases c2 : j < x ∧ x ≤ j + 9 ∧ i < ln (x - j - 1)
          · rw [if_pos c2, if_pos c2, am_u2_ne (by omega)]
          · rw [if_neg c2, if_neg c2, am_u2_at, if_neg hx]
    · simp only [recp, if_pos h]
def tbC (C : Nat → Nat → Int32) (j n : Nat) : Nat → Nat → Int32 := cp 9 (am_u2 C 21 1 (nI n)) 1 j
theorem m_H_takeBack {n : Nat} (hq : hst p q) (hn : C 21 1 = nI (n + 1)) (h4 : n < 4) (hs : ∀ j, j = 23 ∨ j = 33 ∨ j = 43 ∨ j = 53 → ∀ i, i < 288 → C (j + 9) i = 0 ∨ C (j + 9) i = 1) : cV zN (d + 2) 2 [.ref 21, .ref 1] C p (tbC C (q n) n) p := by
  have hb := (hq.1 n h4).2
  apply e_H_takeBack
  apply s_H_takeBack_0
  have e1 : C 21 1 - 1 = nI n := by rw [hn, nI_pred]
  have e2 : am_u2 C 21 1 (nI n) 21 1 = nI n := by simp [am_u2]
  rw [e1, e2, cl (by omega)]
  refine ⟨fun _ => ⟨vpi h4 (by decide), q n, (hq.1 n h4).1, use_V (m_cp_from hb ?_) (s_H_takeBack_31 (ret_V' rfl rfl))⟩, fun h => ?_⟩
  · intro i hi
    rw [am_u2_ne (by omega)]
    exact hs _ hb i hi
  · rw [hn] at h
    exact absurd h (nI_ne0 (by omega) (by omega))
end
end
section
/-! A TEXT OF POINTINGS: L characters ch, read from the place a -/
def dg (L : Nat) (ch : Nat → Int32) (a : Nat) : Option Nat := if a < L ∧ 48 ≤ (ch a).toInt ∧ (ch a).toInt ≤ 57 then some ((ch a).toInt - 48).toNat else none
def skp (L : Nat) (ch : Nat → Int32) (c : Int32) (a : Nat) : Bool := decide (a < L ∧ ch a = c)
def numl (L : Nat) (ch : Nat → Int32) (most : Nat) : Nat → Nat → Nat → Nat × Nat
  | 0, a, v => (a, v)
  | n + 1, a, v => if v = 0 then (a, v) else match dg L ch a with
    | none => (a, v)
    | some e => if v * 10 + e ≤ most then numl L ch most n (a + 1) (v * 10 + e) else (a, v)
def num (L : Nat) (ch : Nat → Int32) (most a : Nat) : Nat × Option Nat := match dg L ch a with
  | none => (a, none)
  | some e => ((numl L ch most (L - (a + 1)) (a + 1) e).1, some (numl L ch most (L - (a + 1)) (a + 1) e).2)
def ang3 (L : Nat) (ch : Nat → Int32) (g m a : Nat) : Nat × Option Nat := match num L ch 59 a with
  | (b, none) => (b, none)
  | (b, some s) => (b, some ((g * 60 + m) * 60 + s))
def ang2 (L : Nat) (ch : Nat → Int32) (g a : Nat) : Nat × Option Nat := match num L ch 59 a with
  | (b, none) => (b, none)
  | (b, some m) => if skp L ch 58 b then ang3 L ch g m (b + 1) else (b, none)
def ang (L : Nat) (ch : Nat → Int32) (a : Nat) : Nat × Option Nat := match num L ch 359 a with
  | (b, none) => (b, none)
  | (b, some g) => if skp L ch 58 b then ang2 L ch g (b + 1) else (b, none)
def tgt (L : Nat) (ch : Nat → Int32) (a : Nat) : Option Nat := match dg L ch a with
  | none => none
  | some t => if t < 6 then some t else none
def fac (L : Nat) (ch : Nat → Int32) (a : Nat) : Option Nat := if skp L ch 108 a then some 0 else if skp L ch 114 a then some 1 else none
def ppt2 (L : Nat) (ch : Nat → Int32) (t f a : Nat) : Nat × Option (Nat × Nat × Nat) := match ang L ch a with
  | (b, none) => (b, none)
  | (b, some r) => (b, some (t, f, r))
/-- one pointing: where the reading stands then; target, face and reading, or none: a fault there -/
def ppt (L : Nat) (ch : Nat → Int32) (a : Nat) : Nat × Option (Nat × Nat × Nat) := match tgt L ch a with
  | none => (a, none)
  | some t => match fac L ch (a + 1) with
    | none => (a + 1, none)
    | some f => ppt2 L ch t f (a + 2)
/-- all pointings, at most n -/
def pall (L : Nat) (ch : Nat → Int32) : Nat → Nat → Nat × Option (List (Nat × Nat × Nat))
  | 0, a => (a, none)
  | n + 1, a => match ppt L ch a with
    | (b, none) => (b, none)
    | (b, some x) => if b = L then (b, some [x]) else if skp L ch 59 b then (match pall L ch n (b + 1) with
      | (c, none) => (c, none)
      | (c, some l) => (c, some (x :: l))) else (b, none)
theorem dg_some {L : Nat} {ch : Nat → Int32} {a e : Nat} (h : dg L ch a = some e) : a < L ∧ e ≤ 9 := by
  unfold dg at h
  split at h
  · rename_i hc
    cases h
    exact ⟨hc.1, by omega⟩
  · cases h
theorem numl_in {L : Nat} {ch : Nat → Int32} {most : Nat} : ∀ {n a v : Nat}, a ≤ L → v ≤ most → a ≤ (numl L ch most n a v).1 ∧ (numl L ch most n a v).1 ≤ L ∧ (numl L ch most n a v).2 ≤ most
  | 0, a, v, h1, h2 => ⟨Nat.le_refl _, h1, h2⟩
  | n + 1, a, v, h1, h2 => by
    unfold numl
    split
    · exact ⟨Nat.le_refl _, h1, h2⟩
    · split
      · exact ⟨Nat.le_refl _, h1, h2⟩
      · rename_i e he
        split
        · rename_i hm
          obtain ⟨q1, q2, q3⟩ := numl_in (L := L) (ch := ch) (most := most) (n := n) (a := a + 1) (v := v * 10 + e) (dg_some he).1 hm
          exact ⟨by omega, q2, q3⟩
        · exact ⟨Nat.le_refl _, h1, h2⟩
theorem num_in {L : Nat} {ch : Nat → Int32} {most a : Nat} (h9 : 9 ≤ most) (h1 : a ≤ L) : a ≤ (num L ch most a).1 ∧ (num L ch most a).1 ≤ L ∧ ∀ v, (num L ch most a).2 = some v → v ≤ most ∧ a < (num L ch most a).1 := by
  unfold num
  split
  · exact ⟨Nat.le_refl _, h1, fun v h => by cases h⟩
  · rename_i e he
    obtain ⟨q0, q9⟩ := dg_some he
    obtain ⟨q1, q2, q3⟩ := numl_in (L := L) (ch := ch) (most := most) (n := L - (a + 1)) (a := a + 1) (v := e) q0 (by omega)
    refine ⟨by show a ≤ (numl _ _ _ _ _ _).1; omega, q2, fun v h => ?_⟩
    cases h
    exact ⟨q3, by show a < (numl _ _ _ _ _ _).1; omega⟩
theorem skp_lt {L : Nat} {ch : Nat → Int32} {c : Int32} {a : Nat} (h : skp L ch c a = true) : a < L := by
  simp only [skp, decide_eq_true_eq] at h
  exact h.1
theorem ang_in {L : Nat} {ch : Nat → Int32} {a : Nat} (h1 : a ≤ L) : a ≤ (ang L ch a).1 ∧ (ang L ch a).1 ≤ L ∧ ∀ v, (ang L ch a).2 = some v → v < 1296000 ∧ a + 5 ≤ (ang L ch a).1 := by
  obtain ⟨p1, p2, p3⟩ := num_in (ch := ch) (most := 359) (by decide) h1
  unfold ang
  generalize num L ch 359 a = r1 at p1 p2 p3
  obtain ⟨b1, o1⟩ := r1
  cases o1 with
  | none => exact ⟨p1, p2, fun v h => by cases h⟩
  | some g =>
    obtain ⟨p4, p5⟩ := p3 g rfl
    dsimp only at p1 p2 p5 ⊢
    split
    · rename_i hs1
      have hl1 := skp_lt hs1
      obtain ⟨q1, q2, q3⟩ := num_in (ch := ch) (most := 59) (a := b1 + 1) (by decide) hl1
      unfold ang2
      generalize num L ch 59 (b1 + 1) = r2 at q1 q2 q3
      obtain ⟨b2, o2⟩ := r2
      cases o2 with
      | none => exact ⟨by dsimp only at q1 ⊢; omega, q2, fun v h => by cases h⟩
      | some m =>
        obtain ⟨q4, q5⟩ := q3 m rfl
        dsimp only at q1 q2 q5 ⊢
        split
        · rename_i hs2
          have hl2 := skp_lt hs2
          obtain ⟨t1, t2, t3⟩ := num_in (ch := ch) (most := 59) (a := b2 + 1) (by decide) hl2
          unfold ang3
          generalize num L ch 59 (b2 + 1) = r3 at t1 t2 t3
          obtain ⟨b3, o3⟩ := r3
          cases o3 with
          | none => exact ⟨by dsimp only at t1 ⊢; omega, t2, fun v h => by cases h⟩
          | some z =>
            obtain ⟨t4, t5⟩ := t3 z rfl
            dsimp only at t1 t2 t5 ⊢
            refine ⟨by omega, t2, fun v h => ?_⟩
            cases h
            omega
        · exact ⟨by dsimp only; omega, q2, fun v h => by cases h⟩
    · exact ⟨p1, p2, fun v h => by cases h⟩
theorem ppt_in {L : Nat} {ch : Nat → Int32} {a : Nat} (h1 : a ≤ L) : (ppt L ch a).1 ≤ L ∧ ∀ x, (ppt L ch a).2 = some x → x.1 < 6 ∧ x.2.1 < 2 ∧ x.2.2 < 1296000 ∧ a + 7 ≤ (ppt L ch a).1 := by
  unfold ppt
  cases ht : tgt L ch a with
  | none => exact ⟨h1, fun x h => by cases h⟩
  | some t =>
    have ht6 : a < L ∧ t < 6 := by
      unfold tgt at ht
      split at ht
      · cases ht
      · rename_i e he
        split at ht
        · cases ht
          exact ⟨(dg_some he).1, by assumption⟩
        · cases ht
    dsimp only
    cases hf : fac L ch (a + 1) with
    | none => exact ⟨ht6.1, fun x h => by cases h⟩
    | some f =>
      have hf2 : a + 1 < L ∧ f < 2 := by
        unfold fac at hf
        split at hf
        · rename_i hs
          cases hf
          exact ⟨skp_lt hs, by decide⟩
        · split at hf
          · rename_i hs
            cases hf
            exact ⟨skp_lt hs, by decide⟩
          · cases hf
      dsimp only
      unfold ppt2
      obtain ⟨q1, q2, q3⟩ := ang_in (ch := ch) (a := a + 2) hf2.1
      generalize ang L ch (a + 2) = r at q1 q2 q3
      obtain ⟨b, o⟩ := r
      cases o with
      | none => exact ⟨q2, fun x h => by cases h⟩
      | some z =>
        obtain ⟨q4, q5⟩ := q3 z rfl
        dsimp only at q1 q2 q5 ⊢
        refine ⟨q2, fun x h => ?_⟩
        cases h
        exact ⟨ht6.2, hf2.2, q4, by omega⟩
/-! PointingText -/
def atC (C : Nat → Nat → Int32) (a : Nat) : Nat → Nat → Int32 := am_u2 C 63 6 (nI a)
theorem atC_at {C : Nat → Nat → Int32} {a : Nat} : atC C a 63 6 = nI a := by simp [atC, am_u2]
theorem atC_1 {C : Nat → Nat → Int32} {a : Nat} : atC C a 63 1 = C 63 1 := by simp [atC, am_u2]
theorem atC_5 {C : Nat → Nat → Int32} {a : Nat} : atC C a 63 5 = C 63 5 := by simp [atC, am_u2]
theorem atC_64 {C : Nat → Nat → Int32} {a i : Nat} : atC C a 64 i = C 64 i := by simp [atC, am_u2]
theorem atC_up {C : Nat → Nat → Int32} {a b : Nat} : am_u2 (atC C a) 63 6 (nI b) = atC C b := by
  funext x i
  simp only [atC, am_u2_at]
  split <;> rfl
section
variable {d : Nat} {C : Nat → Nat → Int32} {p : Nat → Option Nat} {L a : Nat}
theorem nI_sub48 {x : Int32} (h1 : 48 ≤ x.toInt) (h2 : x.toInt ≤ 57) : x - 48 = nI (x.toInt - 48).toNat := by
  apply Int32.toInt_inj.mp
  rw [nI_toI (by omega), Int32.toInt_sub]
  have e : (48 : Int32).toInt = 48 := by decide
  rw [e, Int.bmod_eq_of_le (by omega) (by omega)]
  omega
theorem dg_m1 {L a : Nat} {ch : Nat → Int32} : oI (-1) (dg L ch a) = -1 ↔ dg L ch a = none := oI_none (n := 10) (by decide) (fun k hk => by have := (dg_some hk).2; omega)
theorem ix10 (v e : Nat) : nI v * (10 : Int32) + nI e = nI (v * 10 + e) := by
  rw [show (10 : Int32) = nI 10 from rfl, nI_mul, nI_add]
theorem num_m1 {L a most : Nat} {ch : Nat → Int32} (hm : 9 ≤ most) (hm2 : most ≤ 400) (ha : a ≤ L) : oI (-1) (num L ch most a).2 = -1 ↔ (num L ch most a).2 = none := oI_none (n := 401) (by decide) (fun k hk => by have := ((num_in (ch := ch) hm ha).2.2 k hk).1; omega)
theorem ix60' (v e : Nat) : nI v * (60 : Int32) + nI e = nI (v * 60 + e) := by
  rw [show (60 : Int32) = nI 60 from rfl, nI_mul, nI_add]
end
end
section
/-! WHAT FOLLOWS FROM THE ROUNDS OF A SET-UP: G r: the two faces of round r; N rounds -/
variable {zN : Nat}
abbrev aG : Type := Nat → aFace × aFace
def bs (b : Nat → Bool) : Nat → Int32
  | 0 => 0
  | n + 1 => if b n then bs b n ||| (1 <<< (nI n &&& 31)) else bs b n
def bs6 (b0 b1 b2 b3 b4 b5 : Bool) : Int32 := bs (fun n => match n with
  | 0 => b0
  | 1 => b1
  | 2 => b2
  | 3 => b3
  | 4 => b4
  | _ => b5) 6
theorem bs_congr {b c : Nat → Bool} : ∀ {n : Nat}, (∀ j, j < n → b j = c j) → bs b n = bs c n
  | 0, _ => rfl
  | n + 1, h => by
    unfold bs
    rw [h n (by omega), bs_congr (n := n) (fun j hj => h j (by omega))]
theorem bs_six (b : Nat → Bool) : bs b 6 = bs6 (b 0) (b 1) (b 2) (b 3) (b 4) (b 5) := by
  refine bs_congr (fun j hj => ?_)
  match j, hj with
  | 0, _ => rfl
  | 1, _ => rfl
  | 2, _ => rfl
  | 3, _ => rfl
  | 4, _ => rfl
  | 5, _ => rfl
set_option maxRecDepth 100000 in
theorem bs6_bit : ∀ b0 b1 b2 b3 b4 b5 : Bool, (bs6 b0 b1 b2 b3 b4 b5 &&& (1 <<< (nI 0 &&& 31)) = 0 ↔ b0 = false) ∧ (bs6 b0 b1 b2 b3 b4 b5 &&& (1 <<< (nI 1 &&& 31)) = 0 ↔ b1 = false) ∧ (bs6 b0 b1 b2 b3 b4 b5 &&& (1 <<< (nI 2 &&& 31)) = 0 ↔ b2 = false) ∧ (bs6 b0 b1 b2 b3 b4 b5 &&& (1 <<< (nI 3 &&& 31)) = 0 ↔ b3 = false) ∧ (bs6 b0 b1 b2 b3 b4 b5 &&& (1 <<< (nI 4 &&& 31)) = 0 ↔ b4 = false) ∧ (bs6 b0 b1 b2 b3 b4 b5 &&& (1 <<< (nI 5 &&& 31)) = 0 ↔ b5 = false) := by decide +kernel
theorem bs_bit {b : Nat → Bool} {t : Nat} (ht : t < 6) : bs b 6 &&& (1 <<< (nI t &&& 31)) = 0 ↔ b t = false := by
  rw [bs_six]
  obtain ⟨h0, h1, h2, h3, h4, h5⟩ := bs6_bit (b 0) (b 1) (b 2) (b 3) (b 4) (b 5)
  match t, ht with
  | 0, _ => exact h0
  | 1, _ => exact h1
  | 2, _ => exact h2
  | 3, _ => exact h3
  | 4, _ => exact h4
  | 5, _ => exact h5
def us (G : aG) (r t : Nat) : Bool := decide (why (G r).1 (G r).2 (nI t) = 0)
def reR (G : aG) (r t : Nat) : Int32 := red (G r).1 (G r).2 (nI t)
def sgR (G : aG) (r t : Nat) : Int32 := sgt (G r).1 (G r).2 (nI t)
/-- how many rounds so far, the first reduced direction, the sum of the differences -/
def dst (G : aG) (t : Nat) : Nat → Nat × Int32 × Int32
  | 0 => (0, 0, 0)
  | r + 1 => if us G r t then ((dst G t r).1 + 1, (if (dst G t r).1 = 0 then reR G r t else (dst G t r).2.1), (dst G t r).2.2 + nr (reR G r t - (if (dst G t r).1 = 0 then reR G r t else (dst G t r).2.1))) else dst G t r
theorem dst_le (G : aG) (t : Nat) : ∀ r, (dst G t r).1 ≤ r
  | 0 => Nat.le_refl _
  | r + 1 => by
    have := dst_le G t r
    unfold dst
    split
    · show (dst G t r).1 + 1 ≤ r + 1
      omega
    · omega
theorem dst_pos {G : aG} {t : Nat} : ∀ {N r : Nat}, r < N → us G r t = true → 0 < (dst G t N).1
  | 0, r, h, _ => by omega
  | N + 1, r, h, hu => by
    unfold dst
    by_cases hr : r = N
    · subst hr
      rw [if_pos hu]
      exact Nat.succ_pos _
    · have := dst_pos (N := N) (r := r) (by omega) hu
      split
      · exact Nat.succ_pos _
      · exact this
/-- the direction of a target -/
def dirO (G : aG) (N t : Nat) : Option Int32 := if (dst G t N).1 = 0 then none else some (fmd ((dst G t N).2.1 + fdv (dst G t N).2.2 (nI (dst G t N).1)))
def dirI (G : aG) (N t : Nat) : Int32 := fmd ((dst G t N).2.1 + fdv (dst G t N).2.2 (nI (dst G t N).1))
def oD (e : Int32) : Option Int32 → Int32
  | some x => x
  | none => e
def lef (G : aG) (N r t : Nat) : Int32 := nr (reR G r t - dirI G N t)
/-- what is left, without a sign; 0 where the target is not used -/
def lws (G : aG) (N r t : Nat) : Int32 := if us G r t then av (lef G N r t) else 0
theorem dirO_some {G : aG} {N t : Nat} (h : (dst G t N).1 ≠ 0) : dirO G N t = some (dirI G N t) := by rw [dirO, if_neg h]; rfl
theorem dirO_none {G : aG} {N t : Nat} (h : (dst G t N).1 = 0) : dirO G N t = none := by rw [dirO, if_pos h]
theorem fmd_m1 (x : Int32) : fmd x ≠ -1 ∧ fmd x ≠ -2000005 := by
  have := fmd_lo x
  constructor <;> intro e <;> rw [e] at this <;> exact absurd this (by decide)
theorem oD_m1 {G : aG} {N t : Nat} : oD (-1) (dirO G N t) = -1 ↔ dirO G N t = none := by
  unfold dirO
  split
  · simp [oD]
  · simp only [oD, reduceCtorEq, iff_false]
    exact (fmd_m1 _).1
/-! Reckoning -/
def agR (C' C : Nat → Nat → Int32) : Prop := ∀ x, x < 68 ∨ 73 < x → C' x = C x
theorem agR.rf {C : Nat → Nat → Int32} : agR C C := fun _ _ => rfl
theorem agR.tr {A B C : Nat → Nat → Int32} (h1 : agR A B) (h2 : agR B C) : agR A C := fun x h => (h1 x h).trans (h2 x h)
theorem agR_u {C : Nat → Nat → Int32} {i k : Nat} {x : Int32} (h : 68 ≤ i ∧ i ≤ 73) : agR (am_u2 C i k x) C := fun y hy => am_u2_ne (by omega)
theorem fS_agR {o : Nat} {C' C : Nat → Nat → Int32} (h : agR C' C) (ho : o + 9 < 68) (row : Nat) : fS o C' row = fS o C row := by
  unfold fS
  rw [h (o + 5) (by omega), h (o + 6) (by omega), h (o + 7) (by omega), h (o + 8) (by omega), h (o + 9) (by omega)]
theorem cok_agR {C' C : Nat → Nat → Int32} (h : agR C' C) {row : Nat} (hc : cok 1 C row) : cok 1 C' row := by
  unfold cok at hc ⊢
  rw [fS_agR h (by decide), h (1 + 5) (by omega)]
  exact hc
theorem use_VP {d k : Nat} {av : List Value} {C : Nat → Nat → Int32} {p : Nat → Option Nat} {R : (Nat → Nat → Int32) → Prop} {K : aW → Prop} (h : am_Call d k av (am_w zN C p) (am_Ret zN fun r C' p' => r = none ∧ p' = p ∧ R C')) (hk : ∀ C', R C' → K (am_w zN C' p)) : am_Cv d k av (am_w zN C p) K := by
  refine am_Call.mono h ?_
  rintro r w' ⟨C1, p1, rfl, rfl, rfl, hR⟩
  exact hk C1 hR
theorem use_IP {d k : Nat} {av : List Value} {C : Nat → Nat → Int32} {p : Nat → Option Nat} {R : Int32 → (Nat → Nat → Int32) → Prop} {K : Int32 → aW → Prop} (h : am_Call d k av (am_w zN C p) (am_Ret zN fun r C' p' => ∃ e, r = some (.int e) ∧ p' = p ∧ R e C')) (hk : ∀ e C', R e C' → K e (am_w zN C' p)) : am_Ci d k av (am_w zN C p) K := by
  refine am_Call.mono h ?_
  rintro r w' ⟨C1, p1, rfl, e, rfl, rfl, hR⟩
  exact hk e C1 hR
/-- the rounds of set-up u of the state at 1 -/
def Gc (C : Nat → Nat → Int32) (u : Nat) : aG := fun r => (fS 1 C ((u * 6 + r) * 2), fS 1 C ((u * 6 + r) * 2 + 1))
theorem Gc_agR {C' C : Nat → Nat → Int32} (h : agR C' C) (u : Nat) : Gc C' u = Gc C u := by
  funext r
  simp only [Gc]
  rw [fS_agR h (by decide), fS_agR h (by decide)]
def rk1 (G : aG) (N : Nat) (C : Nat → Nat → Int32) : Prop := C 68 0 = nI N ∧ N ≤ 6 ∧ (∀ r, r < N → C 69 r = bs (us G r) 6) ∧ ∀ r t, r < N → t < 6 → us G r t = true → C 70 (r * 6 + t) = reR G r t ∧ C 71 (r * 6 + t) = sgR G r t
def rk (G : aG) (N : Nat) (C : Nat → Nat → Int32) : Prop := rk1 G N C ∧ (∀ t, t < 6 → C 73 t = oD (-1) (dirO G N t)) ∧ ∀ r t, r < N → t < 6 → us G r t = true → C 72 (r * 6 + t) = lef G N r t
section
variable {d : Nat} {C : Nat → Nat → Int32} {p : Nat → Option Nat} {G : aG} {N : Nat}
theorem m_R_isUsed {r t : Nat} (hr : r < 6) (ht : t < 6) (hb : C 69 r = bs (us G r) 6) : cI zN (d + 1) 18 [.ref 68, .int (nI r), .int (nI t)] C p (bI (us G r t)) C p := by
  apply e_R_isUsed
  apply s_R_isUsed_0
  rw [cl (n := r) (by omega), hb, bs_bit ht]
  refine ⟨vpi hr (by decide), fun h => ⟨Or.inl rfl, ret_I' ?_ rfl rfl⟩, fun h => ⟨Or.inr rfl, ret_I' ?_ rfl rfl⟩⟩
  · rw [h]; rfl
  · rw [Bool.not_eq_false] at h
    rw [h]; rfl
theorem m_R_hasDirection {t : Nat} (ht : t < 6) (hd : C 73 t = oD (-1) (dirO G N t)) : cI zN (d + 1) 19 [.ref 68, .int (nI t)] C p (bI (dirO G N t).isSome) C p := by
  apply e_R_hasDirection
  apply s_R_hasDirection_0
  rw [cl (n := t) (by omega), hd, oD_m1]
  refine ⟨vpi ht (by decide), fun h => ⟨Or.inl rfl, ret_I' ?_ rfl rfl⟩, fun h => ⟨Or.inr rfl, ret_I' ?_ rfl rfl⟩⟩
  · rw [h]; rfl
  · cases hx : dirO G N t with
    | none => exact absurd hx h
    | some x => rfl
theorem m_R_reckonLeft {t : Nat} (ht : t < 6) (hk : rk1 G N C) (hd : C 73 t = dirI G N t) :
    am_Call (d + 2) 17 [.ref 68, .int (nI t)] (am_w zN C p) (am_Ret zN fun r C' p' => r = none ∧ p' = p ∧ (∀ x, x ≠ 72 → C' x = C x) ∧ (∀ r, r < N → us G r t = true → C' 72 (r * 6 + t) = lef G N r t) ∧ ∀ r t', t' < 6 → t' ≠ t → C' 72 (r * 6 + t') = C 72 (r * 6 + t')) := by
  obtain ⟨k1, k2, k3, k4⟩ := hk
  have loop : ∀ m r (D : Nat → Nat → Int32) o3, r + m = N → (∀ x, x ≠ 72 → D x = C x) → (∀ r', r' < r → us G r' t = true → D 72 (r' * 6 + t) = lef G N r' t) → (∀ r t', t' < 6 → t' ≠ t → D 72 (r * 6 + t') = C 72 (r * 6 + t')) →
      am_At (d + 2) 17 none (am_Ret zN fun r C' p' => r = none ∧ p' = p ∧ (∀ x, x ≠ 72 → C' x = C x) ∧ (∀ r, r < N → us G r t = true → C' 72 (r * 6 + t) = lef G N r t) ∧ ∀ r t', t' < 6 → t' ≠ t → C' 72 (r * 6 + t') = C 72 (r * 6 + t')) 2 [some (.ref 68), some (.int (nI t)), some (.int (nI r)), o3] [] (am_w zN D p) (0, 0) := by
    intro m
    induction m with
    | zero =>
      intro r D o3 hr h1 h2 h3
      apply s_R_reckonLeft_2
      rw [h1 68 (by decide), k1, le5 (by omega) (by omega)]
      exact ⟨fun _ => ⟨D, p, rfl, rfl, rfl, h1, fun r' hr' => h2 r' (by omega), h3⟩, fun h => absurd (by omega) h⟩
    | succ m ih =>
      intro r D o3 hr h1 h2 h3
      apply s_R_reckonLeft_2
      rw [h1 68 (by decide), k1, le5 (by omega) (by omega)]
      refine ⟨fun h => absurd h (by omega), fun _ => use_I (m_R_isUsed (G := G) (by omega) ht (by rw [h1 69 (by decide)]; exact k3 r (by omega))) ?_⟩
      apply s_R_reckonLeft_16
      rw [bI_eq, ix6, nI_1, cl (n := t) (by omega), cl (n := r * 6 + t) (by omega), h1 70 (by decide), h1 73 (by decide), hd]
      refine ⟨fun hu => ih (r + 1) D o3 (by omega) h1 (fun r' hr' hu' => ?_) h3, fun hu => ⟨vpi (by omega) (by decide), vpi ht (by decide), use_I m_F_nearZero ?_⟩⟩
      · by_cases e : r' = r
        · rw [e, hu] at hu'
          cases hu'
        · exact h2 r' (by omega) hu'
      · rw [Bool.not_eq_false] at hu
        apply s_R_reckonLeft_47
        rw [cl (n := r * 6 + t) (by omega), nI_1, (k4 r t (by omega) ht hu).1]
        refine ⟨vpi (by omega) (by decide), ih (r + 1) _ _ (by omega) (fun x hx => by rw [am_u2_ne hx]; exact h1 x hx) (fun r' hr' hu' => ?_) (fun r' t' ht' hne => ?_)⟩
        · rw [am_u2_at]
          by_cases e : r' = r
          · rw [if_pos ⟨rfl, by rw [e]⟩, e]
            rfl
          · rw [if_neg (by omega)]
            exact h2 r' (by omega) hu'
        · rw [am_u2_at, if_neg (by omega)]
          exact h3 r' t' ht' hne
  exact e_R_reckonLeft (s_R_reckonLeft_0 (loop N 0 C none (by omega) (fun _ _ => rfl) (fun r' hr' => by omega) (fun _ _ _ _ => rfl)))
theorem m_R_reckonDirection {t : Nat} (ht : t < 6) (hk : rk1 G N C) :
    am_Call (d + 3) 16 [.ref 68, .int (nI t)] (am_w zN C p) (am_Ret zN fun r C' p' => r = none ∧ p' = p ∧ (∀ x, x ≠ 72 → x ≠ 73 → C' x = C x) ∧ C' 73 t = oD (-1) (dirO G N t) ∧ (∀ t', t' ≠ t → C' 73 t' = C 73 t') ∧ (∀ r, r < N → us G r t = true → C' 72 (r * 6 + t) = lef G N r t) ∧ ∀ r t', t' < 6 → t' ≠ t → C' 72 (r * 6 + t') = C 72 (r * 6 + t')) := by
  obtain ⟨k1, k2, k3, k4⟩ := id hk
  have loop : ∀ m r o6, r + m = N → am_At (d + 3) 16 none (am_Ret zN fun r C' p' => r = none ∧ p' = p ∧ (∀ x, x ≠ 72 → x ≠ 73 → C' x = C x) ∧ C' 73 t = oD (-1) (dirO G N t) ∧ (∀ t', t' ≠ t → C' 73 t' = C 73 t') ∧ (∀ r, r < N → us G r t = true → C' 72 (r * 6 + t) = lef G N r t) ∧ ∀ r t', t' < 6 → t' ≠ t → C' 72 (r * 6 + t') = C 72 (r * 6 + t')) 10
      [some (.ref 68), some (.int (nI t)), some (.int (nI (dst G t r).1)), some (.int (dst G t r).2.1), some (.int (dst G t r).2.2), some (.int (nI r)), o6] [] (am_w zN C p) (0, 0) := by
    intro m
    induction m with
    | zero =>
      intro r o6 hr
      have hrN : r = N := by omega
      subst hrN
      have hm := dst_le G t r
      apply s_R_reckonDirection_10
      rw [k1, le5 (by omega) (by omega), cl (n := t) (by omega)]
      have h0 : nI (dst G t r).1 = 0 ↔ (dst G t r).1 = 0 := eq5 (b := 0) (by omega) (by decide)
      rw [h0]
      refine ⟨fun _ => ⟨fun hz => use_I (m_J_floorDiv (by rw [nI_toI (by omega)]; omega)) ?_, fun hz => ⟨vpi ht (by decide), _, p, rfl, rfl, rfl, fun x h72 h73 => am_u2_ne h73, ?_, fun t' hne => by rw [am_u2_at, if_neg (fun q => hne q.2)], fun r' hr' hu' => ?_, fun r' t' _ _ => by rw [am_u2_ne (by decide)]⟩⟩, fun h => absurd (by omega) h⟩
      · apply s_R_reckonDirection_98
        refine use_I m_J_floorMod ?_
        apply s_R_reckonDirection_104
        rw [cl (n := t) (by omega)]
        refine ⟨vpi ht (by decide), use_VP (m_R_reckonLeft (G := G) (N := r) ht ⟨?_, k2, ?_, ?_⟩ ?_) ?_⟩
        · rw [am_u2_ne (by decide)]; exact k1
        · intro r' hr'
          rw [am_u2_ne (by decide)]; exact k3 r' hr'
        · intro r' t' hr' ht' hu'
          rw [am_u2_ne (by decide), am_u2_ne (by decide)]; exact k4 r' t' hr' ht' hu'
        · rw [am_u2_at, if_pos ⟨rfl, rfl⟩]
          rfl
        · rintro C' ⟨a1, a2, a3⟩
          apply s_R_reckonDirection_110
          refine ⟨C', p, rfl, rfl, rfl, fun x h72 h73 => by rw [a1 x h72, am_u2_ne h73], ?_, fun t' hne => by rw [a1 73 (by decide), am_u2_at, if_neg (fun q => hne q.2)], a2, fun r' t' ht' hne => by rw [a3 r' t' ht' hne, am_u2_ne (by decide)]⟩
          rw [a1 73 (by decide), am_u2_at, if_pos ⟨rfl, rfl⟩, dirO_some hz]
          rfl
      · rw [am_u2_at, if_pos ⟨rfl, rfl⟩, dirO_none hz]
        rfl
      · have := dst_pos hr' hu'
        omega
    | succ m ih =>
      intro r o6 hr
      have hm := dst_le G t r
      apply s_R_reckonDirection_10
      rw [k1, le5 (by omega) (by omega)]
      refine ⟨fun h => absurd h (by omega), fun _ => use_I (m_R_isUsed (G := G) (by omega) ht (k3 r (by omega))) ?_⟩
      apply s_R_reckonDirection_26
      have h0 : nI (dst G t r).1 = 0 ↔ (dst G t r).1 = 0 := eq5 (b := 0) (by omega) (by decide)
      rw [bI_eq, ix6, nI_1, cl (n := r * 6 + t) (by omega), h0]
      have hn := ih (r + 1)
      unfold dst at hn
      refine ⟨fun hu => ?_, fun hu => ?_⟩
      · rw [Bool.not_eq_false] at hu
        rw [(k4 r t (by omega) ht hu).1]
        rw [if_pos hu] at hn
        refine ⟨vpi (by omega) (by decide), fun hz => use_I m_F_nearZero ?_, fun hz => use_I m_F_nearZero ?_⟩
        · rw [if_neg hz] at hn
          apply s_R_reckonDirection_62
          rw [nI_1, nI_1]
          exact hn _ (by omega)
        · rw [if_pos hz] at hn
          apply s_R_reckonDirection_62
          rw [nI_1, nI_1]
          exact hn _ (by omega)
      · rw [if_neg (by rw [hu]; decide)] at hn
        exact hn _ (by omega)
  exact e_R_reckonDirection (s_R_reckonDirection_0 (loop N 0 none (by omega)))
end
end
section
variable {zN : Nat}
theorem why_used {f g : aFace} {t : Int32} (h : why f g t = 0) : own f g t = 0 ∧ own f g 0 = 0 := by
  unfold why at h
  by_cases h1 : own f g t ≠ 0 ∨ t = 0
  · rw [if_pos h1] at h
    rcases h1 with h1 | h1
    · exact absurd h h1
    · exact ⟨h, by rw [← h1]; exact h⟩
  · rw [if_neg h1] at h
    by_cases h2 : own f g 0 = 0
    · refine ⟨?_, h2⟩
      apply Classical.byContradiction
      intro q
      exact h1 (Or.inl q)
    · rw [if_neg h2] at h
      cases h
theorem own_places {f g : aFace} {t : Int32} (h : own f g t = 0) : ∃ a b, plc f t = some a ∧ plc g t = some b := by
  unfold own at h
  split at h
  · cases h
  · cases h
  · rename_i a b ha hb
    exact ⟨a, b, ha, hb⟩
theorem nI0 : nI 0 = 0 := rfl
section
variable {d : Nat} {C : Nat → Nat → Int32} {p : Nat → Option Nat}
def rrP (C : Nat → Nat → Int32) (G : aG) (r t : Nat) (D : Nat → Nat → Int32) : Prop := agR D C ∧ D 68 = C 68 ∧ D 69 r = bs (us G r) t ∧ (∀ t', t' < t → us G r t' = true → D 70 (r * 6 + t') = reR G r t' ∧ D 71 (r * 6 + t') = sgR G r t') ∧ ∀ r', r' ≠ r → D 69 r' = C 69 r' ∧ ∀ t', t' < 6 → D 70 (r' * 6 + t') = C 70 (r' * 6 + t') ∧ D 71 (r' * 6 + t') = C 71 (r' * 6 + t')
theorem m_R_reckonRound {u r : Nat} (hr : r < 6) (hu : u < 4) (hc : ∀ f, f < 2 → cok 1 C ((u * 6 + r) * 2 + f)) : am_Call (d + 4) 15 [.ref 68, .ref 1, .int (nI u), .int (nI r)] (am_w zN C p) (am_Ret zN fun e C' p' => e = none ∧ p' = p ∧ rrP C (Gc C u) r 6 C') := by
  have hc0 := hc 0 (by decide)
  have hc1 := hc 1 (by decide)
  rw [Nat.add_zero] at hc0
  have hrow : (u * 6 + r) * 2 + 1 < 48 := by omega
  have loop : ∀ m t (D : Nat → Nat → Int32) (x6 : Int32) o8 o9 o10 o11, t + m = 6 → rrP C (Gc C u) r t D → (0 < t → own (Gc C u r).1 (Gc C u r).2 0 = 0 → x6 = mea (Gc C u r).1 (Gc C u r).2 0) →
      am_At (d + 4) 15 none (am_Ret zN fun e C' p' => e = none ∧ p' = p ∧ rrP C (Gc C u) r 6 C') 29 [some (.ref 68), some (.ref 1), some (.int (nI u)), some (.int (nI r)), some (.int (nI ((u * 6 + r) * 2))), some (.int (nI ((u * 6 + r) * 2 + 1))), some (.int x6), some (.int (nI t)), o8, o9, o10, o11] [] (am_w zN D p) (0, 0) := by
    intro m
    induction m with
    | zero =>
      intro t D x6 o8 o9 o10 o11 ht hD hx
      have ht6 : t = 6 := by omega
      subst ht6
      apply s_R_reckonRound_29
      exact ⟨fun _ => ⟨D, p, rfl, rfl, rfl, hD⟩, fun h => absurd (by decide) h⟩
    | succ m ih =>
      intro t D x6 o8 o9 o10 o11 ht hD hx
      obtain ⟨d1, d2, d3, d4, d5⟩ := hD
      have e0 : fS 1 D ((u * 6 + r) * 2) = fS 1 C ((u * 6 + r) * 2) := fS_agR d1 (by decide) _
      have e1 : fS 1 D ((u * 6 + r) * 2 + 1) = fS 1 C ((u * 6 + r) * 2 + 1) := fS_agR d1 (by decide) _
      have k0 := cok_agR d1 hc0
      have k1 := cok_agR d1 hc1
      apply s_R_reckonRound_29
      refine ⟨fun h => ?_, fun _ => use_I (m_S_whyNotUsed hrow k0 k1) ?_⟩
      · have := (le5 (a := 6) (b := t) (by decide) (by omega)).mp h
        omega
      rw [e0, e1]
      apply s_R_reckonRound_44
      have hw5 : why (fS 1 C ((u * 6 + r) * 2)) (fS 1 C ((u * 6 + r) * 2 + 1)) (nI t) < 5000 := by
        unfold why own
        repeat' split
        all_goals decide
      have h0 : nI (why (fS 1 C ((u * 6 + r) * 2)) (fS 1 C ((u * 6 + r) * 2 + 1)) (nI t)) = 0 ↔ why (fS 1 C ((u * 6 + r) * 2)) (fS 1 C ((u * 6 + r) * 2 + 1)) (nI t) = 0 := eq5 (b := 0) hw5 (by decide)
      rw [h0]
      have hus : us (Gc C u) r t = decide (why (fS 1 C ((u * 6 + r) * 2)) (fS 1 C ((u * 6 + r) * 2 + 1)) (nI t) = 0) := rfl
      refine ⟨fun hy => ?_, fun hy => ?_⟩
      · have hus1 : us (Gc C u) r t = true := by rw [hus]; exact decide_eq_true hy
        obtain ⟨o1, o2⟩ := why_used hy
        obtain ⟨a, b, pa, pb⟩ := own_places o1
        have ca : cot (fS 1 C ((u * 6 + r) * 2)) (nI t) = cor (fS 1 C ((u * 6 + r) * 2)) a := by rw [cot, pa]
        have cb : cot (fS 1 C ((u * 6 + r) * 2 + 1)) (nI t) = cor (fS 1 C ((u * 6 + r) * 2 + 1)) b := by rw [cot, pb]
        refine use_I (m_S_placeOf (by omega) k0) ?_
        rw [e0, pa]
        apply s_R_reckonRound_61
        refine use_I (m_S_corrected (k := a) (by omega) k0 (by rw [e0]; exact (plc_lt pa).1)) ?_
        rw [e0, ← ca]
        apply s_R_reckonRound_64
        refine use_I (m_S_placeOf hrow k1) ?_
        rw [e1, pb]
        apply s_R_reckonRound_77
        refine use_I (m_S_corrected (k := b) hrow k1 (by rw [e1]; exact (plc_lt pb).1)) ?_
        rw [e1, ← cb]
        apply s_R_reckonRound_80
        refine use_I m_F_nearZero ?_
        apply s_R_reckonRound_93
        refine use_I (m_J_floorDiv (by decide)) ?_
        have key : ∀ y6, y6 = mea (fS 1 C ((u * 6 + r) * 2)) (fS 1 C ((u * 6 + r) * 2 + 1)) 0 → ∀ o8 o9,
            am_At (d + 4) 15 none (am_Ret zN fun e C' p' => e = none ∧ p' = p ∧ rrP C (Gc C u) r 6 C') 115 [some (.ref 68), some (.ref 1), some (.int (nI u)), some (.int (nI r)), some (.int (nI ((u * 6 + r) * 2))), some (.int (nI ((u * 6 + r) * 2 + 1))), some (.int y6), some (.int (nI t)), some (.int o8), some (.int o9), some (.int (apt (fS 1 C ((u * 6 + r) * 2)) (fS 1 C ((u * 6 + r) * 2 + 1)) (nI t))), some (.int (mea (fS 1 C ((u * 6 + r) * 2)) (fS 1 C ((u * 6 + r) * 2 + 1)) (nI t)))] [] (am_w zN D p) (0, 0) := by
          intro y6 hy6 o8 o9
          apply s_R_reckonRound_115
          rw [cl (n := r) (by omega), ix6, d3]
          refine ⟨vpi hr (by decide), vpi hr (by decide), use_I (m_J_floorDiv (by decide)) ?_⟩
          apply s_R_reckonRound_146
          rw [cl (n := r * 6 + t) (by omega), ix6]
          refine ⟨vpi (by omega) (by decide), use_I m_J_floorMod ?_⟩
          apply s_R_reckonRound_168
          rw [cl (n := r * 6 + t) (by omega), nI_1]
          refine ⟨vpi (by omega) (by decide), ih (t + 1) _ _ _ _ _ _ (by omega) ⟨?_, ?_, ?_, ?_, ?_⟩ (fun _ _ => hy6)⟩
          · exact (agR_u (by decide)).tr ((agR_u (by decide)).tr ((agR_u (by decide)).tr d1))
          · rw [am_u2_ne (by decide), am_u2_ne (by decide), am_u2_ne (by decide), d2]
          · rw [am_u2_ne (by decide), am_u2_ne (by decide), am_u2_at, if_pos ⟨rfl, rfl⟩, bs, if_pos hus1]
          · intro t' ht' hu'
            by_cases e : t' = t
            · subst e
              simp only [am_u2_at]
              refine ⟨?_, ?_⟩
              · rw [if_pos (by simp), hy6]
                rfl
              · rw [if_neg (by simp), if_pos (by simp)]
                rfl
            · obtain ⟨q1, q2⟩ := d4 t' (by omega) hu'
              simp only [am_u2_at]
              rw [if_neg (by omega), if_neg (by omega), if_neg (by omega), if_neg (by omega), if_neg (by omega), if_neg (by omega)]
              exact ⟨q1, q2⟩
          · intro r' hr'
            obtain ⟨q1, q2⟩ := d5 r' hr'
            refine ⟨by simp only [am_u2_at]; rw [if_neg (by omega), if_neg (by omega), if_neg (by omega)]; exact q1, fun t' ht' => ?_⟩
            obtain ⟨z1, z2⟩ := q2 t' ht'
            simp only [am_u2_at]
            rw [if_neg (by omega), if_neg (by omega), if_neg (by omega), if_neg (by omega), if_neg (by omega), if_neg (by omega)]
            exact ⟨z1, z2⟩
        apply s_R_reckonRound_103
        have ht0 : nI t = 0 ↔ t = 0 := eq5 (b := 0) (by omega) (by decide)
        rw [ht0]
        refine ⟨fun hz => key x6 (hx (by omega) o2) _ _, fun hz => ?_⟩
        have := key (mea (fS 1 C ((u * 6 + r) * 2)) (fS 1 C ((u * 6 + r) * 2 + 1)) (nI t)) (by rw [hz]; rfl) (cot (fS 1 C ((u * 6 + r) * 2)) (nI t)) (cot (fS 1 C ((u * 6 + r) * 2 + 1)) (nI t))
        exact this
      · have hus0 : us (Gc C u) r t = false := by rw [hus]; exact decide_eq_false hy
        rw [nI_1]
        refine ih (t + 1) D x6 _ _ _ _ (by omega) ⟨d1, d2, ?_, ?_, d5⟩ ?_
        · rw [d3, bs, hus0]
          rfl
        · intro t' ht' hu'
          by_cases e : t' = t
          · rw [e, hus0] at hu'
            cases hu'
          · exact d4 t' (by omega) hu'
        · intro _ ho
          by_cases hz : t = 0
          · exfalso
            subst hz
            apply hy
            have ho' : own (fS 1 C ((u * 6 + r) * 2)) (fS 1 C ((u * 6 + r) * 2 + 1)) 0 = 0 := ho
            rw [nI0, why, if_pos (Or.inr rfl)]
            exact ho'
          · exact hx (by omega) ho
  apply e_R_reckonRound
  apply s_R_reckonRound_0
  refine use_I (m_F_rowOf (f := 0)) ?_
  apply s_R_reckonRound_6
  refine use_I (m_F_rowOf (f := 1)) ?_
  apply s_R_reckonRound_14
  rw [cl (n := r) (by omega)]
  refine ⟨vpi hr (by decide), loop 6 0 _ 0 none none none none rfl ⟨agR_u (by decide), am_u2_ne (by decide), ?_, fun t' ht' => by omega, fun r' hr' => ⟨by rw [am_u2_at, if_neg (by omega)], fun t' _ => ⟨by rw [am_u2_ne (by decide)], by rw [am_u2_ne (by decide)]⟩⟩⟩ (fun h => by omega)⟩
  rw [am_u2_at, if_pos ⟨rfl, rfl⟩]
  rfl
/-- all faces of a set-up -/
def coku (C : Nat → Nat → Int32) (u N : Nat) : Prop := ∀ r f, r < N → f < 2 → cok 1 C ((u * 6 + r) * 2 + f)
theorem m_R_reckon {u N : Nat} (hu : u < 4) (hN : C 2 u = nI N) (h6 : N ≤ 6) (hc : coku C u N) : am_Call (d + 5) 14 [.ref 68, .ref 1, .int (nI u)] (am_w zN C p) (am_Ret zN fun e C' p' => e = none ∧ p' = p ∧ agR C' C ∧ rk (Gc C u) N C') := by
  have loop2 : ∀ m t (D : Nat → Nat → Int32), t + m = 6 → agR D C → rk1 (Gc C u) N D → (∀ t', t' < t → D 73 t' = oD (-1) (dirO (Gc C u) N t')) → (∀ r t', r < N → t' < t → us (Gc C u) r t' = true → D 72 (r * 6 + t') = lef (Gc C u) N r t') →
      am_At (d + 5) 14 none (am_Ret zN fun e C' p' => e = none ∧ p' = p ∧ agR C' C ∧ rk (Gc C u) N C') 35 [some (.ref 68), some (.ref 1), some (.int (nI u)), some (.int (nI t))] [] (am_w zN D p) (0, 0) := by
    intro m
    induction m with
    | zero =>
      intro t D ht h1 h2 h3 h4
      have ht6 : t = 6 := by omega
      subst ht6
      apply s_R_reckon_35
      exact ⟨fun _ => ⟨D, p, rfl, rfl, rfl, h1, h2, h3, h4⟩, fun h => absurd (by decide) h⟩
    | succ m ih =>
      intro t D ht h1 h2 h3 h4
      apply s_R_reckon_35
      refine ⟨fun h => ?_, fun _ => use_VP (m_R_reckonDirection (G := Gc C u) (N := N) (by omega) h2) ?_⟩
      · have := (le5 (a := 6) (b := t) (by decide) (by omega)).mp h
        omega
      rintro C' ⟨a1, a2, a3, a4, a5⟩
      apply s_R_reckon_46
      rw [nI_1]
      obtain ⟨k1, k2, k3, k4⟩ := h2
      refine ih (t + 1) C' (by omega) (fun x hx => by rw [a1 x (by omega) (by omega)]; exact h1 x hx) ⟨?_, k2, ?_, ?_⟩ ?_ ?_
      · rw [a1 68 (by decide) (by decide)]; exact k1
      · intro r hr
        rw [a1 69 (by decide) (by decide)]; exact k3 r hr
      · intro r t' hr ht' hu'
        rw [a1 70 (by decide) (by decide), a1 71 (by decide) (by decide)]; exact k4 r t' hr ht' hu'
      · intro t' ht'
        by_cases e : t' = t
        · rw [e]; exact a2
        · rw [a3 t' e]; exact h3 t' (by omega)
      · intro r t' hr ht' hu'
        by_cases e : t' = t
        · rw [e] at hu' ⊢; exact a4 r hr hu'
        · rw [a5 r t' (by omega) e]; exact h4 r t' hr (by omega) hu'
  have loop1 : ∀ m r (D : Nat → Nat → Int32), r + m = N → agR D C → D 68 0 = nI N → (∀ r', r' < r → D 69 r' = bs (us (Gc C u) r') 6) → (∀ r' t, r' < r → t < 6 → us (Gc C u) r' t = true → D 70 (r' * 6 + t) = reR (Gc C u) r' t ∧ D 71 (r' * 6 + t) = sgR (Gc C u) r' t) →
      am_At (d + 5) 14 none (am_Ret zN fun e C' p' => e = none ∧ p' = p ∧ agR C' C ∧ rk (Gc C u) N C') 12 [some (.ref 68), some (.ref 1), some (.int (nI u)), some (.int (nI r))] [] (am_w zN D p) (0, 0) := by
    intro m
    induction m with
    | zero =>
      intro r D hr h1 h2 h3 h4
      have hrN : r = N := by omega
      subst hrN
      apply s_R_reckon_12
      rw [h2, le5 (by omega) (by omega)]
      exact ⟨fun _ => loop2 6 0 D rfl h1 ⟨h2, h6, h3, h4⟩ (fun t' ht' => by omega) (fun r' t' _ ht' => by omega), fun h => absurd (by omega) h⟩
    | succ m ih =>
      intro r D hr h1 h2 h3 h4
      apply s_R_reckon_12
      rw [h2, le5 (by omega) (by omega)]
      refine ⟨fun h => absurd h (by omega), fun _ => use_VP (m_R_reckonRound (r := r) (by omega) hu (fun f hf => cok_agR h1 (hc r f (by omega) hf))) ?_⟩
      rintro C' ⟨a1, a2, a3, a4, a5⟩
      rw [Gc_agR h1 u] at a3 a4
      apply s_R_reckon_27
      rw [nI_1]
      refine ih (r + 1) C' (by omega) (a1.tr h1) (by rw [a2, h2]) ?_ ?_
      · intro r' hr'
        by_cases e : r' = r
        · rw [e]; exact a3
        · rw [(a5 r' e).1]; exact h3 r' (by omega)
      · intro r' t hr' ht hu'
        by_cases e : r' = r
        · rw [e] at hu' ⊢; exact a4 t ht hu'
        · rw [((a5 r' e).2 t ht).1, ((a5 r' e).2 t ht).2]; exact h4 r' t (by omega) ht hu'
  apply e_R_reckon
  apply s_R_reckon_0
  rw [cl (n := u) (by omega), hN]
  exact ⟨vpi hu (by decide), loop1 N 0 _ (by omega) (agR_u (by decide)) (by rw [am_u2_at, if_pos ⟨rfl, rfl⟩]) (fun r' hr' => by omega) (fun r' t hr' => by omega)⟩
end
end
section
variable {zN : Nat}
def bcx (x : Int32) : Int32 := ((((((((x - ((x.toUInt32 >>> ((1 : Int32).toUInt32 &&& Int32.toUInt32 31)).toInt32 &&& (1431655765 : Int32))) &&& (858993459 : Int32)) + (((x - ((x.toUInt32 >>> ((1 : Int32).toUInt32 &&& Int32.toUInt32 31)).toInt32 &&& (1431655765 : Int32))).toUInt32 >>> ((2 : Int32).toUInt32 &&& Int32.toUInt32 31)).toInt32 &&& (858993459 : Int32))) + ((((x - ((x.toUInt32 >>> ((1 : Int32).toUInt32 &&& Int32.toUInt32 31)).toInt32 &&& (1431655765 : Int32))) &&& (858993459 : Int32)) + (((x - ((x.toUInt32 >>> ((1 : Int32).toUInt32 &&& Int32.toUInt32 31)).toInt32 &&& (1431655765 : Int32))).toUInt32 >>> ((2 : Int32).toUInt32 &&& Int32.toUInt32 31)).toInt32 &&& (858993459 : Int32))).toUInt32 >>> ((4 : Int32).toUInt32 &&& Int32.toUInt32 31)).toInt32) &&& (252645135 : Int32)) + ((((((x - ((x.toUInt32 >>> ((1 : Int32).toUInt32 &&& Int32.toUInt32 31)).toInt32 &&& (1431655765 : Int32))) &&& (858993459 : Int32)) + (((x - ((x.toUInt32 >>> ((1 : Int32).toUInt32 &&& Int32.toUInt32 31)).toInt32 &&& (1431655765 : Int32))).toUInt32 >>> ((2 : Int32).toUInt32 &&& Int32.toUInt32 31)).toInt32 &&& (858993459 : Int32))) + ((((x - ((x.toUInt32 >>> ((1 : Int32).toUInt32 &&& Int32.toUInt32 31)).toInt32 &&& (1431655765 : Int32))) &&& (858993459 : Int32)) + (((x - ((x.toUInt32 >>> ((1 : Int32).toUInt32 &&& Int32.toUInt32 31)).toInt32 &&& (1431655765 : Int32))).toUInt32 >>> ((2 : Int32).toUInt32 &&& Int32.toUInt32 31)).toInt32 &&& (858993459 : Int32))).toUInt32 >>> ((4 : Int32).toUInt32 &&& Int32.toUInt32 31)).toInt32) &&& (252645135 : Int32)).toUInt32 >>> ((8 : Int32).toUInt32 &&& Int32.toUInt32 31)).toInt32) + (((((((x - ((x.toUInt32 >>> ((1 : Int32).toUInt32 &&& Int32.toUInt32 31)).toInt32 &&& (1431655765 : Int32))) &&& (858993459 : Int32)) + (((x - ((x.toUInt32 >>> ((1 : Int32).toUInt32 &&& Int32.toUInt32 31)).toInt32 &&& (1431655765 : Int32))).toUInt32 >>> ((2 : Int32).toUInt32 &&& Int32.toUInt32 31)).toInt32 &&& (858993459 : Int32))) + ((((x - ((x.toUInt32 >>> ((1 : Int32).toUInt32 &&& Int32.toUInt32 31)).toInt32 &&& (1431655765 : Int32))) &&& (858993459 : Int32)) + (((x - ((x.toUInt32 >>> ((1 : Int32).toUInt32 &&& Int32.toUInt32 31)).toInt32 &&& (1431655765 : Int32))).toUInt32 >>> ((2 : Int32).toUInt32 &&& Int32.toUInt32 31)).toInt32 &&& (858993459 : Int32))).toUInt32 >>> ((4 : Int32).toUInt32 &&& Int32.toUInt32 31)).toInt32) &&& (252645135 : Int32)) + ((((((x - ((x.toUInt32 >>> ((1 : Int32).toUInt32 &&& Int32.toUInt32 31)).toInt32 &&& (1431655765 : Int32))) &&& (858993459 : Int32)) + (((x - ((x.toUInt32 >>> ((1 : Int32).toUInt32 &&& Int32.toUInt32 31)).toInt32 &&& (1431655765 : Int32))).toUInt32 >>> ((2 : Int32).toUInt32 &&& Int32.toUInt32 31)).toInt32 &&& (858993459 : Int32))) + ((((x - ((x.toUInt32 >>> ((1 : Int32).toUInt32 &&& Int32.toUInt32 31)).toInt32 &&& (1431655765 : Int32))) &&& (858993459 : Int32)) + (((x - ((x.toUInt32 >>> ((1 : Int32).toUInt32 &&& Int32.toUInt32 31)).toInt32 &&& (1431655765 : Int32))).toUInt32 >>> ((2 : Int32).toUInt32 &&& Int32.toUInt32 31)).toInt32 &&& (858993459 : Int32))).toUInt32 >>> ((4 : Int32).toUInt32 &&& Int32.toUInt32 31)).toInt32) &&& (252645135 : Int32)).toUInt32 >>> ((8 : Int32).toUInt32 &&& Int32.toUInt32 31)).toInt32).toUInt32 >>> ((16 : Int32).toUInt32 &&& Int32.toUInt32 31)).toInt32) &&& (63 : Int32))
set_option maxRecDepth 100000 in
theorem bcx_six : ∀ b0 b1 b2 b3 b4 b5 : Bool, bcx (bs6 b0 b1 b2 b3 b4 b5) = nI (b0.toNat + b1.toNat + b2.toNat + b3.toNat + b4.toNat + b5.toNat) := by decide +kernel
/-- how many of b at 0 .. n -/
def cb (b : Nat → Bool) : Nat → Nat
  | 0 => 0
  | n + 1 => cb b n + (b n).toNat
theorem cb_six (b : Nat → Bool) : cb b 6 = (b 0).toNat + (b 1).toNat + (b 2).toNat + (b 3).toNat + (b 4).toNat + (b 5).toNat := by simp [cb]
theorem cb_le (b : Nat → Bool) : ∀ n, cb b n ≤ n
  | 0 => Nat.le_refl _
  | n + 1 => by
    have := cb_le b n
    unfold cb
    cases b n <;> simp [Bool.toNat] <;> omega
theorem cb_mono {b c : Nat → Bool} : ∀ {n : Nat}, (∀ j, j < n → b j = true → c j = true) → cb b n ≤ cb c n
  | 0, _ => Nat.le_refl _
  | n + 1, h => by
    have h1 := cb_mono (n := n) (fun j hj => h j (by omega))
    have h2 := h n (by omega)
    unfold cb
    cases hb : b n with
    | false => simp; omega
    | true => rw [h2 hb]; simp; exact h1
theorem cb_lt {b c : Nat → Bool} : ∀ {n k : Nat}, (∀ j, j < n → b j = true → c j = true) → k < n → b k = false → c k = true → cb b n < cb c n
  | 0, k, _, hk, _, _ => by omega
  | n + 1, k, h, hk, hb, hc => by
    unfold cb
    by_cases e : k = n
    · subst e
      rw [hb, hc]
      have := cb_mono (n := k) (fun j hj => h j (by omega))
      simp
      omega
    · have h1 := cb_lt (n := n) (k := k) (fun j hj => h j (by omega)) (by omega) hb hc
      have h2 := h n (by omega)
      cases hbn : b n with
      | false => simp; omega
      | true => rw [h2 hbn]; simp; exact h1
theorem bs_s (b : Nat → Bool) (n : Nat) : bs b (n + 1) = if b n then bs b n ||| (1 <<< (nI n &&& 31)) else bs b n := rfl
theorem bc_bs (b : Nat → Bool) : bcx (bs b 6) = nI (cb b 6) := by rw [bs_six, bcx_six, cb_six]
def mls (G : aG) (N t : Nat) : Nat → Int32
  | 0 => 0
  | r + 1 => if mls G N t r < lws G N r t then lws G N r t else mls G N t r
theorem mls_s (G : aG) (N t r : Nat) : mls G N t (r + 1) = if mls G N t r < lws G N r t then lws G N r t else mls G N t r := rfl
def bad (G : aG) (N : Nat) (lim : Int32) (r t : Nat) : Bool := decide (¬ lws G N r t ≤ lim)
def msd (G : aG) (r : Nat) : Nat → Nat × Int32
  | 0 => (0, 0)
  | t + 1 => if us G r t then ((msd G r t).1 + 1, (msd G r t).2 + sgR G r t) else msd G r t
theorem msd_s (G : aG) (r t : Nat) : msd G r (t + 1) = if us G r t then ((msd G r t).1 + 1, (msd G r t).2 + sgR G r t) else msd G r t := rfl
theorem msd_cb (G : aG) (r : Nat) : ∀ t, (msd G r t).1 = cb (us G r) t
  | 0 => rfl
  | t + 1 => by
    have := msd_cb G r t
    unfold msd cb
    cases us G r t with
    | false => simpa using this
    | true => simp [this]
/-- the worst of round r, targets below t, over what was found before -/
def wT (G : aG) (N r : Nat) : Nat → Option (Nat × Nat) × Int32 → Option (Nat × Nat) × Int32
  | 0, s => s
  | t + 1, s => if (wT G N r t s).2 < lws G N r t then (some (r, t), lws G N r t) else wT G N r t s
def wR (G : aG) (N : Nat) (lim : Int32) : Nat → Option (Nat × Nat) × Int32
  | 0 => (none, lim)
  | r + 1 => wT G N r 6 (wR G N lim r)
theorem wT_s (G : aG) (N r t : Nat) (s : Option (Nat × Nat) × Int32) : wT G N r (t + 1) s = if (wT G N r t s).2 < lws G N r t then (some (r, t), lws G N r t) else wT G N r t s := rfl
theorem wT_in {G : aG} {N r : Nat} : ∀ {t : Nat} {s : Option (Nat × Nat) × Int32} {x : Nat × Nat}, (wT G N r t s).1 = some x → s.1 = some x ∨ (x.1 = r ∧ x.2 < t)
  | 0, s, x, h => Or.inl h
  | t + 1, s, x, h => by
    unfold wT at h
    split at h
    · cases h
      exact Or.inr ⟨rfl, Nat.lt_succ_self _⟩
    · rcases wT_in (t := t) h with q | q
      · exact Or.inl q
      · exact Or.inr ⟨q.1, by omega⟩
theorem wR_in {G : aG} {N : Nat} {lim : Int32} : ∀ {r : Nat} {x : Nat × Nat}, (wR G N lim r).1 = some x → x.1 < r ∧ x.2 < 6
  | 0, x, h => by cases h
  | r + 1, x, h => by
    unfold wR at h
    rcases wT_in h with q | q
    · have := wR_in (r := r) q
      exact ⟨by omega, this.2⟩
    · exact ⟨by omega, q.2⟩
def oX (e : Int32) : Option (Nat × Nat) → Int32
  | some x => nI (x.1 * 6 + x.2)
  | none => e
theorem ite_flip {a b : Int32} : (if a ≤ b then b else a) = if b < a then a else b := by
  by_cases h : b < a
  · rw [if_pos h, if_neg (Int32.not_le.mpr h)]
  · rw [if_neg h, if_pos (Int32.not_lt.mp h)]
section
variable {d : Nat} {C : Nat → Nat → Int32} {p : Nat → Option Nat} {G : aG} {N : Nat}
theorem m_J_bitCount {x : Int32} : cI zN (d + 1) 158 [.int x] C p (bcx x) C p := e_J_bitCount (s_J_bitCount_0 (ret_I' rfl rfl rfl))
theorem m_R_roundsOf {t : Nat} (ht : t < 6) (hk : rk1 G N C) : cI zN (d + 2) 20 [.ref 68, .int (nI t)] C p (bs (fun r => us G r t) N) C p := by
  obtain ⟨k1, k2, k3, k4⟩ := hk
  have loop : ∀ m r, r + m = N → am_At (d + 2) 20 none (am_Ret zN (am_eI (bs (fun r => us G r t) N) C p)) 4 [some (.ref 68), some (.int (nI t)), some (.int (bs (fun r => us G r t) r)), some (.int (nI r))] [] (am_w zN C p) (0, 0) := by
    intro m
    induction m with
    | zero =>
      intro r hr
      have : r = N := by omega
      subst this
      apply s_R_roundsOf_4
      rw [k1, le5 (by omega) (by omega)]
      exact ⟨fun _ => ret_I, fun h => absurd (by omega) h⟩
    | succ m ih =>
      intro r hr
      apply s_R_roundsOf_4
      rw [k1, le5 (by omega) (by omega)]
      refine ⟨fun h => absurd h (by omega), fun _ => use_I (m_R_isUsed (G := G) (by omega) ht (k3 r (by omega))) ?_⟩
      apply s_R_roundsOf_18
      rw [bI_eq, nI_1]
      have hn := ih (r + 1) (by omega)
      rw [bs_s _ r] at hn
      refine ⟨fun h => ?_, fun h => ?_⟩
      · rw [if_neg (by rw [h]; decide)] at hn
        exact hn
      · rw [Bool.not_eq_false] at h
        rw [if_pos h] at hn
        exact hn
  exact e_R_roundsOf (s_R_roundsOf_0 (loop N 0 (by omega)))
theorem m_R_leftWithoutSign {r t : Nat} (hr : r < N) (ht : t < 6) (hk : rk G N C) : cI zN (d + 2) 21 [.ref 68, .int (nI r), .int (nI t)] C p (lws G N r t) C p := by
  obtain ⟨⟨k1, k2, k3, k4⟩, k5, k6⟩ := hk
  refine e_R_leftWithoutSign (s_R_leftWithoutSign_0 (use_I (m_R_isUsed (G := G) (by omega) ht (k3 r hr)) ?_))
  apply s_R_leftWithoutSign_6
  rw [bI_eq, ix6, cl (n := r * 6 + t) (by omega)]
  refine ⟨fun h => ret_I' ?_ rfl rfl, fun h => ⟨vpi (by omega) (by decide), ret_I' ?_ rfl rfl⟩⟩
  · rw [lws, h]
    rfl
  · rw [Bool.not_eq_false] at h
    rw [lws, if_pos h, k6 r t hr ht h]
    rfl
theorem m_R_mostLeft {t : Nat} (ht : t < 6) (hk : rk G N C) : cI zN (d + 3) 22 [.ref 68, .int (nI t)] C p (mls G N t N) C p := by
  have k1 := hk.1.1
  have k2 := hk.1.2.1
  have loop : ∀ m r, r + m = N → am_At (d + 3) 22 none (am_Ret zN (am_eI (mls G N t N) C p)) 4 [some (.ref 68), some (.int (nI t)), some (.int (mls G N t r)), some (.int (nI r))] [] (am_w zN C p) (0, 0) := by
    intro m
    induction m with
    | zero =>
      intro r hr
      have : r = N := by omega
      subst this
      apply s_R_mostLeft_4
      rw [k1, le5 (by omega) (by omega)]
      exact ⟨fun _ => ret_I, fun h => absurd (by omega) h⟩
    | succ m ih =>
      intro r hr
      apply s_R_mostLeft_4
      rw [k1, le5 (by omega) (by omega)]
      refine ⟨fun h => absurd h (by omega), fun _ => use_I (m_R_leftWithoutSign (by omega) ht hk) ?_⟩
      apply s_R_mostLeft_19
      rw [nI_1]
      have hn := ih (r + 1) (by omega)
      rw [mls_s _ _ _ r] at hn
      exact hn
  exact e_R_mostLeft (s_R_mostLeft_0 (loop N 0 (by omega)))
theorem m_R_badTargets {r : Nat} {lim : Int32} (hr : r < N) (hk : rk G N C) : cI zN (d + 3) 23 [.ref 68, .int (nI r), .int lim] C p (bs (bad G N lim r) 6) C p := by
  have loop : ∀ m t, t + m = 6 → am_At (d + 3) 23 none (am_Ret zN (am_eI (bs (bad G N lim r) 6) C p)) 5 [some (.ref 68), some (.int (nI r)), some (.int lim), some (.int (bs (bad G N lim r) t)), some (.int (nI t))] [] (am_w zN C p) (0, 0) := by
    intro m
    induction m with
    | zero =>
      intro t ht
      have : t = 6 := by omega
      subst this
      apply s_R_badTargets_5
      exact ⟨fun _ => ret_I, fun h => absurd (by decide) h⟩
    | succ m ih =>
      intro t ht
      apply s_R_badTargets_5
      refine ⟨fun h => ?_, fun _ => use_I (m_R_leftWithoutSign hr (by omega) hk) ?_⟩
      · have := (le5 (a := 6) (b := t) (by decide) (by omega)).mp h
        omega
      apply s_R_badTargets_19
      rw [nI_1]
      have hn := ih (t + 1) (by omega)
      rw [bs_s _ t] at hn
      refine ⟨fun h => ?_, fun h => ?_⟩
      · rw [if_neg (by simp [bad, h])] at hn
        exact hn
      · rw [if_pos (by simp only [bad, decide_eq_true_eq]; exact h)] at hn
        exact hn
  exact e_R_badTargets (s_R_badTargets_0 (loop 6 0 rfl))
theorem m_R_worst {lim : Int32} (hk : rk G N C) : cI zN (d + 3) 24 [.ref 68, .int lim] C p (oX (-1) (wR G N lim N).1) C p := by
  have k1 := hk.1.1
  have k2 := hk.1.2.1
  have loop : ∀ m r o5 o6, r + m = N → am_At (d + 3) 24 none (am_Ret zN (am_eI (oX (-1) (wR G N lim N).1) C p)) 7 [some (.ref 68), some (.int lim), some (.int (oX (-1) (wR G N lim r).1)), some (.int (wR G N lim r).2), some (.int (nI r)), o5, o6] [] (am_w zN C p) (0, 0) := by
    intro m
    induction m with
    | zero =>
      intro r o5 o6 hr
      have : r = N := by omega
      subst this
      apply s_R_worst_7
      rw [k1, le5 (by omega) (by omega)]
      exact ⟨fun _ => ret_I, fun h => absurd (by omega) h⟩
    | succ m ih =>
      intro r o5 o6 hr
      have inner : ∀ q t o6, t + q = 6 → am_At (d + 3) 24 none (am_Ret zN (am_eI (oX (-1) (wR G N lim N).1) C p)) 19 [some (.ref 68), some (.int lim), some (.int (oX (-1) (wT G N r t (wR G N lim r)).1)), some (.int (wT G N r t (wR G N lim r)).2), some (.int (nI r)), some (.int (nI t)), o6] [] (am_w zN C p) (0, 0) := by
        intro q
        induction q with
        | zero =>
          intro t o6 ht
          have : t = 6 := by omega
          subst this
          apply s_R_worst_19
          rw [nI_1]
          exact ⟨fun _ => ih (r + 1) _ _ (by omega), fun h => absurd (by decide) h⟩
        | succ q ih2 =>
          intro t o6 ht
          apply s_R_worst_19
          refine ⟨fun h => ?_, fun _ => use_I (m_R_leftWithoutSign (by omega) (by omega) hk) ?_⟩
          · have := (le5 (a := 6) (b := t) (by decide) (by omega)).mp h
            omega
          apply s_R_worst_34
          rw [nI_1, ix6]
          have hn := ih2 (t + 1)
          rw [wT_s _ _ _ t] at hn
          refine ⟨fun h => ?_, fun h => ?_⟩
          · rw [if_neg (Int32.not_lt.mpr h)] at hn
            exact hn _ (by omega)
          · rw [if_pos (Int32.not_le.mp h)] at hn
            exact hn _ (by omega)
      apply s_R_worst_7
      rw [k1, le5 (by omega) (by omega)]
      exact ⟨fun h => absurd h (by omega), fun _ => inner 6 0 _ rfl⟩
  exact e_R_worst (s_R_worst_0 (loop N 0 none none (by omega)))
theorem m_R_meanError {r : Nat} (hr : r < N) (hk : rk1 G N C) : cI zN (d + 2) 25 [.ref 68, .int (nI r)] C p (if (msd G r 6).1 = 0 then -2000005 else fdv (msd G r 6).2 (nI (msd G r 6).1)) C p := by
  obtain ⟨k1, k2, k3, k4⟩ := hk
  have hc := cb_le (us G r) 6
  have hm := msd_cb G r 6
  have loop : ∀ m t, t + m = 6 → (msd G r 6).1 ≠ 0 → am_At (d + 2) 25 none (am_Ret zN (am_eI (if (msd G r 6).1 = 0 then -2000005 else fdv (msd G r 6).2 (nI (msd G r 6).1)) C p)) 22 [some (.ref 68), some (.int (nI r)), some (.int (nI (msd G r 6).1)), some (.int (msd G r t).2), some (.int (nI t))] [] (am_w zN C p) (0, 0) := by
    intro m
    induction m with
    | zero =>
      intro t ht h0
      have : t = 6 := by omega
      subst this
      apply s_R_meanError_22
      refine ⟨fun _ => use_I (m_J_floorDiv (by rw [nI_toI (by omega)]; omega)) (s_R_meanError_65 (ret_I' ?_ rfl rfl)), fun h => absurd (by decide) h⟩
      rw [if_neg h0]
    | succ m ih =>
      intro t ht h0
      apply s_R_meanError_22
      refine ⟨fun h => ?_, fun _ => use_I (m_R_isUsed (G := G) (by omega) (by omega) (k3 r hr)) ?_⟩
      · have := (le5 (a := 6) (b := t) (by decide) (by omega)).mp h
        omega
      apply s_R_meanError_36
      rw [bI_eq, nI_1, ix6, cl (n := r * 6 + t) (by omega)]
      have hn := ih (t + 1) (by omega) h0
      rw [msd_s _ _ t] at hn
      refine ⟨fun h => ?_, fun h => ?_⟩
      · rw [if_neg (c := us G r t = true) (by rw [h]; decide)] at hn
        exact hn
      · rw [Bool.not_eq_false] at h
        rw [if_pos (c := us G r t = true) h] at hn
        rw [(k4 r t hr (by omega) h).2]
        exact ⟨vpi (by omega) (by decide), hn⟩
  apply e_R_meanError
  apply s_R_meanError_0
  rw [cl (n := r) (by omega), k3 r hr]
  refine ⟨vpi (by omega) (by decide), use_I m_J_bitCount ?_⟩
  rw [bc_bs, ← hm]
  apply s_R_meanError_9
  have h0 : nI (msd G r 6).1 = 0 ↔ (msd G r 6).1 = 0 := eq5 (b := 0) (by omega) (by decide)
  rw [h0]
  refine ⟨fun h => loop 6 0 rfl h, fun h => ret_I' ?_ rfl rfl⟩
  rw [if_pos h]
theorem m_R_angleBetween {a b : Nat} (ha : a < 6) (hb : b < 6) : cI zN (d + 2) 26 [.ref 68, .int (nI a), .int (nI b)] C p (fmd (C 73 b - C 73 a)) C p := by
  apply e_R_angleBetween
  apply s_R_angleBetween_0
  rw [cl (n := a) (by omega), cl (n := b) (by omega)]
  exact ⟨vpi hb (by decide), vpi ha (by decide), use_I m_J_floorMod (s_R_angleBetween_18 ret_I)⟩
end
end
section
/-! by the angles between neighbours -/
variable {zN : Nat}
/-- o lies behind a: by rising directions, of several the lower one first -/
def bhd (D : Nat → Int32) (o a : Nat) : Bool := if D o = D a then decide (a < o) else decide (D a < D o)
section
variable {d : Nat} {C : Nat → Nat → Int32} {p : Nat → Option Nat} {G : aG} {N : Nat}
theorem m_R_isBehind {o a : Nat} (ho : o < 6) (ha : a < 6) : cI zN (d + 1) 29 [.ref 68, .int (nI o), .int (nI a)] C p (bI (bhd (C 73) o a)) C p := by
  apply e_R_isBehind
  apply s_R_isBehind_0
  rw [cl (n := o) (by omega), cl (n := a) (by omega), le5 (by omega) (by omega)]
  have h1 := vpi (n := o) (N := 6) ho (by decide)
  have h2 := vpi (n := a) (N := 6) ha (by decide)
  refine ⟨h1, h2, fun h => ⟨h1, h2, fun q => ⟨Or.inl rfl, ret_I' ?_ rfl rfl⟩, fun q => ⟨Or.inr rfl, ret_I' ?_ rfl rfl⟩⟩, fun h => ⟨fun q => ⟨Or.inl rfl, ret_I' ?_ rfl rfl⟩, fun q => ⟨Or.inr rfl, ret_I' ?_ rfl rfl⟩⟩⟩
  · rw [bhd, if_neg h, decide_eq_false (Int32.not_lt.mpr q)]; rfl
  · rw [bhd, if_neg h, decide_eq_true (Int32.not_le.mp q)]; rfl
  · rw [bhd, if_pos h, decide_eq_false (by omega)]; rfl
  · rw [bhd, if_pos h, decide_eq_true (by omega)]; rfl
/-- a candidate for the next one behind a -/
def cnd (E : Nat → Bool) (D : Nat → Int32) (a j : Nat) : Bool := E j && bhd D j a
/-- o is the next one behind a, among those below k -/
def nxt (E : Nat → Bool) (D : Nat → Int32) (a k : Nat) (o : Option Nat) : Prop := match o with
  | none => ∀ j, j < k → cnd E D a j = false
  | some m => m < k ∧ cnd E D a m = true ∧ ∀ j, j < k → cnd E D a j = true → D m < D j ∨ (D m = D j ∧ m ≤ j)
theorem m_R_neighbour {a : Nat} (ha : a < 6) (hd : ∀ t, t < 6 → C 73 t = oD (-1) (dirO G N t)) :
    am_Call (d + 2) 28 [.ref 68, .int (nI a)] (am_w zN C p) (am_Ret zN fun r C' p' => ∃ e, r = some (.int e) ∧ p' = p ∧ C' = C ∧ ∃ o, e = oI (-1) o ∧ nxt (fun t => (dirO G N t).isSome) (C 73) a 6 o) := by
  have loop : ∀ m t o o4, t + m = 6 → nxt (fun t => (dirO G N t).isSome) (C 73) a t o → am_At (d + 2) 28 none (am_Ret zN fun r C' p' => ∃ e, r = some (.int e) ∧ p' = p ∧ C' = C ∧ ∃ o, e = oI (-1) o ∧ nxt (fun t => (dirO G N t).isSome) (C 73) a 6 o) 4
      [some (.ref 68), some (.int (nI a)), some (.int (oI (-1) o)), some (.int (nI t)), o4] [] (am_w zN C p) (0, 0) := by
    intro m
    induction m with
    | zero =>
      intro t o o4 ht h
      have : t = 6 := by omega
      subst this
      apply s_R_neighbour_4
      exact ⟨fun _ => ⟨C, p, rfl, _, rfl, rfl, rfl, o, rfl, h⟩, fun h => absurd (by decide) h⟩
    | succ m ih =>
      intro t o o4 ht h
      have no : cnd (fun t => (dirO G N t).isSome) (C 73) a t = false → nxt (fun t => (dirO G N t).isSome) (C 73) a (t + 1) o := by
        intro hc
        cases o with
        | none =>
          intro j hj
          by_cases e : j = t
          · rw [e]; exact hc
          · exact h j (by omega)
        | some m0 =>
          obtain ⟨q1, q2, q3⟩ := h
          refine ⟨by omega, q2, fun j hj hcj => ?_⟩
          by_cases e : j = t
          · rw [e, hc] at hcj
            cases hcj
          · exact q3 j (by omega) hcj
      apply s_R_neighbour_4
      refine ⟨fun h => ?_, fun _ => use_I (m_R_hasDirection (by omega) (hd t (by omega))) ?_⟩
      · have := (le5 (a := 6) (b := t) (by decide) (by omega)).mp h
        omega
      apply s_R_neighbour_15
      rw [bI_eq]
      refine ⟨fun hn => s_R_neighbour_31 (s_R_neighbour_32 ⟨fun _ => ?_, fun q => absurd rfl q⟩), fun hy => use_I (m_R_isBehind (by omega) ha) (s_R_neighbour_24 ?_)⟩
      · rw [nI_1]
        exact ih (t + 1) o _ (by omega) (no (by simp [cnd, hn]))
      · rw [Bool.not_eq_false] at hy
        rw [bI_eq]
        refine ⟨fun hb => s_R_neighbour_31 (s_R_neighbour_32 ⟨fun _ => ?_, fun q => absurd rfl q⟩), fun hb => s_R_neighbour_32 ⟨fun q => absurd q (by decide), fun _ => ?_⟩⟩
        · rw [nI_1]
          exact ih (t + 1) o _ (by omega) (no (by simp [cnd, hb]))
        · rw [Bool.not_eq_false] at hb
          have hct : cnd (fun t => (dirO G N t).isSome) (C 73) a t = true := by simp [cnd, hy, hb]
          rw [nI_1]
          cases o with
          | none =>
            refine ⟨fun _ => ih (t + 1) (some t) _ (by omega) ⟨by omega, hct, fun j hj hcj => ?_⟩, fun q => absurd rfl q⟩
            by_cases e : j = t
            · rw [e]; exact Or.inr ⟨rfl, Nat.le_refl _⟩
            · rw [h j (by omega)] at hcj
              cases hcj
          | some m0 =>
            obtain ⟨q1, q2, q3⟩ := h
            simp only [oI]
            rw [cl (n := t) (by omega), cl (n := m0) (by omega)]
            refine ⟨fun q => absurd q (nI_ne (by omega)).1, fun _ => ⟨vpi (by omega) (by decide), vpi (by omega) (by decide), fun hle => ih (t + 1) (some m0) _ (by omega) ⟨by omega, q2, fun j hj hcj => ?_⟩, fun hlt => ih (t + 1) (some t) _ (by omega) ⟨by omega, hct, fun j hj hcj => ?_⟩⟩⟩
            · by_cases e : j = t
              · rw [e]
                by_cases e2 : C 73 m0 = C 73 t
                · exact Or.inr ⟨e2, by omega⟩
                · left
                  rw [Int32.lt_iff_toInt_lt]
                  rw [Int32.le_iff_toInt_le] at hle
                  have : (C 73 m0).toInt ≠ (C 73 t).toInt := fun z => e2 (Int32.toInt_inj.mp z)
                  omega
              · exact q3 j (by omega) hcj
            · by_cases e : j = t
              · rw [e]; exact Or.inr ⟨rfl, Nat.le_refl _⟩
              · left
                rw [Int32.le_iff_toInt_le] at hlt
                rw [Int32.lt_iff_toInt_lt]
                rcases q3 j (by omega) hcj with z | ⟨z, _⟩
                · rw [Int32.lt_iff_toInt_lt] at z
                  omega
                · rw [← z]
                  omega
  exact e_R_neighbour (s_R_neighbour_0 (loop 6 0 none none rfl (fun j hj => by omega)))
theorem bhd_key {D : Nat → Int32} {o a : Nat} : bhd D o a = true ↔ ((D a).toInt < (D o).toInt ∨ ((D a).toInt = (D o).toInt ∧ a < o)) := by
  unfold bhd
  by_cases e : D o = D a
  · rw [if_pos e, e]
    simp
  · rw [if_neg e, decide_eq_true_eq, Int32.lt_iff_toInt_lt]
    have : (D o).toInt ≠ (D a).toInt := fun z => e (Int32.toInt_inj.mp z)
    omega
theorem fmd_small {x y : Int32} (h0 : 0 ≤ x.toInt) (h1 : x.toInt ≤ y.toInt) (h2 : y.toInt < 1296000) : fmd (y - x) = y - x := by
  apply Int32.toInt_inj.mp
  rw [fmd_int, Int32.toInt_sub, Int.bmod_eq_of_le (by omega) (by omega)]
  exact Int.emod_eq_of_lt (by omega) (by omega)
theorem dir_in {G : aG} {N t : Nat} {x : Int32} (h : dirO G N t = some x) : 0 ≤ x.toInt ∧ x.toInt < 1296000 := by
  unfold dirO at h
  split at h
  · cases h
  · cases h
    exact ⟨fmd_lo _, fmd_hi _⟩
theorem m_R_sumOfAngles {t : Nat} {x : Int32} (ht : t < 6) (hd : ∀ t, t < 6 → C 73 t = oD (-1) (dirO G N t)) (h0 : dirO G N 0 = some 0) (hx : dirO G N t = some x) : cI zN (d + 3) 27 [.ref 68, .int (nI t)] C p x C p := by
  have hE : ∀ j, j < 6 → (dirO G N j).isSome = true → dirO G N j = some (C 73 j) := by
    intro j hj he
    obtain ⟨y, hy⟩ := Option.isSome_iff_exists.mp he
    rw [hd j hj, hy]
    rfl
  have ht' : C 73 t = x := by rw [hd t ht, hx]; rfl
  have loop : ∀ n (a s : Nat) o5, a < 6 → (dirO G N a).isSome = true → (a = t ∨ bhd (C 73) t a = true) → cb (cnd (fun t => (dirO G N t).isSome) (C 73) a) 6 ≤ n → s + n ≤ 5 →
      am_At (d + 3) 27 none (am_Ret zN (am_eI x C p)) 7 [some (.ref 68), some (.int (nI t)), some (.int (C 73 a)), some (.int (nI a)), some (.int (nI s)), o5] [] (am_w zN C p) (0, 0) := by
    intro n
    induction n with
    | zero =>
      intro a s o5 ha hea hat hc hs
      have haa : a = t := by
        rcases hat with e | e
        · exact e
        · exfalso
          have hct : cnd (fun t => (dirO G N t).isSome) (C 73) a t = true := by
            have : (dirO G N t).isSome = true := by rw [hx]; rfl
            simp [cnd, e, this]
          have := cb_lt (b := fun _ => false) (n := 6) (k := t) (c := cnd (fun t => (dirO G N t).isSome) (C 73) a) (fun j _ h => nomatch h) ht rfl hct
          omega
      apply s_R_sumOfAngles_7
      refine ⟨fun h => ?_, fun _ => ⟨fun _ => ret_I' (by rw [haa, ht']) rfl rfl, fun h => absurd (by rw [haa]) h⟩⟩
      have := (le5 (a := 6) (b := s) (by decide) (by omega)).mp h
      omega
    | succ n ih =>
      intro a s o5 ha hea hat hc hs
      apply s_R_sumOfAngles_7
      refine ⟨fun h => ?_, fun _ => ⟨fun h => ?_, fun h => ?_⟩⟩
      · have := (le5 (a := 6) (b := s) (by decide) (by omega)).mp h
        omega
      · have haa := (eq5 (by omega) (by omega)).mp h
        exact ret_I' (by rw [haa, ht']) rfl rfl
      · have hne : a ≠ t := fun e => h (by rw [e])
        have hbt : bhd (C 73) t a = true := by
          rcases hat with e | e
          · exact absurd e hne
          · exact e
        have hct : cnd (fun t => (dirO G N t).isSome) (C 73) a t = true := by
          have : (dirO G N t).isSome = true := by rw [hx]; rfl
          simp [cnd, hbt, this]
        refine use_IP (m_R_neighbour (G := G) (N := N) ha hd) ?_
        rintro e C' ⟨rfl, o, rfl, ho⟩
        apply s_R_sumOfAngles_24
        cases o with
        | none =>
          have := ho t ht
          rw [hct] at this
          cases this
        | some m =>
          obtain ⟨m6, hm, hmin⟩ := ho
          have hm' := hm
          simp only [cnd, Bool.and_eq_true] at hm'
          obtain ⟨hem, hbm⟩ := hm'
          have da := dir_in (hE a ha hea)
          have dm := dir_in (hE m m6 hem)
          rw [bhd_key] at hbm
          refine ⟨fun _ => use_I (m_R_angleBetween ha m6) ?_, fun q => absurd q (nI_ne (by omega)).1⟩
          apply s_R_sumOfAngles_42
          have e1 : C' 73 a + fmd (C' 73 m - C' 73 a) = C' 73 m := by
            rw [fmd_small da.1 (by omega) dm.2]
            apply Int32.toInt_inj.mp
            rw [Int32.toInt_add, Int32.toInt_sub, Int.bmod_eq_of_le (n := (C' 73 m).toInt - (C' 73 a).toInt) (by omega) (by omega), Int.bmod_eq_of_le (by omega) (by omega)]
            omega
          rw [e1, nI_1]
          refine ih m (s + 1) _ m6 hem ?_ ?_ (by omega)
          · by_cases e : m = t
            · exact Or.inl e
            · right
              rw [bhd_key]
              rcases hmin t ht hct with z | ⟨z1, z2⟩
              · rw [Int32.lt_iff_toInt_lt] at z
                exact Or.inl z
              · exact Or.inr ⟨by rw [z1], by omega⟩
          · have hmm : bhd (C' 73) m m = false := by
              cases hq : bhd (C' 73) m m with
              | false => rfl
              | true =>
                rw [bhd_key] at hq
                omega
            have := cb_lt (b := cnd (fun t => (dirO G N t).isSome) (C' 73) m) (c := cnd (fun t => (dirO G N t).isSome) (C' 73) a) (n := 6) (k := m) (fun j hj hcj => ?_) m6 (by simp [cnd, hmm]) hm
            · omega
            · simp only [cnd, Bool.and_eq_true] at hcj ⊢
              refine ⟨hcj.1, ?_⟩
              have h2 := hcj.2
              rw [bhd_key] at h2 ⊢
              omega
  have c0 : C 73 0 = 0 := by rw [hd 0 (by decide), h0]; rfl
  have := loop 5 0 0 none (by decide) (by rw [h0]; rfl) ?_ ?_ (Nat.le_refl _)
  · rw [c0] at this
    exact e_R_sumOfAngles (s_R_sumOfAngles_0 this)
  · by_cases e : 0 = t
    · exact Or.inl e
    · right
      rw [bhd_key, c0, ht']
      have := dir_in hx
      have z : (0 : Int32).toInt = 0 := rfl
      omega
  · have := cb_lt (b := cnd (fun t => (dirO G N t).isSome) (C 73) 0) (c := fun _ => true) (n := 6) (k := 0) (fun _ _ _ => rfl) (by decide) ?_ rfl
    · have h6 := cb_le (fun _ => true) 6
      omega
    · have hmm : bhd (C 73) 0 0 = false := by
        cases hq : bhd (C 73) 0 0 with
        | false => rfl
        | true =>
          rw [bhd_key] at hq
          omega
      simp [cnd, hmm]
end
end
section
/-! WHAT BOTH SIDES HOLD: a state, a snapshot, a history, a text -/
/-- set-ups, limit, distances, rounds, offsets, sectors, faces -/
abbrev aS : Type := Nat × Int32 × (Nat → Int32) × (Nat → Nat) × (Nat → Int32) × (Nat → Int32) × (Nat → aFace)
def aR (A : aS) : Nat → Nat := A.2.2.2.1
def aO (A : aS) : Nat → Int32 := A.2.2.2.2.1
def aQ (A : aS) : Nat → Int32 := A.2.2.2.2.2.1
def aF (A : aS) : Nat → aFace := A.2.2.2.2.2.2
def aD (A : aS) : Nat → Int32 := A.2.2.1
/-- the State at o holds A -/
def sees (o : Nat) (C : Nat → Nat → Int32) (A : aS) : Prop := C o 0 = nI A.1 ∧ C o 1 = A.2.1 ∧ (∀ t, t < 6 → C (o + 4) t = aD A t) ∧ (∀ u, u < 4 → C (o + 1) u = nI (aR A u)) ∧ (∀ u, u < 4 → C (o + 2) u = aO A u) ∧ (∀ u, u < 4 → C (o + 3) u = aQ A u) ∧ (∀ row, row < 48 → C (o + 5) row = nI (aF A row).1 ∧ fS o C row = aF A row) ∧ ∀ i, i < 288 → C (o + 9) i = 0 ∨ C (o + 9) i = 1
def f0 : aFace := (0, fun _ => 0, fun _ => 0, fun _ => 0, -1)
def rg (lo hi : Int) (x : Int32) : Prop := lo ≤ x.toInt ∧ x.toInt ≤ hi
/-- a good state -/
def good (A : aS) : Prop := A.1 ≤ 4 ∧ rg 1 600 A.2.1 ∧ (∀ t, t < 6 → rg 1 9999 (aD A t)) ∧ (∀ u, u < 4 → aR A u ≤ 6 ∧ rg 0 99 (aO A u) ∧ rg 0 23 (aQ A u)) ∧ (∀ row, row < 48 → fok (aF A row)) ∧ (∀ u, u < 4 → A.1 ≤ u → aR A u = 0 ∧ aO A u = 0 ∧ aQ A u = 0) ∧ (∀ u r f, u < 4 → r < 6 → f < 2 → aR A u ≤ r → aF A ((u * 6 + r) * 2 + f) = f0)
theorem cut_congr {n : Nat} {f g : Nat → Int32} (h : ∀ k, k < n → f k = g k) : cut n f = cut n g := by
  funext k
  unfold cut
  by_cases hk : k < n
  · rw [if_pos hk, if_pos hk, h k hk]
  · rw [if_neg hk, if_neg hk]
theorem sees_congr {o : Nat} {C C' : Nat → Nat → Int32} {A : aS} (h : ∀ x, o ≤ x → x ≤ o + 9 → C' x = C x) (hs : sees o C A) : sees o C' A := by
  have e : ∀ z, z ≤ 9 → C' (o + z) = C (o + z) := fun z hz => h _ (by omega) (by omega)
  have e0 : C' o = C o := e 0 (by omega)
  have ef : ∀ row, fS o C' row = fS o C row := by
    intro row
    simp only [fS]
    rw [e 5 (by omega), e 6 (by omega), e 7 (by omega), e 8 (by omega), e 9 (by omega)]
  unfold sees at *
  rw [e0, e 1 (by omega), e 2 (by omega), e 3 (by omega), e 4 (by omega), e 5 (by omega), e 9 (by omega)]
  simp only [ef]
  exact hs
theorem sees_cok {C : Nat → Nat → Int32} {A : aS} (h : sees 1 C A) (hg : good A) {row : Nat} (hr : row < 48) : cok 1 C row := by
  obtain ⟨h1, h2⟩ := h.2.2.2.2.2.2.1 row hr
  refine ⟨?_, ?_⟩
  · rw [h2]; exact h1
  · rw [h2]; exact hg.2.2.2.2.1 row hr
theorem sees_f {o : Nat} {C : Nat → Nat → Int32} {A : aS} (h : sees o C A) {row : Nat} (hr : row < 48) : fS o C row = aF A row := (h.2.2.2.2.2.2.1 row hr).2
theorem sees_cp {a b : Nat} {C : Nat → Nat → Int32} {A : aS} (h : sees b C A) (hg : good A) : sees a (cp 9 C a b) A := by
  obtain ⟨h0, h1, h2, h3, h4, h5, h6, h7⟩ := h
  have e : ∀ j i, j < 9 → i < ln j → cp 9 C a b (a + (j + 1)) i = C (b + (j + 1)) i := by
    intro j i hj hi
    have := cp_at (C := C) (a := a) (b := b) hj hi
    rw [show a + 1 + j = a + (j + 1) by omega, show b + 1 + j = b + (j + 1) by omega] at this
    exact this
  refine ⟨?_, ?_, ?_, ?_, ?_, ?_, ?_, ?_⟩
  · rw [cp_at0 (by decide)]; exact h0
  · rw [cp_at0 (by decide)]; exact h1
  · intro t ht
    rw [e 3 t (by decide) (by simpa [ln] using ht)]; exact h2 t ht
  · intro t ht
    rw [e 0 t (by decide) (by simpa [ln] using ht)]; exact h3 t ht
  · intro t ht
    rw [e 1 t (by decide) (by simpa [ln] using ht)]; exact h4 t ht
  · intro t ht
    rw [e 2 t (by decide) (by simpa [ln] using ht)]; exact h5 t ht
  · intro row hr
    obtain ⟨g1, g2⟩ := h6 row hr
    have g3 := (hg.2.2.2.2.1 row hr).1
    rw [e 4 row (by decide) (by simpa [ln] using hr)]
    refine ⟨g1, ?_⟩
    rw [← g2]
    have hn : (C (b + 5) row).toNatClampNeg ≤ 6 := by rw [g1, cl (by omega)]; exact g3
    simp only [fS]
    rw [e 4 row (by decide) (by simpa [ln] using hr), e 5 row (by decide) (by simpa [ln] using hr)]
    have k1 : ∀ j, 6 ≤ j → j < 9 → cut (C (b + 5) row).toNatClampNeg (fun k => cp 9 C a b (a + (j + 1)) (row * 6 + k)) = cut (C (b + 5) row).toNatClampNeg (fun k => C (b + (j + 1)) (row * 6 + k)) := by
      intro j hj1 hj2
      apply cut_congr
      intro k hk
      apply e j _ (by omega)
      have : ln j = 288 := by
        obtain rfl | rfl | rfl : j = 6 ∨ j = 7 ∨ j = 8 := by omega
        all_goals rfl
      rw [this]
      omega
    rw [k1 6 (by decide) (by decide), k1 7 (by decide) (by decide), k1 8 (by decide) (by decide)]
  · intro i hi
    rw [e 8 i (by decide) (by simpa [ln] using hi)]; exact h7 i hi
/-- the whole: state, whether kept, snapshot, history, text -/
abbrev aGl : Type := aS × Bool × aS × (Nat × (Nat → aS)) × (Nat × (Nat → Int32))
def gcur (G : aGl) : aS := G.1
def gkep (G : aGl) : Bool := G.2.1
def gsnp (G : aGl) : aS := G.2.2.1
def ghis (G : aGl) : Nat × (Nat → aS) := G.2.2.2.1
def gtxt (G : aGl) : Nat × (Nat → Int32) := G.2.2.2.2
def gG (G : aGl) : Prop := good (gcur G) ∧ (gkep G = true → good (gsnp G)) ∧ (ghis G).1 ≤ 4 ∧ (∀ i, i < (ghis G).1 → good ((ghis G).2 i)) ∧ (gtxt G).1 ≤ 60
/-- the class holds G -/
def seeG (C : Nat → Nat → Int32) (p : Nat → Option Nat) (G : aGl) : Prop := sees 1 C (gcur G) ∧ C 0 2 = bI (gkep G) ∧ (gkep G = true → sees 11 C (gsnp G)) ∧ (C 21 1 = nI (ghis G).1 ∧ (ghis G).1 ≤ 4) ∧ C 63 1 = nI (gtxt G).1 ∧ C 64 = (gtxt G).2 ∧ (∀ j, j = 23 ∨ j = 33 ∨ j = 43 ∨ j = 53 → ∀ i, i < 288 → C (j + 9) i = 0 ∨ C (j + 9) i = 1) ∧ ∃ q, hst p q ∧ ∀ i, i < (ghis G).1 → sees (q i) C ((ghis G).2 i)
/-- only these differ: nothing of what seeG speaks -/
theorem seeG_congr {C C' : Nat → Nat → Int32} {p : Nat → Option Nat} {G : aGl} (h : ∀ x, x < 63 → C' x = C x) (h1 : C' 63 1 = C 63 1) (h2 : C' 64 = C 64) (hs : seeG C p G) : seeG C' p G := by
  obtain ⟨a, b, c, e, f, g, i, q, hq, j⟩ := hs
  refine ⟨sees_congr (fun x _ hx => h x (by omega)) a, ?_, fun hk => sees_congr (fun x _ hx => h x (by omega)) (c hk), ?_, ?_, ?_, ?_, q, hq, ?_⟩
  · rw [h 0 (by decide)]; exact b
  · rw [h 21 (by decide)]; exact e
  · rw [h1]; exact f
  · rw [h2]; exact g
  · intro z hz
    rw [h (z + 9) (by omega)]
    exact i z hz
  · intro z hz
    refine sees_congr (fun x _ hx => h x ?_) (j z hz)
    have := (hq.1 z (by omega)).2
    omega
theorem seeG_agR {C C' : Nat → Nat → Int32} {p : Nat → Option Nat} {G : aGl} (h : agR C' C) (hs : seeG C p G) : seeG C' p G :=
  seeG_congr (fun x hx => h x (by omega)) (by rw [h 63 (by decide)]) (h 64 (by decide)) hs
/-- the history after record -/
def recH (H : Nat × (Nat → aS)) (A : aS) : Nat × (Nat → aS) := if H.1 = 4 then (4, fun i => if i = 3 then A else H.2 (i + 1)) else (H.1 + 1, fun i => if i = H.1 then A else H.2 i)
def gcs (G : aGl) (A : aS) : aGl := (A, gkep G, gsnp G, ghis G, gtxt G)
/-- record, and then a new state -/
def grec (G : aGl) (A : aS) : aGl := (A, gkep G, gsnp G, recH (ghis G) (gcur G), gtxt G)
end
section
variable {zN : Nat}
theorem seeG_cur {C D : Nat → Nat → Int32} {p : Nat → Option Nat} {G : aGl} {A : aS} (h : ∀ x, x = 0 ∨ 11 ≤ x → D x = C x) (hs : seeG C p G) (ha : sees 1 D A) : seeG D p (gcs G A) := by
  obtain ⟨-, b, c, e, f, g, i, q, hq, j⟩ := hs
  refine ⟨ha, ?_, fun hk => sees_congr (fun x hx _ => h x (by omega)) (c hk), ?_, ?_, ?_, ?_, q, hq, ?_⟩
  · rw [h 0 (by decide)]; exact b
  · rw [h 21 (by decide)]; exact e
  · rw [h 63 (by decide)]; exact f
  · rw [h 64 (by decide)]; exact g
  · intro z hz
    rw [h (z + 9) (by omega)]
    exact i z hz
  · intro z hz
    refine sees_congr (fun x _ hx => h x ?_) (j z hz)
    have h4 : (ghis G).1 ≤ 4 := e.2
    have := (hq.1 z (by change z < (ghis G).1 at hz; omega)).2
    omega
theorem seeG_rec {C : Nat → Nat → Int32} {p : Nat → Option Nat} {q : Nat → Nat} {G : aGl} (hgc : good (gcur G)) (hs : seeG C p G) (hq : hst p q) (hj : ∀ i, i < (ghis G).1 → sees (q i) C ((ghis G).2 i)) : seeG (recC C q) (recp C p) (grec G (gcur G)) ∧ ∀ x, x ≤ 20 ∨ 63 ≤ x → recC C q x = C x := by
  obtain ⟨a, b, c, ⟨e, e4⟩, f, g, i, -⟩ := hs
  have hq' := hst_rec (C := C) hq
  have hm : recn C < 4 ∧ (recH (ghis G) (gcur G)).1 = recn C + 1 ∧ (recH (ghis G) (gcur G)).2 (recn C) = gcur G ∧ (∀ z, z < recn C → sees (recq C q z) C ((recH (ghis G) (gcur G)).2 z)) := by
    unfold recn recq recH
    by_cases h4 : (ghis G).1 = 4
    · have h4' : C 21 1 = 4 := by rw [e, h4]; rfl
      simp only [if_pos h4, if_pos h4']
      refine ⟨by decide, by simp, by simp, fun z hz => ?_⟩
      simp only [rotq, if_neg (show ¬ z = 3 by omega)]
      exact hj (z + 1) (by omega)
    · have h4' : ¬ nI (ghis G).1 = 4 := by
        intro h
        exact h4 ((eq5 (b := 4) (by omega) (by omega)).mp h)
      simp only [e, if_neg h4, if_neg h4', cl (show (ghis G).1 < 5000 by omega)]
      refine ⟨by omega, by simp, by simp, fun z hz => ?_⟩
      rw [if_neg (show ¬ z = (ghis G).1 by omega)]
      exact hj z hz
  obtain ⟨hm1, hm2, hm3, hm4⟩ := hm
  have hJ := (hq'.1 _ hm1).2
  have fr : ∀ x, x ≤ 20 ∨ 63 ≤ x → recC C q x = C x := by
    intro x hx
    funext k
    unfold recC
    rw [am_u2_ne (by omega), cp_other (by omega)]
  have fr2 : ∀ x, x ≠ 21 → (x < recq C q (recn C) ∨ recq C q (recn C) + 9 < x) → recC C q x = C x := by
    intro x h21 hx
    funext k
    unfold recC
    rw [am_u2_ne h21, cp_other hx]
  have fr3 : ∀ x, x ≠ 21 → recC C q x = cp 9 C (recq C q (recn C)) 1 x := by
    intro x h21
    funext k
    unfold recC
    rw [am_u2_ne h21]
  refine ⟨⟨sees_congr (fun x _ hx => fr x (by omega)) a, ?_, fun hk => sees_congr (fun x _ hx => fr x (by omega)) (c hk), ⟨?_, ?_⟩, ?_, ?_, ?_, recq C q, hq', ?_⟩, fr⟩
  · rw [fr 0 (by decide)]; exact b
  · show recC C q 21 1 = nI (recH (ghis G) (gcur G)).1
    rw [hm2]
    simp [recC, am_u2]
  · show (recH (ghis G) (gcur G)).1 ≤ 4
    omega
  · rw [fr 63 (by decide)]; exact f
  · rw [fr 64 (by decide)]; exact g
  · intro j hj k hk
    by_cases hjj : j = recq C q (recn C)
    · have h1 := cp_at (C := C) (a := j) (b := 1) (j := 8) (i := k) (by decide) hk
      rw [fr3 _ (by omega), ← hjj, show j + 9 = j + 1 + 8 by omega, h1]
      exact a.2.2.2.2.2.2.2 k hk
    · rw [fr2 _ (by omega) (by omega)]
      exact i j hj k hk
  · show ∀ z, z < (recH (ghis G) (gcur G)).1 → sees (recq C q z) (recC C q) ((recH (ghis G) (gcur G)).2 z)
    intro z hz
    rw [hm2] at hz
    have hz4 := (hq'.1 z (by omega)).2
    by_cases hzz : z = recn C
    · subst hzz
      rw [hm3]
      exact sees_congr (fun x hx _ => fr3 x (by omega)) (sees_cp a hgc)
    · have hne : recq C q z ≠ recq C q (recn C) := fun h => hzz (hq'.2 _ _ (by omega) hm1 h)
      exact sees_congr (fun x hx hx2 => fr2 x (by omega) (by omega)) (hm4 z (by omega))
theorem use_rec {d : Nat} {C : Nat → Nat → Int32} {p : Nat → Option Nat} {G : aGl} {K : aW → Prop} (hg : gG G) (hs : seeG C p G) (hk : ∀ C' p', seeG C' p' (grec G (gcur G)) → (∀ x, x ≤ 20 ∨ 63 ≤ x → C' x = C x) → K (am_w zN C' p')) : am_Cv (d + 2) 1 [.ref 21, .ref 1] (am_w zN C p) K := by
  have hs' := hs
  obtain ⟨a, b, c, ⟨e, e4⟩, f, g, i, q, hq, hj⟩ := hs'
  obtain ⟨h1, h2⟩ := seeG_rec hg.1 hs hq hj
  exact use_V (m_H_record hq e e4 a.2.2.2.2.2.2.2) (hk _ _ h1 h2)
theorem use_back {d n : Nat} {C : Nat → Nat → Int32} {p : Nat → Option Nat} {G : aGl} {K : aW → Prop} (hg : gG G) (hs : seeG C p G) (hn : (ghis G).1 = n + 1) (hk : ∀ C', seeG C' p ((ghis G).2 n, gkep G, gsnp G, (n, (ghis G).2), gtxt G) → (∀ x, x = 0 ∨ 11 ≤ x → x ≠ 21 → C' x = C x) → K (am_w zN C' p)) : am_Cv (d + 2) 2 [.ref 21, .ref 1] (am_w zN C p) K := by
  obtain ⟨a, b, c, ⟨e, e4⟩, f, g, i, q, hq, hj⟩ := hs
  refine use_V (m_H_takeBack (n := n) hq (by rw [e, hn]) (by omega) i) (hk _ ?_ ?_)
  · have fr : ∀ x, x = 0 ∨ 11 ≤ x → x ≠ 21 → tbC C (q n) n x = C x := by
      intro x hx hx2
      funext k
      unfold tbC
      rw [cp_other (by omega), am_u2_ne hx2]
    have hb := (hq.1 n (by omega)).2
    have hsn := hj n (by omega)
    refine ⟨?_, ?_, fun hk => sees_congr (fun x hx _ => fr x (by omega) (by omega)) (c hk), ⟨?_, by show n ≤ 4; omega⟩, ?_, ?_, ?_, q, hq, ?_⟩
    · refine sees_cp (sees_congr (fun x hx _ => ?_) hsn) (hg.2.2.2.1 n (by omega))
      funext k
      rw [am_u2_ne (by omega)]
    · rw [fr 0 (by decide) (by decide)]; exact b
    · show tbC C (q n) n 21 1 = nI n
      unfold tbC
      rw [cp_other (by omega)]
      simp [am_u2]
    · rw [fr 63 (by decide) (by decide)]; exact f
    · rw [fr 64 (by decide) (by decide)]; exact g
    · intro j hj k hk
      rw [fr _ (by omega) (by omega)]
      exact i j hj k hk
    · intro z hz
      change z < n at hz
      have hz4 := (hq.1 z (by omega)).2
      exact sees_congr (fun x hx _ => fr x (by omega) (by omega)) (hj z (by omega))
  · intro x hx hx2
    funext k
    unfold tbC
    rw [cp_other (by omega), am_u2_ne hx2]
/-- G stays good -/
theorem gG_rec {G : aGl} {A : aS} (hg : gG G) (ha : good A) : gG (grec G A) := by
  obtain ⟨h1, h2, h3, h4, h5⟩ := hg
  refine ⟨ha, h2, ?_, ?_, h5⟩
  · show (recH (ghis G) (gcur G)).1 ≤ 4
    unfold recH
    split
    · exact Nat.le_refl _
    · show (ghis G).1 + 1 ≤ 4
      omega
  · show ∀ i, i < (recH (ghis G) (gcur G)).1 → good ((recH (ghis G) (gcur G)).2 i)
    unfold recH
    split
    · intro i hi
      change i < 4 at hi
      show good (if i = 3 then gcur G else (ghis G).2 (i + 1))
      split
      · exact h1
      · exact h4 _ (by omega)
    · intro i hi
      change i < (ghis G).1 + 1 at hi
      show good (if i = (ghis G).1 then gcur G else (ghis G).2 i)
      split
      · exact h1
      · exact h4 _ (by omega)
end
section
/-! what is done to a face -/
def upF (A : aS) (row : Nat) (g : aFace) : aS := (A.1, A.2.1, aD A, aR A, aO A, aQ A, fun x => if x = row then g else aF A x)
def fadd (f : aFace) (t rd : Int32) : aFace := (f.1 + 1, cut (f.1 + 1) (fun k => if k = f.1 then t else f.2.1 k), cut (f.1 + 1) (fun k => if k = f.1 then rd else f.2.2.1 k), cut (f.1 + 1) (fun k => if k = f.1 then 0 else f.2.2.2.1 k), f.2.2.2.2)
def frem (f : aFace) (j : Nat) : aFace := (f.1 - 1, cut (f.1 - 1) (fun k => if j ≤ k then f.2.1 (k + 1) else f.2.1 k), cut (f.1 - 1) (fun k => if j ≤ k then f.2.2.1 (k + 1) else f.2.2.1 k), cut (f.1 - 1) (fun k => if j ≤ k then f.2.2.2.1 (k + 1) else f.2.2.2.1 k), f.2.2.2.2)
def fclo (f : aFace) (x : Int32) : aFace := (f.1, f.2.1, f.2.2.1, f.2.2.2.1, x)
def fstr (f : aFace) (j : Nat) (v : Int32) : aFace := (f.1, f.2.1, f.2.2.1, cut f.1 (fun k => if k = j then v else f.2.2.2.1 k), f.2.2.2.2)
theorem sees_row {C D : Nat → Nat → Int32} {A : aS} {row : Nat} {g : aFace} (hs : sees 1 C A) (hg : good A) (h1 : ∀ x, 1 ≤ x → x ≤ 5 → D x = C x) (h2 : ∀ r, r < 48 → r ≠ row → D 6 r = C 6 r ∧ D 7 r = C 7 r ∧ ∀ x, 8 ≤ x → x ≤ 10 → ∀ k, k < 6 → D x (r * 6 + k) = C x (r * 6 + k)) (h3 : D 6 row = nI g.1) (h4 : fS 1 D row = g) (h5 : ∀ i, i < 288 → D 10 i = 0 ∨ D 10 i = 1) : sees 1 D (upF A row g) := by
  obtain ⟨s0, s1, s2, s3, s4, s5, s6, s7⟩ := hs
  refine ⟨?_, ?_, ?_, ?_, ?_, ?_, ?_, h5⟩
  · rw [h1 1 (by decide) (by decide)]; exact s0
  · rw [h1 1 (by decide) (by decide)]; exact s1
  · rw [h1 5 (by decide) (by decide)]; exact s2
  · rw [h1 2 (by decide) (by decide)]; exact s3
  · rw [h1 3 (by decide) (by decide)]; exact s4
  · rw [h1 4 (by decide) (by decide)]; exact s5
  · intro r hr
    show D 6 r = nI (if r = row then g else aF A r).1 ∧ fS 1 D r = (if r = row then g else aF A r)
    by_cases e : r = row
    · rw [if_pos e, e]
      exact ⟨h3, h4⟩
    · rw [if_neg e]
      obtain ⟨g1, g2⟩ := s6 r hr
      obtain ⟨k1, k2, k3⟩ := h2 r hr e
      have hn : (C 6 r).toNatClampNeg ≤ 6 := by
        have := (hg.2.2.2.2.1 r hr).1
        rw [show C 6 r = nI (aF A r).1 from g1, cl (by omega)]
        exact this
      refine ⟨by rw [k1]; exact g1, ?_⟩
      rw [← g2]
      simp only [fS]
      rw [show D (1 + 5) r = C (1 + 5) r from k1, show D (1 + 6) r = C (1 + 6) r from k2]
      have hn' : (C (1 + 5) r).toNatClampNeg ≤ 6 := hn
      rw [cut_congr (fun k hk => k3 8 (by decide) (by decide) k (by omega)), cut_congr (fun k hk => k3 9 (by decide) (by decide) k (by omega)), cut_congr (fun k hk => k3 10 (by decide) (by decide) k (by omega))]
theorem face_n {C : Nat → Nat → Int32} {A : aS} (hs : sees 1 C A) {row : Nat} (hr : row < 48) : C 6 row = nI (aF A row).1 := (hs.2.2.2.2.2.2.1 row hr).1
theorem face_x {C : Nat → Nat → Int32} {A : aS} (hs : sees 1 C A) {row : Nat} (hr : row < 48) : C 7 row = (aF A row).2.2.2.2 := by
  rw [← sees_f hs hr]; rfl
theorem face_k {C : Nat → Nat → Int32} {A : aS} (hs : sees 1 C A) {row k : Nat} (hr : row < 48) (hk : k < (aF A row).1) : C 8 (row * 6 + k) = (aF A row).2.1 k ∧ C 9 (row * 6 + k) = (aF A row).2.2.1 k ∧ C 10 (row * 6 + k) = (aF A row).2.2.2.1 k := by
  rw [← sees_f hs hr] at hk ⊢
  exact ⟨(fS_tg hk).symm, (fS_rd hk).symm, (fS_sk hk).symm⟩
theorem fS_mk {C : Nat → Nat → Int32} {row : Nat} {g : aFace} (h1 : C 6 row = nI g.1) (h6 : g.1 < 5000) (h2 : cut g.1 g.2.1 = g.2.1) (h3 : cut g.1 g.2.2.1 = g.2.2.1) (h4 : cut g.1 g.2.2.2.1 = g.2.2.2.1) (h5 : C 7 row = g.2.2.2.2) (hk : ∀ k, k < g.1 → C 8 (row * 6 + k) = g.2.1 k ∧ C 9 (row * 6 + k) = g.2.2.1 k ∧ C 10 (row * 6 + k) = g.2.2.2.1 k) : fS 1 C row = g := by
  have e : (C (1 + 5) row).toNatClampNeg = g.1 := by
    rw [show C (1 + 5) row = nI g.1 from h1, cl h6]
  unfold fS
  rw [e, cut_congr (g := g.2.1) (fun k hk' => (hk k hk').1), cut_congr (g := g.2.2.1) (fun k hk' => (hk k hk').2.1), cut_congr (g := g.2.2.2.1) (fun k hk' => (hk k hk').2.2), h2, h3, h4, show C (1 + 6) row = g.2.2.2.2 from h5]
theorem cut_cut {n : Nat} {f : Nat → Int32} : cut n (cut n f) = cut n f := cut_congr (fun k hk => cut_lt hk)
theorem fS_cut {C : Nat → Nat → Int32} {A : aS} (hs : sees 1 C A) {row : Nat} (hr : row < 48) : cut (aF A row).1 (aF A row).2.1 = (aF A row).2.1 ∧ cut (aF A row).1 (aF A row).2.2.1 = (aF A row).2.2.1 ∧ cut (aF A row).1 (aF A row).2.2.2.1 = (aF A row).2.2.2.1 := by
  rw [← sees_f hs hr]
  exact ⟨cut_cut, cut_cut, cut_cut⟩
theorem sees_add {C : Nat → Nat → Int32} {A : aS} {row : Nat} {t rd : Int32} (hs : sees 1 C A) (hg : good A) (hr : row < 48) (h6 : (aF A row).1 < 6) : sees 1 (addC C row (aF A row).1 t rd) (upF A row (fadd (aF A row) t rd)) := by
  have hn := face_n hs hr
  have hx := face_x hs hr
  have hk := fun k => face_k (k := k) hs hr
  have h10 := hs.2.2.2.2.2.2.2
  generalize hf : aF A row = f at *
  have e6 : addC C row f.1 t rd 6 row = nI (fadd f t rd).1 := by simp [addC, am_u2_at, fadd]
  refine sees_row hs hg (fun x h1 h2 => ?_) (fun r hr' hne => ⟨?_, ?_, fun x h8 h10 k hk' => ?_⟩) e6 (fS_mk e6 ?_ cut_cut cut_cut cut_cut ?_ (fun k hk' => ?_)) (fun i hi => ?_)
  · funext i
    simp only [addC, am_u2_at]
    rw [if_neg (by omega), if_neg (by omega), if_neg (by omega), if_neg (by omega)]
  · simp [addC, am_u2_at, hne]
  · simp [addC, am_u2_at]
  · simp only [addC, am_u2_at]
    rw [if_neg (by omega), if_neg (by omega), if_neg (by omega), if_neg (by omega)]
  · simp only [fadd]; omega
  · simp only [addC, am_u2_at, fadd]
    rw [if_neg (by omega), if_neg (by omega), if_neg (by omega), if_neg (by omega)]
    exact hx
  · have hk2 : k < f.1 + 1 := hk'
    simp only [fadd]
    rw [cut_lt hk2, cut_lt hk2, cut_lt hk2]
    by_cases e : k = f.1
    · subst e
      simp [addC, am_u2_at]
    · obtain ⟨a, b, c⟩ := hk k (by omega)
      simp only [addC, am_u2_at, if_neg e, a, b, c]
      simp [show ¬ (row * 6 + k = row * 6 + f.1) by omega, e]
  · simp only [addC, am_u2_at]
    by_cases e : i = row * 6 + f.1
    · simp [e]
    · simp [e]
      exact h10 i hi
theorem sees_rem {C : Nat → Nat → Int32} {A : aS} {row j : Nat} (hs : sees 1 C A) (hg : good A) (hr : row < 48) (hj : j < (aF A row).1) : sees 1 (rmvC C row (aF A row).1 j) (upF A row (frem (aF A row) j)) := by
  have hn := face_n hs hr
  have hx := face_x hs hr
  have hk := fun k => face_k (k := k) hs hr
  have h10 := hs.2.2.2.2.2.2.2
  have h6 := (hg.2.2.2.2.1 row hr).1
  generalize hf : aF A row = f at *
  have e6 : rmvC C row f.1 j 6 row = nI (frem f j).1 := by simp [rmvC, shf, am_u2_at, frem]
  refine sees_row hs hg (fun x h1 h2 => ?_) (fun r hr' hne => ⟨?_, ?_, fun x h8 h10 k hk' => ?_⟩) e6 (fS_mk e6 ?_ cut_cut cut_cut cut_cut ?_ (fun k hk' => ?_)) (fun i hi => ?_)
  · funext i
    simp only [rmvC, shf, am_u2_at]
    rw [if_neg (by omega), if_neg (by omega)]
  · simp [rmvC, shf, am_u2_at, hne]
  · simp [rmvC, shf, am_u2_at]
  · simp only [rmvC, shf, am_u2_at]
    rw [if_neg (by omega), if_neg (by omega)]
  · simp only [frem]; omega
  · simp only [rmvC, shf, am_u2_at, frem]
    rw [if_neg (by omega), if_neg (by omega)]
    exact hx
  · have hk2 : k < f.1 - 1 := hk'
    simp only [frem]
    rw [cut_lt hk2, cut_lt hk2, cut_lt hk2]
    have hki := hk k (by omega)
    have hki1 := hk (k + 1) (by omega)
    rw [show row * 6 + (k + 1) = row * 6 + k + 1 by omega] at hki1
    by_cases e : j ≤ k
    · have e2 : row * 6 + j ≤ row * 6 + k ∧ row * 6 + k < row * 6 + (f.1 - 1) := by omega
      simp [rmvC, shf, am_u2_at, e2, e, hki1]
    · have e2 : ¬ (row * 6 + j ≤ row * 6 + k ∧ row * 6 + k < row * 6 + (f.1 - 1)) := by omega
      simp only [rmvC, shf, am_u2_at, e2, e, if_false, and_false, hki]
      simp
  · simp only [rmvC, shf, am_u2_at]
    by_cases e : row * 6 + j ≤ i ∧ i < row * 6 + (f.1 - 1)
    · simp [e]
      exact h10 (i + 1) (by omega)
    · rw [if_neg (by omega), if_neg (by omega)]
      exact h10 i hi
theorem sees_clo {C : Nat → Nat → Int32} {A : aS} {row : Nat} {x : Int32} (hs : sees 1 C A) (hg : good A) (hr : row < 48) : sees 1 (am_u2 C 7 row x) (upF A row (fclo (aF A row) x)) := by
  have hn := face_n hs hr
  have hk := fun k => face_k (k := k) hs hr
  have h10 := hs.2.2.2.2.2.2.2
  have h6 := (hg.2.2.2.2.1 row hr).1
  obtain ⟨c1, c2, c3⟩ := fS_cut hs hr
  generalize hf : aF A row = f at *
  have e6 : am_u2 C 7 row x 6 row = nI (fclo f x).1 := by rw [am_u2_ne (by decide)]; exact hn
  refine sees_row hs hg (fun y h1 h2 => ?_) (fun r hr' hne => ⟨?_, ?_, fun y h8 h10 k hk' => ?_⟩) e6 (fS_mk e6 ?_ c1 c2 c3 ?_ (fun k hk' => ?_)) (fun i hi => ?_)
  · funext i
    rw [am_u2_ne (by omega)]
  · rw [am_u2_ne (by omega)]
  · simp [am_u2_at, hne]
  · rw [am_u2_ne (by omega)]
  · simp only [fclo]; omega
  · simp [am_u2_at, fclo]
  · rw [am_u2_ne (by omega), am_u2_ne (by omega), am_u2_ne (by omega)]
    exact hk k hk'
  · rw [am_u2_ne (by omega)]
    exact h10 i hi
theorem sees_str {C : Nat → Nat → Int32} {A : aS} {row j : Nat} {v : Int32} (hs : sees 1 C A) (hg : good A) (hr : row < 48) (hj : j < (aF A row).1) (hv : v = 0 ∨ v = 1) : sees 1 (am_u2 C 10 (row * 6 + j) v) (upF A row (fstr (aF A row) j v)) := by
  have hn := face_n hs hr
  have hx := face_x hs hr
  have hk := fun k => face_k (k := k) hs hr
  have h10 := hs.2.2.2.2.2.2.2
  have h6 := (hg.2.2.2.2.1 row hr).1
  obtain ⟨c1, c2, c3⟩ := fS_cut hs hr
  generalize hf : aF A row = f at *
  have e6 : am_u2 C 10 (row * 6 + j) v 6 row = nI (fstr f j v).1 := by rw [am_u2_ne (by decide)]; exact hn
  refine sees_row hs hg (fun y h1 h2 => ?_) (fun r hr' hne => ⟨?_, ?_, fun y h8 h10 k hk' => ?_⟩) e6 (fS_mk e6 ?_ c1 c2 cut_cut ?_ (fun k hk' => ?_)) (fun i hi => ?_)
  · funext i
    rw [am_u2_ne (by omega)]
  · rw [am_u2_ne (by omega)]
  · rw [am_u2_ne (by omega)]
  · simp only [am_u2_at]
    rw [if_neg (by omega)]
  · simp only [fstr]; omega
  · rw [am_u2_ne (by omega)]; exact hx
  · have hk2 : k < f.1 := hk'
    obtain ⟨a, b, c⟩ := hk k hk2
    refine ⟨?_, ?_, ?_⟩
    · rw [am_u2_ne (by omega)]; exact a
    · rw [am_u2_ne (by omega)]; exact b
    · simp only [fstr]
      rw [cut_lt hk2]
      by_cases e : k = j
      · simp [e, am_u2_at]
      · rw [if_neg e, am_u2_at, if_neg (by omega)]
        exact c
  · simp only [am_u2_at]
    by_cases e : i = row * 6 + j
    · simp [e, hv]
    · simp [e]
      exact h10 i hi
theorem good_upF {A : aS} {u r f : Nat} {g : aFace} (hg : good A) (hu : u < 4) (hr : r < aR A u) (hf : f < 2) (hk : fok g) : good (upF A ((u * 6 + r) * 2 + f) g) := by
  obtain ⟨h1, h2, h3, h4, h5, h6, h7⟩ := hg
  refine ⟨h1, h2, h3, h4, ?_, h6, ?_⟩
  · intro row hrow
    show fok (if row = (u * 6 + r) * 2 + f then g else aF A row)
    split
    · exact hk
    · exact h5 row hrow
  · intro u' r' f' hu' hr' hf' hle
    change aR A u' ≤ r' at hle
    show (if (u' * 6 + r') * 2 + f' = (u * 6 + r) * 2 + f then g else aF A ((u' * 6 + r') * 2 + f')) = f0
    rw [if_neg ?_]
    · exact h7 u' r' f' hu' hr' hf' hle
    · intro e
      have h8 := (h4 u hu).1
      have : u' = u ∧ r' = r := by omega
      rw [this.1, this.2] at hle
      omega
end
section
theorem fok_fadd {f : aFace} {t : Nat} {rd : Int32} (h : fok f) (h6 : f.1 < 6) (ht : t < 6) (hp : plc f (nI t) = none) : fok (fadd f (nI t) rd) := by
  obtain ⟨a, b, c, e, g⟩ := h
  have hno : ∀ k, k < f.1 → f.2.1 k ≠ nI t := fun k hk => fd_none hp k (Nat.zero_le _) (by omega)
  refine ⟨by simp only [fadd]; omega, fun _ => by simp only [fadd]; omega, fun k hk => ?_, fun k hk => ?_, fun j k hj hk he => ?_⟩
  · have hk2 : k < f.1 + 1 := hk
    simp only [fadd]
    rw [cut_lt hk2]
    by_cases e2 : k = f.1
    · simp [e2]
    · simp only [if_neg e2]
      exact c k (by omega)
  · have hk2 : k < f.1 + 1 := hk
    simp only [fadd]
    rw [cut_lt hk2]
    by_cases e2 : k = f.1
    · exact ⟨t, ht, by simp [e2]⟩
    · simp only [if_neg e2]
      exact e k (by omega)
  · have hj2 : j < f.1 + 1 := hj
    have hk2 : k < f.1 + 1 := hk
    simp only [fadd] at he
    rw [cut_lt hk2, cut_lt hj2] at he
    by_cases e1 : j = f.1
    · by_cases e2 : k = f.1
      · omega
      · rw [if_pos e1, if_neg e2] at he
        exact absurd he.symm (hno k (by omega))
    · by_cases e2 : k = f.1
      · rw [if_neg e1, if_pos e2] at he
        exact absurd he (hno j (by omega))
      · rw [if_neg e1, if_neg e2] at he
        exact g j k (by omega) (by omega) he
theorem fok_frem {f : aFace} {j : Nat} (h : fok f) (hj : j < f.1) (hx : f.2.2.2.2 ≠ -1 → j ≠ 0) : fok (frem f j) := by
  obtain ⟨a, b, c, e, g⟩ := h
  have sh : ∀ (z : Nat → Int32) k, k < f.1 - 1 → ∃ k', k' < f.1 ∧ (frem f j).1 = f.1 - 1 ∧ cut (f.1 - 1) (fun k => if j ≤ k then z (k + 1) else z k) k = z k' ∧ k' = if j ≤ k then k + 1 else k := by
    intro z k hk
    rw [cut_lt hk]
    by_cases e2 : j ≤ k
    · exact ⟨k + 1, by omega, rfl, by simp only [if_pos e2], by simp only [if_pos e2]⟩
    · exact ⟨k, by omega, rfl, by simp only [if_neg e2], by simp only [if_neg e2]⟩
  refine ⟨by simp only [frem]; omega, fun hne => ?_, fun k hk => ?_, fun k hk => ?_, fun i k hi hk he => ?_⟩
  · have := hx hne
    simp only [frem]
    omega
  · obtain ⟨k', h1, -, h2, -⟩ := sh f.2.2.2.1 k hk
    simp only [frem]
    rw [h2]
    exact c k' h1
  · obtain ⟨k', h1, -, h2, -⟩ := sh f.2.1 k hk
    simp only [frem]
    rw [h2]
    exact e k' h1
  · obtain ⟨k', h1, -, h2, h3⟩ := sh f.2.1 k hk
    obtain ⟨i', h1', -, h2', h3'⟩ := sh f.2.1 i hi
    simp only [frem] at he
    rw [h2, h2'] at he
    have := g _ _ h1' h1 he
    rw [h3, h3'] at this
    split at this <;> split at this <;> omega
theorem fok_fclo {f : aFace} {x : Int32} (h : fok f) (h1 : 1 ≤ f.1) : fok (fclo f x) := by
  obtain ⟨a, b, c, e, g⟩ := h
  exact ⟨a, fun _ => h1, c, e, g⟩
theorem fok_fstr {f : aFace} {j : Nat} {v : Int32} (h : fok f) (hv : v = 0 ∨ v = 1) : fok (fstr f j v) := by
  obtain ⟨a, b, c, e, g⟩ := h
  refine ⟨a, b, fun k hk => ?_, e, g⟩
  have hk2 : k < f.1 := hk
  simp only [fstr]
  rw [cut_lt hk2]
  split
  · exact hv
  · exact c k hk2
end
section
/-! FaceRounds: operations, over what both sides hold -/
variable {zN : Nat}
def cn (x : Int32) : Nat := x.toNatClampNeg
theorem cn_nI {n : Nat} (h : n < 5000) : cn (nI n) = n := cl h
theorem lt_in {x : Int32} {n : Nat} (h : 0 ≤ x.toInt) (h2 : x.toInt < n) (hn : n ≤ 2147483647) : ∃ k, x = nI k ∧ k < n := by
  refine ⟨x.toInt.toNat, ?_, by omega⟩
  rw [← Int32.toInt_inj, nI_toInt (by omega)]
  omega
def hsA (A : aS) (u : Int32) : Bool := decide (0 ≤ u.toInt ∧ u.toInt < A.1)
def hrA (A : aS) (u r : Int32) : Bool := hsA A u && decide (0 ≤ r.toInt ∧ r.toInt < aR A (cn u))
def isT (t : Int32) : Bool := decide (0 ≤ t.toInt ∧ t.toInt < 6)
def isFc (t : Int32) : Bool := decide (0 ≤ t.toInt ∧ t.toInt < 2)
def isRd (t : Int32) : Bool := decide (0 ≤ t.toInt ∧ t.toInt < 1296000)
theorem i32_0 : (0 : Int32).toInt = 0 := by decide
theorem hsA_ok {A : aS} {u : Int32} (h : hsA A u = true) (hg : good A) : ∃ n, u = nI n ∧ n < A.1 := by
  simp only [hsA, decide_eq_true_eq] at h
  exact lt_in h.1 h.2 (by have := hg.1; omega)
theorem hrA_ok {A : aS} {u r : Int32} (h : hrA A u r = true) (hg : good A) : ∃ n m, u = nI n ∧ n < A.1 ∧ n < 4 ∧ r = nI m ∧ m < aR A n ∧ m < 6 := by
  simp only [hrA, Bool.and_eq_true, decide_eq_true_eq] at h
  obtain ⟨n, rfl, hn⟩ := hsA_ok h.1 hg
  have h4 := hg.1
  have h6 := (hg.2.2.2.1 n (by omega)).1
  rw [cn_nI (by omega)] at h
  obtain ⟨m, rfl, hm⟩ := lt_in h.2.1 h.2.2 (by omega)
  exact ⟨n, m, rfl, hn, by omega, rfl, hm, by omega⟩
theorem isT_ok {t : Int32} (h : isT t = true) : ∃ k, t = nI k ∧ k < 6 := by
  simp only [isT, decide_eq_true_eq] at h
  exact lt_in h.1 h.2 (by decide)
theorem isFc_ok {t : Int32} (h : isFc t = true) : ∃ k, t = nI k ∧ k < 2 := by
  simp only [isFc, decide_eq_true_eq] at h
  exact lt_in h.1 h.2 (by decide)
theorem hsu_A {C : Nat → Nat → Int32} {A : aS} {u : Int32} (hs : sees 1 C A) (hg : good A) : hsu C u = hsA A u := by
  have h4 := hg.1
  simp only [hsu, hsA]
  rw [hs.1]
  congr 1
  rw [Int32.lt_iff_toInt_lt, Int32.le_iff_toInt_le, nI_toI (by omega), i32_0]
  apply propext
  omega
theorem hrd_A {C : Nat → Nat → Int32} {A : aS} {u r : Int32} (hs : sees 1 C A) (hg : good A) : hrd C u r = hrA A u r := by
  simp only [hrd, hrA]
  rw [hsu_A hs hg]
  cases hu : hsA A u with
  | false => rfl
  | true =>
    obtain ⟨n, rfl, hn⟩ := hsA_ok hu hg
    have h4 := hg.1
    have h6 := (hg.2.2.2.1 n (by omega)).1
    rw [cl (by omega), cn_nI (by omega), show C 2 n = nI (aR A n) from hs.2.2.2.1 n (by omega)]
    simp only [Bool.true_and]
    congr 1
    rw [Int32.lt_iff_toInt_lt, Int32.le_iff_toInt_le, nI_toI (by omega), i32_0]
    apply propext
    omega
theorem C10_4 {C : Nat → Nat → Int32} {A : aS} (hs : sees 1 C A) (hg : good A) : C 1 0 ≤ 4 := by
  rw [hs.1]
  exact (le5 (b := 4) (by have := hg.1; omega) (by omega)).mpr hg.1
def fP (C : Nat → Nat → Int32) (x : Int32 × aGl) : Option Value → (Nat → Nat → Int32) → (Nat → Option Nat) → Prop := fun r C' p' => r = some (.int x.1) ∧ seeG C' p' x.2 ∧ ∀ z, 74 ≤ z → C' z = C z
theorem leaf {C C' : Nat → Nat → Int32} {p' : Nat → Option Nat} {x : Int32 × aGl} {e e' : Int32} {G' : aGl} (hx : x = (e', G')) (he : e = e') (hs : seeG C' p' G') (hf : ∀ z, 74 ≤ z → C' z = C z) : am_Ret zN (fP C x) (some (.int e)) (am_w zN C' p') := ⟨C', p', rfl, by rw [hx, he], by rw [hx]; exact hs, hf⟩
theorem leaf0 {C : Nat → Nat → Int32} {p : Nat → Option Nat} {x : Int32 × aGl} {e : Int32} {G : aGl} (hs : seeG C p G) (hx : x = (e, G)) : am_Ret zN (fP C x) (some (.int e)) (am_w zN C p) := leaf hx rfl hs (fun _ _ => rfl)
theorem leafR {C C' D : Nat → Nat → Int32} {p' : Nat → Option Nat} {x : Int32 × aGl} {e e' : Int32} {G : aGl} {A : aS} (hs : seeG C' p' (grec G (gcur G))) (hf : ∀ x, x ≤ 20 ∨ 63 ≤ x → C' x = C x) (hx : x = (e', grec G A)) (he : e = e') (hA : sees 1 D A) (hD : ∀ x, x = 0 ∨ 11 ≤ x → D x = C' x) : am_Ret zN (fP C x) (some (.int e)) (am_w zN D p') :=
  leaf hx he (seeG_cur (A := A) hD hs hA) (fun z hz => (hD z (by omega)).trans (hf z (by omega)))
theorem fr_u2 {C : Nat → Nat → Int32} {i k : Nat} {v : Int32} (h : 1 ≤ i ∧ i ≤ 10) : ∀ x, x = 0 ∨ 11 ≤ x → am_u2 C i k v x = C x := fun x hx => am_u2_ne (by omega)
section
variable {d : Nat} {C : Nat → Nat → Int32} {p : Nat → Option Nat} {G : aGl}
theorem m_F_isTarget {t : Int32} : cI zN (d + 1) 75 [.int t] C p (bI (isT t)) C p := by
  have h6 : (6 : Int32).toInt = 6 := by decide
  refine e_F_isTarget (s_F_isTarget_0 ⟨fun h => ⟨Or.inl rfl, ret_I' ?_ rfl rfl⟩, fun h => ⟨fun h2 => ⟨Or.inl rfl, ret_I' ?_ rfl rfl⟩, fun h2 => ⟨Or.inr rfl, ret_I' ?_ rfl rfl⟩⟩⟩)
  · rw [Int32.lt_iff_toInt_lt, i32_0] at h
    simp only [isT, decide_eq_false (show ¬ (0 ≤ t.toInt ∧ t.toInt < 6) by omega)]; rfl
  · rw [Int32.le_iff_toInt_le, h6] at h2
    simp only [isT, decide_eq_false (show ¬ (0 ≤ t.toInt ∧ t.toInt < 6) by omega)]; rfl
  · rw [Int32.lt_iff_toInt_lt, i32_0] at h
    rw [Int32.le_iff_toInt_le, h6] at h2
    simp only [isT, decide_eq_true (show (0 ≤ t.toInt ∧ t.toInt < 6) by omega)]; rfl
theorem m_F_isFace {t : Int32} : cI zN (d + 1) 76 [.int t] C p (bI (isFc t)) C p := by
  have h6 : (2 : Int32).toInt = 2 := by decide
  refine e_F_isFace (s_F_isFace_0 ⟨fun h => ⟨Or.inl rfl, ret_I' ?_ rfl rfl⟩, fun h => ⟨fun h2 => ⟨Or.inl rfl, ret_I' ?_ rfl rfl⟩, fun h2 => ⟨Or.inr rfl, ret_I' ?_ rfl rfl⟩⟩⟩)
  · rw [Int32.lt_iff_toInt_lt, i32_0] at h
    simp only [isFc, decide_eq_false (show ¬ (0 ≤ t.toInt ∧ t.toInt < 2) by omega)]; rfl
  · rw [Int32.le_iff_toInt_le, h6] at h2
    simp only [isFc, decide_eq_false (show ¬ (0 ≤ t.toInt ∧ t.toInt < 2) by omega)]; rfl
  · rw [Int32.lt_iff_toInt_lt, i32_0] at h
    rw [Int32.le_iff_toInt_le, h6] at h2
    simp only [isFc, decide_eq_true (show (0 ≤ t.toInt ∧ t.toInt < 2) by omega)]; rfl
theorem m_F_isReading {t : Int32} : cI zN (d + 1) 77 [.int t] C p (bI (isRd t)) C p := by
  have h6 : (1296000 : Int32).toInt = 1296000 := by decide
  refine e_F_isReading (s_F_isReading_0 ⟨fun h => ⟨Or.inl rfl, ret_I' ?_ rfl rfl⟩, fun h => ⟨fun h2 => ⟨Or.inl rfl, ret_I' ?_ rfl rfl⟩, fun h2 => ⟨Or.inr rfl, ret_I' ?_ rfl rfl⟩⟩⟩)
  · rw [Int32.lt_iff_toInt_lt, i32_0] at h
    simp only [isRd, decide_eq_false (show ¬ (0 ≤ t.toInt ∧ t.toInt < 1296000) by omega)]; rfl
  · rw [Int32.le_iff_toInt_le, h6] at h2
    simp only [isRd, decide_eq_false (show ¬ (0 ≤ t.toInt ∧ t.toInt < 1296000) by omega)]; rfl
  · rw [Int32.lt_iff_toInt_lt, i32_0] at h
    rw [Int32.le_iff_toInt_le, h6] at h2
    simp only [isRd, decide_eq_true (show (0 ≤ t.toInt ∧ t.toInt < 1296000) by omega)]; rfl
/-- setUp -/
def upN (A : aS) : aS := (A.1 + 1, A.2)
def oSetUp (G : aGl) : Int32 × aGl := if (gcur G).1 < 4 then (nI (gcur G).1, grec G (upN (gcur G))) else (-2000003, G)
theorem good_upN {A : aS} (hg : good A) (h : A.1 < 4) : good (upN A) := by
  obtain ⟨h1, h2, h3, h4, h5, h6, h7⟩ := hg
  exact ⟨by show A.1 + 1 ≤ 4; omega, h2, h3, h4, h5, fun u hu hn => h6 u hu (by change A.1 + 1 ≤ u at hn; omega), h7⟩
theorem m_setUp (hg : gG G) (hs : seeG C p G) : am_Call (d + 4) 51 [.ref 0] (am_w zN C p) (am_Ret zN (fP C (oSetUp G))) := by
  have h4 := hg.1.1
  apply e_F_setUp
  apply s_F_setUp_0
  rw [hs.1.1]
  refine ⟨fun h => use_rec hg hs fun C' p' hs' hf => ?_, fun h => leaf0 hs ?_⟩
  · have h' := (lt5 (b := 4) (by omega) (by omega)).mp h
    apply s_F_setUp_25
    have e1 : C' 1 0 = nI (gcur G).1 := hs'.1.1
    refine leafR hs' hf (by rw [oSetUp, if_pos h']) ?_ ?_ (fr_u2 (by decide))
    · rw [am_u2_at, if_pos ⟨rfl, rfl⟩, e1, nI_1, nI_pred]
    · obtain ⟨s0, s1, s2, s3, s4, s5, s6, s7⟩ := hs'.1
      refine ⟨?_, ?_, ?_, ?_, ?_, ?_, ?_, ?_⟩
      · rw [am_u2_at, if_pos ⟨rfl, rfl⟩, e1, nI_1]; rfl
      · rw [am_u2_at, if_neg (by decide)]; exact s1
      · intro t ht; rw [am_u2_ne (by decide)]; exact s2 t ht
      · intro t ht; rw [am_u2_ne (by decide)]; exact s3 t ht
      · intro t ht; rw [am_u2_ne (by decide)]; exact s4 t ht
      · intro t ht; rw [am_u2_ne (by decide)]; exact s5 t ht
      · intro t ht; rw [am_u2_ne (by decide)]; exact s6 t ht
      · intro t ht; rw [am_u2_ne (by decide)]; exact s7 t ht
  · rw [oSetUp, if_neg]
    intro h2
    exact h ((lt5 (b := 4) (by omega) (by omega)).mpr h2)
/-- begin -/
def upR (A : aS) (u n : Nat) : aS := (A.1, A.2.1, aD A, fun x => if x = u then n else aR A x, aO A, aQ A, aF A)
def oBegin (G : aGl) (u : Int32) : Int32 × aGl := if hsA (gcur G) u = true then (if aR (gcur G) (cn u) < 6 then (nI (aR (gcur G) (cn u)), grec G (upR (gcur G) (cn u) (aR (gcur G) (cn u) + 1))) else (-2000003, G)) else (-2000001, G)
theorem good_upR {A : aS} {u n : Nat} (hg : good A) (hu : u < A.1) (hn : aR A u ≤ n) (h6 : n ≤ 6) : good (upR A u n) := by
  obtain ⟨h1, h2, h3, h4, h5, h6', h7⟩ := hg
  refine ⟨h1, h2, h3, fun x hx => ⟨?_, (h4 x hx).2⟩, h5, fun x hx hn => ?_, fun x r f hx hr hf hle => ?_⟩
  · show (if x = u then n else aR A x) ≤ 6
    split
    · exact h6
    · exact (h4 x hx).1
  · change A.1 ≤ x at hn
    show (if x = u then n else aR A x) = 0 ∧ aO A x = 0 ∧ aQ A x = 0
    rw [if_neg (by omega)]
    exact h6' x hx hn
  · change (if x = u then n else aR A x) ≤ r at hle
    show aF A _ = f0
    refine h7 x r f hx hr hf ?_
    by_cases e : x = u
    · rw [if_pos e] at hle
      rw [e]
      omega
    · rw [if_neg e] at hle
      exact hle
theorem m_begin {u : Int32} (hg : gG G) (hs : seeG C p G) : am_Call (d + 4) 52 [.ref 0, .int u] (am_w zN C p) (am_Ret zN (fP C (oBegin G u))) := by
  apply e_F_begin
  apply s_F_begin_0
  refine use_I m_S_hasSetUp (s_F_begin_8 ?_)
  rw [hsu_A hs.1 hg.1]
  refine ⟨fun h => ?_, fun h => leaf0 hs ?_⟩
  · rw [bI_ne] at h
    obtain ⟨n, rfl, hn⟩ := hsA_ok h hg.1
    have h4 := hg.1.1
    have h6 := (hg.1.2.2.2.1 n (by omega)).1
    have e2 : C 2 n = nI (aR (gcur G) n) := hs.1.2.2.2.1 n (by omega)
    rw [cl (by omega), e2]
    have hv := vpi (n := n) (N := 4) (by omega) (by decide)
    refine ⟨hv, fun h2 => use_rec hg hs fun C' p' hs' hf => s_F_begin_42 ?_, fun h2 => leaf0 hs ?_⟩
    · have h' := (lt5 (b := 6) (by omega) (by omega)).mp h2
      rw [cl (by omega)]
      have e1 : C' 2 n = nI (aR (gcur G) n) := hs'.1.2.2.2.1 n (by omega)
      refine ⟨hv, hv, hv, leafR hs' hf (by rw [oBegin, if_pos h, cn_nI (by omega), if_pos h']) ?_ ?_ (fr_u2 (by decide))⟩
      · rw [am_u2_at, if_pos ⟨rfl, rfl⟩, e1, nI_1, nI_pred]
      · obtain ⟨s0, s1, s2, s3, s4, s5, s6, s7⟩ := hs'.1
        refine ⟨?_, ?_, ?_, ?_, ?_, ?_, ?_, ?_⟩
        · rw [am_u2_ne (by decide)]; exact s0
        · rw [am_u2_ne (by decide)]; exact s1
        · intro t ht; rw [am_u2_ne (by decide)]; exact s2 t ht
        · intro t ht
          show am_u2 C' 2 n (C' 2 n + 1) 2 t = nI (if t = n then aR (gcur G) n + 1 else aR (gcur G) t)
          rw [am_u2_at]
          by_cases e : t = n
          · rw [if_pos ⟨rfl, e⟩, if_pos e, e1, nI_1]
          · rw [if_neg (by omega), if_neg e]
            exact s3 t ht
        · intro t ht; rw [am_u2_ne (by decide)]; exact s4 t ht
        · intro t ht; rw [am_u2_ne (by decide)]; exact s5 t ht
        · intro t ht; rw [am_u2_ne (by decide)]; exact s6 t ht
        · intro t ht; rw [am_u2_ne (by decide)]; exact s7 t ht
    · rw [oBegin, if_pos h, cn_nI (by omega), if_neg]
      intro h3
      exact h2 ((lt5 (b := 6) (by omega) (by omega)).mpr h3)
  · rw [bI_eq] at h
    rw [oBegin, if_neg (by rw [h]; decide)]
end
end
section
variable {zN : Nat}
theorem php : ∀ (n : Nat) (f : Nat → Nat), (∀ k, k ≤ n → f k < n) → ∃ j k, j < k ∧ k ≤ n ∧ f j = f k
  | 0, f, h => absurd (h 0 (Nat.le_refl _)) (Nat.not_lt_zero _)
  | n + 1, f, h => by
    by_cases hd : ∃ j, j ≤ n ∧ f j = f (n + 1)
    · obtain ⟨j, h1, h2⟩ := hd
      exact ⟨j, n + 1, by omega, Nat.le_refl _, h2⟩
    · have hd' : ∀ j, j ≤ n → f j ≠ f (n + 1) := fun j h1 h2 => hd ⟨j, h1, h2⟩
      obtain ⟨j, k, h1, h2, h3⟩ := php n (fun k => if f k = n then f (n + 1) else f k) (fun k hk => by
        have a := h k (by omega)
        have b := h (n + 1) (Nat.le_refl _)
        have c := hd' k hk
        show (if f k = n then f (n + 1) else f k) < n
        split <;> omega)
      have a := hd' j (by omega)
      have b := hd' k h2
      refine ⟨j, k, h1, by omega, ?_⟩
      change (if f j = n then f (n + 1) else f j) = (if f k = n then f (n + 1) else f k) at h3
      split at h3 <;> split at h3 <;> omega
theorem nI_inj {a b : Nat} (ha : a < 5000) (hb : b < 5000) (h : nI a = nI b) : a = b := (eq5 ha hb).mp h
theorem fok_room {f : aFace} {t : Nat} (h : fok f) (ht : t < 6) (hp : plc f (nI t) = none) : f.1 < 6 := by
  obtain ⟨a, b, c, e, g⟩ := h
  have hno : ∀ k, k < f.1 → f.2.1 k ≠ nI t := fun k hk => fd_none hp k (Nat.zero_le _) (by omega)
  by_cases h6 : f.1 < 6
  · exact h6
  · exfalso
    have h6' : f.1 = 6 := by omega
    obtain ⟨j, k, h1, h2, h3⟩ := php 6 (fun k => if k < 6 then (f.2.1 k).toNatClampNeg else t) (fun k hk => by
      show (if k < 6 then (f.2.1 k).toNatClampNeg else t) < 6
      split
      · obtain ⟨x, hx, hx2⟩ := e k (by omega)
        rw [hx2, cl (by omega)]
        exact hx
      · exact ht)
    change (if j < 6 then (f.2.1 j).toNatClampNeg else t) = (if k < 6 then (f.2.1 k).toNatClampNeg else t) at h3
    rw [if_pos (by omega)] at h3
    obtain ⟨x, hx, hx2⟩ := e j (by omega)
    rw [hx2, cl (by omega)] at h3
    by_cases hk6 : k < 6
    · rw [if_pos hk6] at h3
      obtain ⟨y, hy, hy2⟩ := e k (by omega)
      rw [hy2, cl (by omega)] at h3
      have := g j k (by omega) (by omega) (by rw [hx2, hy2, h3])
      omega
    · rw [if_neg hk6] at h3
      exact hno j (by omega) (by rw [hx2, h3])
def rwx (u r f : Int32) : Nat := (cn u * 6 + cn r) * 2 + cn f
theorem rwx_nI {u r f : Nat} (hu : u < 4) (hr : r < 6) (hf : f < 2) : rwx (nI u) (nI r) (nI f) = (u * 6 + r) * 2 + f := by
  rw [rwx, cn_nI (by omega), cn_nI (by omega), cn_nI (by omega)]
theorem bf {b : Bool} (h : ¬ b = false) : b = true := by cases b <;> simp_all
theorem bt {b : Bool} (h : ¬ b = true) : b = false := by cases b <;> simp_all
/-- point -/
def oPoint (G : aGl) (u r t f rd : Int32) : Int32 × aGl := if hrA (gcur G) u r = false then (-2000001, G) else if isT t = false then (-2000001, G) else if isFc f = false then (-2000002, G) else if isRd rd = false then (-2000002, G) else if (aF (gcur G) (rwx u r f)).2.2.2.2 = -1 ∧ plc (aF (gcur G) (rwx u r f)) t = none then (nI ((aF (gcur G) (rwx u r f)).1 + 1), grec G (upF (gcur G) (rwx u r f) (fadd (aF (gcur G) (rwx u r f)) t rd))) else (-2000004, G)
/-- close -/
def oClose (G : aGl) (u r f x : Int32) : Int32 × aGl := if hrA (gcur G) u r = false then (-2000001, G) else if isFc f = false then (-2000002, G) else if isRd x = false then (-2000002, G) else if (aF (gcur G) (rwx u r f)).2.2.2.2 = -1 ∧ (aF (gcur G) (rwx u r f)).1 ≠ 0 then (nr (x - (aF (gcur G) (rwx u r f)).2.2.1 0), grec G (upF (gcur G) (rwx u r f) (fclo (aF (gcur G) (rwx u r f)) x))) else (-2000004, G)
/-- how many are struck in a round -/
def skR (A : aS) (u r : Int32) : Nat := skn (aF A (rwx u r 0)) + skn (aF A (rwx u r 1))
/-- strike -/
def oStrike (G : aGl) (u r t f v : Int32) : Int32 × aGl := if hrA (gcur G) u r = false then (-2000001, G) else if isFc f = false then (-2000002, G) else match plc (aF (gcur G) (rwx u r f)) t with
  | none => (-2000001, G)
  | some k => if (aF (gcur G) (rwx u r f)).2.2.2.1 k = v then (-2000005, G) else (nI (skR (upF (gcur G) (rwx u r f) (fstr (aF (gcur G) (rwx u r f)) k v)) u r), grec G (upF (gcur G) (rwx u r f) (fstr (aF (gcur G) (rwx u r f)) k v)))
section
variable {d : Nat} {C : Nat → Nat → Int32} {p : Nat → Option Nat} {G : aGl}
theorem m_point {u r t f rd : Int32} (hg : gG G) (hs : seeG C p G) : am_Call (d + 4) 53 [.ref 0, .int u, .int r, .int t, .int f, .int rd] (am_w zN C p) (am_Ret zN (fP C (oPoint G u r t f rd))) := by
  apply e_F_point
  apply s_F_point_0
  refine use_I (m_S_hasRound (C10_4 hs.1 hg.1)) (s_F_point_9 ?_)
  rw [hrd_A hs.1 hg.1]
  refine ⟨fun h => leaf0 hs (by rw [oPoint, if_pos (bI_eq.mp h)]), fun h1 => use_I m_F_isTarget (s_F_point_16 ⟨fun h2 => use_I m_F_isFace (s_F_point_27 ⟨fun h => leaf0 hs ?_, fun h3 => use_I m_F_isReading (s_F_point_35 ⟨fun h4 => ?_, fun h => leaf0 hs ?_⟩)⟩), fun h => leaf0 hs ?_⟩)⟩
  · rw [bI_ne] at h1 h2
    rw [oPoint, if_neg (by rw [h1]; decide), if_neg (by rw [h2]; decide), if_pos (bI_eq.mp h)]
  · rw [bI_ne] at h1 h2 h3 h4
    have E : oPoint G u r t f rd = if (aF (gcur G) (rwx u r f)).2.2.2.2 = -1 ∧ plc (aF (gcur G) (rwx u r f)) t = none then (nI ((aF (gcur G) (rwx u r f)).1 + 1), grec G (upF (gcur G) (rwx u r f) (fadd (aF (gcur G) (rwx u r f)) t rd))) else (-2000004, G) := by
      rw [oPoint, if_neg (by rw [h1]; decide), if_neg (by rw [h2]; decide), if_neg (by rw [h3]; decide), if_neg (by rw [h4]; decide)]
    obtain ⟨un, rn, rfl, hu1, hu, rfl, hr1, hr⟩ := hrA_ok h1 hg.1
    obtain ⟨tn, rfl, ht⟩ := isT_ok h2
    obtain ⟨fn, rfl, hf⟩ := isFc_ok h3
    rw [rwx_nI hu hr hf] at E
    have hrow : (un * 6 + rn) * 2 + fn < 48 := by omega
    refine use_I m_F_rowOf (s_F_point_48 (use_I (m_S_canTake hrow (sees_cok hs.1 hg.1 hrow)) (s_F_point_60 ⟨fun h5 => ?_, fun h5 => leaf0 hs ?_⟩)))
    · rw [bI_ne, decide_eq_true_eq, sees_f hs.1 hrow] at h5
      rw [if_pos h5] at E
      have hro := fok_room (hg.1.2.2.2.2.1 _ hrow) ht h5.2
      refine use_rec hg hs fun C' p' hs' hf' => s_F_point_77 (use_V (m_S_add hrow (face_n hs'.1 hrow) hro) (s_F_point_89 ?_))
      rw [cl (by omega)]
      have hs2 : sees 1 C' (gcur G) := hs'.1
      refine ⟨vpi hrow (by decide), leafR hs' hf' E ?_ (sees_add hs2 hg.1 hrow hro) (fun x hx => ?_)⟩
      · simp [addC, am_u2_at]; rfl
      · rw [addC, am_u2_ne (by omega), am_u2_ne (by omega), am_u2_ne (by omega), am_u2_ne (by omega)]
    · rw [bI_eq, decide_eq_false_iff_not, sees_f hs.1 hrow] at h5
      rw [E, if_neg h5]
  · rw [bI_ne] at h1 h2 h3
    rw [oPoint, if_neg (by rw [h1]; decide), if_neg (by rw [h2]; decide), if_neg (by rw [h3]; decide), if_pos (bI_eq.mp h)]
  · rw [bI_ne] at h1
    rw [oPoint, if_neg (by rw [h1]; decide), if_pos (bI_eq.mp h)]
theorem m_close {u r f x : Int32} (hg : gG G) (hs : seeG C p G) : am_Call (d + 4) 55 [.ref 0, .int u, .int r, .int f, .int x] (am_w zN C p) (am_Ret zN (fP C (oClose G u r f x))) := by
  apply e_F_close
  apply s_F_close_0
  refine use_I (m_S_hasRound (C10_4 hs.1 hg.1)) (s_F_close_9 ?_)
  rw [hrd_A hs.1 hg.1]
  refine ⟨fun h1 => use_I m_F_isFace (s_F_close_19 ⟨fun h => leaf0 hs ?_, fun h3 => use_I m_F_isReading (s_F_close_27 ⟨fun h4 => ?_, fun h => leaf0 hs ?_⟩)⟩), fun h => leaf0 hs (by rw [oClose, if_pos (bI_eq.mp h)])⟩
  · rw [bI_ne] at h1
    rw [oClose, if_neg (by rw [h1]; decide), if_pos (bI_eq.mp h)]
  · rw [bI_ne] at h1 h3 h4
    have E : oClose G u r f x = if (aF (gcur G) (rwx u r f)).2.2.2.2 = -1 ∧ (aF (gcur G) (rwx u r f)).1 ≠ 0 then (nr (x - (aF (gcur G) (rwx u r f)).2.2.1 0), grec G (upF (gcur G) (rwx u r f) (fclo (aF (gcur G) (rwx u r f)) x))) else (-2000004, G) := by
      rw [oClose, if_neg (by rw [h1]; decide), if_neg (by rw [h3]; decide), if_neg (by rw [h4]; decide)]
    obtain ⟨un, rn, rfl, hu1, hu, rfl, hr1, hr⟩ := hrA_ok h1 hg.1
    obtain ⟨fn, rfl, hf⟩ := isFc_ok h3
    rw [rwx_nI hu hr hf] at E
    have hrow : (un * 6 + rn) * 2 + fn < 48 := by omega
    have h6 := (hg.1.2.2.2.2.1 _ hrow).1
    refine use_I m_F_rowOf (s_F_close_39 (use_I (m_S_isClosed hrow) (s_F_close_50 ?_)))
    rw [cl (by omega), face_n hs.1 hrow, sees_f hs.1 hrow]
    refine ⟨fun h5 => leaf0 hs ?_, fun h5 => ⟨vpi hrow (by decide), fun h7 => ?_, fun h7 => leaf0 hs ?_⟩⟩
    · rw [bI_ne, decide_eq_true_eq] at h5
      rw [E, if_neg (fun hh => h5 hh.1)]
    · rw [bI_eq, decide_eq_false_iff_not, Classical.not_not] at h5
      have hne : (aF (gcur G) ((un * 6 + rn) * 2 + fn)).1 ≠ 0 := fun e => h7 (by rw [e]; rfl)
      rw [if_pos ⟨h5, hne⟩] at E
      refine use_rec hg hs fun C' p' hs' hf' => s_F_close_80 ?_
      rw [cl (by omega)]
      have hs2 : sees 1 C' (gcur G) := hs'.1
      have e9 : am_u2 C' 7 ((un * 6 + rn) * 2 + fn) x 9 (((un * 6 + rn) * 2 + fn) * 6) = (aF (gcur G) ((un * 6 + rn) * 2 + fn)).2.2.1 0 := by
        rw [am_u2_ne (by decide)]
        exact (face_k (k := 0) hs2 hrow (by omega)).2.1
      refine ⟨vpi hrow (by decide), use_I (m_S_driftOf hrow) (s_F_close_101 (leafR hs' hf' E ?_ (sees_clo hs2 hg.1 hrow) (fr_u2 (by decide))))⟩
      rw [e9, am_u2_at, if_pos ⟨rfl, rfl⟩]
    · rw [E, if_neg]
      intro hh
      have := nI_inj (b := 0) (by omega) (by omega) h7
      exact hh.2 this
  · rw [bI_ne] at h1 h3
    rw [oClose, if_neg (by rw [h1]; decide), if_neg (by rw [h3]; decide), if_pos (bI_eq.mp h)]
theorem m_strike {u r t f v : Int32} (hv : v = 0 ∨ v = 1) (hg : gG G) (hs : seeG C p G) : am_Call (d + 4) 56 [.ref 0, .int u, .int r, .int t, .int f, .int v] (am_w zN C p) (am_Ret zN (fP C (oStrike G u r t f v))) := by
  apply e_F_strike
  apply s_F_strike_0
  refine use_I (m_S_hasRound (C10_4 hs.1 hg.1)) (s_F_strike_9 ?_)
  rw [hrd_A hs.1 hg.1]
  refine ⟨fun h1 => use_I m_F_isFace (s_F_strike_20 ⟨fun h3 => ?_, fun h => leaf0 hs ?_⟩), fun h => leaf0 hs (by rw [oStrike, if_pos (bI_eq.mp h)])⟩
  · rw [bI_ne] at h1 h3
    have E : oStrike G u r t f v = match plc (aF (gcur G) (rwx u r f)) t with
        | none => (-2000001, G)
        | some k => if (aF (gcur G) (rwx u r f)).2.2.2.1 k = v then (-2000005, G) else (nI (skR (upF (gcur G) (rwx u r f) (fstr (aF (gcur G) (rwx u r f)) k v)) u r), grec G (upF (gcur G) (rwx u r f) (fstr (aF (gcur G) (rwx u r f)) k v))) := by
      rw [oStrike, if_neg (by rw [h1]; decide), if_neg (by rw [h3]; decide)]
    obtain ⟨un, rn, rfl, hu1, hu, rfl, hr1, hr⟩ := hrA_ok h1 hg.1
    obtain ⟨fn, rfl, hf⟩ := isFc_ok h3
    have e0 : rwx (nI un) (nI rn) 0 = (un * 6 + rn) * 2 := rwx_nI (f := 0) hu hr (by decide)
    have e1 : rwx (nI un) (nI rn) 1 = (un * 6 + rn) * 2 + 1 := rwx_nI (f := 1) hu hr (by decide)
    rw [rwx_nI hu hr hf] at E
    simp only [skR, e0, e1] at E
    have hrow : (un * 6 + rn) * 2 + fn < 48 := by omega
    have hfk := hg.1.2.2.2.2.1 _ hrow
    refine use_I m_F_rowOf (s_F_strike_33 (use_I (m_S_placeOf hrow (sees_cok hs.1 hg.1 hrow)) (s_F_strike_45 ?_)))
    rw [sees_f hs.1 hrow]
    cases hp : plc (aF (gcur G) ((un * 6 + rn) * 2 + fn)) t with
    | none =>
      rw [hp] at E
      exact ⟨fun h => absurd rfl h, fun _ => leaf0 hs E⟩
    | some k =>
      rw [hp] at E
      have hk := (plc_lt hp).1
      have h6 := hfk.1
      simp only [oI]
      rw [ix6, cl (by omega)]
      have hv2 := vpi (n := ((un * 6 + rn) * 2 + fn) * 6 + k) (N := 288) (by omega) (by decide)
      refine ⟨fun _ => ⟨hv2, ?_⟩, fun h => absurd h (nI_ne (by omega)).1⟩
      rw [(face_k hs.1 hrow hk).2.2]
      refine ⟨fun h => use_rec hg hs fun C' p' hs' hf' => s_F_strike_91 ?_, fun h => leaf0 hs (by rw [E]; simp only [if_pos h])⟩
      simp only [if_neg h] at E
      rw [ix6, cl (by omega), nar01 hv]
      have hs2 : sees 1 C' (gcur G) := hs'.1
      have hs3 := sees_str hs2 hg.1 hrow hk hv
      have hg3 := good_upF hg.1 hu hr1 hf (fok_fstr (j := k) hfk hv)
      refine ⟨hv2, use_I (m_S_struckInRound (by omega) (sees_cok hs3 hg3 (by omega)) (sees_cok hs3 hg3 (by omega))) (s_F_strike_118 (leafR hs' hf' E ?_ hs3 (fr_u2 (by decide))))⟩
      rw [sees_f hs3 (by omega), sees_f hs3 (by omega)]
  · rw [bI_ne] at h1
    rw [oStrike, if_neg (by rw [h1]; decide), if_pos (bI_eq.mp h)]
end
end
section
variable {zN : Nat}
def rb (lo hi : Int) (x : Int32) : Bool := decide (lo ≤ x.toInt ∧ x.toInt ≤ hi)
theorem rb_rg {lo hi : Int} {x : Int32} (h : rb lo hi x = true) : rg lo hi x := by
  simp only [rb, decide_eq_true_eq] at h
  exact h
theorem rb_t {lo hi : Int} {x : Int32} (h1 : lo ≤ x.toInt) (h2 : x.toInt ≤ hi) : rb lo hi x = true := decide_eq_true ⟨h1, h2⟩
theorem rb_f {lo hi : Int} {x : Int32} (h1 : x.toInt < lo ∨ hi < x.toInt) : rb lo hi x = false := decide_eq_false (by omega)
def upL (A : aS) (x : Int32) : aS := (A.1, x, aD A, aR A, aO A, aQ A, aF A)
def upD (A : aS) (t : Nat) (x : Int32) : aS := (A.1, A.2.1, fun k => if k = t then x else aD A k, aR A, aO A, aQ A, aF A)
def upC (A : aS) (u : Nat) (x y : Int32) : aS := (A.1, A.2.1, aD A, aR A, fun k => if k = u then x else aO A k, fun k => if k = u then y else aQ A k, aF A)
theorem good_upL {A : aS} {x : Int32} (hg : good A) (h : rg 1 600 x) : good (upL A x) := ⟨hg.1, h, hg.2.2⟩
theorem good_upD {A : aS} {t : Nat} {x : Int32} (hg : good A) (h : rg 1 9999 x) : good (upD A t x) := by
  refine ⟨hg.1, hg.2.1, fun k hk => ?_, hg.2.2.2⟩
  show rg 1 9999 (if k = t then x else aD A k)
  split
  · exact h
  · exact hg.2.2.1 k hk
theorem good_upC {A : aS} {u : Nat} {x y : Int32} (hg : good A) (hu : u < A.1) (h : rg 0 99 x) (h2 : rg 0 23 y) : good (upC A u x y) := by
  refine ⟨hg.1, hg.2.1, hg.2.2.1, fun k hk => ⟨(hg.2.2.2.1 k hk).1, ?_, ?_⟩, hg.2.2.2.2.1, fun k hk hn => ?_, hg.2.2.2.2.2.2⟩
  · show rg 0 99 (if k = u then x else aO A k)
    split
    · exact h
    · exact (hg.2.2.2.1 k hk).2.1
  · show rg 0 23 (if k = u then y else aQ A k)
    split
    · exact h2
    · exact (hg.2.2.2.1 k hk).2.2
  · change A.1 ≤ k at hn
    show aR A k = 0 ∧ (if k = u then x else aO A k) = 0 ∧ (if k = u then y else aQ A k) = 0
    rw [if_neg (by omega), if_neg (by omega)]
    exact hg.2.2.2.2.2.1 k hk hn
def oSetLimit (G : aGl) (x : Int32) : Int32 × aGl := if rb 1 600 x = false then (-2000002, G) else if (gcur G).2.1 = x then (-2000005, G) else ((gcur G).2.1, grec G (upL (gcur G) x))
def oCentre (G : aGl) (u x y : Int32) : Int32 × aGl := if hsA (gcur G) u = false then (-2000001, G) else if rb 0 99 x = false ∨ rb 0 23 y = false then (-2000002, G) else if aO (gcur G) (cn u) = x ∧ aQ (gcur G) (cn u) = y then (-2000005, G) else (aO (gcur G) (cn u) * 100 + aQ (gcur G) (cn u), grec G (upC (gcur G) (cn u) x y))
def oSetDistance (G : aGl) (t x : Int32) : Int32 × aGl := if isT t = false then (-2000001, G) else if rb 1 9999 x = false then (-2000002, G) else if aD (gcur G) (cn t) = x then (-2000005, G) else (aD (gcur G) (cn t), grec G (upD (gcur G) (cn t) x))
def gtx (G : aGl) (n : Nat) (ch : Nat → Int32) : aGl := (gcur G, gkep G, gsnp G, ghis G, (n, ch))
def oType (G : aGl) (x : Int32) : Int32 × aGl := if (gtxt G).1 < 60 then (nI ((gtxt G).1 + 1), gtx G ((gtxt G).1 + 1) (fun k => if k = (gtxt G).1 then vp_nar .char x else (gtxt G).2 k)) else (-2000003, G)
def oClear (G : aGl) : Int32 × aGl := (nI (gtxt G).1, gtx G 0 (gtxt G).2)
def oUndo (G : aGl) : Int32 × aGl := if (ghis G).1 = 0 then (-2000005, G) else (nI ((ghis G).1 - 1), ((ghis G).2 ((ghis G).1 - 1), gkep G, gsnp G, ((ghis G).1 - 1, (ghis G).2), gtxt G))
def oKeep (G : aGl) : Int32 × aGl := (nI (gcur G).1, (gcur G, true, gcur G, ghis G, gtxt G))
def oRestore (G : aGl) : Int32 × aGl := if gkep G = false then (-2000005, G) else (nI (gsnp G).1, grec G (gsnp G))
section
variable {d : Nat} {C : Nat → Nat → Int32} {p : Nat → Option Nat} {G : aGl}
theorem c_1 : (1 : Int32).toInt = 1 := by decide
theorem c_600 : (600 : Int32).toInt = 600 := by decide
theorem c_99 : (99 : Int32).toInt = 99 := by decide
theorem c_24 : (24 : Int32).toInt = 24 := by decide
theorem c_9999 : (9999 : Int32).toInt = 9999 := by decide
theorem m_setLimit {x : Int32} (hg : gG G) (hs : seeG C p G) : am_Call (d + 4) 59 [.ref 0, .int x] (am_w zN C p) (am_Ret zN (fP C (oSetLimit G x))) := by
  apply e_F_setLimit
  apply s_F_setLimit_0
  rw [show C 1 1 = (gcur G).2.1 from hs.1.2.1, Int32.lt_iff_toInt_lt, Int32.le_iff_toInt_le, c_1, c_600]
  refine ⟨fun h => leaf0 hs ?_, fun h => ⟨fun h2 => ⟨fun h3 => use_rec hg hs fun C' p' hs' hf => s_F_setLimit_42 ?_, fun h3 => leaf0 hs ?_⟩, fun h2 => leaf0 hs ?_⟩⟩
  · rw [oSetLimit, if_pos (rb_f (by omega))]
  · refine leafR hs' hf (A := upL (gcur G) x) (by rw [oSetLimit, if_neg (by rw [rb_t (by omega) (by omega)]; decide), if_neg h3]) rfl ?_ (fr_u2 (by decide))
    obtain ⟨s0, s1, s2, s3, s4, s5, s6, s7⟩ := hs'.1
    refine ⟨?_, ?_, ?_, ?_, ?_, ?_, ?_, ?_⟩
    · rw [am_u2_at, if_neg (by decide)]; exact s0
    · rw [am_u2_at, if_pos ⟨rfl, rfl⟩]; rfl
    · intro t ht; rw [am_u2_ne (by decide)]; exact s2 t ht
    · intro t ht; rw [am_u2_ne (by decide)]; exact s3 t ht
    · intro t ht; rw [am_u2_ne (by decide)]; exact s4 t ht
    · intro t ht; rw [am_u2_ne (by decide)]; exact s5 t ht
    · intro t ht; rw [am_u2_ne (by decide)]; exact s6 t ht
    · intro t ht; rw [am_u2_ne (by decide)]; exact s7 t ht
  · rw [oSetLimit, if_neg (by rw [rb_t (by omega) (by omega)]; decide), if_pos h3]
  · rw [oSetLimit, if_pos (rb_f (by omega))]
theorem m_setDistance {t x : Int32} (hg : gG G) (hs : seeG C p G) : am_Call (d + 4) 61 [.ref 0, .int t, .int x] (am_w zN C p) (am_Ret zN (fP C (oSetDistance G t x))) := by
  apply e_F_setDistance
  apply s_F_setDistance_0
  refine use_I m_F_isTarget (s_F_setDistance_4 ⟨fun h1 => ?_, fun h1 => leaf0 hs (by rw [oSetDistance, if_pos (bI_eq.mp h1)])⟩)
  rw [bI_ne] at h1
  obtain ⟨tn, rfl, ht⟩ := isT_ok h1
  have E : oSetDistance G (nI tn) x = if rb 1 9999 x = false then (-2000002, G) else if aD (gcur G) tn = x then (-2000005, G) else (aD (gcur G) tn, grec G (upD (gcur G) tn x)) := by
    rw [oSetDistance, if_neg (by rw [h1]; decide), cn_nI (by omega)]
  rw [Int32.lt_iff_toInt_lt, Int32.le_iff_toInt_le, c_1, c_9999, cl (by omega), show C 5 tn = aD (gcur G) tn from hs.1.2.2.1 tn ht]
  have hv := vpi (n := tn) (N := 6) ht (by decide)
  refine ⟨fun h => leaf0 hs ?_, fun h => ⟨fun h2 => ⟨hv, fun h3 => use_rec hg hs fun C' p' hs' hf => s_F_setDistance_54 ?_, fun h3 => leaf0 hs ?_⟩, fun h2 => leaf0 hs ?_⟩⟩
  · rw [E, if_pos (rb_f (by omega))]
  · rw [cl (by omega)]
    refine ⟨hv, leafR hs' hf (A := upD (gcur G) tn x) (by rw [E, if_neg (by rw [rb_t (by omega) (by omega)]; decide), if_neg h3]) rfl ?_ (fr_u2 (by decide))⟩
    obtain ⟨s0, s1, s2, s3, s4, s5, s6, s7⟩ := hs'.1
    refine ⟨?_, ?_, ?_, ?_, ?_, ?_, ?_, ?_⟩
    · rw [am_u2_ne (by decide)]; exact s0
    · rw [am_u2_ne (by decide)]; exact s1
    · intro k hk
      show am_u2 C' 5 tn x 5 k = if k = tn then x else aD (gcur G) k
      rw [am_u2_at]
      by_cases e : k = tn
      · rw [if_pos ⟨rfl, e⟩, if_pos e]
      · rw [if_neg (by omega), if_neg e]
        exact s2 k hk
    · intro t ht; rw [am_u2_ne (by decide)]; exact s3 t ht
    · intro t ht; rw [am_u2_ne (by decide)]; exact s4 t ht
    · intro t ht; rw [am_u2_ne (by decide)]; exact s5 t ht
    · intro t ht; rw [am_u2_ne (by decide)]; exact s6 t ht
    · intro t ht; rw [am_u2_ne (by decide)]; exact s7 t ht
  · rw [E, if_neg (by rw [rb_t (by omega) (by omega)]; decide), if_pos h3]
  · rw [E, if_pos (rb_f (by omega))]
theorem m_centre {u x y : Int32} (hg : gG G) (hs : seeG C p G) : am_Call (d + 4) 60 [.ref 0, .int u, .int x, .int y] (am_w zN C p) (am_Ret zN (fP C (oCentre G u x y))) := by
  apply e_F_centre
  apply s_F_centre_0
  refine use_I m_S_hasSetUp (s_F_centre_8 ?_)
  rw [hsu_A hs.1 hg.1]
  refine ⟨fun h1 => ?_, fun h1 => leaf0 hs (by rw [oCentre, if_pos (bI_eq.mp h1)])⟩
  rw [bI_ne] at h1
  obtain ⟨n, rfl, hn⟩ := hsA_ok h1 hg.1
  have h4 := hg.1.1
  have E : oCentre G (nI n) x y = if rb 0 99 x = false ∨ rb 0 23 y = false then (-2000002, G) else if aO (gcur G) n = x ∧ aQ (gcur G) n = y then (-2000005, G) else (aO (gcur G) n * 100 + aQ (gcur G) n, grec G (upC (gcur G) n x y)) := by
    rw [oCentre, if_neg (by rw [h1]; decide), cn_nI (by omega)]
  rw [Int32.lt_iff_toInt_lt, Int32.lt_iff_toInt_lt, Int32.lt_iff_toInt_lt, Int32.lt_iff_toInt_lt, c_99, c_24, i32_0, cl (by omega), show C 3 n = aO (gcur G) n from hs.1.2.2.2.2.1 n (by omega), show C 4 n = aQ (gcur G) n from hs.1.2.2.2.2.2.1 n (by omega)]
  have hv := vpi (n := n) (N := 4) (by omega) (by decide)
  have fin : 0 ≤ x.toInt → x.toInt ≤ 99 → 0 ≤ y.toInt → y.toInt ≤ 23 → ¬ (aO (gcur G) n = x ∧ aQ (gcur G) n = y) → am_Cv (d + 3) 1 [.ref 21, .ref 1] (am_w zN C p) (fun w1 => am_At (d + 3 + 1) 60 none (am_Ret zN (fP C (oCentre G (nI n) x y))) 85 [some (.ref 0), some (.int (nI n)), some (.int x), some (.int y), some (.int (aO (gcur G) n)), some (.int (aQ (gcur G) n))] [] w1 (0, 0)) := by
    intro a1 a2 a3 a4 hne
    refine use_rec hg hs fun C' p' hs' hf => s_F_centre_85 ?_
    rw [cl (by omega)]
    refine ⟨hv, hv, leafR hs' hf (A := upC (gcur G) n x y) (by rw [E, if_neg (by rw [rb_t a1 a2, rb_t a3 a4]; decide), if_neg hne]) rfl ?_ (fun z hz => by rw [am_u2_ne (by omega), am_u2_ne (by omega)])⟩
    obtain ⟨s0, s1, s2, s3, s4, s5, s6, s7⟩ := hs'.1
    refine ⟨?_, ?_, ?_, ?_, ?_, ?_, ?_, ?_⟩
    · rw [am_u2_ne (by decide), am_u2_ne (by decide)]; exact s0
    · rw [am_u2_ne (by decide), am_u2_ne (by decide)]; exact s1
    · intro t ht; rw [am_u2_ne (by decide), am_u2_ne (by decide)]; exact s2 t ht
    · intro t ht; rw [am_u2_ne (by decide), am_u2_ne (by decide)]; exact s3 t ht
    · intro k hk
      show am_u2 (am_u2 C' 3 n x) 4 n y 3 k = if k = n then x else aO (gcur G) k
      rw [am_u2_ne (by decide), am_u2_at]
      by_cases e : k = n
      · rw [if_pos ⟨rfl, e⟩, if_pos e]
      · rw [if_neg (by omega), if_neg e]
        exact s4 k hk
    · intro k hk
      show am_u2 (am_u2 C' 3 n x) 4 n y 4 k = if k = n then y else aQ (gcur G) k
      rw [am_u2_at]
      by_cases e : k = n
      · rw [if_pos ⟨rfl, e⟩, if_pos e]
      · rw [if_neg (by omega), if_neg e, am_u2_ne (by decide)]
        exact s5 k hk
    · intro t ht; rw [am_u2_ne (by decide), am_u2_ne (by decide)]; exact s6 t ht
    · intro t ht; rw [am_u2_ne (by decide), am_u2_ne (by decide)]; exact s7 t ht
  refine ⟨fun h => leaf0 hs ?_, fun a1 => ⟨fun h => leaf0 hs ?_, fun a2 => ⟨fun h => leaf0 hs ?_, fun a3 => ⟨fun a4 => ⟨hv, hv, fun h => fin (by omega) (by omega) (by omega) (by omega) (fun hh => h hh.1), fun h => ⟨fun h2 => fin (by omega) (by omega) (by omega) (by omega) (fun hh => h2 hh.2), fun h2 => leaf0 hs ?_⟩⟩, fun h => leaf0 hs ?_⟩⟩⟩⟩
  · rw [E, if_pos (Or.inl (rb_f (by omega)))]
  · rw [E, if_pos (Or.inl (rb_f (by omega)))]
  · rw [E, if_pos (Or.inr (rb_f (by omega)))]
  · rw [E, if_neg (by rw [rb_t (by omega) (by omega), rb_t (by omega) (by omega)]; decide), if_pos ⟨h, h2⟩]
  · rw [E, if_pos (Or.inr (rb_f (by omega)))]
theorem m_undo (hg : gG G) (hs : seeG C p G) : am_Call (d + 4) 64 [.ref 0] (am_w zN C p) (am_Ret zN (fP C (oUndo G))) := by
  apply e_F_undo
  apply s_F_undo_0
  rw [hs.2.2.2.1.1]
  have h4 := hg.2.2.1
  refine ⟨fun h => ?_, fun h => leaf0 hs ?_⟩
  · have h' : (ghis G).1 ≠ 0 := fun e => h (by rw [e]; rfl)
    obtain ⟨n, hn⟩ : ∃ n, (ghis G).1 = n + 1 := ⟨(ghis G).1 - 1, by omega⟩
    refine use_back hg hs hn fun C' hs' hf => s_F_undo_24 (leaf (e' := nI n) (by rw [oUndo, if_neg h', hn, Nat.add_sub_cancel]) hs'.2.2.2.1.1 hs' (fun z hz => hf z (by omega) (by omega)))
  · rw [oUndo, if_pos (nI_inj (b := 0) (by omega) (by omega) h)]
end
end
section
/-! wipe, clean -/
variable {zN : Nat}
def GA (A : aS) (u : Nat) : aG := fun r => (aF A ((u * 6 + r) * 2), aF A ((u * 6 + r) * 2 + 1))
theorem us_congr {G H : aG} {r t : Nat} (h : G r = H r) : us G r t = us H r t := by simp only [us, h]
theorem reR_congr {G H : aG} {r t : Nat} (h : G r = H r) : reR G r t = reR H r t := by simp only [reR, h]
theorem sgR_congr {G H : aG} {r t : Nat} (h : G r = H r) : sgR G r t = sgR H r t := by simp only [sgR, h]
theorem dst_congr {G H : aG} {t : Nat} : ∀ {N : Nat}, (∀ r, r < N → G r = H r) → dst G t N = dst H t N
  | 0, _ => rfl
  | N + 1, h => by
    unfold dst
    rw [us_congr (h N (by omega)), reR_congr (h N (by omega)), dst_congr (N := N) (fun r hr => h r (by omega))]
theorem rk_congr {G H : aG} {N : Nat} {C : Nat → Nat → Int32} (h : ∀ r, r < N → G r = H r) (hk : rk G N C) : rk H N C := by
  obtain ⟨⟨a1, a2, a3, a4⟩, b, c⟩ := hk
  refine ⟨⟨a1, a2, fun r hr => ?_, fun r t hr ht hu => ?_⟩, fun t ht => ?_, fun r t hr ht hu => ?_⟩
  · rw [a3 r hr]
    exact bs_congr (fun j _ => us_congr (h r hr))
  · rw [← us_congr (h r hr)] at hu
    rw [← reR_congr (h r hr), ← sgR_congr (h r hr)]
    exact a4 r t hr ht hu
  · rw [b t ht]
    simp only [dirO, dst_congr h]
  · rw [← us_congr (h r hr)] at hu
    rw [c r t hr ht hu]
    simp only [lef, dirI, dst_congr h, reR_congr (h r hr)]
def remA (A : aS) (row : Nat) (t : Int32) : aS := match plc (aF A row) t with
  | none => A
  | some k => upF A row (frem (aF A row) k)
def stkA (A : aS) (row : Nat) (t : Int32) : aS := match plc (aF A row) t with
  | none => A
  | some k => upF A row (fstr (aF A row) k 1)
def blk (f : aFace) (t : Int32) : Bool := decide (plc f t = some 0 ∧ f.2.2.2.2 ≠ -1)
def hs1 (f : aFace) (t : Int32) : Nat := if (plc f t).isSome then 1 else 0
def oWipe (G : aGl) (u r t : Int32) : Int32 × aGl := if hrA (gcur G) u r = false then (-2000001, G) else if isT t = false then (-2000001, G) else if blk (aF (gcur G) (rwx u r 0)) t = true ∨ blk (aF (gcur G) (rwx u r 1)) t = true then (-2000004, G) else if hs1 (aF (gcur G) (rwx u r 0)) t + hs1 (aF (gcur G) (rwx u r 1)) t = 0 then (-2000005, G) else (nI (hs1 (aF (gcur G) (rwx u r 0)) t + hs1 (aF (gcur G) (rwx u r 1)) t), grec G (remA (remA (gcur G) (rwx u r 0) t) (rwx u r 1) t))
def wrA (A : aS) (u : Nat) : Option (Nat × Nat) := (wR (GA A u) (aR A u) A.2.1 (aR A u)).1
def clnL (u : Nat) : Nat → aS → Nat × aS
  | 0, A => (0, A)
  | m + 1, A => match wrA A u with
    | none => (0, A)
    | some x => ((clnL u m (stkA (stkA A ((u * 6 + x.1) * 2) (nI x.2)) ((u * 6 + x.1) * 2 + 1) (nI x.2))).1 + 1, (clnL u m (stkA (stkA A ((u * 6 + x.1) * 2) (nI x.2)) ((u * 6 + x.1) * 2 + 1) (nI x.2))).2)
def oClean (G : aGl) (u : Int32) : Int32 × aGl := if hsA (gcur G) u = false then (-2000001, G) else match wrA (gcur G) (cn u) with
  | none => (-2000005, G)
  | some _ => (nI (clnL (cn u) 36 (gcur G)).1, grec G (clnL (cn u) 36 (gcur G)).2)
theorem remA_aR {A : aS} {row : Nat} {t : Int32} : aR (remA A row t) = aR A := by
  unfold remA
  split <;> rfl
theorem stkA_aR {A : aS} {row : Nat} {t : Int32} : aR (stkA A row t) = aR A := by
  unfold stkA
  split <;> rfl
theorem stkA_N {A : aS} {row : Nat} {t : Int32} : (stkA A row t).1 = A.1 := by
  unfold stkA
  split <;> rfl
theorem remA_ne {A : aS} {row row' : Nat} {t : Int32} (h : row' ≠ row) : aF (remA A row t) row' = aF A row' := by
  unfold remA
  split
  · rfl
  · exact if_neg h
theorem good_remA {A : aS} {u r f : Nat} {t : Int32} (hg : good A) (hu : u < 4) (hr : r < aR A u) (hf : f < 2) (hb : blk (aF A ((u * 6 + r) * 2 + f)) t = false) : good (remA A ((u * 6 + r) * 2 + f) t) := by
  have h6 := (hg.2.2.2.1 u hu).1
  have hk := hg.2.2.2.2.1 ((u * 6 + r) * 2 + f) (by omega)
  cases hp : plc (aF A ((u * 6 + r) * 2 + f)) t with
  | none => simp only [remA, hp]; exact hg
  | some k =>
    simp only [remA, hp]
    refine good_upF hg hu hr hf (fok_frem hk (plc_lt hp).1 (fun hx h0 => ?_))
    rw [blk, decide_eq_false_iff_not] at hb
    exact hb ⟨by rw [hp, h0], hx⟩
theorem good_stkA {A : aS} {u r f : Nat} {t : Int32} (hg : good A) (hu : u < 4) (hr : r < aR A u) (hf : f < 2) : good (stkA A ((u * 6 + r) * 2 + f) t) := by
  have h6 := (hg.2.2.2.1 u hu).1
  have hk := hg.2.2.2.2.1 ((u * 6 + r) * 2 + f) (by omega)
  cases hp : plc (aF A ((u * 6 + r) * 2 + f)) t with
  | none => simp only [stkA, hp]; exact hg
  | some k =>
    simp only [stkA, hp]
    exact good_upF hg hu hr hf (fok_fstr hk (Or.inr rfl))
def remC (C : Nat → Nat → Int32) (row : Nat) (t : Int32) : Nat → Nat → Int32 := match plc (fS 1 C row) t with
  | some k => rmvC C row (fS 1 C row).1 k
  | none => C
theorem m_S_remove' {d : Nat} {C : Nat → Nat → Int32} {p : Nat → Option Nat} {row : Nat} {t : Int32} (hr : row < 48) (hc : cok 1 C row) : cV zN (d + 2) 38 [.ref 1, .int (nI row), .int t] C p (remC C row t) p := m_S_remove hr hc
theorem sees_remA {C : Nat → Nat → Int32} {A : aS} {row : Nat} {t : Int32} (hs : sees 1 C A) (hg : good A) (hr : row < 48) : sees 1 (remC C row t) (remA A row t) := by
  unfold remC
  rw [sees_f hs hr]
  cases hp : plc (aF A row) t with
  | none => simp only [remA, hp]; exact hs
  | some k =>
    simp only [remA, hp]
    exact sees_rem hs hg hr (plc_lt hp).1
theorem sees_stkA {C : Nat → Nat → Int32} {A : aS} {row : Nat} {t : Int32} (hs : sees 1 C A) (hg : good A) (hr : row < 48) : sees 1 (stkC C row t) (stkA A row t) := by
  unfold stkC
  rw [sees_f hs hr]
  cases hp : plc (aF A row) t with
  | none => simp only [stkA, hp]; exact hs
  | some k =>
    simp only [stkA, hp]
    exact sees_str hs hg hr (plc_lt hp).1 (Or.inr rfl)
theorem fr_rem {C : Nat → Nat → Int32} {row : Nat} {t : Int32} {x : Nat} (hx : x = 0 ∨ 11 ≤ x) : remC C row t x = C x := by
  unfold remC
  cases plc (fS 1 C row) t with
  | none => rfl
  | some k =>
    funext i
    show rmvC C row (fS 1 C row).1 k x i = C x i
    unfold rmvC shf
    rw [if_neg (by omega), am_u2_ne (by omega)]
theorem fr_stk {C : Nat → Nat → Int32} {row : Nat} {t : Int32} {x : Nat} (hx : x = 0 ∨ 11 ≤ x) : stkC C row t x = C x := by
  unfold stkC
  cases plc (fS 1 C row) t with
  | none => rfl
  | some k => exact am_u2_ne (by omega)
theorem div6 : ∀ r, r < 6 → ∀ t, t < 6 → nI (r * 6 + t) / 6 = nI r ∧ nI (r * 6 + t) - nI (r * 6 + t) / 6 * 6 = nI t := by decide +kernel
section
variable {d : Nat} {C : Nat → Nat → Int32} {p : Nat → Option Nat} {G : aGl}
theorem use_reckon {u : Nat} {A : aS} {K : aW → Prop} (hs : sees 1 C A) (hg : good A) (hu : u < A.1) (hk : ∀ C', agR C' C → rk (GA A u) (aR A u) C' → K (am_w zN C' p)) : am_Cv (d + 5) 14 [.ref 68, .ref 1, .int (nI u)] (am_w zN C p) K := by
  have h4 := hg.1
  have h6 := (hg.2.2.2.1 u (by omega)).1
  refine use_VP (m_R_reckon (u := u) (N := aR A u) (by omega) (hs.2.2.2.1 u (by omega)) h6 (fun r f hr hf => sees_cok hs hg (by omega))) (fun C' hR => hk C' hR.1 (rk_congr (fun r hr => ?_) hR.2))
  simp only [Gc, GA]
  rw [sees_f hs (by omega), sees_f hs (by omega)]
theorem m_wipe {u r t : Int32} (hg : gG G) (hs : seeG C p G) : am_Call (d + 4) 57 [.ref 0, .int u, .int r, .int t] (am_w zN C p) (am_Ret zN (fP C (oWipe G u r t))) := by
  apply e_F_wipe
  apply s_F_wipe_0
  refine use_I (m_S_hasRound (C10_4 hs.1 hg.1)) (s_F_wipe_9 ?_)
  rw [hrd_A hs.1 hg.1]
  refine ⟨fun h => leaf0 hs (by rw [oWipe, if_pos (bI_eq.mp h)]), fun h1 => use_I m_F_isTarget (s_F_wipe_16 ⟨fun h2 => ?_, fun h2 => leaf0 hs ?_⟩)⟩
  · rw [bI_ne] at h1 h2
    have E : oWipe G u r t = if blk (aF (gcur G) (rwx u r 0)) t = true ∨ blk (aF (gcur G) (rwx u r 1)) t = true then (-2000004, G) else if hs1 (aF (gcur G) (rwx u r 0)) t + hs1 (aF (gcur G) (rwx u r 1)) t = 0 then (-2000005, G) else (nI (hs1 (aF (gcur G) (rwx u r 0)) t + hs1 (aF (gcur G) (rwx u r 1)) t), grec G (remA (remA (gcur G) (rwx u r 0) t) (rwx u r 1) t)) := by
      rw [oWipe, if_neg (by rw [h1]; decide), if_neg (by rw [h2]; decide)]
    obtain ⟨un, rn, rfl, hu1, hu, rfl, hr1, hr⟩ := hrA_ok h1 hg.1
    have e0 : rwx (nI un) (nI rn) 0 = (un * 6 + rn) * 2 + 0 := rwx_nI (f := 0) hu hr (by decide)
    have e1 : rwx (nI un) (nI rn) 1 = (un * 6 + rn) * 2 + 1 := rwx_nI (f := 1) hu hr (by decide)
    simp only [e0, e1] at E
    have hh : ∀ f : aFace, hs1 f t ≤ 1 := fun f => by unfold hs1; split <;> omega
    -- one face's check
    have one : ∀ (f a : Nat) (o6 o7 : Option Value), f < 2 → a < 5 → (blk (aF (gcur G) ((un * 6 + rn) * 2 + f)) t = true → oWipe G (nI un) (nI rn) t = (-2000004, G)) →
        (blk (aF (gcur G) ((un * 6 + rn) * 2 + f)) t = false → ∀ o6' o7', am_At (d + 4) 57 none (am_Ret zN (fP C (oWipe G (nI un) (nI rn) t))) 28 [some (.ref 0), some (.int (nI un)), some (.int (nI rn)), some (.int t), some (.int (nI (a + hs1 (aF (gcur G) ((un * 6 + rn) * 2 + f)) t))), some (.int (nI (f + 1))), o6', o7'] [] (am_w zN C p) (0, 0)) →
        am_At (d + 4) 57 none (am_Ret zN (fP C (oWipe G (nI un) (nI rn) t))) 28 [some (.ref 0), some (.int (nI un)), some (.int (nI rn)), some (.int t), some (.int (nI a)), some (.int (nI f)), o6, o7] [] (am_w zN C p) (0, 0) := by
      intro f a o6 o7 hf ha hbad hk
      have hrow : (un * 6 + rn) * 2 + f < 48 := by omega
      have hn6 := (hg.1.2.2.2.2.1 _ hrow).1
      apply s_F_wipe_28
      refine ⟨fun h => absurd ((le5 (a := 2) (b := f) (by omega) (by omega)).mp h) (by omega), fun _ => use_I m_F_rowOf (s_F_wipe_41 (use_I (m_S_placeOf hrow (sees_cok hs.1 hg.1 hrow)) ?_))⟩
      rw [sees_f hs.1 hrow]
      have nxt75 : blk (aF (gcur G) ((un * 6 + rn) * 2 + f)) t = false → am_At (d + 4) 57 none (am_Ret zN (fP C (oWipe G (nI un) (nI rn) t))) 75 [some (.ref 0), some (.int (nI un)), some (.int (nI rn)), some (.int t), some (.int (nI a)), some (.int (nI f)), some (.int (nI ((un * 6 + rn) * 2 + f))), some (.int (oI (-1) (plc (aF (gcur G) ((un * 6 + rn) * 2 + f)) t)))] [] (am_w zN C p) (0, 0) := by
        intro hb
        have hk' := hk hb
        apply s_F_wipe_75
        rw [plc_m1 hn6, nI_1, nI_1]
        refine ⟨fun h => ?_, fun h => ?_⟩
        · have e : hs1 (aF (gcur G) ((un * 6 + rn) * 2 + f)) t = 0 := by simp [hs1, h]
          rw [e] at hk'
          exact hk' _ _
        · have e : hs1 (aF (gcur G) ((un * 6 + rn) * 2 + f)) t = 1 := by
            cases hp : plc (aF (gcur G) ((un * 6 + rn) * 2 + f)) t with
            | none => exact absurd hp h
            | some k => simp [hs1, hp]
          rw [e] at hk'
          exact hk' _ _
      apply s_F_wipe_53
      refine ⟨fun h => nxt75 ?_, fun h => use_I (m_S_isClosed hrow) (s_F_wipe_69 ⟨fun h3 => nxt75 ?_, fun h3 => leaf0 hs (hbad ?_)⟩)⟩
      · rw [blk, decide_eq_false_iff_not]
        intro hb
        exact h (by rw [hb.1]; rfl)
      · rw [bI_eq, decide_eq_false_iff_not, sees_f hs.1 hrow] at h3
        rw [blk, decide_eq_false_iff_not]
        exact fun hb => h3 hb.2
      · rw [bI_ne, decide_eq_true_eq, sees_f hs.1 hrow] at h3
        rw [blk, decide_eq_true_eq]
        refine ⟨?_, h3⟩
        cases hp : plc (aF (gcur G) ((un * 6 + rn) * 2 + f)) t with
        | none => rw [hp] at h; exact absurd h (by decide)
        | some k =>
          rw [hp] at h
          have hk6 := (plc_lt hp).1
          rw [nI_inj (b := 0) (by omega) (by decide) h]
    refine one 0 0 _ _ (by decide) (by decide) (fun hb => by rw [E, if_pos (Or.inl hb)]) (fun hb0 o6 o7 => one 1 _ _ _ (by decide) (by have := hh (aF (gcur G) ((un * 6 + rn) * 2 + 0)); omega) (fun hb => by rw [E, if_pos (Or.inr hb)]) (fun hb1 o6 o7 => ?_))
    rw [if_neg (by rw [hb0, hb1]; decide)] at E
    apply s_F_wipe_28
    rw [Nat.zero_add]
    have hc := hh (aF (gcur G) ((un * 6 + rn) * 2 + 0))
    have hc1 := hh (aF (gcur G) ((un * 6 + rn) * 2 + 1))
    refine ⟨fun _ => ⟨fun h => use_rec hg hs fun C' p' hs' hf' => s_F_wipe_109 ?_, fun h => leaf0 hs (by rw [E, if_pos (nI_inj (b := 0) (by omega) (by omega) h)])⟩, fun h => absurd (by decide) h⟩
    rw [if_neg (fun e => h (by rw [e]; rfl))] at E
    have hs2 : sees 1 C' (gcur G) := hs'.1
    have hg2 := good_remA hg.1 hu hr1 (f := 0) (by decide) hb0
    apply s_F_wipe_112
    refine ⟨fun h => absurd h (by decide), fun _ => use_I (m_F_rowOf (f := 0)) (s_F_wipe_129 (use_V (m_S_remove' (by omega) (sees_cok hs2 hg.1 (by omega))) (s_F_wipe_133 (s_F_wipe_112 ⟨fun h => absurd h (by decide), fun _ => use_I (m_F_rowOf (f := 1)) (s_F_wipe_129 ?_)⟩))))⟩
    have hs3 := sees_remA (t := t) (row := (un * 6 + rn) * 2 + 0) hs2 hg.1 (by omega)
    have hfr := fun x hx => fr_rem (C := C') (row := (un * 6 + rn) * 2 + 0) (t := t) (x := x) hx
    refine use_V (m_S_remove' (row := (un * 6 + rn) * 2 + 1) (by omega) (sees_cok hs3 hg2 (by omega))) (s_F_wipe_133 (s_F_wipe_112 ⟨fun h => leafR hs' hf' E rfl (sees_remA hs3 hg2 (by omega)) (fun x hx => (fr_rem hx).trans (hfr x hx)), fun h => absurd (by decide) h⟩))
  · rw [bI_ne] at h1
    rw [oWipe, if_neg (by rw [h1]; decide), if_pos (bI_eq.mp h2)]
theorem wr_in {A : aS} {u : Nat} {x : Nat × Nat} (h : wrA A u = some x) : x.1 < aR A u ∧ x.2 < 6 := wR_in h
theorem m_clean {u : Int32} (hg : gG G) (hs : seeG C p G) : am_Call (d + 6) 58 [.ref 0, .int u] (am_w zN C p) (am_Ret zN (fP C (oClean G u))) := by
  apply e_F_clean
  apply s_F_clean_0
  refine use_I m_S_hasSetUp (s_F_clean_8 ?_)
  rw [hsu_A hs.1 hg.1]
  refine ⟨fun h1 => ?_, fun h1 => leaf0 hs (by rw [oClean, if_pos (bI_eq.mp h1)])⟩
  rw [bI_ne] at h1
  obtain ⟨n, rfl, hn⟩ := hsA_ok h1 hg.1
  have h4 := hg.1.1
  have E : oClean G (nI n) = match wrA (gcur G) n with
      | none => (-2000005, G)
      | some _ => (nI (clnL n 36 (gcur G)).1, grec G (clnL n 36 (gcur G)).2) := by
    rw [oClean, if_neg (by rw [h1]; decide), cn_nI (by omega)]
  have wrn : ∀ A, good A → n < A.1 → (oX (-1) (wrA A n) = -1 ↔ wrA A n = none) := by
    intro A hA hnA
    cases hw : wrA A n with
    | none => simp [oX]
    | some x =>
      have h6 := (hA.2.2.2.1 n (by have := hA.1; omega)).1
      have hx := wr_in hw
      simp only [oX, reduceCtorEq, iff_false]
      exact (nI_ne (by omega)).1
  refine use_reckon hs.1 hg.1 hn fun C1 hR hk => s_F_clean_26 (use_I (m_R_worst hk) (s_F_clean_40 ?_))
  have hs1 := seeG_agR hR hs
  have fr1 : ∀ z, 74 ≤ z → C1 z = C z := fun z hz => hR z (by omega)
  rw [show C1 1 1 = (gcur G).2.1 from hs1.1.2.1]
  have wn := wrn (gcur G) hg.1 hn
  refine ⟨fun h => use_rec hg hs1 fun C' p' hs' hf' => s_F_clean_60 ?_, fun h => leaf (by rw [E, wn.mp h]) rfl hs1 fr1⟩
  have loop : ∀ (m c : Nat) (A : aS) (D : Nat → Nat → Int32), good A → n < A.1 → seeG D p' (grec G A) → (∀ z, 74 ≤ z → D z = C z) → c + m = 36 → oClean G (nI n) = (nI (c + (clnL n m A).1), grec G (clnL n m A).2) → am_At (d + 6) 58 none (am_Ret zN (fP C (oClean G (nI n)))) 62 [some (.ref 0), some (.int (nI n)), some (.int (oX (-1) (wrA A n))), some (.int (nI c))] [] (am_w zN D p') (0, 0) := by
    intro m
    induction m with
    | zero =>
      intro c A D hA hnA hD hfD hc hE
      apply s_F_clean_62
      have fin : am_Ret zN (fP C (oClean G (nI n))) (some (.int (nI c))) (am_w zN D p') := leaf hE rfl hD hfD
      exact ⟨fun _ => fin, fun _ => ⟨fun _ => fin, fun h36 => absurd ((le5 (a := 36) (b := c) (by omega) (by omega)).mpr (by omega)) h36⟩⟩
    | succ m ih =>
      intro c A D hA hnA hD hfD hc hE
      have h6 := (hA.2.2.2.1 n (by have := hA.1; omega)).1
      apply s_F_clean_62
      rw [wrn A hA hnA]
      refine ⟨fun hw => ?_, fun hw => ⟨fun h36 => absurd ((le5 (a := 36) (b := c) (by omega) (by omega)).mp h36) (by omega), fun _ => ?_⟩⟩
      · simp only [clnL, hw] at hE
        exact leaf hE rfl hD hfD
      · cases hx : wrA A n with
        | none => exact absurd hx hw
        | some x =>
          simp only [clnL, hx] at hE
          obtain ⟨hx1, hx2⟩ := wr_in hx
          obtain ⟨d1, d2⟩ := div6 x.1 (by omega) x.2 hx2
          refine ⟨by decide, by decide, ?_⟩
          simp only [oX]
          rw [d2, d1]
          have hsD : sees 1 D A := hD.1
          have hg1 := good_stkA (t := nI x.2) hA (show n < 4 by omega) hx1 (f := 0) (by decide)
          have hs2 := sees_stkA (t := nI x.2) (row := (n * 6 + x.1) * 2) hsD hA (by omega)
          have hg2 := good_stkA (t := nI x.2) hg1 (show n < 4 by omega) (by rw [stkA_aR]; exact hx1) (f := 1) (by decide)
          have hs3 := sees_stkA (t := nI x.2) (row := (n * 6 + x.1) * 2 + 1) hs2 hg1 (by omega)
          refine use_V (m_S_strikeBoth (by omega) (sees_cok hsD hA (by omega)) (sees_cok hs2 hg1 (by omega))) (s_F_clean_89 ?_)
          have hD3 := seeG_cur (fun z hz => (fr_stk hz).trans (fr_stk hz)) hD hs3
          have hn3 : n < (stkA (stkA A ((n * 6 + x.1) * 2) (nI x.2)) ((n * 6 + x.1) * 2 + 1) (nI x.2)).1 := by rw [stkA_N, stkA_N]; exact hnA
          refine use_reckon hs3 hg2 hn3 fun C4 hR4 hk4 => s_F_clean_104 ?_
          have hD4 := seeG_agR hR4 hD3
          rw [show C4 1 1 = (stkA (stkA A ((n * 6 + x.1) * 2) (nI x.2)) ((n * 6 + x.1) * 2 + 1) (nI x.2)).2.1 from hD4.1.2.1]
          refine use_I (m_R_worst hk4) (s_F_clean_118 ?_)
          rw [nI_1]
          refine ih (c + 1) _ C4 hg2 hn3 hD4 (fun z hz => ?_) (by omega) ?_
          · rw [hR4 z (by omega), fr_stk (by omega), fr_stk (by omega), hfD z hz]
          · rw [hE, show c + 1 + (clnL n m (stkA (stkA A ((n * 6 + x.1) * 2) (nI x.2)) ((n * 6 + x.1) * 2 + 1) (nI x.2))).1 = c + ((clnL n m (stkA (stkA A ((n * 6 + x.1) * 2) (nI x.2)) ((n * 6 + x.1) * 2 + 1) (nI x.2))).1 + 1) by omega]
  refine loop 36 0 (gcur G) C' hg.1 hn hs' (fun z hz => (hf' z (by omega)).trans (fr1 z hz)) rfl ?_
  rw [E]
  cases hw : wrA (gcur G) n with
  | none => exact absurd (wn.mpr hw) h
  | some x => simp only [Nat.zero_add]
end
end
section
/-! sums over a state; count, centring, pointing -/
variable {zN : Nat}
def nRounds (A : aS) : Nat := sm (aR A) 0 A.1
def nPoints (A : aS) : Nat := sm (fun row => (aF A row).1) 0 48
def nStruck (A : aS) : Nat := sm (fun row => skn (aF A row)) 0 48
def nClosed (A : aS) : Nat := sm (fun row => if (aF A row).2.2.2.2 = -1 then 0 else 1) 0 48
def badU (A : aS) (u : Nat) : Nat := sm (fun r => cb (bad (GA A u) (aR A u) A.2.1 r) 6) 0 (aR A u)
def nBad (A : aS) : Nat := sm (badU A) 0 A.1
section
variable {d : Nat} {C : Nat → Nat → Int32} {p : Nat → Option Nat} {G : aGl} {A : aS}
theorem m_S_allRounds (hs : sees 1 C A) (hg : good A) : cI zN (d + 1) 46 [.ref 1] C p (nI (nRounds A)) C p := by
  have h4 := hg.1
  have loop : ∀ m k a, k + m = A.1 → a + sm (aR A) k m = nRounds A → am_At (d + 1) 46 none (am_Ret zN (am_eI (nI (nRounds A)) C p)) 4 [some (.ref 1), some (.int (nI a)), some (.int (nI k))] [] (am_w zN C p) (0, 0) := by
    intro m
    induction m with
    | zero =>
      intro k a hk ha
      apply s_S_allRounds_4
      rw [hs.1]
      exact ⟨fun _ => ret_I' (by rw [← ha]; rfl) rfl rfl, fun h => absurd ((le5 (by omega) (by omega)).mpr (by omega)) h⟩
    | succ m ih =>
      intro k a hk ha
      apply s_S_allRounds_4
      rw [hs.1, cl (by omega), show C 2 k = nI (aR A k) from hs.2.2.2.1 k (by omega), nI_add, nI_1]
      refine ⟨fun h => absurd ((le5 (by omega) (by omega)).mp h) (by omega), fun _ => ⟨vpi (by omega) (by decide), ih (k + 1) _ (by omega) (by rw [← ha]; simp only [sm]; omega)⟩⟩
  exact e_S_allRounds (s_S_allRounds_0 (loop A.1 0 0 (by omega) (by rw [Nat.zero_add]; rfl)))
theorem m_S_allPointings (hs : sees 1 C A) : cI zN (d + 1) 47 [.ref 1] C p (nI (nPoints A)) C p := by
  have loop : ∀ m k a, k + m = 48 → a + sm (fun row => (aF A row).1) k m = nPoints A → am_At (d + 1) 47 none (am_Ret zN (am_eI (nI (nPoints A)) C p)) 4 [some (.ref 1), some (.int (nI a)), some (.int (nI k))] [] (am_w zN C p) (0, 0) := by
    intro m
    induction m with
    | zero =>
      intro k a hk ha
      apply s_S_allPointings_4
      exact ⟨fun _ => ret_I' (by rw [← ha]; rfl) rfl rfl, fun h => absurd ((le5 (a := 48) (by omega) (by omega)).mpr (by omega)) h⟩
    | succ m ih =>
      intro k a hk ha
      apply s_S_allPointings_4
      rw [cl (by omega), face_n hs (row := k) (by omega), nI_add, nI_1]
      refine ⟨fun h => absurd ((le5 (a := 48) (by omega) (by omega)).mp h) (by omega), fun _ => ⟨vpi (by omega) (by decide), ih (k + 1) _ (by omega) (by rw [← ha]; simp only [sm]; omega)⟩⟩
  exact e_S_allPointings (s_S_allPointings_0 (loop 48 0 0 (by omega) (by rw [Nat.zero_add]; rfl)))
theorem m_S_allStruck (hs : sees 1 C A) (hg : good A) : cI zN (d + 2) 48 [.ref 1] C p (nI (nStruck A)) C p := by
  have loop : ∀ m k a, k + m = 48 → a + sm (fun row => skn (aF A row)) k m = nStruck A → am_At (d + 2) 48 none (am_Ret zN (am_eI (nI (nStruck A)) C p)) 4 [some (.ref 1), some (.int (nI a)), some (.int (nI k))] [] (am_w zN C p) (0, 0) := by
    intro m
    induction m with
    | zero =>
      intro k a hk ha
      apply s_S_allStruck_4
      exact ⟨fun _ => ret_I' (by rw [← ha]; rfl) rfl rfl, fun h => absurd ((le5 (a := 48) (by omega) (by omega)).mpr (by omega)) h⟩
    | succ m ih =>
      intro k a hk ha
      apply s_S_allStruck_4
      refine ⟨fun h => absurd ((le5 (a := 48) (by omega) (by omega)).mp h) (by omega), fun _ => use_I (m_S_struckIn (by omega) (sees_cok hs hg (by omega))) (s_S_allStruck_16 ?_)⟩
      rw [sees_f hs (by omega), nI_add, nI_1]
      exact ih (k + 1) _ (by omega) (by rw [← ha]; simp only [sm]; omega)
  exact e_S_allStruck (s_S_allStruck_0 (loop 48 0 0 (by omega) (by rw [Nat.zero_add]; rfl)))
theorem m_S_allClosings (hs : sees 1 C A) : cI zN (d + 2) 49 [.ref 1] C p (nI (nClosed A)) C p := by
  have loop : ∀ m k a, k + m = 48 → a + sm (fun row => if (aF A row).2.2.2.2 = -1 then 0 else 1) k m = nClosed A → am_At (d + 2) 49 none (am_Ret zN (am_eI (nI (nClosed A)) C p)) 4 [some (.ref 1), some (.int (nI a)), some (.int (nI k))] [] (am_w zN C p) (0, 0) := by
    intro m
    induction m with
    | zero =>
      intro k a hk ha
      apply s_S_allClosings_4
      exact ⟨fun _ => ret_I' (by rw [← ha]; rfl) rfl rfl, fun h => absurd ((le5 (a := 48) (by omega) (by omega)).mpr (by omega)) h⟩
    | succ m ih =>
      intro k a hk ha
      simp only [sm] at ha
      apply s_S_allClosings_4
      refine ⟨fun h => absurd ((le5 (a := 48) (by omega) (by omega)).mp h) (by omega), fun _ => use_I (m_S_isClosed (by omega)) (s_S_allClosings_15 ?_)⟩
      rw [sees_f hs (by omega), nI_1, nI_1]
      refine ⟨fun h => ?_, fun h => ?_⟩
      · rw [bI_eq, decide_eq_false_iff_not, Classical.not_not] at h
        rw [if_pos h] at ha
        exact ih (k + 1) _ (by omega) (by omega)
      · rw [bI_ne, decide_eq_true_eq] at h
        rw [if_neg h] at ha
        exact ih (k + 1) _ (by omega) (by omega)
  exact e_S_allClosings (s_S_allClosings_0 (loop 48 0 0 (by omega) (by rw [Nat.zero_add]; rfl)))
theorem m_F_allBad (hs : sees 1 C A) (hg : good A) : am_Call (d + 6) 82 [.ref 0] (am_w zN C p) (am_Ret zN fun r C' p' => ∃ e, r = some (.int e) ∧ p' = p ∧ e = nI (nBad A) ∧ agR C' C) := by
  have h4 := hg.1
  have loop : ∀ m u a o3 D, u + m = A.1 → a + sm (badU A) u m = nBad A → agR D C → am_At (d + 6) 82 none (am_Ret zN fun r C' p' => ∃ e, r = some (.int e) ∧ p' = p ∧ e = nI (nBad A) ∧ agR C' C) 4 [some (.ref 0), some (.int (nI a)), some (.int (nI u)), o3] [] (am_w zN D p) (0, 0) := by
    intro m
    induction m with
    | zero =>
      intro u a o3 D hu ha hD
      apply s_F_allBad_4
      rw [hD 1 (by decide), hs.1]
      exact ⟨fun _ => ⟨D, p, rfl, _, rfl, rfl, by rw [← ha]; rfl, hD⟩, fun h => absurd ((le5 (by omega) (by omega)).mpr (by omega)) h⟩
    | succ m ih =>
      intro u a o3 D hu ha hD
      have h6 := (hg.2.2.2.1 u (by omega)).1
      have hsD : sees 1 D A := sees_congr (fun x _ hx => hD x (by omega)) hs
      simp only [sm] at ha
      apply s_F_allBad_4
      rw [hD 1 (by decide), hs.1]
      refine ⟨fun h => absurd ((le5 (by omega) (by omega)).mp h) (by omega), fun _ => use_reckon hsD hg (by omega) fun D2 hR hk => s_F_allBad_27 ?_⟩
      have hD2 : agR D2 C := hR.tr hD
      have hs2 : sees 1 D2 A := sees_congr (fun x _ hx => hD2 x (by omega)) hs
      have inner : ∀ n r b, r + n = aR A u → b + sm (fun r => cb (bad (GA A u) (aR A u) A.2.1 r) 6) r n = a + badU A u → am_At (d + 6) 82 none (am_Ret zN fun r C' p' => ∃ e, r = some (.int e) ∧ p' = p ∧ e = nI (nBad A) ∧ agR C' C) 29 [some (.ref 0), some (.int (nI b)), some (.int (nI u)), some (.int (nI r))] [] (am_w zN D2 p) (0, 0) := by
        intro n
        induction n with
        | zero =>
          intro r b hr hb
          apply s_F_allBad_29
          rw [cl (by omega), show D2 2 u = nI (aR A u) from hs2.2.2.2.1 u (by omega), nI_1]
          simp only [sm] at hb
          exact ⟨vpi (by omega) (by decide), fun _ => ih (u + 1) b _ D2 (by omega) (by omega) hD2, fun h => absurd ((le5 (by omega) (by omega)).mpr (by omega)) h⟩
        | succ n ihn =>
          intro r b hr hb
          simp only [sm] at hb
          apply s_F_allBad_29
          rw [cl (by omega), show D2 2 u = nI (aR A u) from hs2.2.2.2.1 u (by omega), show D2 1 1 = A.2.1 from hs2.2.1]
          refine ⟨vpi (by omega) (by decide), fun h => absurd ((le5 (by omega) (by omega)).mp h) (by omega), fun _ => use_I (m_R_badTargets (by omega) hk) (s_F_allBad_58 (use_I m_J_bitCount (s_F_allBad_61 ?_)))⟩
          rw [bc_bs, nI_add, nI_1]
          exact ihn (r + 1) _ (by omega) (by omega)
      exact inner (aR A u) 0 a (by omega) rfl
  exact e_F_allBad (s_F_allBad_0 (loop A.1 0 0 _ C (by omega) (by rw [Nat.zero_add]; rfl) agR.rf))
def qCount (G : aGl) (x : Int32) : Int32 := if x = 0 then nI (gcur G).1 else if x = 1 then nI (nRounds (gcur G)) else if x = 2 then nI (nPoints (gcur G)) else if x = 3 then nI (nStruck (gcur G)) else if x = 4 then nI (nBad (gcur G)) else if x = 5 then (gcur G).2.1 else if x = 6 then nI (nClosed (gcur G)) else if x = 7 then nI (ghis G).1 else if x = 8 then nI (gtxt G).1 else -2000002
theorem m_count {x : Int32} (hg : gG G) (hs : seeG C p G) : am_Call (d + 7) 73 [.ref 0, .int x] (am_w zN C p) (am_Ret zN (fP C (qCount G x, G))) := by
  apply e_F_count
  apply s_F_count_0
  rw [hs.1.1, hs.1.2.1, hs.2.2.2.1.1, hs.2.2.2.2.1]
  unfold qCount
  refine ⟨fun h0 => leaf0 hs (by rw [if_pos h0]), fun h0 => ?_⟩
  rw [if_neg h0]
  refine ⟨fun h1 => use_I (m_S_allRounds hs.1 hg.1) (s_F_count_67 (leaf0 hs (by rw [if_pos h1]))), fun h1 => ?_⟩
  rw [if_neg h1]
  refine ⟨fun h2 => use_I (m_S_allPointings hs.1) (s_F_count_75 (leaf0 hs (by rw [if_pos h2]))), fun h2 => ?_⟩
  rw [if_neg h2]
  refine ⟨fun h3 => use_I (m_S_allStruck hs.1 hg.1) (s_F_count_83 (leaf0 hs (by rw [if_pos h3]))), fun h3 => ?_⟩
  rw [if_neg h3]
  refine ⟨fun h4 => use_IP (m_F_allBad hs.1 hg.1) (fun e C' he => s_F_count_88 (leaf (by rw [if_pos h4]) he.1 (seeG_agR he.2 hs) (fun z hz => he.2 z (by omega)))), fun h4 => ?_⟩
  rw [if_neg h4]
  refine ⟨fun h5 => leaf0 hs (by rw [if_pos h5]), fun h5 => ?_⟩
  rw [if_neg h5]
  refine ⟨fun h6 => use_I (m_S_allClosings hs.1) (s_F_count_104 (leaf0 hs (by rw [if_pos h6]))), fun h6 => ?_⟩
  rw [if_neg h6]
  refine ⟨fun h7 => leaf0 hs (by rw [if_pos h7]), fun h7 => ?_⟩
  rw [if_neg h7]
  exact ⟨fun h8 => leaf0 hs (by rw [if_pos h8]), fun h8 => leaf0 hs (by rw [if_neg h8])⟩
def qCentring (G : aGl) (u x : Int32) : Int32 := if hsA (gcur G) u = false then -2000001 else if x = 0 then aO (gcur G) (cn u) else aQ (gcur G) (cn u)
theorem m_centring {u x : Int32} (hg : gG G) (hs : seeG C p G) : am_Call (d + 4) 74 [.ref 0, .int u, .int x] (am_w zN C p) (am_Ret zN (fP C (qCentring G u x, G))) := by
  apply e_F_centring
  apply s_F_centring_0
  refine use_I m_S_hasSetUp (s_F_centring_8 ?_)
  rw [hsu_A hs.1 hg.1]
  refine ⟨fun h1 => ?_, fun h1 => leaf0 hs (by rw [qCentring, if_pos (bI_eq.mp h1)])⟩
  rw [bI_ne] at h1
  obtain ⟨n, rfl, hn⟩ := hsA_ok h1 hg.1
  have h4 := hg.1.1
  rw [cl (by omega), show C 3 n = aO (gcur G) n from hs.1.2.2.2.2.1 n (by omega), show C 4 n = aQ (gcur G) n from hs.1.2.2.2.2.2.1 n (by omega)]
  have hv := vpi (n := n) (N := 4) (by omega) (by decide)
  refine ⟨fun h => ⟨hv, leaf0 hs ?_⟩, fun h => ⟨hv, leaf0 hs ?_⟩⟩
  · rw [qCentring, if_neg (by rw [h1]; decide), if_pos h, cn_nI (by omega)]
  · rw [qCentring, if_neg (by rw [h1]; decide), if_neg h, cn_nI (by omega)]
def qPointing (G : aGl) (u r f k w : Int32) : Int32 := if hrA (gcur G) u r = false then -2000001 else if isFc f = false then -2000002 else if ¬ (0 ≤ k.toInt ∧ 0 ≤ w.toInt ∧ w.toInt ≤ 3) then -2000002 else if ¬ k.toInt < (aF (gcur G) (rwx u r f)).1 then -2000005 else if w = 0 then (aF (gcur G) (rwx u r f)).2.1 (cn k) else if w = 1 then (aF (gcur G) (rwx u r f)).2.2.1 (cn k) else if w = 2 then (if (aF (gcur G) (rwx u r f)).2.2.2.1 (cn k) = 0 then 0 else 1) else cor (aF (gcur G) (rwx u r f)) (cn k)
theorem c_3 : (3 : Int32).toInt = 3 := by decide
theorem m_pointing {u r f k w : Int32} (hg : gG G) (hs : seeG C p G) : am_Call (d + 4) 67 [.ref 0, .int u, .int r, .int f, .int k, .int w] (am_w zN C p) (am_Ret zN (fP C (qPointing G u r f k w, G))) := by
  apply e_F_pointing
  apply s_F_pointing_0
  refine use_I (m_S_hasRound (C10_4 hs.1 hg.1)) (s_F_pointing_9 ?_)
  rw [hrd_A hs.1 hg.1]
  refine ⟨fun h1 => use_I m_F_isFace (s_F_pointing_19 ⟨fun h => leaf0 hs ?_, fun h3 => ?_⟩), fun h => leaf0 hs (by rw [qPointing, if_pos (bI_eq.mp h)])⟩
  · rw [bI_ne] at h1
    rw [qPointing, if_neg (by rw [h1]; decide), if_pos (bI_eq.mp h)]
  rw [bI_ne] at h1 h3
  have E : qPointing G u r f k w = if ¬ (0 ≤ k.toInt ∧ 0 ≤ w.toInt ∧ w.toInt ≤ 3) then -2000002 else if ¬ k.toInt < (aF (gcur G) (rwx u r f)).1 then -2000005 else if w = 0 then (aF (gcur G) (rwx u r f)).2.1 (cn k) else if w = 1 then (aF (gcur G) (rwx u r f)).2.2.1 (cn k) else if w = 2 then (if (aF (gcur G) (rwx u r f)).2.2.2.1 (cn k) = 0 then 0 else 1) else cor (aF (gcur G) (rwx u r f)) (cn k) := by
    rw [qPointing, if_neg (by rw [h1]; decide), if_neg (by rw [h3]; decide)]
  obtain ⟨un, rn, rfl, hu1, hu, rfl, hr1, hr⟩ := hrA_ok h1 hg.1
  obtain ⟨fn, rfl, hf⟩ := isFc_ok h3
  rw [rwx_nI hu hr hf] at E
  rw [Int32.lt_iff_toInt_lt, Int32.lt_iff_toInt_lt, Int32.le_iff_toInt_le, i32_0, c_3]
  have hrow : (un * 6 + rn) * 2 + fn < 48 := by omega
  have h6 := (hg.1.2.2.2.2.1 _ hrow).1
  refine ⟨fun h => leaf0 hs (by rw [E, if_pos (by omega)]), fun a1 => ⟨fun h => leaf0 hs (by rw [E, if_pos (by omega)]), fun a2 => ⟨fun a3 => use_I m_F_rowOf (s_F_pointing_47 ?_), fun h => leaf0 hs (by rw [E, if_pos (by omega)])⟩⟩⟩
  rw [if_neg (by omega)] at E
  rw [cl (n := (un * 6 + rn) * 2 + fn) (by omega), face_n hs.1 hrow, Int32.lt_iff_toInt_lt, nI_toI (by omega)]
  refine ⟨vpi hrow (by decide), fun h => ?_, fun h => leaf0 hs (by rw [E, if_pos h])⟩
  rw [if_neg (Classical.not_not.mpr h)] at E
  obtain ⟨kn, rfl, hk⟩ := lt_in (by omega) h (by omega)
  rw [cn_nI (by omega)] at E
  rw [ix6, cl (by omega)]
  obtain ⟨k1, k2, k3⟩ := face_k hs.1 hrow hk
  rw [k1, k2, k3]
  have hv := vpi (n := ((un * 6 + rn) * 2 + fn) * 6 + kn) (N := 288) (by omega) (by decide)
  refine ⟨fun h0 => ⟨hv, leaf0 hs (by rw [E, if_pos h0])⟩, fun h0 => ?_⟩
  rw [if_neg h0] at E
  refine ⟨fun h0 => ⟨hv, leaf0 hs (by rw [E, if_pos h0])⟩, fun h0 => ?_⟩
  rw [if_neg h0] at E
  refine ⟨fun h2 => ⟨hv, fun h0 => leaf0 hs (by rw [E, if_pos h2, if_pos h0]), fun h0 => leaf0 hs (by rw [E, if_pos h2, if_neg h0])⟩, fun h0 => ?_⟩
  rw [if_neg h0] at E
  refine use_I (m_S_corrected hrow (sees_cok hs.1 hg.1 hrow) (by rw [sees_f hs.1 hrow]; exact hk)) (s_F_pointing_156 (leaf0 hs ?_))
  rw [E, sees_f hs.1 hrow]
end
end
section
/-! round, reduced, direction, angle, byAngles -/
variable {zN : Nat}
theorem us_0 {G : aG} {r t : Nat} (h : us G r t = true) : us G r 0 = true := by
  simp only [us, decide_eq_true_eq] at h ⊢
  have h2 := (why_used h).2
  have e : why (G r).1 (G r).2 (nI 0) = own (G r).1 (G r).2 0 := by
    unfold why
    rw [if_pos (Or.inr (show nI 0 = 0 from rfl))]
    rfl
  rw [e]
  exact h2
theorem reR_0 {G : aG} {r : Nat} : reR G r 0 = 0 := by
  unfold reR red
  rw [show nI 0 = 0 from rfl, Int32.sub_self]
  decide
theorem dst_0 {G : aG} : ∀ N : Nat, (dst G 0 N).2 = (0, 0)
  | 0 => rfl
  | N + 1 => by
    have ih := dst_0 (G := G) N
    unfold dst
    split
    · rw [reR_0, ih]
      simp only [ite_self]
      decide
    · exact ih
theorem dst_ex {G : aG} {t : Nat} : ∀ {N : Nat}, (dst G t N).1 ≠ 0 → ∃ r, r < N ∧ us G r t = true
  | 0, h => absurd rfl h
  | N + 1, h => by
    unfold dst at h
    by_cases hu : us G N t = true
    · exact ⟨N, by omega, hu⟩
    · rw [if_neg hu] at h
      obtain ⟨r, hr, hr2⟩ := dst_ex h
      exact ⟨r, by omega, hr2⟩
theorem dir_0 {G : aG} {N t : Nat} {x : Int32} (h : dirO G N t = some x) : dirO G N 0 = some 0 := by
  by_cases hc : (dst G t N).1 = 0
  · rw [dirO_none hc] at h
    cases h
  · obtain ⟨r, hr, hu⟩ := dst_ex hc
    have hp := dst_pos hr (us_0 hu)
    rw [dirO_some (by omega), dirI, dst_0]
    have e : fdv 0 (nI (dst G 0 N).1) = 0 := by
      unfold fdv
      rw [show (0 : Int32).toInt = 0 from i32_0, Int.zero_ediv]
      rfl
    rw [e]
    decide
/-- the correction of a target whose direction is x -/
def crn (A : aS) (u t : Nat) (x : Int32) : Int32 := (((aO A u).toInt64 * (am_sine (cn (fmd (aQ A u * 54000 - x + 27000) / 54000))).toInt64 * 206265) / ((aD A t).toInt64 * 1000000)).toInt32
def cdr (A : aS) (u t : Nat) (x : Int32) : Int32 := fmd (x + crn A u t x - crn A u 0 0)
theorem sect {x : Int32} : vp_in (fmd x / 54000) 24 := by
  have h1 := fmd_lo x
  have h2 := fmd_hi x
  have h3 : (fmd x / 54000).toInt = (fmd x).toInt.tdiv 54000 := I_div (y := 54000) (by decide)
  have h5 : (fmd x).toInt.tdiv 54000 = (fmd x).toInt / 54000 := Int.tdiv_eq_ediv_of_nonneg h1
  obtain ⟨k, hk, hk2⟩ := lt_in (x := fmd x / 54000) (n := 24) (by omega) (by omega) (by decide)
  rw [hk]
  exact vpi hk2 (by decide)
theorem den {x : Int32} (h : rg 1 9999 x) : ¬ x.toInt64 * (1000000 : Int64) = 0 := by
  intro e
  have h2 := congrArg Int64.toInt e
  rw [Int64.toInt_mul, Int32.toInt_toInt64] at h2
  have e1 : (1000000 : Int64).toInt = 1000000 := by decide
  have e0 : (0 : Int64).toInt = 0 := by decide
  rw [e1, e0] at h2
  obtain ⟨a, b⟩ := h
  rw [Int.bmod_eq_of_le (by omega) (by omega)] at h2
  omega
def qRound (G : aGl) (u r w : Int32) : Int32 := if hrA (gcur G) u r = false then -2000001 else if ¬ (0 ≤ w.toInt ∧ w.toInt ≤ 7) then -2000002 else if w = 0 ∨ w = 1 then nI (aF (gcur G) (rwx u r w)).1 else if w = 2 ∨ w = 3 then (if (aF (gcur G) (rwx u r (w - 2))).2.2.2.2 = -1 then -2000005 else drf (aF (gcur G) (rwx u r (w - 2)))) else if w = 4 then bs (us (GA (gcur G) (cn u)) (cn r)) 6 else if w = 5 then nI (skR (gcur G) u r) else if w = 6 then (if (msd (GA (gcur G) (cn u)) (cn r) 6).1 = 0 then -2000005 else fdv (msd (GA (gcur G) (cn u)) (cn r) 6).2 (nI (msd (GA (gcur G) (cn u)) (cn r) 6).1)) else bs (bad (GA (gcur G) (cn u)) (aR (gcur G) (cn u)) (gcur G).2.1 (cn r)) 6
def qReduced (G : aGl) (u r t w : Int32) : Int32 := if hrA (gcur G) u r = false then -2000001 else if isT t = false then -2000001 else if ¬ (0 ≤ w.toInt ∧ w.toInt ≤ 3) then -2000002 else if w = 3 then nI (why (aF (gcur G) (rwx u r 0)) (aF (gcur G) (rwx u r 1)) t) else if us (GA (gcur G) (cn u)) (cn r) (cn t) = false then -2000005 else if w = 0 then reR (GA (gcur G) (cn u)) (cn r) (cn t) else if w = 1 then lef (GA (gcur G) (cn u)) (aR (gcur G) (cn u)) (cn r) (cn t) else sgR (GA (gcur G) (cn u)) (cn r) (cn t)
def dirA (A : aS) (u t : Nat) : Option Int32 := dirO (GA A u) (aR A u) t
def qDirection (G : aGl) (u t w : Int32) : Int32 := if hsA (gcur G) u = false then -2000001 else if isT t = false then -2000001 else if ¬ (0 ≤ w.toInt ∧ w.toInt ≤ 4) then -2000002 else if w = 4 then bs (fun r => us (GA (gcur G) (cn u)) r (cn t)) (aR (gcur G) (cn u)) else match dirA (gcur G) (cn u) (cn t) with
  | none => -2000005
  | some x => if w = 0 then x else if w = 1 then crn (gcur G) (cn u) (cn t) x else if w = 2 then cdr (gcur G) (cn u) (cn t) x else mls (GA (gcur G) (cn u)) (aR (gcur G) (cn u)) (cn t) (aR (gcur G) (cn u))
def qAngle (G : aGl) (u a b w : Int32) : Int32 := if hsA (gcur G) u = false then -2000001 else if isT a = false then -2000001 else if isT b = false then -2000001 else match dirA (gcur G) (cn u) (cn a), dirA (gcur G) (cn u) (cn b) with
  | none, _ => -2000005
  | some _, none => -2000005
  | some x, some y => if w = 0 then fmd (y - x) else fmd (cdr (gcur G) (cn u) (cn b) y - cdr (gcur G) (cn u) (cn a) x)
def qByAngles (G : aGl) (u t : Int32) : Int32 := if hsA (gcur G) u = false then -2000001 else if isT t = false then -2000001 else match dirA (gcur G) (cn u) (cn t) with
  | none => -2000005
  | some x => x
section
variable {d : Nat} {C : Nat → Nat → Int32} {p : Nat → Option Nat} {G : aGl} {A : aS}
theorem m_F_toldDrift {row : Nat} (hr : row < 48) : cI zN (d + 3) 81 [.ref 0, .int (nI row)] C p (if C 7 row = -1 then -2000005 else nr (C 7 row - C 9 (row * 6))) C p := by
  apply e_F_toldDrift
  apply s_F_toldDrift_0
  refine use_I (m_S_isClosed hr) (s_F_toldDrift_8 ⟨fun h => ret_I' ?_ rfl rfl, fun h => use_I (m_S_driftOf hr) (s_F_toldDrift_19 (ret_I' ?_ rfl rfl))⟩)
  · rw [bI_eq, decide_eq_false_iff_not, Classical.not_not] at h
    rw [if_pos (show C 7 row = -1 from h)]
  · rw [bI_ne, decide_eq_true_eq] at h
    rw [if_neg (show ¬ C 7 row = -1 from h)]
theorem m_F_correction {u t : Nat} {x : Int32} (hs : sees 1 C A) (hg : good A) (hu : u < 4) (ht : t < 6) (hx : C 73 t = x) : cI zN (d + 2) 83 [.ref 0, .int (nI u), .int (nI t)] C p (crn A u t x) C p := by
  apply e_F_correction
  apply s_F_correction_0
  rw [cl (n := u) (by omega), cl (n := t) (by omega), hx, show C 4 u = aQ A u from hs.2.2.2.2.2.1 u hu]
  have hv := vpi (n := u) (N := 4) hu (by decide)
  have hv2 := vpi (n := t) (N := 6) ht (by decide)
  refine ⟨hv, hv2, use_I m_J_floorMod (s_F_correction_34 ?_)⟩
  rw [cl (n := u) (by omega), cl (n := t) (by omega), show C 3 u = aO A u from hs.2.2.2.2.1 u hu, show C 5 t = aD A t from hs.2.2.1 t ht]
  exact ⟨by decide, hv, sect, hv2, den (hg.2.2.1 t ht), ret_I' rfl rfl rfl⟩
theorem m_F_centredDirection {u t : Nat} {x : Int32} (hs : sees 1 C A) (hg : good A) (hu : u < 4) (ht : t < 6) (hx : C 73 t = x) (h0 : C 73 0 = 0) : cI zN (d + 3) 84 [.ref 0, .int (nI u), .int (nI t)] C p (cdr A u t x) C p := by
  apply e_F_centredDirection
  apply s_F_centredDirection_0
  rw [cl (n := t) (by omega), hx]
  refine ⟨vpi ht (by decide), use_I (m_F_correction hs hg hu ht hx) (s_F_centredDirection_15 (use_I (m_F_correction (t := 0) hs hg hu (by decide) h0) (s_F_centredDirection_22 (use_I m_J_floorMod (s_F_centredDirection_30 (ret_I' ?_ rfl rfl))))))⟩
  rfl
theorem m_round {u r w : Int32} (hg : gG G) (hs : seeG C p G) : am_Call (d + 6) 68 [.ref 0, .int u, .int r, .int w] (am_w zN C p) (am_Ret zN (fP C (qRound G u r w, G))) := by
  have c7 : (7 : Int32).toInt = 7 := by decide
  apply e_F_round
  apply s_F_round_0
  refine use_I (m_S_hasRound (C10_4 hs.1 hg.1)) (s_F_round_9 ?_)
  rw [hrd_A hs.1 hg.1]
  refine ⟨fun h1 => ?_, fun h => leaf0 hs (by rw [qRound, if_pos (bI_eq.mp h)])⟩
  rw [bI_ne] at h1
  unfold qRound
  rw [if_neg (show ¬ hrA (gcur G) u r = false by rw [h1]; decide)]
  obtain ⟨un, rn, rfl, hu1, hu, rfl, hr1, hr⟩ := hrA_ok h1 hg.1
  rw [Int32.lt_iff_toInt_lt, Int32.le_iff_toInt_le, i32_0, c7, cn_nI (n := un) (by omega), cn_nI (n := rn) (by omega)]
  refine ⟨fun h => leaf0 hs (by rw [if_pos (by omega)]), fun a1 => ⟨fun a2 => ?_, fun h => leaf0 hs (by rw [if_pos (by omega)])⟩⟩
  rw [if_neg (by omega)]
  refine use_reckon hs.1 hg.1 hu1 fun C1 hR hk => s_F_round_40 ?_
  have hs1 := seeG_agR hR hs
  have fr1 : ∀ z, 74 ≤ z → C1 z = C z := fun z hz => hR z (by omega)
  rw [show C1 1 1 = (gcur G).2.1 from hs1.1.2.1]
  have e0 : rwx (nI un) (nI rn) 0 = (un * 6 + rn) * 2 + 0 := rwx_nI (f := 0) hu hr (by decide)
  have e1 : rwx (nI un) (nI rn) 1 = (un * 6 + rn) * 2 + 1 := rwx_nI (f := 1) hu hr (by decide)
  have hb : ∀ f, f < 2 → (un * 6 + rn) * 2 + f < 48 := fun f hf => by omega
  have nrow : ∀ (f : Nat) (w : Int32), f < 2 → am_Ci (d + 5) 78 [.int (nI un), .int (nI rn), .int (nI f)] (am_w zN C1 p) (fun v w1 => am_At (d + 5 + 1) 68 none (am_Ret zN (fP C (nI (aF (gcur G) ((un * 6 + rn) * 2 + f)).1, G))) 97 [some (.ref 0), some (.int (nI un)), some (.int (nI rn)), some (.int w)] [.int v, .ref 6] w1 (0, 0)) := by
    intro f w hf
    refine use_I m_F_rowOf (s_F_round_97 ?_)
    have := hb f hf
    rw [cl (by omega), face_n hs1.1 this]
    exact ⟨vpi this (by decide), leaf rfl rfl hs1 fr1⟩
  have drow : ∀ (f : Nat) (w : Int32), f < 2 → am_Ci (d + 5) 78 [.int (nI un), .int (nI rn), .int (nI f)] (am_w zN C1 p) (fun v w1 => am_At (d + 5 + 1) 68 none (am_Ret zN (fP C (if (aF (gcur G) ((un * 6 + rn) * 2 + f)).2.2.2.2 = -1 then -2000005 else drf (aF (gcur G) ((un * 6 + rn) * 2 + f)), G))) 108 [some (.ref 0), some (.int (nI un)), some (.int (nI rn)), some (.int w)] [.int v, .ref 0] w1 (0, 0)) := by
    intro f w hf
    have h48 := hb f hf
    refine use_I m_F_rowOf (s_F_round_108 (use_I (m_F_toldDrift h48) (s_F_round_111 (leaf rfl ?_ hs1 fr1))))
    have hx := face_x hs1.1 h48
    rw [show (aF (gcur G) ((un * 6 + rn) * 2 + f)).2.2.2.2 = C1 7 ((un * 6 + rn) * 2 + f) from hx.symm]
    by_cases hc : C1 7 ((un * 6 + rn) * 2 + f) = -1
    · rw [if_pos hc, if_pos hc]
    · rw [if_neg hc, if_neg hc]
      have hk1 := (hg.1.2.2.2.2.1 _ h48).2.1 (by rw [show (aF (gcur G) ((un * 6 + rn) * 2 + f)).2.2.2.2 = C1 7 ((un * 6 + rn) * 2 + f) from hx.symm]; exact hc)
      rw [drf, show (aF (gcur G) ((un * 6 + rn) * 2 + f)).2.2.2.2 = C1 7 ((un * 6 + rn) * 2 + f) from hx.symm]
      have := (face_k (k := 0) hs1.1 h48 (by omega)).2.1
      rw [← this]
      rfl
  refine ⟨fun h0 => ?_, fun h0 => ⟨fun h1' => ?_, fun h1' => ?_⟩⟩
  · subst h0
    rw [if_pos (Or.inl rfl), e0]
    exact nrow 0 0 (by decide)
  · subst h1'
    rw [if_pos (Or.inr rfl), e1]
    exact nrow 1 1 (by decide)
  rw [if_neg (not_or.mpr ⟨h0, h1'⟩)]
  refine ⟨fun h2 => ?_, fun h2 => ⟨fun h3 => ?_, fun h3 => ?_⟩⟩
  · subst h2
    rw [if_pos (Or.inl rfl), show (2 : Int32) - 2 = 0 from rfl, e0]
    exact drow 0 2 (by decide)
  · subst h3
    rw [if_pos (Or.inr rfl), show (3 : Int32) - 2 = 1 from rfl, e1]
    exact drow 1 3 (by decide)
  rw [if_neg (not_or.mpr ⟨h2, h3⟩)]
  refine ⟨fun h4 => ?_, fun h4 => ?_⟩
  · rw [if_pos h4, cl (by omega), hk.1.2.2.1 rn hr1]
    exact ⟨vpi hr (by decide), leaf rfl rfl hs1 fr1⟩
  rw [if_neg h4]
  refine ⟨fun h5 => ?_, fun h5 => ?_⟩
  · rw [if_pos h5, skR, e0, e1]
    refine use_I (m_S_struckInRound (by omega) (sees_cok hs1.1 hg.1 (by omega)) (sees_cok hs1.1 hg.1 (by omega))) (s_F_round_131 (leaf rfl ?_ hs1 fr1))
    rw [sees_f hs1.1 (by omega), sees_f hs1.1 (by omega)]
    rfl
  rw [if_neg h5]
  refine ⟨fun h6 => ?_, fun h6 => ?_⟩
  · rw [if_pos h6]
    exact use_I (m_R_meanError hr1 hk.1) (s_F_round_140 (leaf rfl rfl hs1 fr1))
  rw [if_neg h6]
  exact use_I (m_R_badTargets hr1 hk) (s_F_round_156 (leaf rfl rfl hs1 fr1))
theorem m_reduced {u r t w : Int32} (hg : gG G) (hs : seeG C p G) : am_Call (d + 6) 69 [.ref 0, .int u, .int r, .int t, .int w] (am_w zN C p) (am_Ret zN (fP C (qReduced G u r t w, G))) := by
  apply e_F_reduced
  apply s_F_reduced_0
  refine use_I (m_S_hasRound (C10_4 hs.1 hg.1)) (s_F_reduced_9 ?_)
  rw [hrd_A hs.1 hg.1]
  refine ⟨fun h => leaf0 hs (by rw [qReduced, if_pos (bI_eq.mp h)]), fun h1 => use_I m_F_isTarget (s_F_reduced_16 ⟨fun h2 => ?_, fun h2 => leaf0 hs ?_⟩)⟩
  · rw [bI_ne] at h1 h2
    unfold qReduced
    rw [if_neg (show ¬ hrA (gcur G) u r = false by rw [h1]; decide), if_neg (show ¬ isT t = false by rw [h2]; decide)]
    obtain ⟨un, rn, rfl, hu1, hu, rfl, hr1, hr⟩ := hrA_ok h1 hg.1
    obtain ⟨tn, rfl, ht⟩ := isT_ok h2
    rw [Int32.lt_iff_toInt_lt, Int32.le_iff_toInt_le, i32_0, c_3, cn_nI (n := un) (by omega), cn_nI (n := rn) (by omega), cn_nI (n := tn) (by omega)]
    refine ⟨fun h => leaf0 hs (by rw [if_pos (by omega)]), fun a1 => ⟨fun a2 => ?_, fun h => leaf0 hs (by rw [if_pos (by omega)])⟩⟩
    rw [if_neg (by omega)]
    have e0 : rwx (nI un) (nI rn) 0 = (un * 6 + rn) * 2 := rwx_nI (f := 0) hu hr (by decide)
    have e1 : rwx (nI un) (nI rn) 1 = (un * 6 + rn) * 2 + 1 := rwx_nI (f := 1) hu hr (by decide)
    refine ⟨fun h3 => ?_, fun h3 => ?_⟩
    · rw [if_neg h3]
      refine use_reckon hs.1 hg.1 hu1 fun C1 hR hk => s_F_reduced_65 ?_
      have hs1 := seeG_agR hR hs
      have fr1 : ∀ z, 74 ≤ z → C1 z = C z := fun z hz => hR z (by omega)
      refine use_I (m_R_isUsed hr ht (hk.1.2.2.1 rn hr1)) (s_F_reduced_74 ⟨fun h4 => ?_, fun h4 => leaf (by rw [if_pos (bI_eq.mp h4)]) rfl hs1 fr1⟩)
      rw [bI_ne] at h4
      rw [if_neg (by rw [h4]; decide), ix6, cl (by omega)]
      obtain ⟨k1, k2⟩ := hk.1.2.2.2 rn tn hr1 ht h4
      have k3 := hk.2.2 rn tn hr1 ht h4
      have hv := vpi (n := rn * 6 + tn) (N := 36) (by omega) (by decide)
      rw [k1, k2, k3]
      refine ⟨fun h5 => ⟨hv, leaf (by rw [if_pos h5]) rfl hs1 fr1⟩, fun h5 => ?_⟩
      rw [if_neg h5]
      exact ⟨fun h6 => ⟨hv, leaf (by rw [if_pos h6]) rfl hs1 fr1⟩, fun h6 => ⟨hv, leaf (by rw [if_neg h6]) rfl hs1 fr1⟩⟩
    · rw [if_pos h3, e0, e1]
      refine use_I (m_S_whyNotUsed (by omega) (sees_cok hs.1 hg.1 (by omega)) (sees_cok hs.1 hg.1 (by omega))) (s_F_reduced_52 (leaf0 hs ?_))
      rw [sees_f hs.1 (by omega), sees_f hs.1 (by omega)]
  · rw [bI_ne] at h1
    rw [qReduced, if_neg (by rw [h1]; decide), if_pos (bI_eq.mp h2)]
theorem m_byAngles {u t : Int32} (hg : gG G) (hs : seeG C p G) : am_Call (d + 6) 72 [.ref 0, .int u, .int t] (am_w zN C p) (am_Ret zN (fP C (qByAngles G u t, G))) := by
  apply e_F_byAngles
  apply s_F_byAngles_0
  refine use_I m_S_hasSetUp (s_F_byAngles_8 ?_)
  rw [hsu_A hs.1 hg.1]
  refine ⟨fun h => leaf0 hs (by rw [qByAngles, if_pos (bI_eq.mp h)]), fun h1 => use_I m_F_isTarget (s_F_byAngles_15 ⟨fun h2 => ?_, fun h2 => leaf0 hs ?_⟩)⟩
  · rw [bI_ne] at h1 h2
    unfold qByAngles
    rw [if_neg (show ¬ hsA (gcur G) u = false by rw [h1]; decide), if_neg (show ¬ isT t = false by rw [h2]; decide)]
    obtain ⟨un, rfl, hu1⟩ := hsA_ok h1 hg.1
    have h4 := hg.1.1
    obtain ⟨tn, rfl, ht⟩ := isT_ok h2
    rw [cn_nI (n := un) (by omega), cn_nI (n := tn) (by omega)]
    refine use_reckon hs.1 hg.1 hu1 fun C1 hR hk => s_F_byAngles_33 ?_
    have hs1 := seeG_agR hR hs
    have fr1 : ∀ z, 74 ≤ z → C1 z = C z := fun z hz => hR z (by omega)
    refine use_I (m_R_hasDirection ht (hk.2.1 tn ht)) (s_F_byAngles_41 ⟨fun h => ?_, fun h => leaf ?_ rfl hs1 fr1⟩)
    · rw [bI_ne] at h
      obtain ⟨x, hx⟩ := Option.isSome_iff_exists.mp h
      refine use_I (m_R_sumOfAngles ht hk.2.1 (dir_0 hx) hx) (s_F_byAngles_55 (leaf ?_ rfl hs1 fr1))
      simp only [dirA, hx]
    · rw [bI_eq, Option.isSome_eq_false_iff, Option.isNone_iff_eq_none] at h
      simp only [dirA, h]
  · rw [bI_ne] at h1
    rw [qByAngles, if_neg (by rw [h1]; decide), if_pos (bI_eq.mp h2)]
end
end
section
variable {zN : Nat}
section
variable {d : Nat} {C : Nat → Nat → Int32} {p : Nat → Option Nat} {G : aGl} {A : aS}
theorem m_direction {u t w : Int32} (hg : gG G) (hs : seeG C p G) : am_Call (d + 6) 70 [.ref 0, .int u, .int t, .int w] (am_w zN C p) (am_Ret zN (fP C (qDirection G u t w, G))) := by
  have c4 : (4 : Int32).toInt = 4 := by decide
  apply e_F_direction
  apply s_F_direction_0
  refine use_I m_S_hasSetUp (s_F_direction_8 ?_)
  rw [hsu_A hs.1 hg.1]
  refine ⟨fun h => leaf0 hs (by rw [qDirection, if_pos (bI_eq.mp h)]), fun h1 => use_I m_F_isTarget (s_F_direction_15 ⟨fun h2 => ?_, fun h2 => leaf0 hs ?_⟩)⟩
  · rw [bI_ne] at h1 h2
    unfold qDirection
    rw [if_neg (show ¬ hsA (gcur G) u = false by rw [h1]; decide), if_neg (show ¬ isT t = false by rw [h2]; decide)]
    obtain ⟨un, rfl, hu1⟩ := hsA_ok h1 hg.1
    have h4 := hg.1.1
    obtain ⟨tn, rfl, ht⟩ := isT_ok h2
    rw [Int32.lt_iff_toInt_lt, Int32.le_iff_toInt_le, i32_0, c4, cn_nI (n := un) (by omega), cn_nI (n := tn) (by omega)]
    refine ⟨fun h => leaf0 hs (by rw [if_pos (by omega)]), fun a1 => ⟨fun a2 => ?_, fun h => leaf0 hs (by rw [if_pos (by omega)])⟩⟩
    rw [if_neg (by omega)]
    refine use_reckon hs.1 hg.1 hu1 fun C1 hR hk => s_F_direction_45 ?_
    have hs1 := seeG_agR hR hs
    have fr1 : ∀ z, 74 ≤ z → C1 z = C z := fun z hz => hR z (by omega)
    refine ⟨fun h3 => ?_, fun h3 => ?_⟩
    · rw [if_neg h3]
      refine use_I (m_R_hasDirection ht (hk.2.1 tn ht)) (s_F_direction_67 ⟨fun h => ?_, fun h => leaf ?_ rfl hs1 fr1⟩)
      · rw [bI_ne] at h
        obtain ⟨x, hx⟩ := Option.isSome_iff_exists.mp h
        have hx2 : dirA (gcur G) un tn = some x := hx
        have hC : C1 73 tn = x := by rw [hk.2.1 tn ht, hx]; rfl
        have hC0 : C1 73 0 = 0 := by rw [hk.2.1 0 (by decide), dir_0 hx]; rfl
        rw [hx2, cl (by omega), hC]
        refine ⟨fun h0 => ⟨vpi ht (by decide), leaf (by simp only [if_pos h0]) rfl hs1 fr1⟩, fun h0 => ?_⟩
        simp only [if_neg h0]
        refine ⟨fun h0 => use_I (m_F_correction hs1.1 hg.1 (by omega) ht hC) (s_F_direction_116 (leaf (by rw [if_pos h0]) rfl hs1 fr1)), fun h0 => ?_⟩
        rw [if_neg h0]
        refine ⟨fun h0 => use_I (m_F_centredDirection hs1.1 hg.1 (by omega) ht hC hC0) (s_F_direction_123 (leaf (by rw [if_pos h0]) rfl hs1 fr1)), fun h0 => ?_⟩
        rw [if_neg h0]
        exact use_I (m_R_mostLeft ht hk) (s_F_direction_132 (leaf rfl rfl hs1 fr1))
      · rw [bI_eq, Option.isSome_eq_false_iff, Option.isNone_iff_eq_none] at h
        simp only [dirA, h]
    · rw [if_pos h3]
      exact use_I (m_R_roundsOf ht hk.1) (s_F_direction_58 (leaf rfl rfl hs1 fr1))
  · rw [bI_ne] at h1
    rw [qDirection, if_neg (by rw [h1]; decide), if_pos (bI_eq.mp h2)]
theorem m_angle {u a b w : Int32} (hg : gG G) (hs : seeG C p G) : am_Call (d + 6) 71 [.ref 0, .int u, .int a, .int b, .int w] (am_w zN C p) (am_Ret zN (fP C (qAngle G u a b w, G))) := by
  apply e_F_angle
  apply s_F_angle_0
  refine use_I m_S_hasSetUp (s_F_angle_8 ?_)
  rw [hsu_A hs.1 hg.1]
  refine ⟨fun h => leaf0 hs (by rw [qAngle, if_pos (bI_eq.mp h)]), fun h1 => use_I m_F_isTarget (s_F_angle_15 ⟨fun h2 => leaf0 hs ?_, fun h2 => use_I m_F_isTarget (s_F_angle_22 ⟨fun h3 => ?_, fun h3 => leaf0 hs ?_⟩)⟩)⟩
  · rw [bI_ne] at h1
    rw [qAngle, if_neg (by rw [h1]; decide), if_pos (bI_eq.mp h2)]
  · rw [bI_ne] at h1 h2 h3
    unfold qAngle
    rw [if_neg (show ¬ hsA (gcur G) u = false by rw [h1]; decide), if_neg (show ¬ isT a = false by rw [h2]; decide), if_neg (show ¬ isT b = false by rw [h3]; decide)]
    obtain ⟨un, rfl, hu1⟩ := hsA_ok h1 hg.1
    have h4 := hg.1.1
    obtain ⟨an, rfl, ha⟩ := isT_ok h2
    obtain ⟨bn, rfl, hb⟩ := isT_ok h3
    rw [cn_nI (n := un) (by omega), cn_nI (n := an) (by omega), cn_nI (n := bn) (by omega)]
    refine use_reckon hs.1 hg.1 hu1 fun C1 hR hk => s_F_angle_40 ?_
    have hs1 := seeG_agR hR hs
    have fr1 : ∀ z, 74 ≤ z → C1 z = C z := fun z hz => hR z (by omega)
    refine use_I (m_R_hasDirection ha (hk.2.1 an ha)) (s_F_angle_48 ⟨fun h => leaf ?_ rfl hs1 fr1, fun h => use_I (m_R_hasDirection hb (hk.2.1 bn hb)) (s_F_angle_59 ⟨fun h5 => ?_, fun h5 => leaf ?_ rfl hs1 fr1⟩)⟩)
    · rw [bI_eq, Option.isSome_eq_false_iff, Option.isNone_iff_eq_none] at h
      simp only [dirA, h]
    · rw [bI_ne] at h h5
      obtain ⟨x, hx⟩ := Option.isSome_iff_exists.mp h
      obtain ⟨y, hy⟩ := Option.isSome_iff_exists.mp h5
      have hx2 : dirA (gcur G) un an = some x := hx
      have hy2 : dirA (gcur G) un bn = some y := hy
      have hCx : C1 73 an = x := by rw [hk.2.1 an ha, hx]; rfl
      have hCy : C1 73 bn = y := by rw [hk.2.1 bn hb, hy]; rfl
      have hC0 : C1 73 0 = 0 := by rw [hk.2.1 0 (by decide), dir_0 hx]; rfl
      rw [hx2, hy2]
      refine ⟨fun h0 => ?_, fun h0 => ?_⟩
      · refine use_I (m_R_angleBetween ha hb) (s_F_angle_98 (leaf (by simp only [if_pos h0]; rfl) ?_ hs1 fr1))
        rw [hCx, hCy]
      · simp only [if_neg h0]
        exact use_I (m_F_centredDirection hs1.1 hg.1 (by omega) hb hCy hC0) (s_F_angle_76 (use_I (m_F_centredDirection hs1.1 hg.1 (by omega) ha hCx hC0) (s_F_angle_82 (use_I m_J_floorMod (s_F_angle_88 (leaf rfl rfl hs1 fr1))))))
    · rw [bI_ne] at h
      rw [bI_eq, Option.isSome_eq_false_iff, Option.isNone_iff_eq_none] at h5
      obtain ⟨x, hx⟩ := Option.isSome_iff_exists.mp h
      simp only [dirA, h5, hx]
  · rw [bI_ne] at h1 h2
    rw [qAngle, if_neg (by rw [h1]; decide), if_neg (by rw [h2]; decide), if_pos (bI_eq.mp h3)]
end
end
section
/-! every operation keeps gG -/
section
variable {G : aGl}
theorem gG_oSetUp (hg : gG G) : gG (oSetUp G).2 := by
  unfold oSetUp
  by_cases h : (gcur G).1 < 4
  · rw [if_pos h]
    exact gG_rec hg (good_upN hg.1 h)
  · rw [if_neg h]
    exact hg
theorem gG_oBegin {u : Int32} (hg : gG G) : gG (oBegin G u).2 := by
  unfold oBegin
  by_cases h : hsA (gcur G) u = true
  · rw [if_pos h]
    obtain ⟨n, rfl, hn⟩ := hsA_ok h hg.1
    have h4 := hg.1.1
    rw [cn_nI (by omega)]
    by_cases h6 : aR (gcur G) n < 6
    · rw [if_pos h6]
      exact gG_rec hg (good_upR hg.1 hn (by omega) (by omega))
    · rw [if_neg h6]
      exact hg
  · rw [if_neg h]
    exact hg
theorem gG_oSetLimit {x : Int32} (hg : gG G) : gG (oSetLimit G x).2 := by
  unfold oSetLimit
  by_cases h : rb 1 600 x = false
  · rw [if_pos h]
    exact hg
  · rw [if_neg h]
    by_cases h2 : (gcur G).2.1 = x
    · rw [if_pos h2]
      exact hg
    · rw [if_neg h2]
      exact gG_rec hg (good_upL hg.1 (rb_rg (bf h)))
theorem gG_oSetDistance {t x : Int32} (hg : gG G) : gG (oSetDistance G t x).2 := by
  unfold oSetDistance
  by_cases h1 : isT t = false
  · rw [if_pos h1]
    exact hg
  · rw [if_neg h1]
    by_cases h : rb 1 9999 x = false
    · rw [if_pos h]
      exact hg
    · rw [if_neg h]
      by_cases h2 : aD (gcur G) (cn t) = x
      · rw [if_pos h2]
        exact hg
      · rw [if_neg h2]
        exact gG_rec hg (good_upD hg.1 (rb_rg (bf h)))
theorem gG_oCentre {u x y : Int32} (hg : gG G) : gG (oCentre G u x y).2 := by
  unfold oCentre
  by_cases h1 : hsA (gcur G) u = false
  · rw [if_pos h1]
    exact hg
  · rw [if_neg h1]
    obtain ⟨n, rfl, hn⟩ := hsA_ok (bf h1) hg.1
    have h4 := hg.1.1
    rw [cn_nI (by omega)]
    by_cases h : rb 0 99 x = false ∨ rb 0 23 y = false
    · rw [if_pos h]
      exact hg
    · rw [if_neg h]
      rw [not_or] at h
      by_cases h2 : aO (gcur G) n = x ∧ aQ (gcur G) n = y
      · rw [if_pos h2]
        exact hg
      · rw [if_neg h2]
        exact gG_rec hg (good_upC hg.1 hn (rb_rg (bf h.1)) (rb_rg (bf h.2)))
theorem gG_oType {x : Int32} (hg : gG G) : gG (oType G x).2 := by
  unfold oType
  by_cases h : (gtxt G).1 < 60
  · rw [if_pos h]
    exact ⟨hg.1, hg.2.1, hg.2.2.1, hg.2.2.2.1, by show (gtxt G).1 + 1 ≤ 60; omega⟩
  · rw [if_neg h]
    exact hg
theorem gG_oClear (hg : gG G) : gG (oClear G).2 := ⟨hg.1, hg.2.1, hg.2.2.1, hg.2.2.2.1, Nat.zero_le 60⟩
theorem gG_oUndo (hg : gG G) : gG (oUndo G).2 := by
  unfold oUndo
  by_cases h : (ghis G).1 = 0
  · rw [if_pos h]
    exact hg
  · rw [if_neg h]
    have h4 := hg.2.2.1
    exact ⟨hg.2.2.2.1 _ (by omega), hg.2.1, by show (ghis G).1 - 1 ≤ 4; omega, fun i hi => hg.2.2.2.1 i (by change i < (ghis G).1 - 1 at hi; omega), hg.2.2.2.2⟩
theorem gG_oKeep (hg : gG G) : gG (oKeep G).2 := ⟨hg.1, fun _ => hg.1, hg.2.2⟩
theorem gG_oRestore (hg : gG G) : gG (oRestore G).2 := by
  unfold oRestore
  by_cases h : gkep G = false
  · rw [if_pos h]
    exact hg
  · rw [if_neg h]
    exact gG_rec hg (hg.2.1 (bf h))
theorem gG_oPoint {u r t f rd : Int32} (hg : gG G) : gG (oPoint G u r t f rd).2 := by
  unfold oPoint
  by_cases h1 : hrA (gcur G) u r = false
  · rw [if_pos h1]; exact hg
  rw [if_neg h1]
  by_cases h2 : isT t = false
  · rw [if_pos h2]; exact hg
  rw [if_neg h2]
  by_cases h3 : isFc f = false
  · rw [if_pos h3]; exact hg
  rw [if_neg h3]
  by_cases h4 : isRd rd = false
  · rw [if_pos h4]; exact hg
  rw [if_neg h4]
  obtain ⟨un, rn, rfl, hu1, hu, rfl, hr1, hr⟩ := hrA_ok (bf h1) hg.1
  obtain ⟨tn, rfl, ht⟩ := isT_ok (bf h2)
  obtain ⟨fn, rfl, hf⟩ := isFc_ok (bf h3)
  rw [rwx_nI hu hr hf]
  have hk := hg.1.2.2.2.2.1 ((un * 6 + rn) * 2 + fn) (by omega)
  split
  · rename_i h5
    exact gG_rec hg (good_upF hg.1 hu hr1 hf (fok_fadd hk (fok_room hk ht h5.2) ht h5.2))
  · exact hg
theorem gG_oClose {u r f x : Int32} (hg : gG G) : gG (oClose G u r f x).2 := by
  unfold oClose
  by_cases h1 : hrA (gcur G) u r = false
  · rw [if_pos h1]; exact hg
  rw [if_neg h1]
  by_cases h3 : isFc f = false
  · rw [if_pos h3]; exact hg
  rw [if_neg h3]
  by_cases h4 : isRd x = false
  · rw [if_pos h4]; exact hg
  rw [if_neg h4]
  obtain ⟨un, rn, rfl, hu1, hu, rfl, hr1, hr⟩ := hrA_ok (bf h1) hg.1
  obtain ⟨fn, rfl, hf⟩ := isFc_ok (bf h3)
  rw [rwx_nI hu hr hf]
  have hk := hg.1.2.2.2.2.1 ((un * 6 + rn) * 2 + fn) (by omega)
  split
  · rename_i h5
    exact gG_rec hg (good_upF hg.1 hu hr1 hf (fok_fclo hk (by omega)))
  · exact hg
end
end
section
section
variable {G : aGl}
theorem gG_oStrike {u r t f v : Int32} (hv : v = 0 ∨ v = 1) (hg : gG G) : gG (oStrike G u r t f v).2 := by
  unfold oStrike
  by_cases h1 : hrA (gcur G) u r = false
  · rw [if_pos h1]; exact hg
  rw [if_neg h1]
  by_cases h3 : isFc f = false
  · rw [if_pos h3]; exact hg
  rw [if_neg h3]
  obtain ⟨un, rn, rfl, hu1, hu, rfl, hr1, hr⟩ := hrA_ok (bf h1) hg.1
  obtain ⟨fn, rfl, hf⟩ := isFc_ok (bf h3)
  rw [rwx_nI hu hr hf]
  have hk := hg.1.2.2.2.2.1 ((un * 6 + rn) * 2 + fn) (by omega)
  cases plc (aF (gcur G) ((un * 6 + rn) * 2 + fn)) t with
  | none => exact hg
  | some k =>
    show gG (if (aF (gcur G) ((un * 6 + rn) * 2 + fn)).2.2.2.1 k = v then (-2000005, G) else _).2
    split
    · exact hg
    · exact gG_rec hg (good_upF hg.1 hu hr1 hf (fok_fstr hk hv))
theorem gG_oWipe {u r t : Int32} (hg : gG G) : gG (oWipe G u r t).2 := by
  unfold oWipe
  by_cases h1 : hrA (gcur G) u r = false
  · rw [if_pos h1]; exact hg
  rw [if_neg h1]
  by_cases h2 : isT t = false
  · rw [if_pos h2]; exact hg
  rw [if_neg h2]
  obtain ⟨un, rn, rfl, hu1, hu, rfl, hr1, hr⟩ := hrA_ok (bf h1) hg.1
  have e0 : rwx (nI un) (nI rn) 0 = (un * 6 + rn) * 2 + 0 := rwx_nI (f := 0) hu hr (by decide)
  have e1 : rwx (nI un) (nI rn) 1 = (un * 6 + rn) * 2 + 1 := rwx_nI (f := 1) hu hr (by decide)
  rw [e0, e1]
  split
  · exact hg
  · rename_i h3
    rw [not_or] at h3
    split
    · exact hg
    · refine gG_rec hg (good_remA (good_remA hg.1 hu hr1 (by decide) (bt h3.1)) hu (by rw [remA_aR]; exact hr1) (by decide) ?_)
      rw [remA_ne (by omega)]
      exact bt h3.2
theorem good_cln {u : Nat} : ∀ (m : Nat) (A : aS), good A → u < 4 → good (clnL u m A).2
  | 0, A, hg, _ => hg
  | m + 1, A, hg, hu => by
    unfold clnL
    cases hw : wrA A u with
    | none => exact hg
    | some x =>
      obtain ⟨x1, x2⟩ := wr_in hw
      refine good_cln m _ (good_stkA (good_stkA (f := 0) hg hu x1 (by decide)) hu ?_ (by decide)) hu
      rw [stkA_aR]
      exact x1
theorem gG_oClean {u : Int32} (hg : gG G) : gG (oClean G u).2 := by
  unfold oClean
  by_cases h1 : hsA (gcur G) u = false
  · rw [if_pos h1]; exact hg
  rw [if_neg h1]
  obtain ⟨n, rfl, hn⟩ := hsA_ok (bf h1) hg.1
  have h4 := hg.1.1
  rw [cn_nI (by omega)]
  cases wrA (gcur G) n with
  | none => exact hg
  | some x => exact gG_rec hg (good_cln 36 (gcur G) hg.1 (by omega))
end
end
