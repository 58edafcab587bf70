-- ===== PART A: goes FIRST, ahead of the names: the tables' words, and 'selects' of the private methods out of them =====
/-- a private method of a class that the tables say can be made, by its rows of tables_1 -/
def lw_okq (q : MethodName × Nat) : Prop := (q.1.cls ≠ "java/lang/invoke/MethodHandle" ∧ q.1.cls ≠ "java/lang/invoke/VarHandle") ∧ Cond.instantiable q.1.cls q.2 ∈ tables_1 ∧ Cond.privateMethod q.1 ∈ tables_1 ∧ Cond.instanceMethod q.1 ∈ tables_1
theorem lw_p0 : lw_okq (⟨"BallastControl", "checkCompartment", "(I)V"⟩, 13) := ⟨⟨by decide +kernel, by decide +kernel⟩, List.mem_of_getElem? (i := 35) (by decide +kernel), List.mem_of_getElem? (i := 337) (by decide +kernel), List.mem_of_getElem? (i := 338) (by decide +kernel)⟩
theorem lw_p1 : lw_okq (⟨"java/lang/Throwable", "fillInStackTrace", "(I)Ljava/lang/Throwable;"⟩, 6) := ⟨⟨by decide +kernel, by decide +kernel⟩, List.mem_of_getElem? (i := 387) (by decide +kernel), List.mem_of_getElem? (i := 385) (by decide +kernel), List.mem_of_getElem? (i := 386) (by decide +kernel)⟩
theorem lw_p2 : lw_okq (⟨"BallastControl$Hold", "pumpsBefore", "(II)Z"⟩, 7) := ⟨⟨by decide +kernel, by decide +kernel⟩, List.mem_of_getElem? (i := 49) (by decide +kernel), List.mem_of_getElem? (i := 456) (by decide +kernel), List.mem_of_getElem? (i := 457) (by decide +kernel)⟩
theorem lw_p3 : lw_okq (⟨"BallastControl", "positionOfPiece", "(I)I"⟩, 13) := ⟨⟨by decide +kernel, by decide +kernel⟩, List.mem_of_getElem? (i := 35) (by decide +kernel), List.mem_of_getElem? (i := 495) (by decide +kernel), List.mem_of_getElem? (i := 496) (by decide +kernel)⟩
theorem lw_p4 : lw_okq (⟨"BallastControl$Ship", "isLoadedBefore", "(II)Z"⟩, 8) := ⟨⟨by decide +kernel, by decide +kernel⟩, List.mem_of_getElem? (i := 43) (by decide +kernel), List.mem_of_getElem? (i := 585) (by decide +kernel), List.mem_of_getElem? (i := 586) (by decide +kernel)⟩
theorem lw_p5 : lw_okq (⟨"BallastControl", "checkForMean", "()V"⟩, 13) := ⟨⟨by decide +kernel, by decide +kernel⟩, List.mem_of_getElem? (i := 35) (by decide +kernel), List.mem_of_getElem? (i := 597) (by decide +kernel), List.mem_of_getElem? (i := 598) (by decide +kernel)⟩
theorem lw_p6 : lw_okq (⟨"BallastControl", "adviceHolds", "()Z"⟩, 13) := ⟨⟨by decide +kernel, by decide +kernel⟩, List.mem_of_getElem? (i := 35) (by decide +kernel), List.mem_of_getElem? (i := 630) (by decide +kernel), List.mem_of_getElem? (i := 631) (by decide +kernel)⟩
theorem lw_p7 : lw_okq (⟨"BallastControl$Choice", "offer", "(III)V"⟩, 4) := ⟨⟨by decide +kernel, by decide +kernel⟩, List.mem_of_getElem? (i := 204) (by decide +kernel), List.mem_of_getElem? (i := 642) (by decide +kernel), List.mem_of_getElem? (i := 643) (by decide +kernel)⟩
theorem lw_p8 : lw_okq (⟨"BallastControl", "separate", "(C)V"⟩, 13) := ⟨⟨by decide +kernel, by decide +kernel⟩, List.mem_of_getElem? (i := 35) (by decide +kernel), List.mem_of_getElem? (i := 999) (by decide +kernel), List.mem_of_getElem? (i := 1000) (by decide +kernel)⟩
theorem lw_p9 : lw_okq (⟨"BallastControl", "findBestTransfer", "(I)V"⟩, 13) := ⟨⟨by decide +kernel, by decide +kernel⟩, List.mem_of_getElem? (i := 35) (by decide +kernel), List.mem_of_getElem? (i := 1053) (by decide +kernel), List.mem_of_getElem? (i := 1054) (by decide +kernel)⟩
theorem lw_p10 : lw_okq (⟨"BallastControl", "findBestShift", "()V"⟩, 13) := ⟨⟨by decide +kernel, by decide +kernel⟩, List.mem_of_getElem? (i := 35) (by decide +kernel), List.mem_of_getElem? (i := 1131) (by decide +kernel), List.mem_of_getElem? (i := 1132) (by decide +kernel)⟩
theorem lw_p11 : lw_okq (⟨"BallastControl$Ship", "strikeIfScheduled", "()V"⟩, 8) := ⟨⟨by decide +kernel, by decide +kernel⟩, List.mem_of_getElem? (i := 43) (by decide +kernel), List.mem_of_getElem? (i := 1161) (by decide +kernel), List.mem_of_getElem? (i := 1162) (by decide +kernel)⟩
theorem lw_p12 : lw_okq (⟨"BallastControl$Ship", "fullestCompartment", "()I"⟩, 8) := ⟨⟨by decide +kernel, by decide +kernel⟩, List.mem_of_getElem? (i := 43) (by decide +kernel), List.mem_of_getElem? (i := 1178) (by decide +kernel), List.mem_of_getElem? (i := 1179) (by decide +kernel)⟩
theorem lw_p13 : lw_okq (⟨"BallastControl", "positionOfStorm", "(I)I"⟩, 13) := ⟨⟨by decide +kernel, by decide +kernel⟩, List.mem_of_getElem? (i := 35) (by decide +kernel), List.mem_of_getElem? (i := 1212) (by decide +kernel), List.mem_of_getElem? (i := 1213) (by decide +kernel)⟩
def lw_privs_1 : List (MethodName × Nat) := [(⟨"BallastControl", "checkCompartment", "(I)V"⟩, 13), (⟨"java/lang/Throwable", "fillInStackTrace", "(I)Ljava/lang/Throwable;"⟩, 6), (⟨"BallastControl$Hold", "pumpsBefore", "(II)Z"⟩, 7), (⟨"BallastControl", "positionOfPiece", "(I)I"⟩, 13), (⟨"BallastControl$Ship", "isLoadedBefore", "(II)Z"⟩, 8), (⟨"BallastControl", "checkForMean", "()V"⟩, 13), (⟨"BallastControl", "adviceHolds", "()Z"⟩, 13), (⟨"BallastControl$Choice", "offer", "(III)V"⟩, 4), (⟨"BallastControl", "separate", "(C)V"⟩, 13), (⟨"BallastControl", "findBestTransfer", "(I)V"⟩, 13), (⟨"BallastControl", "findBestShift", "()V"⟩, 13), (⟨"BallastControl$Ship", "strikeIfScheduled", "()V"⟩, 8), (⟨"BallastControl$Ship", "fullestCompartment", "()I"⟩, 8), (⟨"BallastControl", "positionOfStorm", "(I)I"⟩, 13)]
theorem lw_r1 : ∀ q ∈ lw_privs_1, lw_okq q := List.forall_mem_cons.mpr ⟨lw_p0, List.forall_mem_cons.mpr ⟨lw_p1, List.forall_mem_cons.mpr ⟨lw_p2, List.forall_mem_cons.mpr ⟨lw_p3, List.forall_mem_cons.mpr ⟨lw_p4, List.forall_mem_cons.mpr ⟨lw_p5, List.forall_mem_cons.mpr ⟨lw_p6, List.forall_mem_cons.mpr ⟨lw_p7, List.forall_mem_cons.mpr ⟨lw_p8, List.forall_mem_cons.mpr ⟨lw_p9, List.forall_mem_cons.mpr ⟨lw_p10, List.forall_mem_cons.mpr ⟨lw_p11, List.forall_mem_cons.mpr ⟨lw_p12, List.forall_mem_cons.mpr ⟨lw_p13, fun _ h => absurd h List.not_mem_nil⟩⟩⟩⟩⟩⟩⟩⟩⟩⟩⟩⟩⟩⟩
def lw_privs : List (MethodName × Nat) := lw_privs_1
def lw_tbl : List Cond := k2_sels lw_privs ++ tables_1
theorem lw_privs_ok : ∀ q ∈ lw_privs, lw_okq q := lw_r1
/-- the streams that the claim lets the run draw from -/
abbrev lw_cs : List Choice := [Jvm.Choice.named "NaN.bits"]
theorem lw_bits : nanBits ∈ lw_cs := by first | decide | exact List.mem_cons_self | simp [lw_cs, nanBits]

def RX0 : String := "BallastControl$1"
def TX0 : u_T := fun k => match k with
  | _ => ("", "", "", false)
def tyX0 : Nat → FieldType := fun k => match k with
  | _ => .int
abbrev wsX00 : List Cond := u_ws RX0 TX0 0
theorem nmX0 : ∀ a, a < 0 → ∀ b, b < 0 → a ≠ b → (TX0 a).2.1 ≠ (TX0 b).2.1 := by decide +kernel
theorem tyX0_ok : ∀ k, k < 0 → parseFieldDescriptor (TX0 k).2.2.1 = some (tyX0 k) := by decide +kernel
def RX1 : String := "BallastControl$Cargo"
def TX1 : u_T := fun k => match k with
  | 0 => ("BallastControl$Cargo", "count", "I", false)
  | 1 => ("BallastControl$Cargo", "nextId", "I", false)
  | 2 => ("BallastControl$Cargo", "id", "[I", true)
  | 3 => ("BallastControl$Cargo", "weight", "[I", true)
  | _ => ("BallastControl$Cargo", "place", "[I", true)
def tyX1 : Nat → FieldType := fun k => match k with
  | 0 => .int
  | 1 => .int
  | 2 => .array .int
  | 3 => .array .int
  | _ => .array .int
abbrev wsX10 : List Cond := u_ws RX1 TX1 5
theorem nmX1 : ∀ a, a < 5 → ∀ b, b < 5 → a ≠ b → (TX1 a).2.1 ≠ (TX1 b).2.1 := by decide +kernel
theorem tyX1_ok : ∀ k, k < 5 → parseFieldDescriptor (TX1 k).2.2.1 = some (tyX1 k) := by decide +kernel
abbrev cX1_init : ByteArray := prog_3_method_1_code
def yX1_init : MethodName := ⟨RX1, "<init>", "()V"⟩
abbrev cX1_copyFrom : ByteArray := prog_3_method_2_code
def yX1_copyFrom : MethodName := ⟨RX1, "copyFrom", "(LBallastControl$Cargo;)V"⟩
abbrev cX1_find : ByteArray := prog_3_method_3_code
def yX1_find : MethodName := ⟨RX1, "find", "(I)I"⟩
abbrev cX1_put : ByteArray := prog_3_method_4_code
def yX1_put : MethodName := ⟨RX1, "put", "(II)I"⟩
abbrev cX1_remove : ByteArray := prog_3_method_5_code
def yX1_remove : MethodName := ⟨RX1, "remove", "(I)I"⟩
abbrev cX1_carry : ByteArray := prog_3_method_6_code
def yX1_carry : MethodName := ⟨RX1, "carry", "(II)I"⟩
abbrev cX1_weightIn : ByteArray := prog_3_method_7_code
def yX1_weightIn : MethodName := ⟨RX1, "weightIn", "(I)I"⟩
abbrev cX1_totalWeight : ByteArray := prog_3_method_8_code
def yX1_totalWeight : MethodName := ⟨RX1, "totalWeight", "()I"⟩
def RX2 : String := "BallastControl$Choice"
def TX2 : u_T := fun k => match k with
  | 0 => ("BallastControl$Choice", "found", "Z", false)
  | 1 => ("BallastControl$Choice", "first", "I", false)
  | 2 => ("BallastControl$Choice", "second", "I", false)
  | _ => ("BallastControl$Choice", "moment", "I", false)
def tyX2 : Nat → FieldType := fun k => match k with
  | 0 => .boolean
  | 1 => .int
  | 2 => .int
  | _ => .int
abbrev wsX20 : List Cond := u_ws RX2 TX2 4
theorem nmX2 : ∀ a, a < 4 → ∀ b, b < 4 → a ≠ b → (TX2 a).2.1 ≠ (TX2 b).2.1 := by decide +kernel
theorem tyX2_ok : ∀ k, k < 4 → parseFieldDescriptor (TX2 k).2.2.1 = some (tyX2 k) := by decide +kernel
abbrev cX2_init : ByteArray := prog_4_method_1_code
def yX2_init : MethodName := ⟨RX2, "<init>", "()V"⟩
abbrev cX2_offer : ByteArray := prog_4_method_2_code
def yX2_offer : MethodName := ⟨RX2, "offer", "(III)V"⟩
abbrev cX2_improves : ByteArray := prog_4_method_3_code
def yX2_improves : MethodName := ⟨RX2, "improves", "(I)Z"⟩
abbrev cX2_searchTransfers : ByteArray := prog_4_method_4_code
def yX2_searchTransfers : MethodName := ⟨RX2, "searchTransfers", "(LBallastControl$Hold;II)V"⟩
abbrev cX2_searchShifts : ByteArray := prog_4_method_5_code
def yX2_searchShifts : MethodName := ⟨RX2, "searchShifts", "(LBallastControl$Ship;)V"⟩
def RX3 : String := "BallastControl$Fault"
def TX3 : u_T := fun k => match k with
  | _ => ("", "", "", false)
def tyX3 : Nat → FieldType := fun k => match k with
  | _ => .int
abbrev wsX30 : List Cond := u_ws RX3 TX3 0
theorem nmX3 : ∀ a, a < 0 → ∀ b, b < 0 → a ≠ b → (TX3 a).2.1 ≠ (TX3 b).2.1 := by decide +kernel
theorem tyX3_ok : ∀ k, k < 0 → parseFieldDescriptor (TX3 k).2.2.1 = some (tyX3 k) := by decide +kernel
def RX4 : String := "BallastControl$History"
def TX4 : u_T := fun k => match k with
  | 0 => ("BallastControl$History", "ships", "[LBallastControl$Ship;", true)
  | 1 => ("BallastControl$History", "next", "I", false)
  | _ => ("BallastControl$History", "count", "I", false)
def tyX4 : Nat → FieldType := fun k => match k with
  | 0 => .array (.object "BallastControl$Ship")
  | 1 => .int
  | _ => .int
abbrev wsX40 : List Cond := u_ws RX4 TX4 3
theorem nmX4 : ∀ a, a < 3 → ∀ b, b < 3 → a ≠ b → (TX4 a).2.1 ≠ (TX4 b).2.1 := by decide +kernel
theorem tyX4_ok : ∀ k, k < 3 → parseFieldDescriptor (TX4 k).2.2.1 = some (tyX4 k) := by decide +kernel
abbrev cX4_init : ByteArray := prog_6_method_1_code
def yX4_init : MethodName := ⟨RX4, "<init>", "()V"⟩
abbrev cX4_keep : ByteArray := prog_6_method_2_code
def yX4_keep : MethodName := ⟨RX4, "keep", "(LBallastControl$Ship;)V"⟩
def RX5 : String := "BallastControl$Hold"
def TX5 : u_T := fun k => match k with
  | 0 => ("BallastControl$Hold", "count", "I", false)
  | 1 => ("BallastControl$Hold", "arm", "[I", true)
  | 2 => ("BallastControl$Hold", "capacity", "[I", true)
  | 3 => ("BallastControl$Hold", "water", "[I", true)
  | 4 => ("BallastControl$Hold", "leak", "[I", true)
  | 5 => ("BallastControl$Hold", "pump", "[I", true)
  | _ => ("BallastControl$Hold", "running", "[Z", true)
def tyX5 : Nat → FieldType := fun k => match k with
  | 0 => .int
  | 1 => .array .int
  | 2 => .array .int
  | 3 => .array .int
  | 4 => .array .int
  | 5 => .array .int
  | _ => .array .boolean
abbrev wsX50 : List Cond := u_ws RX5 TX5 7
theorem nmX5 : ∀ a, a < 7 → ∀ b, b < 7 → a ≠ b → (TX5 a).2.1 ≠ (TX5 b).2.1 := by decide +kernel
theorem tyX5_ok : ∀ k, k < 7 → parseFieldDescriptor (TX5 k).2.2.1 = some (tyX5 k) := by decide +kernel
abbrev cX5_init : ByteArray := prog_7_method_1_code
def yX5_init : MethodName := ⟨RX5, "<init>", "()V"⟩
abbrev cX5_copyFrom : ByteArray := prog_7_method_2_code
def yX5_copyFrom : MethodName := ⟨RX5, "copyFrom", "(LBallastControl$Hold;)V"⟩
abbrev cX5_has : ByteArray := prog_7_method_3_code
def yX5_has : MethodName := ⟨RX5, "has", "(I)Z"⟩
abbrev cX5_armOf : ByteArray := prog_7_method_4_code
def yX5_armOf : MethodName := ⟨RX5, "armOf", "(I)I"⟩
abbrev cX5_add : ByteArray := prog_7_method_5_code
def yX5_add : MethodName := ⟨RX5, "add", "(II)I"⟩
abbrev cX5_canMove : ByteArray := prog_7_method_6_code
def yX5_canMove : MethodName := ⟨RX5, "canMove", "(III)Z"⟩
abbrev cX5_move : ByteArray := prog_7_method_7_code
def yX5_move : MethodName := ⟨RX5, "move", "(III)V"⟩
abbrev cX5_takeInLeaks : ByteArray := prog_7_method_8_code
def yX5_takeInLeaks : MethodName := ⟨RX5, "takeInLeaks", "()V"⟩
abbrev cX5_canPump : ByteArray := prog_7_method_9_code
def yX5_canPump : MethodName := ⟨RX5, "canPump", "(I)Z"⟩
abbrev cX5_pumpRank : ByteArray := prog_7_method_10_code
def yX5_pumpRank : MethodName := ⟨RX5, "pumpRank", "(I)I"⟩
abbrev cX5_pumpsBefore : ByteArray := prog_7_method_11_code
def yX5_pumpsBefore : MethodName := ⟨RX5, "pumpsBefore", "(II)Z"⟩
abbrev cX5_hasPower : ByteArray := prog_7_method_12_code
def yX5_hasPower : MethodName := ⟨RX5, "hasPower", "(II)Z"⟩
abbrev cX5_pumpOut : ByteArray := prog_7_method_13_code
def yX5_pumpOut : MethodName := ⟨RX5, "pumpOut", "(I)I"⟩
abbrev cX5_totalWater : ByteArray := prog_7_method_14_code
def yX5_totalWater : MethodName := ⟨RX5, "totalWater", "()I"⟩
abbrev cX5_totalCapacity : ByteArray := prog_7_method_15_code
def yX5_totalCapacity : MethodName := ⟨RX5, "totalCapacity", "()I"⟩
abbrev cX5_overflows : ByteArray := prog_7_method_16_code
def yX5_overflows : MethodName := ⟨RX5, "overflows", "()Z"⟩
def RX6 : String := "BallastControl$Keyword"
def TX6 : u_T := fun k => match k with
  | _ => ("", "", "", false)
def tyX6 : Nat → FieldType := fun k => match k with
  | _ => .int
abbrev wsX60 : List Cond := u_ws RX6 TX6 0
theorem nmX6 : ∀ a, a < 0 → ∀ b, b < 0 → a ≠ b → (TX6 a).2.1 ≠ (TX6 b).2.1 := by decide +kernel
theorem tyX6_ok : ∀ k, k < 0 → parseFieldDescriptor (TX6 k).2.2.1 = some (tyX6 k) := by decide +kernel
def RX7 : String := "BallastControl$Program"
def TX7 : u_T := fun k => match k with
  | 0 => ("BallastControl$Program", "input", "Ljava/lang/StringBuilder;", true)
  | 1 => ("BallastControl$Program", "keywords", "[LBallastControl$Keyword;", true)
  | 2 => ("BallastControl$Program", "arguments", "[[I", true)
  | 3 => ("BallastControl$Program", "count", "I", false)
  | 4 => ("BallastControl$Program", "position", "I", false)
  | _ => ("BallastControl$Program", "value", "I", false)
def tyX7 : Nat → FieldType := fun k => match k with
  | 0 => .object "java/lang/StringBuilder"
  | 1 => .array (.object "BallastControl$Keyword")
  | 2 => .array (.array .int)
  | 3 => .int
  | 4 => .int
  | _ => .int
abbrev wsX70 : List Cond := u_ws RX7 TX7 6
theorem nmX7 : ∀ a, a < 6 → ∀ b, b < 6 → a ≠ b → (TX7 a).2.1 ≠ (TX7 b).2.1 := by decide +kernel
theorem tyX7_ok : ∀ k, k < 6 → parseFieldDescriptor (TX7 k).2.2.1 = some (tyX7 k) := by decide +kernel
abbrev cX7_init : ByteArray := prog_9_method_1_code
def yX7_init : MethodName := ⟨RX7, "<init>", "()V"⟩
def RX8 : String := "BallastControl$Ship"
def TX8 : u_T := fun k => match k with
  | 0 => ("BallastControl$Ship", "hold", "LBallastControl$Hold;", true)
  | 1 => ("BallastControl$Ship", "cargo", "LBallastControl$Cargo;", true)
  | 2 => ("BallastControl$Ship", "storms", "LBallastControl$Storms;", true)
  | 3 => ("BallastControl$Ship", "minute", "I", false)
  | 4 => ("BallastControl$Ship", "power", "I", false)
  | 5 => ("BallastControl$Ship", "limit", "I", false)
  | 6 => ("BallastControl$Ship", "sunk", "Z", false)
  | _ => ("BallastControl$Ship", "pumped", "J", false)
def tyX8 : Nat → FieldType := fun k => match k with
  | 0 => .object "BallastControl$Hold"
  | 1 => .object "BallastControl$Cargo"
  | 2 => .object "BallastControl$Storms"
  | 3 => .int
  | 4 => .int
  | 5 => .int
  | 6 => .boolean
  | _ => .long
abbrev wsX80 : List Cond := u_ws RX8 TX8 8
theorem nmX8 : ∀ a, a < 8 → ∀ b, b < 8 → a ≠ b → (TX8 a).2.1 ≠ (TX8 b).2.1 := by decide +kernel
theorem tyX8_ok : ∀ k, k < 8 → parseFieldDescriptor (TX8 k).2.2.1 = some (tyX8 k) := by decide +kernel
abbrev cX8_init : ByteArray := prog_10_method_1_code
def yX8_init : MethodName := ⟨RX8, "<init>", "()V"⟩
abbrev cX8_copyFrom : ByteArray := prog_10_method_2_code
def yX8_copyFrom : MethodName := ⟨RX8, "copyFrom", "(LBallastControl$Ship;)V"⟩
abbrev cX8_faultOfAdding : ByteArray := prog_10_method_3_code
def yX8_faultOfAdding : MethodName := ⟨RX8, "faultOfAdding", "(II)LBallastControl$Fault;"⟩
abbrev cX8_faultOfLoading : ByteArray := prog_10_method_4_code
def yX8_faultOfLoading : MethodName := ⟨RX8, "faultOfLoading", "(II)LBallastControl$Fault;"⟩
abbrev cX8_faultOfUnloading : ByteArray := prog_10_method_5_code
def yX8_faultOfUnloading : MethodName := ⟨RX8, "faultOfUnloading", "(I)LBallastControl$Fault;"⟩
abbrev cX8_faultOfShifting : ByteArray := prog_10_method_6_code
def yX8_faultOfShifting : MethodName := ⟨RX8, "faultOfShifting", "(II)LBallastControl$Fault;"⟩
abbrev cX8_faultOfRate : ByteArray := prog_10_method_7_code
def yX8_faultOfRate : MethodName := ⟨RX8, "faultOfRate", "(II)LBallastControl$Fault;"⟩
abbrev cX8_faultOfMoving : ByteArray := prog_10_method_8_code
def yX8_faultOfMoving : MethodName := ⟨RX8, "faultOfMoving", "(III)LBallastControl$Fault;"⟩
abbrev cX8_faultOfPower : ByteArray := prog_10_method_9_code
def yX8_faultOfPower : MethodName := ⟨RX8, "faultOfPower", "(I)LBallastControl$Fault;"⟩
abbrev cX8_faultOfScheduling : ByteArray := prog_10_method_10_code
def yX8_faultOfScheduling : MethodName := ⟨RX8, "faultOfScheduling", "(II)LBallastControl$Fault;"⟩
abbrev cX8_faultOfPassing : ByteArray := prog_10_method_11_code
def yX8_faultOfPassing : MethodName := ⟨RX8, "faultOfPassing", "(I)LBallastControl$Fault;"⟩
abbrev cX8_letPass : ByteArray := prog_10_method_12_code
def yX8_letPass : MethodName := ⟨RX8, "letPass", "(I)I"⟩
abbrev cX8_strikeIfScheduled : ByteArray := prog_10_method_13_code
def yX8_strikeIfScheduled : MethodName := ⟨RX8, "strikeIfScheduled", "()V"⟩
abbrev cX8_fullestCompartment : ByteArray := prog_10_method_14_code
def yX8_fullestCompartment : MethodName := ⟨RX8, "fullestCompartment", "()I"⟩
abbrev cX8_loadIn : ByteArray := prog_10_method_15_code
def yX8_loadIn : MethodName := ⟨RX8, "loadIn", "(I)I"⟩
abbrev cX8_loadRank : ByteArray := prog_10_method_16_code
def yX8_loadRank : MethodName := ⟨RX8, "loadRank", "(I)I"⟩
abbrev cX8_isLoadedBefore : ByteArray := prog_10_method_17_code
def yX8_isLoadedBefore : MethodName := ⟨RX8, "isLoadedBefore", "(II)Z"⟩
abbrev cX8_totalWeight : ByteArray := prog_10_method_18_code
def yX8_totalWeight : MethodName := ⟨RX8, "totalWeight", "()I"⟩
abbrev cX8_weightOfParts : ByteArray := prog_10_method_19_code
def yX8_weightOfParts : MethodName := ⟨RX8, "weightOfParts", "()I"⟩
abbrev cX8_totalMoment : ByteArray := prog_10_method_20_code
def yX8_totalMoment : MethodName := ⟨RX8, "totalMoment", "()I"⟩
abbrev cX8_momentOfParts : ByteArray := prog_10_method_21_code
def yX8_momentOfParts : MethodName := ⟨RX8, "momentOfParts", "()I"⟩
abbrev cX8_isWithinLimit : ByteArray := prog_10_method_22_code
def yX8_isWithinLimit : MethodName := ⟨RX8, "isWithinLimit", "(II)Z"⟩
def RX9 : String := "BallastControl$Storms"
def TX9 : u_T := fun k => match k with
  | 0 => ("BallastControl$Storms", "count", "I", false)
  | 1 => ("BallastControl$Storms", "minutes", "[I", true)
  | 2 => ("BallastControl$Storms", "strengths", "[I", true)
  | 3 => ("BallastControl$Storms", "logged", "I", false)
  | _ => ("BallastControl$Storms", "log", "[I", true)
def tyX9 : Nat → FieldType := fun k => match k with
  | 0 => .int
  | 1 => .array .int
  | 2 => .array .int
  | 3 => .int
  | _ => .array .int
abbrev wsX90 : List Cond := u_ws RX9 TX9 5
theorem nmX9 : ∀ a, a < 5 → ∀ b, b < 5 → a ≠ b → (TX9 a).2.1 ≠ (TX9 b).2.1 := by decide +kernel
theorem tyX9_ok : ∀ k, k < 5 → parseFieldDescriptor (TX9 k).2.2.1 = some (tyX9 k) := by decide +kernel
abbrev cX9_init : ByteArray := prog_11_method_1_code
def yX9_init : MethodName := ⟨RX9, "<init>", "()V"⟩
abbrev cX9_copyFrom : ByteArray := prog_11_method_2_code
def yX9_copyFrom : MethodName := ⟨RX9, "copyFrom", "(LBallastControl$Storms;)V"⟩
abbrev cX9_find : ByteArray := prog_11_method_3_code
def yX9_find : MethodName := ⟨RX9, "find", "(I)I"⟩
abbrev cX9_add : ByteArray := prog_11_method_4_code
def yX9_add : MethodName := ⟨RX9, "add", "(II)V"⟩
abbrev cX9_removeAt : ByteArray := prog_11_method_5_code
def yX9_removeAt : MethodName := ⟨RX9, "removeAt", "(I)I"⟩
abbrev cX9_enterIntoLog : ByteArray := prog_11_method_6_code
def yX9_enterIntoLog : MethodName := ⟨RX9, "enterIntoLog", "(I)V"⟩
def RX10 : String := "BallastControl"
def TX10 : u_T := fun k => match k with
  | 0 => ("BallastControl", "ship", "LBallastControl$Ship;", true)
  | 1 => ("BallastControl", "trial", "LBallastControl$Ship;", true)
  | 2 => ("BallastControl", "beforeRun", "LBallastControl$Ship;", true)
  | 3 => ("BallastControl", "saved", "LBallastControl$Ship;", true)
  | 4 => ("BallastControl", "hasSaved", "Z", false)
  | 5 => ("BallastControl", "history", "LBallastControl$History;", true)
  | 6 => ("BallastControl", "choice", "LBallastControl$Choice;", true)
  | 7 => ("BallastControl", "line", "Ljava/lang/StringBuilder;", true)
  | 8 => ("BallastControl", "program", "LBallastControl$Program;", true)
  | 9 => ("BallastControl", "hasError", "Z", false)
  | 10 => ("BallastControl", "errorAt", "I", false)
  | 11 => ("BallastControl", "hasFailed", "Z", false)
  | _ => ("BallastControl", "failedAt", "I", false)
def tyX10 : Nat → FieldType := fun k => match k with
  | 0 => .object "BallastControl$Ship"
  | 1 => .object "BallastControl$Ship"
  | 2 => .object "BallastControl$Ship"
  | 3 => .object "BallastControl$Ship"
  | 4 => .boolean
  | 5 => .object "BallastControl$History"
  | 6 => .object "BallastControl$Choice"
  | 7 => .object "java/lang/StringBuilder"
  | 8 => .object "BallastControl$Program"
  | 9 => .boolean
  | 10 => .int
  | 11 => .boolean
  | _ => .int
abbrev wsX100 : List Cond := u_ws RX10 TX10 13
theorem nmX10 : ∀ a, a < 13 → ∀ b, b < 13 → a ≠ b → (TX10 a).2.1 ≠ (TX10 b).2.1 := by decide +kernel
theorem tyX10_ok : ∀ k, k < 13 → parseFieldDescriptor (TX10 k).2.2.1 = some (tyX10 k) := by decide +kernel
abbrev cX10_init : ByteArray := prog_1_method_1_code
def yX10_init : MethodName := ⟨RX10, "<init>", "()V"⟩
abbrev cX10_addCompartment : ByteArray := prog_1_method_2_code
def yX10_addCompartment : MethodName := ⟨RX10, "addCompartment", "(II)I"⟩
abbrev cX10_load : ByteArray := prog_1_method_3_code
def yX10_load : MethodName := ⟨RX10, "load", "(II)I"⟩
abbrev cX10_unload : ByteArray := prog_1_method_4_code
def yX10_unload : MethodName := ⟨RX10, "unload", "(I)I"⟩
abbrev cX10_shift : ByteArray := prog_1_method_5_code
def yX10_shift : MethodName := ⟨RX10, "shift", "(II)I"⟩
abbrev cX10_setLeak : ByteArray := prog_1_method_6_code
def yX10_setLeak : MethodName := ⟨RX10, "setLeak", "(II)I"⟩
abbrev cX10_setPump : ByteArray := prog_1_method_7_code
def yX10_setPump : MethodName := ⟨RX10, "setPump", "(II)I"⟩
abbrev cX10_transfer : ByteArray := prog_1_method_8_code
def yX10_transfer : MethodName := ⟨RX10, "transfer", "(III)I"⟩
abbrev cX10_balance : ByteArray := prog_1_method_9_code
def yX10_balance : MethodName := ⟨RX10, "balance", "(I)I"⟩
abbrev cX10_setPower : ByteArray := prog_1_method_10_code
def yX10_setPower : MethodName := ⟨RX10, "setPower", "(I)I"⟩
abbrev cX10_setLimit : ByteArray := prog_1_method_11_code
def yX10_setLimit : MethodName := ⟨RX10, "setLimit", "(I)I"⟩
abbrev cX10_schedule : ByteArray := prog_1_method_12_code
def yX10_schedule : MethodName := ⟨RX10, "schedule", "(II)I"⟩
abbrev cX10_cancelStorm : ByteArray := prog_1_method_13_code
def yX10_cancelStorm : MethodName := ⟨RX10, "cancelStorm", "(I)I"⟩
abbrev cX10_pass : ByteArray := prog_1_method_14_code
def yX10_pass : MethodName := ⟨RX10, "pass", "(I)I"⟩
abbrev cX10_minute : ByteArray := prog_1_method_15_code
def yX10_minute : MethodName := ⟨RX10, "minute", "()I"⟩
abbrev cX10_compartmentCount : ByteArray := prog_1_method_16_code
def yX10_compartmentCount : MethodName := ⟨RX10, "compartmentCount", "()I"⟩
abbrev cX10_arm : ByteArray := prog_1_method_17_code
def yX10_arm : MethodName := ⟨RX10, "arm", "(I)I"⟩
abbrev cX10_capacity : ByteArray := prog_1_method_18_code
def yX10_capacity : MethodName := ⟨RX10, "capacity", "(I)I"⟩
abbrev cX10_water : ByteArray := prog_1_method_19_code
def yX10_water : MethodName := ⟨RX10, "water", "(I)I"⟩
abbrev cX10_leak : ByteArray := prog_1_method_20_code
def yX10_leak : MethodName := ⟨RX10, "leak", "(I)I"⟩
abbrev cX10_loadOf : ByteArray := prog_1_method_21_code
def yX10_loadOf : MethodName := ⟨RX10, "loadOf", "(I)I"⟩
abbrev cX10_wouldPump : ByteArray := prog_1_method_22_code
def yX10_wouldPump : MethodName := ⟨RX10, "wouldPump", "(I)Z"⟩
abbrev cX10_pumpAt : ByteArray := prog_1_method_23_code
def yX10_pumpAt : MethodName := ⟨RX10, "pumpAt", "(I)I"⟩
abbrev cX10_minutesUntilFull : ByteArray := prog_1_method_24_code
def yX10_minutesUntilFull : MethodName := ⟨RX10, "minutesUntilFull", "(I)I"⟩
abbrev cX10_pieceCount : ByteArray := prog_1_method_25_code
def yX10_pieceCount : MethodName := ⟨RX10, "pieceCount", "()I"⟩
abbrev cX10_idAt : ByteArray := prog_1_method_26_code
def yX10_idAt : MethodName := ⟨RX10, "idAt", "(I)I"⟩
abbrev cX10_weightOf : ByteArray := prog_1_method_27_code
def yX10_weightOf : MethodName := ⟨RX10, "weightOf", "(I)I"⟩
abbrev cX10_compartmentOf : ByteArray := prog_1_method_28_code
def yX10_compartmentOf : MethodName := ⟨RX10, "compartmentOf", "(I)I"⟩
abbrev cX10_heaviestPiece : ByteArray := prog_1_method_29_code
def yX10_heaviestPiece : MethodName := ⟨RX10, "heaviestPiece", "()I"⟩
abbrev cX10_weight : ByteArray := prog_1_method_30_code
def yX10_weight : MethodName := ⟨RX10, "weight", "()I"⟩
abbrev cX10_weightByParts : ByteArray := prog_1_method_31_code
def yX10_weightByParts : MethodName := ⟨RX10, "weightByParts", "()I"⟩
abbrev cX10_moment : ByteArray := prog_1_method_32_code
def yX10_moment : MethodName := ⟨RX10, "moment", "()I"⟩
abbrev cX10_momentByParts : ByteArray := prog_1_method_33_code
def yX10_momentByParts : MethodName := ⟨RX10, "momentByParts", "()I"⟩
abbrev cX10_trim : ByteArray := prog_1_method_34_code
def yX10_trim : MethodName := ⟨RX10, "trim", "()I"⟩
abbrev cX10_isBalanced : ByteArray := prog_1_method_35_code
def yX10_isBalanced : MethodName := ⟨RX10, "isBalanced", "()Z"⟩
abbrev cX10_isAfloat : ByteArray := prog_1_method_36_code
def yX10_isAfloat : MethodName := ⟨RX10, "isAfloat", "()Z"⟩
abbrev cX10_bestSource : ByteArray := prog_1_method_37_code
def yX10_bestSource : MethodName := ⟨RX10, "bestSource", "(I)I"⟩
abbrev cX10_bestTarget : ByteArray := prog_1_method_38_code
def yX10_bestTarget : MethodName := ⟨RX10, "bestTarget", "(I)I"⟩
abbrev cX10_bestMoment : ByteArray := prog_1_method_39_code
def yX10_bestMoment : MethodName := ⟨RX10, "bestMoment", "(I)I"⟩
abbrev cX10_transfersToBalance : ByteArray := prog_1_method_40_code
def yX10_transfersToBalance : MethodName := ⟨RX10, "transfersToBalance", "(I)I"⟩
abbrev cX10_bestShiftPiece : ByteArray := prog_1_method_41_code
def yX10_bestShiftPiece : MethodName := ⟨RX10, "bestShiftPiece", "()I"⟩
abbrev cX10_bestShiftCompartment : ByteArray := prog_1_method_42_code
def yX10_bestShiftCompartment : MethodName := ⟨RX10, "bestShiftCompartment", "()I"⟩
abbrev cX10_momentAfter : ByteArray := prog_1_method_43_code
def yX10_momentAfter : MethodName := ⟨RX10, "momentAfter", "(I)I"⟩
abbrev cX10_compartmentByLoad : ByteArray := prog_1_method_45_code
def yX10_compartmentByLoad : MethodName := ⟨RX10, "compartmentByLoad", "(I)I"⟩
abbrev cX10_stormCount : ByteArray := prog_1_method_46_code
def yX10_stormCount : MethodName := ⟨RX10, "stormCount", "()I"⟩
abbrev cX10_nextStorm : ByteArray := prog_1_method_47_code
def yX10_nextStorm : MethodName := ⟨RX10, "nextStorm", "()I"⟩
abbrev cX10_strengthAt : ByteArray := prog_1_method_48_code
def yX10_strengthAt : MethodName := ⟨RX10, "strengthAt", "(I)I"⟩
abbrev cX10_meanWater : ByteArray := prog_1_method_51_code
def yX10_meanWater : MethodName := ⟨RX10, "meanWater", "()D"⟩
abbrev cX10_fillShare : ByteArray := prog_1_method_52_code
def yX10_fillShare : MethodName := ⟨RX10, "fillShare", "()F"⟩
abbrev cX10_isConsistent : ByteArray := prog_1_method_53_code
def yX10_isConsistent : MethodName := ⟨RX10, "isConsistent", "()Z"⟩
abbrev cX10_formatCompartment : ByteArray := prog_1_method_54_code
def yX10_formatCompartment : MethodName := ⟨RX10, "formatCompartment", "(I)I"⟩
abbrev cX10_formatCargo : ByteArray := prog_1_method_55_code
def yX10_formatCargo : MethodName := ⟨RX10, "formatCargo", "(I)I"⟩
abbrev cX10_formatStorms : ByteArray := prog_1_method_56_code
def yX10_formatStorms : MethodName := ⟨RX10, "formatStorms", "()I"⟩
abbrev cX10_lineChar : ByteArray := prog_1_method_57_code
def yX10_lineChar : MethodName := ⟨RX10, "lineChar", "(I)C"⟩
abbrev cX10_undoableCount : ByteArray := prog_1_method_62_code
def yX10_undoableCount : MethodName := ⟨RX10, "undoableCount", "()I"⟩
abbrev cX10_isWithin : ByteArray := prog_1_method_66_code
def yX10_isWithin : MethodName := ⟨RX10, "isWithin", "(III)Z"⟩
abbrev cX10_trimFor : ByteArray := prog_1_method_67_code
def yX10_trimFor : MethodName := ⟨RX10, "trimFor", "(II)I"⟩
abbrev cX10_faultOfAmount : ByteArray := prog_1_method_68_code
def yX10_faultOfAmount : MethodName := ⟨RX10, "faultOfAmount", "(I)LBallastControl$Fault;"⟩
abbrev cX10_refuse : ByteArray := prog_1_method_69_code
def yX10_refuse : MethodName := ⟨RX10, "refuse", "(LBallastControl$Fault;)V"⟩
abbrev cX10_checkCompartment : ByteArray := prog_1_method_70_code
def yX10_checkCompartment : MethodName := ⟨RX10, "checkCompartment", "(I)V"⟩
abbrev cX10_checkForMean : ByteArray := prog_1_method_71_code
def yX10_checkForMean : MethodName := ⟨RX10, "checkForMean", "()V"⟩
abbrev cX10_positionOfPiece : ByteArray := prog_1_method_72_code
def yX10_positionOfPiece : MethodName := ⟨RX10, "positionOfPiece", "(I)I"⟩
abbrev cX10_positionOfStorm : ByteArray := prog_1_method_73_code
def yX10_positionOfStorm : MethodName := ⟨RX10, "positionOfStorm", "(I)I"⟩
abbrev cX10_findBestTransfer : ByteArray := prog_1_method_74_code
def yX10_findBestTransfer : MethodName := ⟨RX10, "findBestTransfer", "(I)V"⟩
abbrev cX10_findBestShift : ByteArray := prog_1_method_75_code
def yX10_findBestShift : MethodName := ⟨RX10, "findBestShift", "()V"⟩
abbrev cX10_adviceHolds : ByteArray := prog_1_method_76_code
def yX10_adviceHolds : MethodName := ⟨RX10, "adviceHolds", "()Z"⟩
abbrev cX10_separate : ByteArray := prog_1_method_77_code
def yX10_separate : MethodName := ⟨RX10, "separate", "(C)V"⟩
def RX11 : String := "BallastControlModel"
def TX11 : u_T := fun k => match k with
  | _ => ("", "", "", false)
def tyX11 : Nat → FieldType := fun k => match k with
  | _ => .int
abbrev wsX110 : List Cond := u_ws RX11 TX11 0
theorem nmX11 : ∀ a, a < 0 → ∀ b, b < 0 → a ≠ b → (TX11 a).2.1 ≠ (TX11 b).2.1 := by decide +kernel
theorem tyX11_ok : ∀ k, k < 0 → parseFieldDescriptor (TX11 k).2.2.1 = some (tyX11 k) := by decide +kernel
def RJx145de : String := "java/io/Serializable"
def TJx145de : u_T := fun k => match k with
  | _ => ("", "", "", false)
def tyJx145de : Nat → FieldType := fun k => match k with
  | _ => .int
abbrev wsJx145de0 : List Cond := u_ws RJx145de TJx145de 0
theorem nmJx145de : ∀ a, a < 0 → ∀ b, b < 0 → a ≠ b → (TJx145de a).2.1 ≠ (TJx145de b).2.1 := by decide +kernel
theorem tyJx145de_ok : ∀ k, k < 0 → parseFieldDescriptor (TJx145de k).2.2.1 = some (tyJx145de k) := by decide +kernel
def RJ5 : String := "java/lang/AbstractStringBuilder"
def TJ5 : u_T := fun k => match k with
  | _ => ("", "", "", false)
def tyJ5 : Nat → FieldType := fun k => match k with
  | _ => .int
abbrev wsJ50 : List Cond := u_ws RJ5 TJ5 0
theorem nmJ5 : ∀ a, a < 0 → ∀ b, b < 0 → a ≠ b → (TJ5 a).2.1 ≠ (TJ5 b).2.1 := by decide +kernel
theorem tyJ5_ok : ∀ k, k < 0 → parseFieldDescriptor (TJ5 k).2.2.1 = some (tyJ5 k) := by decide +kernel
abbrev cJ5_init_d00df : ByteArray := prog_15_method_2_code
def yJ5_init_d00df : MethodName := ⟨RJ5, "<init>", "(I)V"⟩
abbrev cJ5_length_8abf5 : ByteArray := prog_15_method_6_code
def yJ5_length_8abf5 : MethodName := ⟨RJ5, "length", "()I"⟩
abbrev cJ5_ensureCapacityInternal_d00df : ByteArray := prog_15_method_9_code
def yJ5_ensureCapacityInternal_d00df : MethodName := ⟨RJ5, "ensureCapacityInternal", "(I)V"⟩
abbrev cJ5_newCapacity_0f7a4 : ByteArray := prog_15_method_10_code
def yJ5_newCapacity_0f7a4 : MethodName := ⟨RJ5, "newCapacity", "(I)I"⟩
abbrev cJ5_inflate_da8c8 : ByteArray := prog_15_method_11_code
def yJ5_inflate_da8c8 : MethodName := ⟨RJ5, "inflate", "()V"⟩
abbrev cJ5_setLength_d00df : ByteArray := prog_15_method_13_code
def yJ5_setLength_d00df : MethodName := ⟨RJ5, "setLength", "(I)V"⟩
abbrev cJ5_charAt_5068e : ByteArray := prog_15_method_14_code
def yJ5_charAt_5068e : MethodName := ⟨RJ5, "charAt", "(I)C"⟩
abbrev cJ5_append_cf1ce : ByteArray := prog_15_method_22_code
def yJ5_append_cf1ce : MethodName := ⟨RJ5, "append", "(Ljava/lang/String;)Ljava/lang/AbstractStringBuilder;"⟩
abbrev cJ5_appendNull_278bc : ByteArray := prog_15_method_26_code
def yJ5_appendNull_278bc : MethodName := ⟨RJ5, "appendNull", "()Ljava/lang/AbstractStringBuilder;"⟩
abbrev cJ5_append_3fe6f : ByteArray := prog_15_method_31_code
def yJ5_append_3fe6f : MethodName := ⟨RJ5, "append", "(C)Ljava/lang/AbstractStringBuilder;"⟩
abbrev cJ5_append_c97b9 : ByteArray := prog_15_method_32_code
def yJ5_append_c97b9 : MethodName := ⟨RJ5, "append", "(I)Ljava/lang/AbstractStringBuilder;"⟩
abbrev cJ5_getValue_6d5f1 : ByteArray := prog_15_method_64_code
def yJ5_getValue_6d5f1 : MethodName := ⟨RJ5, "getValue", "()[B"⟩
abbrev cJ5_isLatin1_aae02 : ByteArray := prog_15_method_68_code
def yJ5_isLatin1_aae02 : MethodName := ⟨RJ5, "isLatin1", "()Z"⟩
abbrev cJ5_inflateIfNeededFor_a7421 : ByteArray := prog_15_method_71_code
def yJ5_inflateIfNeededFor_a7421 : MethodName := ⟨RJ5, "inflateIfNeededFor", "(Ljava/lang/String;)V"⟩
abbrev cJ5_putStringAt_47b60 : ByteArray := prog_15_method_73_code
def yJ5_putStringAt_47b60 : MethodName := ⟨RJ5, "putStringAt", "(ILjava/lang/String;)V"⟩
def RJx2cfe8 : String := "java/lang/Appendable"
def TJx2cfe8 : u_T := fun k => match k with
  | _ => ("", "", "", false)
def tyJx2cfe8 : Nat → FieldType := fun k => match k with
  | _ => .int
abbrev wsJx2cfe80 : List Cond := u_ws RJx2cfe8 TJx2cfe8 0
theorem nmJx2cfe8 : ∀ a, a < 0 → ∀ b, b < 0 → a ≠ b → (TJx2cfe8 a).2.1 ≠ (TJx2cfe8 b).2.1 := by decide +kernel
theorem tyJx2cfe8_ok : ∀ k, k < 0 → parseFieldDescriptor (TJx2cfe8 k).2.2.1 = some (tyJx2cfe8 k) := by decide +kernel
def RJx00060 : String := "java/lang/ArrayIndexOutOfBoundsException"
def TJx00060 : u_T := fun k => match k with
  | 0 => ("java/lang/Throwable", "cause", "Ljava/lang/Throwable;", false)
  | 1 => ("java/lang/Throwable", "stackTrace", "[Ljava/lang/StackTraceElement;", false)
  | 2 => ("java/lang/Throwable", "suppressedExceptions", "Ljava/util/List;", false)
  | 3 => ("java/lang/Throwable", "detailMessage", "Ljava/lang/String;", false)
  | 4 => ("java/lang/Throwable", "backtrace", "Ljava/lang/Object;", false)
  | _ => ("java/lang/Throwable", "depth", "I", false)
def tyJx00060 : Nat → FieldType := fun k => match k with
  | 0 => .object "java/lang/Throwable"
  | 1 => .array (.object "java/lang/StackTraceElement")
  | 2 => .object "java/util/List"
  | 3 => .object "java/lang/String"
  | 4 => .object "java/lang/Object"
  | _ => .int
abbrev wsJx000600 : List Cond := u_ws RJx00060 TJx00060 6
theorem nmJx00060 : ∀ a, a < 6 → ∀ b, b < 6 → a ≠ b → (TJx00060 a).2.1 ≠ (TJx00060 b).2.1 := by decide +kernel
theorem tyJx00060_ok : ∀ k, k < 6 → parseFieldDescriptor (TJx00060 k).2.2.1 = some (tyJx00060 k) := by decide +kernel
abbrev cJx00060_init_a7421 : ByteArray := prog_18_method_2_code
def yJx00060_init_a7421 : MethodName := ⟨RJx00060, "<init>", "(Ljava/lang/String;)V"⟩
abbrev cJx00060_init_d00df : ByteArray := prog_18_method_3_code
def yJx00060_init_d00df : MethodName := ⟨RJx00060, "<init>", "(I)V"⟩
def RJx9f9b0 : String := "java/lang/CharSequence"
def TJx9f9b0 : u_T := fun k => match k with
  | _ => ("", "", "", false)
def tyJx9f9b0 : Nat → FieldType := fun k => match k with
  | _ => .int
abbrev wsJx9f9b00 : List Cond := u_ws RJx9f9b0 TJx9f9b0 0
theorem nmJx9f9b0 : ∀ a, a < 0 → ∀ b, b < 0 → a ≠ b → (TJx9f9b0 a).2.1 ≠ (TJx9f9b0 b).2.1 := by decide +kernel
theorem tyJx9f9b0_ok : ∀ k, k < 0 → parseFieldDescriptor (TJx9f9b0 k).2.2.1 = some (tyJx9f9b0 k) := by decide +kernel
def RJx8e188 : String := "java/lang/Cloneable"
def TJx8e188 : u_T := fun k => match k with
  | _ => ("", "", "", false)
def tyJx8e188 : Nat → FieldType := fun k => match k with
  | _ => .int
abbrev wsJx8e1880 : List Cond := u_ws RJx8e188 TJx8e188 0
theorem nmJx8e188 : ∀ a, a < 0 → ∀ b, b < 0 → a ≠ b → (TJx8e188 a).2.1 ≠ (TJx8e188 b).2.1 := by decide +kernel
theorem tyJx8e188_ok : ∀ k, k < 0 → parseFieldDescriptor (TJx8e188 k).2.2.1 = some (tyJx8e188 k) := by decide +kernel
def RJxb160c : String := "java/lang/Comparable"
def TJxb160c : u_T := fun k => match k with
  | _ => ("", "", "", false)
def tyJxb160c : Nat → FieldType := fun k => match k with
  | _ => .int
abbrev wsJxb160c0 : List Cond := u_ws RJxb160c TJxb160c 0
theorem nmJxb160c : ∀ a, a < 0 → ∀ b, b < 0 → a ≠ b → (TJxb160c a).2.1 ≠ (TJxb160c b).2.1 := by decide +kernel
theorem tyJxb160c_ok : ∀ k, k < 0 → parseFieldDescriptor (TJxb160c k).2.2.1 = some (tyJxb160c k) := by decide +kernel
def RJx29ce0 : String := "java/lang/Enum"
def TJx29ce0 : u_T := fun k => match k with
  | _ => ("", "", "", false)
def tyJx29ce0 : Nat → FieldType := fun k => match k with
  | _ => .int
abbrev wsJx29ce00 : List Cond := u_ws RJx29ce0 TJx29ce0 0
theorem nmJx29ce0 : ∀ a, a < 0 → ∀ b, b < 0 → a ≠ b → (TJx29ce0 a).2.1 ≠ (TJx29ce0 b).2.1 := by decide +kernel
theorem tyJx29ce0_ok : ∀ k, k < 0 → parseFieldDescriptor (TJx29ce0 k).2.2.1 = some (tyJx29ce0 k) := by decide +kernel
def RJ6 : String := "java/lang/Integer"
def TJ6 : u_T := fun k => match k with
  | _ => ("", "", "", false)
def tyJ6 : Nat → FieldType := fun k => match k with
  | _ => .int
abbrev wsJ60 : List Cond := u_ws RJ6 TJ6 0
theorem nmJ6 : ∀ a, a < 0 → ∀ b, b < 0 → a ≠ b → (TJ6 a).2.1 ≠ (TJ6 b).2.1 := by decide +kernel
theorem tyJ6_ok : ∀ k, k < 0 → parseFieldDescriptor (TJ6 k).2.2.1 = some (tyJ6 k) := by decide +kernel
abbrev cJ6_getChars_ba4f3 : ByteArray := prog_27_method_12_code
def yJ6_getChars_ba4f3 : MethodName := ⟨RJ6, "getChars", "(II[B)I"⟩
abbrev cJ6_stringSize_0f7a4 : ByteArray := prog_27_method_13_code
def yJ6_stringSize_0f7a4 : MethodName := ⟨RJ6, "stringSize", "(I)I"⟩
def RJ9 : String := "java/lang/Math"
def TJ9 : u_T := fun k => match k with
  | _ => ("", "", "", false)
def tyJ9 : Nat → FieldType := fun k => match k with
  | _ => .int
abbrev wsJ90 : List Cond := u_ws RJ9 TJ9 0
theorem nmJ9 : ∀ a, a < 0 → ∀ b, b < 0 → a ≠ b → (TJ9 a).2.1 ≠ (TJ9 b).2.1 := by decide +kernel
theorem tyJ9_ok : ∀ k, k < 0 → parseFieldDescriptor (TJ9 k).2.2.1 = some (tyJ9 k) := by decide +kernel
abbrev cJ9_abs_0f7a4 : ByteArray := prog_28_method_59_code
def yJ9_abs_0f7a4 : MethodName := ⟨RJ9, "abs", "(I)I"⟩
abbrev cJ9_max_7cf53 : ByteArray := prog_28_method_65_code
def yJ9_max_7cf53 : MethodName := ⟨RJ9, "max", "(II)I"⟩
abbrev cJ9_min_7cf53 : ByteArray := prog_28_method_69_code
def yJ9_min_7cf53 : MethodName := ⟨RJ9, "min", "(II)I"⟩
def RJxd2413 : String := "java/lang/Number"
def TJxd2413 : u_T := fun k => match k with
  | _ => ("", "", "", false)
def tyJxd2413 : Nat → FieldType := fun k => match k with
  | _ => .int
abbrev wsJxd24130 : List Cond := u_ws RJxd2413 TJxd2413 0
theorem nmJxd2413 : ∀ a, a < 0 → ∀ b, b < 0 → a ≠ b → (TJxd2413 a).2.1 ≠ (TJxd2413 b).2.1 := by decide +kernel
theorem tyJxd2413_ok : ∀ k, k < 0 → parseFieldDescriptor (TJxd2413 k).2.2.1 = some (tyJxd2413 k) := by decide +kernel
def RJ0 : String := "java/lang/String"
def TJ0 : u_T := fun k => match k with
  | 0 => ("java/lang/String", "value", "[B", true)
  | 1 => ("java/lang/String", "coder", "B", true)
  | 2 => ("java/lang/String", "hash", "I", false)
  | _ => ("java/lang/String", "hashIsZero", "Z", false)
def tyJ0 : Nat → FieldType := fun k => match k with
  | 0 => .array .byte
  | 1 => .byte
  | 2 => .int
  | _ => .boolean
abbrev wsJ00 : List Cond := u_ws RJ0 TJ0 4
theorem nmJ0 : ∀ a, a < 4 → ∀ b, b < 4 → a ≠ b → (TJ0 a).2.1 ≠ (TJ0 b).2.1 := by decide +kernel
theorem tyJ0_ok : ∀ k, k < 4 → parseFieldDescriptor (TJ0 k).2.2.1 = some (tyJ0 k) := by decide +kernel
abbrev cJ0_init_81219 : ByteArray := prog_31_method_53_code
def yJ0_init_81219 : MethodName := ⟨RJ0, "<init>", "(Ljava/lang/StringBuilder;)V"⟩
abbrev cJ0_length_8abf5 : ByteArray := prog_31_method_54_code
def yJ0_length_8abf5 : MethodName := ⟨RJ0, "length", "()I"⟩
abbrev cJ0_charAt_5068e : ByteArray := prog_31_method_56_code
def yJ0_charAt_5068e : MethodName := ⟨RJ0, "charAt", "(I)C"⟩
abbrev cJ0_getBytes_840e7 : ByteArray := prog_31_method_147_code
def yJ0_getBytes_840e7 : MethodName := ⟨RJ0, "getBytes", "([BIB)V"⟩
abbrev cJ0_init_db425 : ByteArray := prog_31_method_150_code
def yJ0_init_db425 : MethodName := ⟨RJ0, "<init>", "(Ljava/lang/AbstractStringBuilder;Ljava/lang/Void;)V"⟩
abbrev cJ0_coder_7d493 : ByteArray := prog_31_method_152_code
def yJ0_coder_7d493 : MethodName := ⟨RJ0, "coder", "()B"⟩
abbrev cJ0_isLatin1_aae02 : ByteArray := prog_31_method_154_code
def yJ0_isLatin1_aae02 : MethodName := ⟨RJ0, "isLatin1", "()Z"⟩
abbrev cJ0_checkIndex_df160 : ByteArray := prog_31_method_155_code
def yJ0_checkIndex_df160 : MethodName := ⟨RJ0, "checkIndex", "(II)V"⟩
abbrev cJ0_checkBoundsOffCount_cabcc : ByteArray := prog_31_method_157_code
def yJ0_checkBoundsOffCount_cabcc : MethodName := ⟨RJ0, "checkBoundsOffCount", "(III)I"⟩
abbrev cJ0_checkBoundsBeginEnd_23922 : ByteArray := prog_31_method_158_code
def yJ0_checkBoundsBeginEnd_23922 : MethodName := ⟨RJ0, "checkBoundsBeginEnd", "(III)V"⟩
def RJ4 : String := "java/lang/StringBuilder"
def TJ4 : u_T := fun k => match k with
  | 0 => ("java/lang/AbstractStringBuilder", "value", "[B", false)
  | 1 => ("java/lang/AbstractStringBuilder", "coder", "B", false)
  | 2 => ("java/lang/AbstractStringBuilder", "maybeLatin1", "Z", false)
  | _ => ("java/lang/AbstractStringBuilder", "count", "I", false)
def tyJ4 : Nat → FieldType := fun k => match k with
  | 0 => .array .byte
  | 1 => .byte
  | 2 => .boolean
  | _ => .int
abbrev wsJ40 : List Cond := u_ws RJ4 TJ4 4
theorem nmJ4 : ∀ a, a < 4 → ∀ b, b < 4 → a ≠ b → (TJ4 a).2.1 ≠ (TJ4 b).2.1 := by decide +kernel
theorem tyJ4_ok : ∀ k, k < 4 → parseFieldDescriptor (TJ4 k).2.2.1 = some (tyJ4 k) := by decide +kernel
abbrev cJ4_init_da8c8 : ByteArray := prog_32_method_1_code
def yJ4_init_da8c8 : MethodName := ⟨RJ4, "<init>", "()V"⟩
abbrev cJ4_append_15ec4 : ByteArray := prog_32_method_7_code
def yJ4_append_15ec4 : MethodName := ⟨RJ4, "append", "(Ljava/lang/String;)Ljava/lang/StringBuilder;"⟩
abbrev cJ4_append_cf468 : ByteArray := prog_32_method_14_code
def yJ4_append_cf468 : MethodName := ⟨RJ4, "append", "(C)Ljava/lang/StringBuilder;"⟩
abbrev cJ4_append_bf812 : ByteArray := prog_32_method_15_code
def yJ4_append_bf812 : MethodName := ⟨RJ4, "append", "(I)Ljava/lang/StringBuilder;"⟩
abbrev cJ4_toString_0e30d : ByteArray := prog_32_method_42_code
def yJ4_toString_0e30d : MethodName := ⟨RJ4, "toString", "()Ljava/lang/String;"⟩
abbrev cJ4_charAt_5068e : ByteArray := prog_32_method_88_code
def yJ4_charAt_5068e : MethodName := ⟨RJ4, "charAt", "(I)C"⟩
abbrev cJ4_setLength_d00df : ByteArray := prog_32_method_89_code
def yJ4_setLength_d00df : MethodName := ⟨RJ4, "setLength", "(I)V"⟩
abbrev cJ4_length_8abf5 : ByteArray := prog_32_method_93_code
def yJ4_length_8abf5 : MethodName := ⟨RJ4, "length", "()I"⟩
def RJx7c733 : String := "java/lang/StringIndexOutOfBoundsException"
def TJx7c733 : u_T := fun k => match k with
  | 0 => ("java/lang/Throwable", "backtrace", "Ljava/lang/Object;", false)
  | 1 => ("java/lang/Throwable", "detailMessage", "Ljava/lang/String;", false)
  | 2 => ("java/lang/Throwable", "cause", "Ljava/lang/Throwable;", false)
  | 3 => ("java/lang/Throwable", "stackTrace", "[Ljava/lang/StackTraceElement;", false)
  | 4 => ("java/lang/Throwable", "depth", "I", false)
  | _ => ("java/lang/Throwable", "suppressedExceptions", "Ljava/util/List;", false)
def tyJx7c733 : Nat → FieldType := fun k => match k with
  | 0 => .object "java/lang/Object"
  | 1 => .object "java/lang/String"
  | 2 => .object "java/lang/Throwable"
  | 3 => .array (.object "java/lang/StackTraceElement")
  | 4 => .int
  | _ => .object "java/util/List"
abbrev wsJx7c7330 : List Cond := u_ws RJx7c733 TJx7c733 6
theorem nmJx7c733 : ∀ a, a < 6 → ∀ b, b < 6 → a ≠ b → (TJx7c733 a).2.1 ≠ (TJx7c733 b).2.1 := by decide +kernel
theorem tyJx7c733_ok : ∀ k, k < 6 → parseFieldDescriptor (TJx7c733 k).2.2.1 = some (tyJx7c733 k) := by decide +kernel
abbrev cJx7c733_init_d00df : ByteArray := prog_33_method_3_code
def yJx7c733_init_d00df : MethodName := ⟨RJx7c733, "<init>", "(I)V"⟩
def RJ1 : String := "java/lang/StringLatin1"
def TJ1 : u_T := fun k => match k with
  | _ => ("", "", "", false)
def tyJ1 : Nat → FieldType := fun k => match k with
  | _ => .int
abbrev wsJ10 : List Cond := u_ws RJ1 TJ1 0
theorem nmJ1 : ∀ a, a < 0 → ∀ b, b < 0 → a ≠ b → (TJ1 a).2.1 ≠ (TJ1 b).2.1 := by decide +kernel
theorem tyJ1_ok : ∀ k, k < 0 → parseFieldDescriptor (TJ1 k).2.2.1 = some (tyJ1 k) := by decide +kernel
abbrev cJ1_charAt_3b067 : ByteArray := prog_34_method_2_code
def yJ1_charAt_3b067 : MethodName := ⟨RJ1, "charAt", "([BI)C"⟩
abbrev cJ1_canEncode_fc78d : ByteArray := prog_34_method_3_code
def yJ1_canEncode_fc78d : MethodName := ⟨RJ1, "canEncode", "(C)Z"⟩
abbrev cJ1_fillNull_b72d1 : ByteArray := prog_34_method_48_code
def yJ1_fillNull_b72d1 : MethodName := ⟨RJ1, "fillNull", "([BII)V"⟩
abbrev cJ1_inflate_0e8fd : ByteArray := prog_34_method_50_code
def yJ1_inflate_0e8fd : MethodName := ⟨RJ1, "inflate", "([BI[BII)V"⟩
def RJ2 : String := "java/lang/StringUTF16"
def TJ2 : u_T := fun k => match k with
  | _ => ("", "", "", false)
def tyJ2 : Nat → FieldType := fun k => match k with
  | _ => .int
abbrev wsJ20 : List Cond := u_ws RJ2 TJ2 0
theorem nmJ2 : ∀ a, a < 0 → ∀ b, b < 0 → a ≠ b → (TJ2 a).2.1 ≠ (TJ2 b).2.1 := by decide +kernel
theorem tyJ2_ok : ∀ k, k < 0 → parseFieldDescriptor (TJ2 k).2.2.1 = some (tyJ2 k) := by decide +kernel
abbrev cJ2_newBytesFor_77867 : ByteArray := prog_35_method_2_code
def yJ2_newBytesFor_77867 : MethodName := ⟨RJ2, "newBytesFor", "(I)[B"⟩
abbrev cJ2_newBytesLength_0f7a4 : ByteArray := prog_35_method_3_code
def yJ2_newBytesLength_0f7a4 : MethodName := ⟨RJ2, "newBytesLength", "(I)I"⟩
abbrev cJ2_putChar_b72d1 : ByteArray := prog_35_method_4_code
def yJ2_putChar_b72d1 : MethodName := ⟨RJ2, "putChar", "([BII)V"⟩
abbrev cJ2_getChar_3b067 : ByteArray := prog_35_method_5_code
def yJ2_getChar_3b067 : MethodName := ⟨RJ2, "getChar", "([BI)C"⟩
abbrev cJ2_length_9d52b : ByteArray := prog_35_method_6_code
def yJ2_length_9d52b : MethodName := ⟨RJ2, "length", "([B)I"⟩
abbrev cJ2_coderFromArrayLen_85cad : ByteArray := prog_35_method_15_code
def yJ2_coderFromArrayLen_85cad : MethodName := ⟨RJ2, "coderFromArrayLen", "([BI)B"⟩
abbrev cJ2_compress_39247 : ByteArray := prog_35_method_17_code
def yJ2_compress_39247 : MethodName := ⟨RJ2, "compress", "([BII)[B"⟩
abbrev cJ2_compress_5af95 : ByteArray := prog_35_method_22_code
def yJ2_compress_5af95 : MethodName := ⟨RJ2, "compress", "([BI[BII)I"⟩
abbrev cJ2_fillNull_b72d1 : ByteArray := prog_35_method_70_code
def yJ2_fillNull_b72d1 : MethodName := ⟨RJ2, "fillNull", "([BII)V"⟩
abbrev cJ2_putCharSB_b72d1 : ByteArray := prog_35_method_71_code
def yJ2_putCharSB_b72d1 : MethodName := ⟨RJ2, "putCharSB", "([BII)V"⟩
abbrev cJ2_getChars_46870 : ByteArray := prog_35_method_77_code
def yJ2_getChars_46870 : MethodName := ⟨RJ2, "getChars", "(III[B)I"⟩
abbrev cJ2_putCharsAt_cd4e5 : ByteArray := prog_35_method_81_code
def yJ2_putCharsAt_cd4e5 : MethodName := ⟨RJ2, "putCharsAt", "([BICCCC)I"⟩
abbrev cJ2_charAt_3b067 : ByteArray := prog_35_method_83_code
def yJ2_charAt_3b067 : MethodName := ⟨RJ2, "charAt", "([BI)C"⟩
abbrev cJ2_inflate_0e8fd : ByteArray := prog_35_method_86_code
def yJ2_inflate_0e8fd : MethodName := ⟨RJ2, "inflate", "([BI[BII)V"⟩
abbrev cJ2_getChars_ba4f3 : ByteArray := prog_35_method_89_code
def yJ2_getChars_ba4f3 : MethodName := ⟨RJ2, "getChars", "(II[B)I"⟩
abbrev cJ2_checkIndex_2214a : ByteArray := prog_35_method_91_code
def yJ2_checkIndex_2214a : MethodName := ⟨RJ2, "checkIndex", "(I[B)V"⟩
abbrev cJ2_checkBoundsBeginEnd_d044e : ByteArray := prog_35_method_93_code
def yJ2_checkBoundsBeginEnd_d044e : MethodName := ⟨RJ2, "checkBoundsBeginEnd", "(II[B)V"⟩
abbrev cJ2_checkBoundsOffCount_d044e : ByteArray := prog_35_method_94_code
def yJ2_checkBoundsOffCount_d044e : MethodName := ⟨RJ2, "checkBoundsOffCount", "(II[B)V"⟩
def RJ10 : String := "java/lang/System"
def TJ10 : u_T := fun k => match k with
  | _ => ("", "", "", false)
def tyJ10 : Nat → FieldType := fun k => match k with
  | _ => .int
abbrev wsJ100 : List Cond := u_ws RJ10 TJ10 0
theorem nmJ10 : ∀ a, a < 0 → ∀ b, b < 0 → a ≠ b → (TJ10 a).2.1 ≠ (TJ10 b).2.1 := by decide +kernel
theorem tyJ10_ok : ∀ k, k < 0 → parseFieldDescriptor (TJ10 k).2.2.1 = some (tyJ10 k) := by decide +kernel
def RJxfd54e : String := "java/lang/constant/Constable"
def TJxfd54e : u_T := fun k => match k with
  | _ => ("", "", "", false)
def tyJxfd54e : Nat → FieldType := fun k => match k with
  | _ => .int
abbrev wsJxfd54e0 : List Cond := u_ws RJxfd54e TJxfd54e 0
theorem nmJxfd54e : ∀ a, a < 0 → ∀ b, b < 0 → a ≠ b → (TJxfd54e a).2.1 ≠ (TJxfd54e b).2.1 := by decide +kernel
theorem tyJxfd54e_ok : ∀ k, k < 0 → parseFieldDescriptor (TJxfd54e k).2.2.1 = some (tyJxfd54e k) := by decide +kernel
def RJx3cf43 : String := "java/lang/constant/ConstantDesc"
def TJx3cf43 : u_T := fun k => match k with
  | _ => ("", "", "", false)
def tyJx3cf43 : Nat → FieldType := fun k => match k with
  | _ => .int
abbrev wsJx3cf430 : List Cond := u_ws RJx3cf43 TJx3cf43 0
theorem nmJx3cf43 : ∀ a, a < 0 → ∀ b, b < 0 → a ≠ b → (TJx3cf43 a).2.1 ≠ (TJx3cf43 b).2.1 := by decide +kernel
theorem tyJx3cf43_ok : ∀ k, k < 0 → parseFieldDescriptor (TJx3cf43 k).2.2.1 = some (tyJx3cf43 k) := by decide +kernel
def RJ7 : String := "java/util/Arrays"
def TJ7 : u_T := fun k => match k with
  | _ => ("", "", "", false)
def tyJ7 : Nat → FieldType := fun k => match k with
  | _ => .int
abbrev wsJ70 : List Cond := u_ws RJ7 TJ7 0
theorem nmJ7 : ∀ a, a < 0 → ∀ b, b < 0 → a ≠ b → (TJ7 a).2.1 ≠ (TJ7 b).2.1 := by decide +kernel
theorem tyJ7_ok : ∀ k, k < 0 → parseFieldDescriptor (TJ7 k).2.2.1 = some (tyJ7 k) := by decide +kernel
abbrev cJ7_rangeCheck_23922 : ByteArray := prog_40_method_30_code
def yJ7_rangeCheck_23922 : MethodName := ⟨RJ7, "rangeCheck", "(III)V"⟩
abbrev cJ7_fill_eb02e : ByteArray := prog_40_method_110_code
def yJ7_fill_eb02e : MethodName := ⟨RJ7, "fill", "([BIIB)V"⟩
abbrev cJ7_copyOf_9075b : ByteArray := prog_40_method_121_code
def yJ7_copyOf_9075b : MethodName := ⟨RJ7, "copyOf", "([BI)[B"⟩
abbrev cJ7_checkLength_df160 : ByteArray := prog_40_method_131_code
def yJ7_checkLength_df160 : MethodName := ⟨RJ7, "checkLength", "(II)V"⟩
abbrev cJ7_copyOfRange_39247 : ByteArray := prog_40_method_132_code
def yJ7_copyOfRange_39247 : MethodName := ⟨RJ7, "copyOfRange", "([BII)[B"⟩
abbrev cJ7_copyOfRangeByte_39247 : ByteArray := prog_40_method_133_code
def yJ7_copyOfRangeByte_39247 : MethodName := ⟨RJ7, "copyOfRangeByte", "([BII)[B"⟩
def RJ8 : String := "jdk/internal/util/ArraysSupport"
def TJ8 : u_T := fun k => match k with
  | _ => ("", "", "", false)
def tyJ8 : Nat → FieldType := fun k => match k with
  | _ => .int
abbrev wsJ80 : List Cond := u_ws RJ8 TJ8 0
theorem nmJ8 : ∀ a, a < 0 → ∀ b, b < 0 → a ≠ b → (TJ8 a).2.1 ≠ (TJ8 b).2.1 := by decide +kernel
theorem tyJ8_ok : ∀ k, k < 0 → parseFieldDescriptor (TJ8 k).2.2.1 = some (tyJ8 k) := by decide +kernel
abbrev cJ8_newLength_cabcc : ByteArray := prog_42_method_27_code
def yJ8_newLength_cabcc : MethodName := ⟨RJ8, "newLength", "(III)I"⟩
abbrev cJ8_hugeLength_7cf53 : ByteArray := prog_42_method_28_code
def yJ8_hugeLength_7cf53 : MethodName := ⟨RJ8, "hugeLength", "(II)I"⟩
def RJ3 : String := "jdk/internal/util/Preconditions"
def TJ3 : u_T := fun k => match k with
  | _ => ("", "", "", false)
def tyJ3 : Nat → FieldType := fun k => match k with
  | _ => .int
abbrev wsJ30 : List Cond := u_ws RJ3 TJ3 0
theorem nmJ3 : ∀ a, a < 0 → ∀ b, b < 0 → a ≠ b → (TJ3 a).2.1 ≠ (TJ3 b).2.1 := by decide +kernel
theorem tyJ3_ok : ∀ k, k < 0 → parseFieldDescriptor (TJ3 k).2.2.1 = some (tyJ3 k) := by decide +kernel
abbrev cJ3_checkIndex_8e157 : ByteArray := prog_43_method_11_code
def yJ3_checkIndex_8e157 : MethodName := ⟨RJ3, "checkIndex", "(IILjava/util/function/BiFunction;)I"⟩
abbrev cJ3_checkFromToIndex_8c36e : ByteArray := prog_43_method_12_code
def yJ3_checkFromToIndex_8c36e : MethodName := ⟨RJ3, "checkFromToIndex", "(IIILjava/util/function/BiFunction;)I"⟩
abbrev cJ3_checkFromIndexSize_8c36e : ByteArray := prog_43_method_13_code
def yJ3_checkFromIndexSize_8c36e : MethodName := ⟨RJ3, "checkFromIndexSize", "(IIILjava/util/function/BiFunction;)I"⟩
def RL : String := "BallastControlLaw"
abbrev cL_cell : ByteArray := method_2_code
def yL_cell : MethodName := ⟨RL, "cell", "([II)I"⟩
abbrev cL_some : ByteArray := method_3_code
def yL_some : MethodName := ⟨RL, "some", "([III)I"⟩
abbrev cL_addCompartment : ByteArray := method_4_code
def yL_addCompartment : MethodName := ⟨RL, "addCompartment", "(LBallastControl;II)I"⟩
abbrev cL_load : ByteArray := method_5_code
def yL_load : MethodName := ⟨RL, "load", "(LBallastControl;II)I"⟩
abbrev cL_unload : ByteArray := method_6_code
def yL_unload : MethodName := ⟨RL, "unload", "(LBallastControl;I)I"⟩
abbrev cL_shift : ByteArray := method_7_code
def yL_shift : MethodName := ⟨RL, "shift", "(LBallastControl;II)I"⟩
abbrev cL_setLeak : ByteArray := method_8_code
def yL_setLeak : MethodName := ⟨RL, "setLeak", "(LBallastControl;II)I"⟩
abbrev cL_setPump : ByteArray := method_9_code
def yL_setPump : MethodName := ⟨RL, "setPump", "(LBallastControl;II)I"⟩
abbrev cL_transfer : ByteArray := method_10_code
def yL_transfer : MethodName := ⟨RL, "transfer", "(LBallastControl;III)I"⟩
abbrev cL_balance : ByteArray := method_11_code
def yL_balance : MethodName := ⟨RL, "balance", "(LBallastControl;I)I"⟩
abbrev cL_setPower : ByteArray := method_12_code
def yL_setPower : MethodName := ⟨RL, "setPower", "(LBallastControl;I)I"⟩
abbrev cL_setLimit : ByteArray := method_13_code
def yL_setLimit : MethodName := ⟨RL, "setLimit", "(LBallastControl;I)I"⟩
abbrev cL_schedule : ByteArray := method_14_code
def yL_schedule : MethodName := ⟨RL, "schedule", "(LBallastControl;II)I"⟩
abbrev cL_cancelStorm : ByteArray := method_15_code
def yL_cancelStorm : MethodName := ⟨RL, "cancelStorm", "(LBallastControl;I)I"⟩
abbrev cL_pass : ByteArray := method_16_code
def yL_pass : MethodName := ⟨RL, "pass", "(LBallastControl;I)I"⟩
abbrev cL_pumpAt : ByteArray := method_17_code
def yL_pumpAt : MethodName := ⟨RL, "pumpAt", "(LBallastControl;I)I"⟩
abbrev cL_minutesUntilFull : ByteArray := method_18_code
def yL_minutesUntilFull : MethodName := ⟨RL, "minutesUntilFull", "(LBallastControl;I)I"⟩
abbrev cL_idAt : ByteArray := method_19_code
def yL_idAt : MethodName := ⟨RL, "idAt", "(LBallastControl;I)I"⟩
abbrev cL_heaviestPiece : ByteArray := method_20_code
def yL_heaviestPiece : MethodName := ⟨RL, "heaviestPiece", "(LBallastControl;)I"⟩
abbrev cL_bestSource : ByteArray := method_21_code
def yL_bestSource : MethodName := ⟨RL, "bestSource", "(LBallastControl;I)I"⟩
abbrev cL_bestTarget : ByteArray := method_22_code
def yL_bestTarget : MethodName := ⟨RL, "bestTarget", "(LBallastControl;I)I"⟩
abbrev cL_bestMoment : ByteArray := method_23_code
def yL_bestMoment : MethodName := ⟨RL, "bestMoment", "(LBallastControl;I)I"⟩
abbrev cL_transfersToBalance : ByteArray := method_24_code
def yL_transfersToBalance : MethodName := ⟨RL, "transfersToBalance", "(LBallastControl;I)I"⟩
abbrev cL_bestShiftPiece : ByteArray := method_25_code
def yL_bestShiftPiece : MethodName := ⟨RL, "bestShiftPiece", "(LBallastControl;)I"⟩
abbrev cL_bestShiftCompartment : ByteArray := method_26_code
def yL_bestShiftCompartment : MethodName := ⟨RL, "bestShiftCompartment", "(LBallastControl;)I"⟩
abbrev cL_momentAfter : ByteArray := method_27_code
def yL_momentAfter : MethodName := ⟨RL, "momentAfter", "(LBallastControl;I)I"⟩
abbrev cL_compartmentByLoad : ByteArray := method_28_code
def yL_compartmentByLoad : MethodName := ⟨RL, "compartmentByLoad", "(LBallastControl;I)I"⟩
abbrev cL_nextStorm : ByteArray := method_29_code
def yL_nextStorm : MethodName := ⟨RL, "nextStorm", "(LBallastControl;)I"⟩
abbrev cL_strengthAt : ByteArray := method_30_code
def yL_strengthAt : MethodName := ⟨RL, "strengthAt", "(LBallastControl;I)I"⟩
abbrev cL_build : ByteArray := method_31_code
def yL_build : MethodName := ⟨RL, "build", "(LBallastControl;[I)V"⟩
abbrev cL_acts : ByteArray := method_32_code
def yL_acts : MethodName := ⟨RL, "acts", "(LBallastControl;[II)V"⟩
abbrev cL_isLine : ByteArray := method_33_code
def yL_isLine : MethodName := ⟨RL, "isLine", "(LBallastControl;ILjava/lang/String;)Z"⟩
abbrev cL_law : ByteArray := code
def yL_law : MethodName := ⟨RL, "law", "([I)Z"⟩
abbrev vwCl : List vw_C := [(RJ0, TJ0, 4), (RJ4, TJ4, 4), (RJx00060, TJx00060, 6), (RJx7c733, TJx7c733, 6), (RX1, TX1, 5), (RX2, TX2, 4), (RX4, TX4, 3), (RX5, TX5, 7), (RX7, TX7, 6), (RX8, TX8, 8), (RX9, TX9, 5), (RX10, TX10, 13)]
