section
-- ===== PART A: goes FIRST, ahead of the names: the tables' words, and 'selects' of the private methods out of them =====
/-- a private method of a class that the tables say can be made, by its rows of tables_1 -/
def lw_okq (q : MethodName × Nat) : Prop := (q.1.cls ≠ "java/lang/invoke/MethodHandle" ∧ q.1.cls ≠ "java/lang/invoke/VarHandle") ∧ Cond.instantiable q.1.cls q.2 ∈ tables_1 ∧ Cond.privateMethod q.1 ∈ tables_1 ∧ Cond.instanceMethod q.1 ∈ tables_1
theorem lw_p0 : lw_okq (⟨"BallastControl", "adviceHolds", "()Z"⟩, 14) := ⟨⟨by decide +kernel, by decide +kernel⟩, List.mem_of_getElem? (i := 37) (by decide +kernel), List.mem_of_getElem? (i := 438) (by decide +kernel), List.mem_of_getElem? (i := 439) (by decide +kernel)⟩
theorem lw_p1 : lw_okq (⟨"BallastControl$Choice", "offer", "(III)V"⟩, 4) := ⟨⟨by decide +kernel, by decide +kernel⟩, List.mem_of_getElem? (i := 209) (by decide +kernel), List.mem_of_getElem? (i := 450) (by decide +kernel), List.mem_of_getElem? (i := 451) (by decide +kernel)⟩
theorem lw_p2 : lw_okq (⟨"java/lang/Throwable", "fillInStackTrace", "(I)Ljava/lang/Throwable;"⟩, 6) := ⟨⟨by decide +kernel, by decide +kernel⟩, List.mem_of_getElem? (i := 724) (by decide +kernel), List.mem_of_getElem? (i := 722) (by decide +kernel), List.mem_of_getElem? (i := 723) (by decide +kernel)⟩
theorem lw_p3 : lw_okq (⟨"BallastControl", "separate", "(C)V"⟩, 14) := ⟨⟨by decide +kernel, by decide +kernel⟩, List.mem_of_getElem? (i := 37) (by decide +kernel), List.mem_of_getElem? (i := 832) (by decide +kernel), List.mem_of_getElem? (i := 833) (by decide +kernel)⟩
theorem lw_p4 : lw_okq (⟨"BallastControl", "positionOfStorm", "(I)I"⟩, 14) := ⟨⟨by decide +kernel, by decide +kernel⟩, List.mem_of_getElem? (i := 37) (by decide +kernel), List.mem_of_getElem? (i := 1110) (by decide +kernel), List.mem_of_getElem? (i := 1111) (by decide +kernel)⟩
theorem lw_p5 : lw_okq (⟨"BallastControl$Ship", "strikeIfScheduled", "()V"⟩, 8) := ⟨⟨by decide +kernel, by decide +kernel⟩, List.mem_of_getElem? (i := 45) (by decide +kernel), List.mem_of_getElem? (i := 1135) (by decide +kernel), List.mem_of_getElem? (i := 1136) (by decide +kernel)⟩
theorem lw_p6 : lw_okq (⟨"BallastControl$Ship", "fullestCompartment", "()I"⟩, 8) := ⟨⟨by decide +kernel, by decide +kernel⟩, List.mem_of_getElem? (i := 45) (by decide +kernel), List.mem_of_getElem? (i := 1145) (by decide +kernel), List.mem_of_getElem? (i := 1146) (by decide +kernel)⟩
theorem lw_p7 : lw_okq (⟨"BallastControl$Hold", "pumpsBefore", "(II)Z"⟩, 7) := ⟨⟨by decide +kernel, by decide +kernel⟩, List.mem_of_getElem? (i := 51) (by decide +kernel), List.mem_of_getElem? (i := 1171) (by decide +kernel), List.mem_of_getElem? (i := 1172) (by decide +kernel)⟩
theorem lw_p8 : lw_okq (⟨"BallastControl", "checkCompartment", "(I)V"⟩, 14) := ⟨⟨by decide +kernel, by decide +kernel⟩, List.mem_of_getElem? (i := 37) (by decide +kernel), List.mem_of_getElem? (i := 1182) (by decide +kernel), List.mem_of_getElem? (i := 1183) (by decide +kernel)⟩
theorem lw_p9 : lw_okq (⟨"BallastControl", "positionOfPiece", "(I)I"⟩, 14) := ⟨⟨by decide +kernel, by decide +kernel⟩, List.mem_of_getElem? (i := 37) (by decide +kernel), List.mem_of_getElem? (i := 1257) (by decide +kernel), List.mem_of_getElem? (i := 1258) (by decide +kernel)⟩
theorem lw_p10 : lw_okq (⟨"BallastControl", "findBestTransfer", "(I)V"⟩, 14) := ⟨⟨by decide +kernel, by decide +kernel⟩, List.mem_of_getElem? (i := 37) (by decide +kernel), List.mem_of_getElem? (i := 1284) (by decide +kernel), List.mem_of_getElem? (i := 1285) (by decide +kernel)⟩
theorem lw_p11 : lw_okq (⟨"BallastControl", "findBestShift", "()V"⟩, 14) := ⟨⟨by decide +kernel, by decide +kernel⟩, List.mem_of_getElem? (i := 37) (by decide +kernel), List.mem_of_getElem? (i := 1319) (by decide +kernel), List.mem_of_getElem? (i := 1320) (by decide +kernel)⟩
theorem lw_p12 : lw_okq (⟨"BallastControl$Ship", "isLoadedBefore", "(II)Z"⟩, 8) := ⟨⟨by decide +kernel, by decide +kernel⟩, List.mem_of_getElem? (i := 45) (by decide +kernel), List.mem_of_getElem? (i := 1363) (by decide +kernel), List.mem_of_getElem? (i := 1364) (by decide +kernel)⟩
theorem lw_p13 : lw_okq (⟨"BallastControl", "checkForMean", "()V"⟩, 14) := ⟨⟨by decide +kernel, by decide +kernel⟩, List.mem_of_getElem? (i := 37) (by decide +kernel), List.mem_of_getElem? (i := 1411) (by decide +kernel), List.mem_of_getElem? (i := 1412) (by decide +kernel)⟩
theorem lw_p14 : lw_okq (⟨"BallastControl$Program", "readKeyword", "()LBallastControl$Keyword;"⟩, 6) := ⟨⟨by decide +kernel, by decide +kernel⟩, List.mem_of_getElem? (i := 265) (by decide +kernel), List.mem_of_getElem? (i := 1487) (by decide +kernel), List.mem_of_getElem? (i := 1488) (by decide +kernel)⟩
theorem lw_p15 : lw_okq (⟨"BallastControl$Program", "countMatching", "(Ljava/lang/String;)I"⟩, 6) := ⟨⟨by decide +kernel, by decide +kernel⟩, List.mem_of_getElem? (i := 265) (by decide +kernel), List.mem_of_getElem? (i := 1493) (by decide +kernel), List.mem_of_getElem? (i := 1494) (by decide +kernel)⟩
def lw_privs_1 : List (MethodName × Nat) := [(⟨"BallastControl", "adviceHolds", "()Z"⟩, 14), (⟨"BallastControl$Choice", "offer", "(III)V"⟩, 4), (⟨"java/lang/Throwable", "fillInStackTrace", "(I)Ljava/lang/Throwable;"⟩, 6), (⟨"BallastControl", "separate", "(C)V"⟩, 14), (⟨"BallastControl", "positionOfStorm", "(I)I"⟩, 14), (⟨"BallastControl$Ship", "strikeIfScheduled", "()V"⟩, 8), (⟨"BallastControl$Ship", "fullestCompartment", "()I"⟩, 8), (⟨"BallastControl$Hold", "pumpsBefore", "(II)Z"⟩, 7), (⟨"BallastControl", "checkCompartment", "(I)V"⟩, 14), (⟨"BallastControl", "positionOfPiece", "(I)I"⟩, 14), (⟨"BallastControl", "findBestTransfer", "(I)V"⟩, 14), (⟨"BallastControl", "findBestShift", "()V"⟩, 14), (⟨"BallastControl$Ship", "isLoadedBefore", "(II)Z"⟩, 8), (⟨"BallastControl", "checkForMean", "()V"⟩, 14), (⟨"BallastControl$Program", "readKeyword", "()LBallastControl$Keyword;"⟩, 6), (⟨"BallastControl$Program", "countMatching", "(Ljava/lang/String;)I"⟩, 6)]
theorem lw_r1 : ∀ q ∈ lw_privs_1, lw_okq q := List.forall_mem_cons.mpr ⟨lw_p0, List.forall_mem_cons.mpr ⟨lw_p1, List.forall_mem_cons.mpr ⟨lw_p2, List.forall_mem_cons.mpr ⟨lw_p3, List.forall_mem_cons.mpr ⟨lw_p4, List.forall_mem_cons.mpr ⟨lw_p5, List.forall_mem_cons.mpr ⟨lw_p6, List.forall_mem_cons.mpr ⟨lw_p7, List.forall_mem_cons.mpr ⟨lw_p8, List.forall_mem_cons.mpr ⟨lw_p9, List.forall_mem_cons.mpr ⟨lw_p10, List.forall_mem_cons.mpr ⟨lw_p11, List.forall_mem_cons.mpr ⟨lw_p12, List.forall_mem_cons.mpr ⟨lw_p13, List.forall_mem_cons.mpr ⟨lw_p14, List.forall_mem_cons.mpr ⟨lw_p15, fun _ h => absurd h List.not_mem_nil⟩⟩⟩⟩⟩⟩⟩⟩⟩⟩⟩⟩⟩⟩⟩⟩
theorem lw_p16 : lw_okq (⟨"BallastControl$Program", "isAt", "(IC)Z"⟩, 6) := ⟨⟨by decide +kernel, by decide +kernel⟩, List.mem_of_getElem? (i := 265) (by decide +kernel), List.mem_of_getElem? (i := 1513) (by decide +kernel), List.mem_of_getElem? (i := 1514) (by decide +kernel)⟩
theorem lw_p17 : lw_okq (⟨"BallastControl$Program", "readArguments", "(Ljava/lang/String;[I)Z"⟩, 6) := ⟨⟨by decide +kernel, by decide +kernel⟩, List.mem_of_getElem? (i := 265) (by decide +kernel), List.mem_of_getElem? (i := 1520) (by decide +kernel), List.mem_of_getElem? (i := 1521) (by decide +kernel)⟩
theorem lw_p18 : lw_okq (⟨"BallastControl$Program", "take", "(C)Z"⟩, 6) := ⟨⟨by decide +kernel, by decide +kernel⟩, List.mem_of_getElem? (i := 265) (by decide +kernel), List.mem_of_getElem? (i := 1524) (by decide +kernel), List.mem_of_getElem? (i := 1525) (by decide +kernel)⟩
theorem lw_p19 : lw_okq (⟨"BallastControl$Program", "readValue", "(C)Z"⟩, 6) := ⟨⟨by decide +kernel, by decide +kernel⟩, List.mem_of_getElem? (i := 265) (by decide +kernel), List.mem_of_getElem? (i := 1528) (by decide +kernel), List.mem_of_getElem? (i := 1529) (by decide +kernel)⟩
theorem lw_p20 : lw_okq (⟨"BallastControl$Program", "isDigitAt", "(I)Z"⟩, 6) := ⟨⟨by decide +kernel, by decide +kernel⟩, List.mem_of_getElem? (i := 265) (by decide +kernel), List.mem_of_getElem? (i := 1532) (by decide +kernel), List.mem_of_getElem? (i := 1533) (by decide +kernel)⟩
theorem lw_p21 : lw_okq (⟨"BallastControl", "faultOf", "(LBallastControl$Keyword;III)LBallastControl$Fault;"⟩, 14) := ⟨⟨by decide +kernel, by decide +kernel⟩, List.mem_of_getElem? (i := 37) (by decide +kernel), List.mem_of_getElem? (i := 1537) (by decide +kernel), List.mem_of_getElem? (i := 1538) (by decide +kernel)⟩
theorem lw_p22 : lw_okq (⟨"BallastControl", "carryOut", "(LBallastControl$Keyword;III)V"⟩, 14) := ⟨⟨by decide +kernel, by decide +kernel⟩, List.mem_of_getElem? (i := 37) (by decide +kernel), List.mem_of_getElem? (i := 1550) (by decide +kernel), List.mem_of_getElem? (i := 1551) (by decide +kernel)⟩
theorem lw_p23 : lw_okq (⟨"BallastControlModel", "begins", "()V"⟩, 15) := ⟨⟨by decide +kernel, by decide +kernel⟩, List.mem_of_getElem? (i := 1594) (by decide +kernel), List.mem_of_getElem? (i := 1655) (by decide +kernel), List.mem_of_getElem? (i := 1656) (by decide +kernel)⟩
theorem lw_p24 : lw_okq (⟨"BallastControlModel", "copies", "(II)V"⟩, 15) := ⟨⟨by decide +kernel, by decide +kernel⟩, List.mem_of_getElem? (i := 1594) (by decide +kernel), List.mem_of_getElem? (i := 1659) (by decide +kernel), List.mem_of_getElem? (i := 1660) (by decide +kernel)⟩
theorem lw_p25 : lw_okq (⟨"BallastControlModel", "adds", "(II)I"⟩, 15) := ⟨⟨by decide +kernel, by decide +kernel⟩, List.mem_of_getElem? (i := 1594) (by decide +kernel), List.mem_of_getElem? (i := 1663) (by decide +kernel), List.mem_of_getElem? (i := 1664) (by decide +kernel)⟩
theorem lw_p26 : lw_okq (⟨"BallastControlModel", "set", "(III)V"⟩, 15) := ⟨⟨by decide +kernel, by decide +kernel⟩, List.mem_of_getElem? (i := 1594) (by decide +kernel), List.mem_of_getElem? (i := 1670) (by decide +kernel), List.mem_of_getElem? (i := 1671) (by decide +kernel)⟩
theorem lw_p27 : lw_okq (⟨"BallastControlModel", "ends", "(IIIII)I"⟩, 15) := ⟨⟨by decide +kernel, by decide +kernel⟩, List.mem_of_getElem? (i := 1594) (by decide +kernel), List.mem_of_getElem? (i := 1674) (by decide +kernel), List.mem_of_getElem? (i := 1675) (by decide +kernel)⟩
theorem lw_p28 : lw_okq (⟨"BallastControlModel", "loads", "(II)I"⟩, 15) := ⟨⟨by decide +kernel, by decide +kernel⟩, List.mem_of_getElem? (i := 1594) (by decide +kernel), List.mem_of_getElem? (i := 1682) (by decide +kernel), List.mem_of_getElem? (i := 1683) (by decide +kernel)⟩
theorem lw_p29 : lw_okq (⟨"BallastControlModel", "isTank", "(I)Z"⟩, 15) := ⟨⟨by decide +kernel, by decide +kernel⟩, List.mem_of_getElem? (i := 1594) (by decide +kernel), List.mem_of_getElem? (i := 1686) (by decide +kernel), List.mem_of_getElem? (i := 1687) (by decide +kernel)⟩
theorem lw_p30 : lw_okq (⟨"BallastControlModel", "total", "()I"⟩, 15) := ⟨⟨by decide +kernel, by decide +kernel⟩, List.mem_of_getElem? (i := 1594) (by decide +kernel), List.mem_of_getElem? (i := 1690) (by decide +kernel), List.mem_of_getElem? (i := 1691) (by decide +kernel)⟩
theorem lw_p31 : lw_okq (⟨"BallastControlModel", "laden", "(I)I"⟩, 15) := ⟨⟨by decide +kernel, by decide +kernel⟩, List.mem_of_getElem? (i := 1594) (by decide +kernel), List.mem_of_getElem? (i := 1694) (by decide +kernel), List.mem_of_getElem? (i := 1695) (by decide +kernel)⟩
def lw_privs_2 : List (MethodName × Nat) := [(⟨"BallastControl$Program", "isAt", "(IC)Z"⟩, 6), (⟨"BallastControl$Program", "readArguments", "(Ljava/lang/String;[I)Z"⟩, 6), (⟨"BallastControl$Program", "take", "(C)Z"⟩, 6), (⟨"BallastControl$Program", "readValue", "(C)Z"⟩, 6), (⟨"BallastControl$Program", "isDigitAt", "(I)Z"⟩, 6), (⟨"BallastControl", "faultOf", "(LBallastControl$Keyword;III)LBallastControl$Fault;"⟩, 14), (⟨"BallastControl", "carryOut", "(LBallastControl$Keyword;III)V"⟩, 14), (⟨"BallastControlModel", "begins", "()V"⟩, 15), (⟨"BallastControlModel", "copies", "(II)V"⟩, 15), (⟨"BallastControlModel", "adds", "(II)I"⟩, 15), (⟨"BallastControlModel", "set", "(III)V"⟩, 15), (⟨"BallastControlModel", "ends", "(IIIII)I"⟩, 15), (⟨"BallastControlModel", "loads", "(II)I"⟩, 15), (⟨"BallastControlModel", "isTank", "(I)Z"⟩, 15), (⟨"BallastControlModel", "total", "()I"⟩, 15), (⟨"BallastControlModel", "laden", "(I)I"⟩, 15)]
theorem lw_r2 : ∀ q ∈ lw_privs_2, lw_okq q := List.forall_mem_cons.mpr ⟨lw_p16, List.forall_mem_cons.mpr ⟨lw_p17, List.forall_mem_cons.mpr ⟨lw_p18, List.forall_mem_cons.mpr ⟨lw_p19, List.forall_mem_cons.mpr ⟨lw_p20, List.forall_mem_cons.mpr ⟨lw_p21, List.forall_mem_cons.mpr ⟨lw_p22, List.forall_mem_cons.mpr ⟨lw_p23, List.forall_mem_cons.mpr ⟨lw_p24, List.forall_mem_cons.mpr ⟨lw_p25, List.forall_mem_cons.mpr ⟨lw_p26, List.forall_mem_cons.mpr ⟨lw_p27, List.forall_mem_cons.mpr ⟨lw_p28, List.forall_mem_cons.mpr ⟨lw_p29, List.forall_mem_cons.mpr ⟨lw_p30, List.forall_mem_cons.mpr ⟨lw_p31, fun _ h => absurd h List.not_mem_nil⟩⟩⟩⟩⟩⟩⟩⟩⟩⟩⟩⟩⟩⟩⟩⟩
theorem lw_p32 : lw_okq (⟨"BallastControlModel", "c", "(II)I"⟩, 15) := ⟨⟨by decide +kernel, by decide +kernel⟩, List.mem_of_getElem? (i := 1594) (by decide +kernel), List.mem_of_getElem? (i := 1698) (by decide +kernel), List.mem_of_getElem? (i := 1699) (by decide +kernel)⟩
theorem lw_p33 : lw_okq (⟨"BallastControlModel", "cargo", "(I)I"⟩, 15) := ⟨⟨by decide +kernel, by decide +kernel⟩, List.mem_of_getElem? (i := 1594) (by decide +kernel), List.mem_of_getElem? (i := 1702) (by decide +kernel), List.mem_of_getElem? (i := 1703) (by decide +kernel)⟩
theorem lw_p34 : lw_okq (⟨"BallastControlModel", "lies", "(I)I"⟩, 15) := ⟨⟨by decide +kernel, by decide +kernel⟩, List.mem_of_getElem? (i := 1594) (by decide +kernel), List.mem_of_getElem? (i := 1706) (by decide +kernel), List.mem_of_getElem? (i := 1707) (by decide +kernel)⟩
theorem lw_p35 : lw_okq (⟨"BallastControlModel", "heavy", "(I)I"⟩, 15) := ⟨⟨by decide +kernel, by decide +kernel⟩, List.mem_of_getElem? (i := 1594) (by decide +kernel), List.mem_of_getElem? (i := 1710) (by decide +kernel), List.mem_of_getElem? (i := 1711) (by decide +kernel)⟩
theorem lw_p36 : lw_okq (⟨"BallastControlModel", "unloads", "(I)I"⟩, 15) := ⟨⟨by decide +kernel, by decide +kernel⟩, List.mem_of_getElem? (i := 1594) (by decide +kernel), List.mem_of_getElem? (i := 1718) (by decide +kernel), List.mem_of_getElem? (i := 1719) (by decide +kernel)⟩
theorem lw_p37 : lw_okq (⟨"BallastControlModel", "piece", "(I)I"⟩, 15) := ⟨⟨by decide +kernel, by decide +kernel⟩, List.mem_of_getElem? (i := 1594) (by decide +kernel), List.mem_of_getElem? (i := 1722) (by decide +kernel), List.mem_of_getElem? (i := 1723) (by decide +kernel)⟩
theorem lw_p38 : lw_okq (⟨"BallastControlModel", "idOf", "(I)I"⟩, 15) := ⟨⟨by decide +kernel, by decide +kernel⟩, List.mem_of_getElem? (i := 1594) (by decide +kernel), List.mem_of_getElem? (i := 1726) (by decide +kernel), List.mem_of_getElem? (i := 1727) (by decide +kernel)⟩
theorem lw_p39 : lw_okq (⟨"BallastControlModel", "shifts", "(II)I"⟩, 15) := ⟨⟨by decide +kernel, by decide +kernel⟩, List.mem_of_getElem? (i := 1594) (by decide +kernel), List.mem_of_getElem? (i := 1734) (by decide +kernel), List.mem_of_getElem? (i := 1735) (by decide +kernel)⟩
theorem lw_p40 : lw_okq (⟨"BallastControlModel", "rates", "(III)I"⟩, 15) := ⟨⟨by decide +kernel, by decide +kernel⟩, List.mem_of_getElem? (i := 1594) (by decide +kernel), List.mem_of_getElem? (i := 1742) (by decide +kernel), List.mem_of_getElem? (i := 1743) (by decide +kernel)⟩
theorem lw_p41 : lw_okq (⟨"BallastControlModel", "transfers", "(III)I"⟩, 15) := ⟨⟨by decide +kernel, by decide +kernel⟩, List.mem_of_getElem? (i := 1594) (by decide +kernel), List.mem_of_getElem? (i := 1754) (by decide +kernel), List.mem_of_getElem? (i := 1755) (by decide +kernel)⟩
theorem lw_p42 : lw_okq (⟨"BallastControlModel", "isPossible", "(III)Z"⟩, 15) := ⟨⟨by decide +kernel, by decide +kernel⟩, List.mem_of_getElem? (i := 1594) (by decide +kernel), List.mem_of_getElem? (i := 1761) (by decide +kernel), List.mem_of_getElem? (i := 1762) (by decide +kernel)⟩
theorem lw_p43 : lw_okq (⟨"BallastControlModel", "moves", "(III)V"⟩, 15) := ⟨⟨by decide +kernel, by decide +kernel⟩, List.mem_of_getElem? (i := 1594) (by decide +kernel), List.mem_of_getElem? (i := 1765) (by decide +kernel), List.mem_of_getElem? (i := 1766) (by decide +kernel)⟩
theorem lw_p44 : lw_okq (⟨"BallastControlModel", "turning", "()I"⟩, 15) := ⟨⟨by decide +kernel, by decide +kernel⟩, List.mem_of_getElem? (i := 1594) (by decide +kernel), List.mem_of_getElem? (i := 1769) (by decide +kernel), List.mem_of_getElem? (i := 1770) (by decide +kernel)⟩
theorem lw_p45 : lw_okq (⟨"BallastControlModel", "balances", "(I)I"⟩, 15) := ⟨⟨by decide +kernel, by decide +kernel⟩, List.mem_of_getElem? (i := 1594) (by decide +kernel), List.mem_of_getElem? (i := 1777) (by decide +kernel), List.mem_of_getElem? (i := 1778) (by decide +kernel)⟩
theorem lw_p46 : lw_okq (⟨"BallastControlModel", "best", "(I)I"⟩, 15) := ⟨⟨by decide +kernel, by decide +kernel⟩, List.mem_of_getElem? (i := 1594) (by decide +kernel), List.mem_of_getElem? (i := 1781) (by decide +kernel), List.mem_of_getElem? (i := 1782) (by decide +kernel)⟩
theorem lw_p47 : lw_okq (⟨"BallastControlModel", "turns", "(IIII)I"⟩, 15) := ⟨⟨by decide +kernel, by decide +kernel⟩, List.mem_of_getElem? (i := 1594) (by decide +kernel), List.mem_of_getElem? (i := 1792) (by decide +kernel), List.mem_of_getElem? (i := 1793) (by decide +kernel)⟩
def lw_privs_3 : List (MethodName × Nat) := [(⟨"BallastControlModel", "c", "(II)I"⟩, 15), (⟨"BallastControlModel", "cargo", "(I)I"⟩, 15), (⟨"BallastControlModel", "lies", "(I)I"⟩, 15), (⟨"BallastControlModel", "heavy", "(I)I"⟩, 15), (⟨"BallastControlModel", "unloads", "(I)I"⟩, 15), (⟨"BallastControlModel", "piece", "(I)I"⟩, 15), (⟨"BallastControlModel", "idOf", "(I)I"⟩, 15), (⟨"BallastControlModel", "shifts", "(II)I"⟩, 15), (⟨"BallastControlModel", "rates", "(III)I"⟩, 15), (⟨"BallastControlModel", "transfers", "(III)I"⟩, 15), (⟨"BallastControlModel", "isPossible", "(III)Z"⟩, 15), (⟨"BallastControlModel", "moves", "(III)V"⟩, 15), (⟨"BallastControlModel", "turning", "()I"⟩, 15), (⟨"BallastControlModel", "balances", "(I)I"⟩, 15), (⟨"BallastControlModel", "best", "(I)I"⟩, 15), (⟨"BallastControlModel", "turns", "(IIII)I"⟩, 15)]
theorem lw_r3 : ∀ q ∈ lw_privs_3, lw_okq q := List.forall_mem_cons.mpr ⟨lw_p32, List.forall_mem_cons.mpr ⟨lw_p33, List.forall_mem_cons.mpr ⟨lw_p34, List.forall_mem_cons.mpr ⟨lw_p35, List.forall_mem_cons.mpr ⟨lw_p36, List.forall_mem_cons.mpr ⟨lw_p37, List.forall_mem_cons.mpr ⟨lw_p38, List.forall_mem_cons.mpr ⟨lw_p39, List.forall_mem_cons.mpr ⟨lw_p40, List.forall_mem_cons.mpr ⟨lw_p41, List.forall_mem_cons.mpr ⟨lw_p42, List.forall_mem_cons.mpr ⟨lw_p43, List.forall_mem_cons.mpr ⟨lw_p44, List.forall_mem_cons.mpr ⟨lw_p45, List.forall_mem_cons.mpr ⟨lw_p46, List.forall_mem_cons.mpr ⟨lw_p47, fun _ h => absurd h List.not_mem_nil⟩⟩⟩⟩⟩⟩⟩⟩⟩⟩⟩⟩⟩⟩⟩⟩
theorem lw_p48 : lw_okq (⟨"BallastControlModel", "plans", "(II)I"⟩, 15) := ⟨⟨by decide +kernel, by decide +kernel⟩, List.mem_of_getElem? (i := 1594) (by decide +kernel), List.mem_of_getElem? (i := 1804) (by decide +kernel), List.mem_of_getElem? (i := 1805) (by decide +kernel)⟩
theorem lw_p49 : lw_okq (⟨"BallastControlModel", "storm", "(I)I"⟩, 15) := ⟨⟨by decide +kernel, by decide +kernel⟩, List.mem_of_getElem? (i := 1594) (by decide +kernel), List.mem_of_getElem? (i := 1808) (by decide +kernel), List.mem_of_getElem? (i := 1809) (by decide +kernel)⟩
theorem lw_p50 : lw_okq (⟨"BallastControlModel", "cancels", "(I)I"⟩, 15) := ⟨⟨by decide +kernel, by decide +kernel⟩, List.mem_of_getElem? (i := 1594) (by decide +kernel), List.mem_of_getElem? (i := 1816) (by decide +kernel), List.mem_of_getElem? (i := 1817) (by decide +kernel)⟩
theorem lw_p51 : lw_okq (⟨"BallastControlModel", "passesBy", "(I)I"⟩, 15) := ⟨⟨by decide +kernel, by decide +kernel⟩, List.mem_of_getElem? (i := 1594) (by decide +kernel), List.mem_of_getElem? (i := 1820) (by decide +kernel), List.mem_of_getElem? (i := 1821) (by decide +kernel)⟩
theorem lw_p52 : lw_okq (⟨"BallastControlModel", "passes", "(I)I"⟩, 15) := ⟨⟨by decide +kernel, by decide +kernel⟩, List.mem_of_getElem? (i := 1594) (by decide +kernel), List.mem_of_getElem? (i := 1828) (by decide +kernel), List.mem_of_getElem? (i := 1829) (by decide +kernel)⟩
theorem lw_p53 : lw_okq (⟨"BallastControlModel", "ticks", "()V"⟩, 15) := ⟨⟨by decide +kernel, by decide +kernel⟩, List.mem_of_getElem? (i := 1594) (by decide +kernel), List.mem_of_getElem? (i := 1832) (by decide +kernel), List.mem_of_getElem? (i := 1833) (by decide +kernel)⟩
theorem lw_p54 : lw_okq (⟨"BallastControlModel", "strikes", "(I)V"⟩, 15) := ⟨⟨by decide +kernel, by decide +kernel⟩, List.mem_of_getElem? (i := 1594) (by decide +kernel), List.mem_of_getElem? (i := 1836) (by decide +kernel), List.mem_of_getElem? (i := 1837) (by decide +kernel)⟩
theorem lw_p55 : lw_okq (⟨"BallastControlModel", "runs", "(I)Z"⟩, 15) := ⟨⟨by decide +kernel, by decide +kernel⟩, List.mem_of_getElem? (i := 1594) (by decide +kernel), List.mem_of_getElem? (i := 1840) (by decide +kernel), List.mem_of_getElem? (i := 1841) (by decide +kernel)⟩
theorem lw_p56 : lw_okq (⟨"BallastControlModel", "isPumped", "(I)Z"⟩, 15) := ⟨⟨by decide +kernel, by decide +kernel⟩, List.mem_of_getElem? (i := 1594) (by decide +kernel), List.mem_of_getElem? (i := 1844) (by decide +kernel), List.mem_of_getElem? (i := 1845) (by decide +kernel)⟩
theorem lw_p57 : lw_okq (⟨"BallastControlModel", "ahead", "(I)I"⟩, 15) := ⟨⟨by decide +kernel, by decide +kernel⟩, List.mem_of_getElem? (i := 1594) (by decide +kernel), List.mem_of_getElem? (i := 1848) (by decide +kernel), List.mem_of_getElem? (i := 1849) (by decide +kernel)⟩
theorem lw_p58 : lw_okq (⟨"BallastControlModel", "told", "(I)I"⟩, 15) := ⟨⟨by decide +kernel, by decide +kernel⟩, List.mem_of_getElem? (i := 1594) (by decide +kernel), List.mem_of_getElem? (i := 1856) (by decide +kernel), List.mem_of_getElem? (i := 1857) (by decide +kernel)⟩
theorem lw_p59 : lw_okq (⟨"BallastControlModel", "ofTank", "(II)I"⟩, 15) := ⟨⟨by decide +kernel, by decide +kernel⟩, List.mem_of_getElem? (i := 1594) (by decide +kernel), List.mem_of_getElem? (i := 1868) (by decide +kernel), List.mem_of_getElem? (i := 1869) (by decide +kernel)⟩
theorem lw_p60 : lw_okq (⟨"BallastControlModel", "isFine", "(Z)Z"⟩, 15) := ⟨⟨by decide +kernel, by decide +kernel⟩, List.mem_of_getElem? (i := 1594) (by decide +kernel), List.mem_of_getElem? (i := 1872) (by decide +kernel), List.mem_of_getElem? (i := 1873) (by decide +kernel)⟩
theorem lw_p61 : lw_okq (⟨"BallastControlModel", "advice", "(I)I"⟩, 15) := ⟨⟨by decide +kernel, by decide +kernel⟩, List.mem_of_getElem? (i := 1594) (by decide +kernel), List.mem_of_getElem? (i := 1959) (by decide +kernel), List.mem_of_getElem? (i := 1960) (by decide +kernel)⟩
theorem lw_p62 : lw_okq (⟨"BallastControlModel", "isEven", "()Z"⟩, 15) := ⟨⟨by decide +kernel, by decide +kernel⟩, List.mem_of_getElem? (i := 1594) (by decide +kernel), List.mem_of_getElem? (i := 1975) (by decide +kernel), List.mem_of_getElem? (i := 1976) (by decide +kernel)⟩
theorem lw_p63 : lw_okq (⟨"BallastControlModel", "bestShift", "()I"⟩, 15) := ⟨⟨by decide +kernel, by decide +kernel⟩, List.mem_of_getElem? (i := 1594) (by decide +kernel), List.mem_of_getElem? (i := 1983) (by decide +kernel), List.mem_of_getElem? (i := 1984) (by decide +kernel)⟩
def lw_privs_4 : List (MethodName × Nat) := [(⟨"BallastControlModel", "plans", "(II)I"⟩, 15), (⟨"BallastControlModel", "storm", "(I)I"⟩, 15), (⟨"BallastControlModel", "cancels", "(I)I"⟩, 15), (⟨"BallastControlModel", "passesBy", "(I)I"⟩, 15), (⟨"BallastControlModel", "passes", "(I)I"⟩, 15), (⟨"BallastControlModel", "ticks", "()V"⟩, 15), (⟨"BallastControlModel", "strikes", "(I)V"⟩, 15), (⟨"BallastControlModel", "runs", "(I)Z"⟩, 15), (⟨"BallastControlModel", "isPumped", "(I)Z"⟩, 15), (⟨"BallastControlModel", "ahead", "(I)I"⟩, 15), (⟨"BallastControlModel", "told", "(I)I"⟩, 15), (⟨"BallastControlModel", "ofTank", "(II)I"⟩, 15), (⟨"BallastControlModel", "isFine", "(Z)Z"⟩, 15), (⟨"BallastControlModel", "advice", "(I)I"⟩, 15), (⟨"BallastControlModel", "isEven", "()Z"⟩, 15), (⟨"BallastControlModel", "bestShift", "()I"⟩, 15)]
theorem lw_r4 : ∀ q ∈ lw_privs_4, lw_okq q := List.forall_mem_cons.mpr ⟨lw_p48, List.forall_mem_cons.mpr ⟨lw_p49, List.forall_mem_cons.mpr ⟨lw_p50, List.forall_mem_cons.mpr ⟨lw_p51, List.forall_mem_cons.mpr ⟨lw_p52, List.forall_mem_cons.mpr ⟨lw_p53, List.forall_mem_cons.mpr ⟨lw_p54, List.forall_mem_cons.mpr ⟨lw_p55, List.forall_mem_cons.mpr ⟨lw_p56, List.forall_mem_cons.mpr ⟨lw_p57, List.forall_mem_cons.mpr ⟨lw_p58, List.forall_mem_cons.mpr ⟨lw_p59, List.forall_mem_cons.mpr ⟨lw_p60, List.forall_mem_cons.mpr ⟨lw_p61, List.forall_mem_cons.mpr ⟨lw_p62, List.forall_mem_cons.mpr ⟨lw_p63, fun _ h => absurd h List.not_mem_nil⟩⟩⟩⟩⟩⟩⟩⟩⟩⟩⟩⟩⟩⟩⟩⟩
theorem lw_p64 : lw_okq (⟨"BallastControlModel", "sum", "(I)I"⟩, 15) := ⟨⟨by decide +kernel, by decide +kernel⟩, List.mem_of_getElem? (i := 1594) (by decide +kernel), List.mem_of_getElem? (i := 2027) (by decide +kernel), List.mem_of_getElem? (i := 2028) (by decide +kernel)⟩
theorem lw_p65 : lw_okq (⟨"BallastControlModel", "writesBehind", "(II)V"⟩, 15) := ⟨⟨by decide +kernel, by decide +kernel⟩, List.mem_of_getElem? (i := 1594) (by decide +kernel), List.mem_of_getElem? (i := 2043) (by decide +kernel), List.mem_of_getElem? (i := 2044) (by decide +kernel)⟩
theorem lw_p66 : lw_okq (⟨"BallastControlModel", "writes", "(I)V"⟩, 15) := ⟨⟨by decide +kernel, by decide +kernel⟩, List.mem_of_getElem? (i := 1594) (by decide +kernel), List.mem_of_getElem? (i := 2047) (by decide +kernel), List.mem_of_getElem? (i := 2048) (by decide +kernel)⟩
theorem lw_p67 : lw_okq (⟨"BallastControlModel", "writesNumber", "(I)V"⟩, 15) := ⟨⟨by decide +kernel, by decide +kernel⟩, List.mem_of_getElem? (i := 1594) (by decide +kernel), List.mem_of_getElem? (i := 2051) (by decide +kernel), List.mem_of_getElem? (i := 2052) (by decide +kernel)⟩
theorem lw_p68 : lw_okq (⟨"BallastControlModel", "parse", "()V"⟩, 15) := ⟨⟨by decide +kernel, by decide +kernel⟩, List.mem_of_getElem? (i := 1594) (by decide +kernel), List.mem_of_getElem? (i := 2075) (by decide +kernel), List.mem_of_getElem? (i := 2076) (by decide +kernel)⟩
theorem lw_p69 : lw_okq (⟨"BallastControlModel", "command", "()V"⟩, 15) := ⟨⟨by decide +kernel, by decide +kernel⟩, List.mem_of_getElem? (i := 1594) (by decide +kernel), List.mem_of_getElem? (i := 2079) (by decide +kernel), List.mem_of_getElem? (i := 2080) (by decide +kernel)⟩
theorem lw_p70 : lw_okq (⟨"BallastControlModel", "sign", "()I"⟩, 15) := ⟨⟨by decide +kernel, by decide +kernel⟩, List.mem_of_getElem? (i := 1594) (by decide +kernel), List.mem_of_getElem? (i := 2083) (by decide +kernel), List.mem_of_getElem? (i := 2084) (by decide +kernel)⟩
theorem lw_p71 : lw_okq (⟨"BallastControlModel", "word", "(I)I"⟩, 15) := ⟨⟨by decide +kernel, by decide +kernel⟩, List.mem_of_getElem? (i := 1594) (by decide +kernel), List.mem_of_getElem? (i := 2087) (by decide +kernel), List.mem_of_getElem? (i := 2088) (by decide +kernel)⟩
theorem lw_p72 : lw_okq (⟨"BallastControlModel", "letters", "(III)V"⟩, 15) := ⟨⟨by decide +kernel, by decide +kernel⟩, List.mem_of_getElem? (i := 1594) (by decide +kernel), List.mem_of_getElem? (i := 2091) (by decide +kernel), List.mem_of_getElem? (i := 2092) (by decide +kernel)⟩
theorem lw_p73 : lw_okq (⟨"BallastControlModel", "needs", "(I)V"⟩, 15) := ⟨⟨by decide +kernel, by decide +kernel⟩, List.mem_of_getElem? (i := 1594) (by decide +kernel), List.mem_of_getElem? (i := 2095) (by decide +kernel), List.mem_of_getElem? (i := 2096) (by decide +kernel)⟩
theorem lw_p74 : lw_okq (⟨"BallastControlModel", "signed", "()I"⟩, 15) := ⟨⟨by decide +kernel, by decide +kernel⟩, List.mem_of_getElem? (i := 1594) (by decide +kernel), List.mem_of_getElem? (i := 2099) (by decide +kernel), List.mem_of_getElem? (i := 2100) (by decide +kernel)⟩
theorem lw_p75 : lw_okq (⟨"BallastControlModel", "digits", "(I)I"⟩, 15) := ⟨⟨by decide +kernel, by decide +kernel⟩, List.mem_of_getElem? (i := 1594) (by decide +kernel), List.mem_of_getElem? (i := 2103) (by decide +kernel), List.mem_of_getElem? (i := 2104) (by decide +kernel)⟩
theorem lw_p76 : lw_okq (⟨"BallastControlModel", "number", "(I)I"⟩, 15) := ⟨⟨by decide +kernel, by decide +kernel⟩, List.mem_of_getElem? (i := 1594) (by decide +kernel), List.mem_of_getElem? (i := 2107) (by decide +kernel), List.mem_of_getElem? (i := 2108) (by decide +kernel)⟩
theorem lw_p77 : lw_okq (⟨"BallastControlModel", "does", "(I)I"⟩, 15) := ⟨⟨by decide +kernel, by decide +kernel⟩, List.mem_of_getElem? (i := 1594) (by decide +kernel), List.mem_of_getElem? (i := 2111) (by decide +kernel), List.mem_of_getElem? (i := 2112) (by decide +kernel)⟩
def lw_privs_5 : List (MethodName × Nat) := [(⟨"BallastControlModel", "sum", "(I)I"⟩, 15), (⟨"BallastControlModel", "writesBehind", "(II)V"⟩, 15), (⟨"BallastControlModel", "writes", "(I)V"⟩, 15), (⟨"BallastControlModel", "writesNumber", "(I)V"⟩, 15), (⟨"BallastControlModel", "parse", "()V"⟩, 15), (⟨"BallastControlModel", "command", "()V"⟩, 15), (⟨"BallastControlModel", "sign", "()I"⟩, 15), (⟨"BallastControlModel", "word", "(I)I"⟩, 15), (⟨"BallastControlModel", "letters", "(III)V"⟩, 15), (⟨"BallastControlModel", "needs", "(I)V"⟩, 15), (⟨"BallastControlModel", "signed", "()I"⟩, 15), (⟨"BallastControlModel", "digits", "(I)I"⟩, 15), (⟨"BallastControlModel", "number", "(I)I"⟩, 15), (⟨"BallastControlModel", "does", "(I)I"⟩, 15)]
theorem lw_r5 : ∀ q ∈ lw_privs_5, lw_okq q := List.forall_mem_cons.mpr ⟨lw_p64, List.forall_mem_cons.mpr ⟨lw_p65, List.forall_mem_cons.mpr ⟨lw_p66, List.forall_mem_cons.mpr ⟨lw_p67, List.forall_mem_cons.mpr ⟨lw_p68, List.forall_mem_cons.mpr ⟨lw_p69, List.forall_mem_cons.mpr ⟨lw_p70, List.forall_mem_cons.mpr ⟨lw_p71, List.forall_mem_cons.mpr ⟨lw_p72, List.forall_mem_cons.mpr ⟨lw_p73, List.forall_mem_cons.mpr ⟨lw_p74, List.forall_mem_cons.mpr ⟨lw_p75, List.forall_mem_cons.mpr ⟨lw_p76, List.forall_mem_cons.mpr ⟨lw_p77, fun _ h => absurd h List.not_mem_nil⟩⟩⟩⟩⟩⟩⟩⟩⟩⟩⟩⟩⟩⟩
def lw_privs : List (MethodName × Nat) := lw_privs_1 ++ (lw_privs_2 ++ (lw_privs_3 ++ (lw_privs_4 ++ (lw_privs_5))))
def lw_tbl : List Cond := k2_sels lw_privs ++ tables_1
theorem lw_privs_ok : ∀ q ∈ lw_privs, lw_okq q := by
  show ∀ q ∈ lw_privs_1 ++ (lw_privs_2 ++ (lw_privs_3 ++ (lw_privs_4 ++ (lw_privs_5)))), lw_okq q
  exact List.forall_mem_append.mpr ⟨lw_r1, List.forall_mem_append.mpr ⟨lw_r2, List.forall_mem_append.mpr ⟨lw_r3, List.forall_mem_append.mpr ⟨lw_r4, lw_r5⟩⟩⟩⟩
/-- the streams that the claim lets the run draw from -/
abbrev lw_cs : List Choice := [Jvm.Choice.named "NaN.bits"]
theorem lw_bits : nanBits ∈ lw_cs := by first | decide | exact List.mem_cons_self | simp [lw_cs, nanBits]

def RX0 : String := "BallastControl$1"
def TX0 : u_T := fun k => match k with
  | _ => ("", "", "", false)
def tyX0 : Nat → FieldType := fun k => match k with
  | _ => .int
abbrev wsX00 : List Cond := u_ws RX0 TX0 0
theorem nmX0 : ∀ a, a < 0 → ∀ b, b < 0 → a ≠ b → (TX0 a).2.1 ≠ (TX0 b).2.1 := by decide +kernel
theorem tyX0_ok : ∀ k, k < 0 → parseFieldDescriptor (TX0 k).2.2.1 = some (tyX0 k) := by decide +kernel
def RX1 : String := "BallastControl$Cargo"
def TX1 : u_T := fun k => match k with
  | 0 => ("BallastControl$Cargo", "count", "I", false)
  | 1 => ("BallastControl$Cargo", "nextId", "I", false)
  | 2 => ("BallastControl$Cargo", "id", "[I", true)
  | 3 => ("BallastControl$Cargo", "weight", "[I", true)
  | _ => ("BallastControl$Cargo", "place", "[I", true)
def tyX1 : Nat → FieldType := fun k => match k with
  | 0 => .int
  | 1 => .int
  | 2 => .array .int
  | 3 => .array .int
  | _ => .array .int
abbrev wsX10 : List Cond := u_ws RX1 TX1 5
theorem nmX1 : ∀ a, a < 5 → ∀ b, b < 5 → a ≠ b → (TX1 a).2.1 ≠ (TX1 b).2.1 := by decide +kernel
theorem tyX1_ok : ∀ k, k < 5 → parseFieldDescriptor (TX1 k).2.2.1 = some (tyX1 k) := by decide +kernel
abbrev cX1_init : ByteArray := prog_3_method_1_code
def yX1_init : MethodName := ⟨RX1, "<init>", "()V"⟩
abbrev cX1_copyFrom : ByteArray := prog_3_method_2_code
def yX1_copyFrom : MethodName := ⟨RX1, "copyFrom", "(LBallastControl$Cargo;)V"⟩
abbrev cX1_find : ByteArray := prog_3_method_3_code
def yX1_find : MethodName := ⟨RX1, "find", "(I)I"⟩
abbrev cX1_put : ByteArray := prog_3_method_4_code
def yX1_put : MethodName := ⟨RX1, "put", "(II)I"⟩
abbrev cX1_remove : ByteArray := prog_3_method_5_code
def yX1_remove : MethodName := ⟨RX1, "remove", "(I)I"⟩
abbrev cX1_carry : ByteArray := prog_3_method_6_code
def yX1_carry : MethodName := ⟨RX1, "carry", "(II)I"⟩
abbrev cX1_weightIn : ByteArray := prog_3_method_7_code
def yX1_weightIn : MethodName := ⟨RX1, "weightIn", "(I)I"⟩
abbrev cX1_totalWeight : ByteArray := prog_3_method_8_code
def yX1_totalWeight : MethodName := ⟨RX1, "totalWeight", "()I"⟩
def RX2 : String := "BallastControl$Choice"
def TX2 : u_T := fun k => match k with
  | 0 => ("BallastControl$Choice", "found", "Z", false)
  | 1 => ("BallastControl$Choice", "first", "I", false)
  | 2 => ("BallastControl$Choice", "second", "I", false)
  | _ => ("BallastControl$Choice", "moment", "I", false)
def tyX2 : Nat → FieldType := fun k => match k with
  | 0 => .boolean
  | 1 => .int
  | 2 => .int
  | _ => .int
abbrev wsX20 : List Cond := u_ws RX2 TX2 4
theorem nmX2 : ∀ a, a < 4 → ∀ b, b < 4 → a ≠ b → (TX2 a).2.1 ≠ (TX2 b).2.1 := by decide +kernel
theorem tyX2_ok : ∀ k, k < 4 → parseFieldDescriptor (TX2 k).2.2.1 = some (tyX2 k) := by decide +kernel
abbrev cX2_init : ByteArray := prog_4_method_1_code
def yX2_init : MethodName := ⟨RX2, "<init>", "()V"⟩
abbrev cX2_offer : ByteArray := prog_4_method_2_code
def yX2_offer : MethodName := ⟨RX2, "offer", "(III)V"⟩
abbrev cX2_improves : ByteArray := prog_4_method_3_code
def yX2_improves : MethodName := ⟨RX2, "improves", "(I)Z"⟩
abbrev cX2_searchTransfers : ByteArray := prog_4_method_4_code
def yX2_searchTransfers : MethodName := ⟨RX2, "searchTransfers", "(LBallastControl$Hold;II)V"⟩
abbrev cX2_searchShifts : ByteArray := prog_4_method_5_code
def yX2_searchShifts : MethodName := ⟨RX2, "searchShifts", "(LBallastControl$Ship;)V"⟩
def RX3 : String := "BallastControl$Fault"
def TX3 : u_T := fun k => match k with
  | _ => ("", "", "", false)
def tyX3 : Nat → FieldType := fun k => match k with
  | _ => .int
abbrev wsX30 : List Cond := u_ws RX3 TX3 0
theorem nmX3 : ∀ a, a < 0 → ∀ b, b < 0 → a ≠ b → (TX3 a).2.1 ≠ (TX3 b).2.1 := by decide +kernel
theorem tyX3_ok : ∀ k, k < 0 → parseFieldDescriptor (TX3 k).2.2.1 = some (tyX3 k) := by decide +kernel
def RX4 : String := "BallastControl$History"
def TX4 : u_T := fun k => match k with
  | 0 => ("BallastControl$History", "ships", "[LBallastControl$Ship;", true)
  | 1 => ("BallastControl$History", "next", "I", false)
  | _ => ("BallastControl$History", "count", "I", false)
def tyX4 : Nat → FieldType := fun k => match k with
  | 0 => .array (.object "BallastControl$Ship")
  | 1 => .int
  | _ => .int
abbrev wsX40 : List Cond := u_ws RX4 TX4 3
theorem nmX4 : ∀ a, a < 3 → ∀ b, b < 3 → a ≠ b → (TX4 a).2.1 ≠ (TX4 b).2.1 := by decide +kernel
theorem tyX4_ok : ∀ k, k < 3 → parseFieldDescriptor (TX4 k).2.2.1 = some (tyX4 k) := by decide +kernel
abbrev cX4_init : ByteArray := prog_6_method_1_code
def yX4_init : MethodName := ⟨RX4, "<init>", "()V"⟩
abbrev cX4_keep : ByteArray := prog_6_method_2_code
def yX4_keep : MethodName := ⟨RX4, "keep", "(LBallastControl$Ship;)V"⟩
abbrev cX4_takeLatest : ByteArray := prog_6_method_3_code
def yX4_takeLatest : MethodName := ⟨RX4, "takeLatest", "()LBallastControl$Ship;"⟩
abbrev cX4_clear : ByteArray := prog_6_method_4_code
def yX4_clear : MethodName := ⟨RX4, "clear", "()V"⟩
def RX5 : String := "BallastControl$Hold"
def TX5 : u_T := fun k => match k with
  | 0 => ("BallastControl$Hold", "count", "I", false)
  | 1 => ("BallastControl$Hold", "arm", "[I", true)
  | 2 => ("BallastControl$Hold", "capacity", "[I", true)
  | 3 => ("BallastControl$Hold", "water", "[I", true)
  | 4 => ("BallastControl$Hold", "leak", "[I", true)
  | 5 => ("BallastControl$Hold", "pump", "[I", true)
  | _ => ("BallastControl$Hold", "running", "[Z", true)
def tyX5 : Nat → FieldType := fun k => match k with
  | 0 => .int
  | 1 => .array .int
  | 2 => .array .int
  | 3 => .array .int
  | 4 => .array .int
  | 5 => .array .int
  | _ => .array .boolean
abbrev wsX50 : List Cond := u_ws RX5 TX5 7
theorem nmX5 : ∀ a, a < 7 → ∀ b, b < 7 → a ≠ b → (TX5 a).2.1 ≠ (TX5 b).2.1 := by decide +kernel
theorem tyX5_ok : ∀ k, k < 7 → parseFieldDescriptor (TX5 k).2.2.1 = some (tyX5 k) := by decide +kernel
abbrev cX5_init : ByteArray := prog_7_method_1_code
def yX5_init : MethodName := ⟨RX5, "<init>", "()V"⟩
abbrev cX5_copyFrom : ByteArray := prog_7_method_2_code
def yX5_copyFrom : MethodName := ⟨RX5, "copyFrom", "(LBallastControl$Hold;)V"⟩
abbrev cX5_has : ByteArray := prog_7_method_3_code
def yX5_has : MethodName := ⟨RX5, "has", "(I)Z"⟩
abbrev cX5_add : ByteArray := prog_7_method_4_code
def yX5_add : MethodName := ⟨RX5, "add", "(II)I"⟩
abbrev cX5_canMove : ByteArray := prog_7_method_5_code
def yX5_canMove : MethodName := ⟨RX5, "canMove", "(III)Z"⟩
abbrev cX5_move : ByteArray := prog_7_method_6_code
def yX5_move : MethodName := ⟨RX5, "move", "(III)V"⟩
abbrev cX5_takeInLeaks : ByteArray := prog_7_method_7_code
def yX5_takeInLeaks : MethodName := ⟨RX5, "takeInLeaks", "()V"⟩
abbrev cX5_canPump : ByteArray := prog_7_method_8_code
def yX5_canPump : MethodName := ⟨RX5, "canPump", "(I)Z"⟩
abbrev cX5_pumpRank : ByteArray := prog_7_method_9_code
def yX5_pumpRank : MethodName := ⟨RX5, "pumpRank", "(I)I"⟩
abbrev cX5_pumpsBefore : ByteArray := prog_7_method_10_code
def yX5_pumpsBefore : MethodName := ⟨RX5, "pumpsBefore", "(II)Z"⟩
abbrev cX5_hasPower : ByteArray := prog_7_method_11_code
def yX5_hasPower : MethodName := ⟨RX5, "hasPower", "(II)Z"⟩
abbrev cX5_pumpOut : ByteArray := prog_7_method_12_code
def yX5_pumpOut : MethodName := ⟨RX5, "pumpOut", "(I)I"⟩
abbrev cX5_totalWater : ByteArray := prog_7_method_13_code
def yX5_totalWater : MethodName := ⟨RX5, "totalWater", "()I"⟩
abbrev cX5_totalCapacity : ByteArray := prog_7_method_14_code
def yX5_totalCapacity : MethodName := ⟨RX5, "totalCapacity", "()I"⟩
abbrev cX5_overflows : ByteArray := prog_7_method_15_code
def yX5_overflows : MethodName := ⟨RX5, "overflows", "()Z"⟩
def RX6 : String := "BallastControl$Keyword"
def TX6 : u_T := fun k => match k with
  | _ => ("", "", "", false)
def tyX6 : Nat → FieldType := fun k => match k with
  | _ => .int
abbrev wsX60 : List Cond := u_ws RX6 TX6 0
theorem nmX6 : ∀ a, a < 0 → ∀ b, b < 0 → a ≠ b → (TX6 a).2.1 ≠ (TX6 b).2.1 := by decide +kernel
theorem tyX6_ok : ∀ k, k < 0 → parseFieldDescriptor (TX6 k).2.2.1 = some (tyX6 k) := by decide +kernel
def RX7 : String := "BallastControl$Program"
def TX7 : u_T := fun k => match k with
  | 0 => ("BallastControl$Program", "text", "Ljava/lang/StringBuilder;", true)
  | 1 => ("BallastControl$Program", "keywords", "[LBallastControl$Keyword;", true)
  | 2 => ("BallastControl$Program", "arguments", "[[I", true)
  | 3 => ("BallastControl$Program", "count", "I", false)
  | 4 => ("BallastControl$Program", "position", "I", false)
  | _ => ("BallastControl$Program", "value", "I", false)
def tyX7 : Nat → FieldType := fun k => match k with
  | 0 => .object "java/lang/StringBuilder"
  | 1 => .array (.object "BallastControl$Keyword")
  | 2 => .array (.array .int)
  | 3 => .int
  | 4 => .int
  | _ => .int
abbrev wsX70 : List Cond := u_ws RX7 TX7 6
theorem nmX7 : ∀ a, a < 6 → ∀ b, b < 6 → a ≠ b → (TX7 a).2.1 ≠ (TX7 b).2.1 := by decide +kernel
theorem tyX7_ok : ∀ k, k < 6 → parseFieldDescriptor (TX7 k).2.2.1 = some (tyX7 k) := by decide +kernel
abbrev cX7_init : ByteArray := prog_9_method_1_code
def yX7_init : MethodName := ⟨RX7, "<init>", "(Ljava/lang/StringBuilder;)V"⟩
abbrev cX7_parse : ByteArray := prog_9_method_2_code
def yX7_parse : MethodName := ⟨RX7, "parse", "()Z"⟩
abbrev cX7_readKeyword : ByteArray := prog_9_method_3_code
def yX7_readKeyword : MethodName := ⟨RX7, "readKeyword", "()LBallastControl$Keyword;"⟩
abbrev cX7_countMatching : ByteArray := prog_9_method_4_code
def yX7_countMatching : MethodName := ⟨RX7, "countMatching", "(Ljava/lang/String;)I"⟩
abbrev cX7_readArguments : ByteArray := prog_9_method_5_code
def yX7_readArguments : MethodName := ⟨RX7, "readArguments", "(Ljava/lang/String;[I)Z"⟩
abbrev cX7_readValue : ByteArray := prog_9_method_6_code
def yX7_readValue : MethodName := ⟨RX7, "readValue", "(C)Z"⟩
abbrev cX7_take : ByteArray := prog_9_method_7_code
def yX7_take : MethodName := ⟨RX7, "take", "(C)Z"⟩
abbrev cX7_isAt : ByteArray := prog_9_method_8_code
def yX7_isAt : MethodName := ⟨RX7, "isAt", "(IC)Z"⟩
abbrev cX7_isDigitAt : ByteArray := prog_9_method_9_code
def yX7_isDigitAt : MethodName := ⟨RX7, "isDigitAt", "(I)Z"⟩
def RX8 : String := "BallastControl$Ship"
def TX8 : u_T := fun k => match k with
  | 0 => ("BallastControl$Ship", "hold", "LBallastControl$Hold;", true)
  | 1 => ("BallastControl$Ship", "cargo", "LBallastControl$Cargo;", true)
  | 2 => ("BallastControl$Ship", "storms", "LBallastControl$Storms;", true)
  | 3 => ("BallastControl$Ship", "minute", "I", false)
  | 4 => ("BallastControl$Ship", "power", "I", false)
  | 5 => ("BallastControl$Ship", "limit", "I", false)
  | 6 => ("BallastControl$Ship", "sunk", "Z", false)
  | _ => ("BallastControl$Ship", "pumped", "J", false)
def tyX8 : Nat → FieldType := fun k => match k with
  | 0 => .object "BallastControl$Hold"
  | 1 => .object "BallastControl$Cargo"
  | 2 => .object "BallastControl$Storms"
  | 3 => .int
  | 4 => .int
  | 5 => .int
  | 6 => .boolean
  | _ => .long
abbrev wsX80 : List Cond := u_ws RX8 TX8 8
theorem nmX8 : ∀ a, a < 8 → ∀ b, b < 8 → a ≠ b → (TX8 a).2.1 ≠ (TX8 b).2.1 := by decide +kernel
theorem tyX8_ok : ∀ k, k < 8 → parseFieldDescriptor (TX8 k).2.2.1 = some (tyX8 k) := by decide +kernel
abbrev cX8_init : ByteArray := prog_10_method_1_code
def yX8_init : MethodName := ⟨RX8, "<init>", "()V"⟩
abbrev cX8_copyFrom : ByteArray := prog_10_method_2_code
def yX8_copyFrom : MethodName := ⟨RX8, "copyFrom", "(LBallastControl$Ship;)V"⟩
abbrev cX8_faultOfAdding : ByteArray := prog_10_method_3_code
def yX8_faultOfAdding : MethodName := ⟨RX8, "faultOfAdding", "(II)LBallastControl$Fault;"⟩
abbrev cX8_faultOfLoading : ByteArray := prog_10_method_4_code
def yX8_faultOfLoading : MethodName := ⟨RX8, "faultOfLoading", "(II)LBallastControl$Fault;"⟩
abbrev cX8_faultOfUnloading : ByteArray := prog_10_method_5_code
def yX8_faultOfUnloading : MethodName := ⟨RX8, "faultOfUnloading", "(I)LBallastControl$Fault;"⟩
abbrev cX8_faultOfShifting : ByteArray := prog_10_method_6_code
def yX8_faultOfShifting : MethodName := ⟨RX8, "faultOfShifting", "(II)LBallastControl$Fault;"⟩
abbrev cX8_faultOfRate : ByteArray := prog_10_method_7_code
def yX8_faultOfRate : MethodName := ⟨RX8, "faultOfRate", "(II)LBallastControl$Fault;"⟩
abbrev cX8_faultOfMoving : ByteArray := prog_10_method_8_code
def yX8_faultOfMoving : MethodName := ⟨RX8, "faultOfMoving", "(III)LBallastControl$Fault;"⟩
abbrev cX8_faultOfPower : ByteArray := prog_10_method_9_code
def yX8_faultOfPower : MethodName := ⟨RX8, "faultOfPower", "(I)LBallastControl$Fault;"⟩
abbrev cX8_faultOfScheduling : ByteArray := prog_10_method_10_code
def yX8_faultOfScheduling : MethodName := ⟨RX8, "faultOfScheduling", "(II)LBallastControl$Fault;"⟩
abbrev cX8_faultOfPassing : ByteArray := prog_10_method_11_code
def yX8_faultOfPassing : MethodName := ⟨RX8, "faultOfPassing", "(I)LBallastControl$Fault;"⟩
abbrev cX8_letPass : ByteArray := prog_10_method_12_code
def yX8_letPass : MethodName := ⟨RX8, "letPass", "(I)I"⟩
abbrev cX8_strikeIfScheduled : ByteArray := prog_10_method_13_code
def yX8_strikeIfScheduled : MethodName := ⟨RX8, "strikeIfScheduled", "()V"⟩
abbrev cX8_fullestCompartment : ByteArray := prog_10_method_14_code
def yX8_fullestCompartment : MethodName := ⟨RX8, "fullestCompartment", "()I"⟩
abbrev cX8_loadIn : ByteArray := prog_10_method_15_code
def yX8_loadIn : MethodName := ⟨RX8, "loadIn", "(I)I"⟩
abbrev cX8_loadRank : ByteArray := prog_10_method_16_code
def yX8_loadRank : MethodName := ⟨RX8, "loadRank", "(I)I"⟩
abbrev cX8_isLoadedBefore : ByteArray := prog_10_method_17_code
def yX8_isLoadedBefore : MethodName := ⟨RX8, "isLoadedBefore", "(II)Z"⟩
abbrev cX8_totalWeight : ByteArray := prog_10_method_18_code
def yX8_totalWeight : MethodName := ⟨RX8, "totalWeight", "()I"⟩
abbrev cX8_weightOfParts : ByteArray := prog_10_method_19_code
def yX8_weightOfParts : MethodName := ⟨RX8, "weightOfParts", "()I"⟩
abbrev cX8_totalMoment : ByteArray := prog_10_method_20_code
def yX8_totalMoment : MethodName := ⟨RX8, "totalMoment", "()I"⟩
abbrev cX8_momentOfParts : ByteArray := prog_10_method_21_code
def yX8_momentOfParts : MethodName := ⟨RX8, "momentOfParts", "()I"⟩
abbrev cX8_isWithinLimit : ByteArray := prog_10_method_22_code
def yX8_isWithinLimit : MethodName := ⟨RX8, "isWithinLimit", "(II)Z"⟩
def RX9 : String := "BallastControl$Storms"
def TX9 : u_T := fun k => match k with
  | 0 => ("BallastControl$Storms", "count", "I", false)
  | 1 => ("BallastControl$Storms", "minutes", "[I", true)
  | 2 => ("BallastControl$Storms", "strengths", "[I", true)
  | 3 => ("BallastControl$Storms", "logged", "I", false)
  | _ => ("BallastControl$Storms", "log", "[I", true)
def tyX9 : Nat → FieldType := fun k => match k with
  | 0 => .int
  | 1 => .array .int
  | 2 => .array .int
  | 3 => .int
  | _ => .array .int
abbrev wsX90 : List Cond := u_ws RX9 TX9 5
theorem nmX9 : ∀ a, a < 5 → ∀ b, b < 5 → a ≠ b → (TX9 a).2.1 ≠ (TX9 b).2.1 := by decide +kernel
theorem tyX9_ok : ∀ k, k < 5 → parseFieldDescriptor (TX9 k).2.2.1 = some (tyX9 k) := by decide +kernel
abbrev cX9_init : ByteArray := prog_11_method_1_code
def yX9_init : MethodName := ⟨RX9, "<init>", "()V"⟩
abbrev cX9_copyFrom : ByteArray := prog_11_method_2_code
def yX9_copyFrom : MethodName := ⟨RX9, "copyFrom", "(LBallastControl$Storms;)V"⟩
abbrev cX9_find : ByteArray := prog_11_method_3_code
def yX9_find : MethodName := ⟨RX9, "find", "(I)I"⟩
abbrev cX9_add : ByteArray := prog_11_method_4_code
def yX9_add : MethodName := ⟨RX9, "add", "(II)V"⟩
abbrev cX9_removeAt : ByteArray := prog_11_method_5_code
def yX9_removeAt : MethodName := ⟨RX9, "removeAt", "(I)I"⟩
abbrev cX9_enterIntoLog : ByteArray := prog_11_method_6_code
def yX9_enterIntoLog : MethodName := ⟨RX9, "enterIntoLog", "(I)V"⟩
def RX10 : String := "BallastControl"
def TX10 : u_T := fun k => match k with
  | 0 => ("BallastControl", "ship", "LBallastControl$Ship;", true)
  | 1 => ("BallastControl", "trial", "LBallastControl$Ship;", true)
  | 2 => ("BallastControl", "beforeRun", "LBallastControl$Ship;", true)
  | 3 => ("BallastControl", "saved", "LBallastControl$Ship;", true)
  | 4 => ("BallastControl", "hasSaved", "Z", false)
  | 5 => ("BallastControl", "history", "LBallastControl$History;", true)
  | 6 => ("BallastControl", "choice", "LBallastControl$Choice;", true)
  | 7 => ("BallastControl", "line", "Ljava/lang/StringBuilder;", true)
  | 8 => ("BallastControl", "input", "Ljava/lang/StringBuilder;", true)
  | 9 => ("BallastControl", "program", "LBallastControl$Program;", true)
  | 10 => ("BallastControl", "hasError", "Z", false)
  | 11 => ("BallastControl", "errorAt", "I", false)
  | 12 => ("BallastControl", "hasFailed", "Z", false)
  | _ => ("BallastControl", "failedAt", "I", false)
def tyX10 : Nat → FieldType := fun k => match k with
  | 0 => .object "BallastControl$Ship"
  | 1 => .object "BallastControl$Ship"
  | 2 => .object "BallastControl$Ship"
  | 3 => .object "BallastControl$Ship"
  | 4 => .boolean
  | 5 => .object "BallastControl$History"
  | 6 => .object "BallastControl$Choice"
  | 7 => .object "java/lang/StringBuilder"
  | 8 => .object "java/lang/StringBuilder"
  | 9 => .object "BallastControl$Program"
  | 10 => .boolean
  | 11 => .int
  | 12 => .boolean
  | _ => .int
abbrev wsX100 : List Cond := u_ws RX10 TX10 14
theorem nmX10 : ∀ a, a < 14 → ∀ b, b < 14 → a ≠ b → (TX10 a).2.1 ≠ (TX10 b).2.1 := by decide +kernel
theorem tyX10_ok : ∀ k, k < 14 → parseFieldDescriptor (TX10 k).2.2.1 = some (tyX10 k) := by decide +kernel
abbrev cX10_init : ByteArray := prog_1_method_1_code
def yX10_init : MethodName := ⟨RX10, "<init>", "()V"⟩
abbrev cX10_addCompartment : ByteArray := prog_1_method_2_code
def yX10_addCompartment : MethodName := ⟨RX10, "addCompartment", "(II)I"⟩
abbrev cX10_load : ByteArray := prog_1_method_3_code
def yX10_load : MethodName := ⟨RX10, "load", "(II)I"⟩
abbrev cX10_unload : ByteArray := prog_1_method_4_code
def yX10_unload : MethodName := ⟨RX10, "unload", "(I)I"⟩
abbrev cX10_shift : ByteArray := prog_1_method_5_code
def yX10_shift : MethodName := ⟨RX10, "shift", "(II)I"⟩
abbrev cX10_setLeak : ByteArray := prog_1_method_6_code
def yX10_setLeak : MethodName := ⟨RX10, "setLeak", "(II)I"⟩
abbrev cX10_setPump : ByteArray := prog_1_method_7_code
def yX10_setPump : MethodName := ⟨RX10, "setPump", "(II)I"⟩
abbrev cX10_transfer : ByteArray := prog_1_method_8_code
def yX10_transfer : MethodName := ⟨RX10, "transfer", "(III)I"⟩
abbrev cX10_balance : ByteArray := prog_1_method_9_code
def yX10_balance : MethodName := ⟨RX10, "balance", "(I)I"⟩
abbrev cX10_setPower : ByteArray := prog_1_method_10_code
def yX10_setPower : MethodName := ⟨RX10, "setPower", "(I)I"⟩
abbrev cX10_setLimit : ByteArray := prog_1_method_11_code
def yX10_setLimit : MethodName := ⟨RX10, "setLimit", "(I)I"⟩
abbrev cX10_schedule : ByteArray := prog_1_method_12_code
def yX10_schedule : MethodName := ⟨RX10, "schedule", "(II)I"⟩
abbrev cX10_cancelStorm : ByteArray := prog_1_method_13_code
def yX10_cancelStorm : MethodName := ⟨RX10, "cancelStorm", "(I)I"⟩
abbrev cX10_pass : ByteArray := prog_1_method_14_code
def yX10_pass : MethodName := ⟨RX10, "pass", "(I)I"⟩
abbrev cX10_minute : ByteArray := prog_1_method_15_code
def yX10_minute : MethodName := ⟨RX10, "minute", "()I"⟩
abbrev cX10_compartmentCount : ByteArray := prog_1_method_16_code
def yX10_compartmentCount : MethodName := ⟨RX10, "compartmentCount", "()I"⟩
abbrev cX10_arm : ByteArray := prog_1_method_17_code
def yX10_arm : MethodName := ⟨RX10, "arm", "(I)I"⟩
abbrev cX10_capacity : ByteArray := prog_1_method_18_code
def yX10_capacity : MethodName := ⟨RX10, "capacity", "(I)I"⟩
abbrev cX10_water : ByteArray := prog_1_method_19_code
def yX10_water : MethodName := ⟨RX10, "water", "(I)I"⟩
abbrev cX10_leak : ByteArray := prog_1_method_20_code
def yX10_leak : MethodName := ⟨RX10, "leak", "(I)I"⟩
abbrev cX10_loadOf : ByteArray := prog_1_method_21_code
def yX10_loadOf : MethodName := ⟨RX10, "loadOf", "(I)I"⟩
abbrev cX10_wouldPump : ByteArray := prog_1_method_22_code
def yX10_wouldPump : MethodName := ⟨RX10, "wouldPump", "(I)Z"⟩
abbrev cX10_pumpAt : ByteArray := prog_1_method_23_code
def yX10_pumpAt : MethodName := ⟨RX10, "pumpAt", "(I)I"⟩
abbrev cX10_minutesUntilFull : ByteArray := prog_1_method_24_code
def yX10_minutesUntilFull : MethodName := ⟨RX10, "minutesUntilFull", "(I)I"⟩
abbrev cX10_pieceCount : ByteArray := prog_1_method_25_code
def yX10_pieceCount : MethodName := ⟨RX10, "pieceCount", "()I"⟩
abbrev cX10_idAt : ByteArray := prog_1_method_26_code
def yX10_idAt : MethodName := ⟨RX10, "idAt", "(I)I"⟩
abbrev cX10_weightOf : ByteArray := prog_1_method_27_code
def yX10_weightOf : MethodName := ⟨RX10, "weightOf", "(I)I"⟩
abbrev cX10_compartmentOf : ByteArray := prog_1_method_28_code
def yX10_compartmentOf : MethodName := ⟨RX10, "compartmentOf", "(I)I"⟩
abbrev cX10_heaviestPiece : ByteArray := prog_1_method_29_code
def yX10_heaviestPiece : MethodName := ⟨RX10, "heaviestPiece", "()I"⟩
abbrev cX10_weight : ByteArray := prog_1_method_30_code
def yX10_weight : MethodName := ⟨RX10, "weight", "()I"⟩
abbrev cX10_weightByParts : ByteArray := prog_1_method_31_code
def yX10_weightByParts : MethodName := ⟨RX10, "weightByParts", "()I"⟩
abbrev cX10_moment : ByteArray := prog_1_method_32_code
def yX10_moment : MethodName := ⟨RX10, "moment", "()I"⟩
abbrev cX10_momentByParts : ByteArray := prog_1_method_33_code
def yX10_momentByParts : MethodName := ⟨RX10, "momentByParts", "()I"⟩
abbrev cX10_trim : ByteArray := prog_1_method_34_code
def yX10_trim : MethodName := ⟨RX10, "trim", "()I"⟩
abbrev cX10_isBalanced : ByteArray := prog_1_method_35_code
def yX10_isBalanced : MethodName := ⟨RX10, "isBalanced", "()Z"⟩
abbrev cX10_isAfloat : ByteArray := prog_1_method_36_code
def yX10_isAfloat : MethodName := ⟨RX10, "isAfloat", "()Z"⟩
abbrev cX10_bestSource : ByteArray := prog_1_method_37_code
def yX10_bestSource : MethodName := ⟨RX10, "bestSource", "(I)I"⟩
abbrev cX10_bestTarget : ByteArray := prog_1_method_38_code
def yX10_bestTarget : MethodName := ⟨RX10, "bestTarget", "(I)I"⟩
abbrev cX10_bestMoment : ByteArray := prog_1_method_39_code
def yX10_bestMoment : MethodName := ⟨RX10, "bestMoment", "(I)I"⟩
abbrev cX10_transfersToBalance : ByteArray := prog_1_method_40_code
def yX10_transfersToBalance : MethodName := ⟨RX10, "transfersToBalance", "(I)I"⟩
abbrev cX10_bestShiftPiece : ByteArray := prog_1_method_41_code
def yX10_bestShiftPiece : MethodName := ⟨RX10, "bestShiftPiece", "()I"⟩
abbrev cX10_bestShiftCompartment : ByteArray := prog_1_method_42_code
def yX10_bestShiftCompartment : MethodName := ⟨RX10, "bestShiftCompartment", "()I"⟩
abbrev cX10_momentAfter : ByteArray := prog_1_method_43_code
def yX10_momentAfter : MethodName := ⟨RX10, "momentAfter", "(I)I"⟩
abbrev cX10_minutesUntilSunk : ByteArray := prog_1_method_44_code
def yX10_minutesUntilSunk : MethodName := ⟨RX10, "minutesUntilSunk", "()I"⟩
abbrev cX10_compartmentByLoad : ByteArray := prog_1_method_45_code
def yX10_compartmentByLoad : MethodName := ⟨RX10, "compartmentByLoad", "(I)I"⟩
abbrev cX10_stormCount : ByteArray := prog_1_method_46_code
def yX10_stormCount : MethodName := ⟨RX10, "stormCount", "()I"⟩
abbrev cX10_nextStorm : ByteArray := prog_1_method_47_code
def yX10_nextStorm : MethodName := ⟨RX10, "nextStorm", "()I"⟩
abbrev cX10_strengthAt : ByteArray := prog_1_method_48_code
def yX10_strengthAt : MethodName := ⟨RX10, "strengthAt", "(I)I"⟩
abbrev cX10_loggedMinute : ByteArray := prog_1_method_49_code
def yX10_loggedMinute : MethodName := ⟨RX10, "loggedMinute", "(I)I"⟩
abbrev cX10_pumpedTotal : ByteArray := prog_1_method_50_code
def yX10_pumpedTotal : MethodName := ⟨RX10, "pumpedTotal", "()J"⟩
abbrev cX10_meanWater : ByteArray := prog_1_method_51_code
def yX10_meanWater : MethodName := ⟨RX10, "meanWater", "()D"⟩
abbrev cX10_fillShare : ByteArray := prog_1_method_52_code
def yX10_fillShare : MethodName := ⟨RX10, "fillShare", "()F"⟩
abbrev cX10_isConsistent : ByteArray := prog_1_method_53_code
def yX10_isConsistent : MethodName := ⟨RX10, "isConsistent", "()Z"⟩
abbrev cX10_formatCompartment : ByteArray := prog_1_method_54_code
def yX10_formatCompartment : MethodName := ⟨RX10, "formatCompartment", "(I)I"⟩
abbrev cX10_formatCargo : ByteArray := prog_1_method_55_code
def yX10_formatCargo : MethodName := ⟨RX10, "formatCargo", "(I)I"⟩
abbrev cX10_formatStorms : ByteArray := prog_1_method_56_code
def yX10_formatStorms : MethodName := ⟨RX10, "formatStorms", "()I"⟩
abbrev cX10_lineChar : ByteArray := prog_1_method_57_code
def yX10_lineChar : MethodName := ⟨RX10, "lineChar", "(I)C"⟩
abbrev cX10_append : ByteArray := prog_1_method_58_code
def yX10_append : MethodName := ⟨RX10, "append", "(C)I"⟩
abbrev cX10_run : ByteArray := prog_1_method_59_code
def yX10_run : MethodName := ⟨RX10, "run", "()I"⟩
abbrev cX10_errorPosition : ByteArray := prog_1_method_60_code
def yX10_errorPosition : MethodName := ⟨RX10, "errorPosition", "()I"⟩
abbrev cX10_failedCommand : ByteArray := prog_1_method_61_code
def yX10_failedCommand : MethodName := ⟨RX10, "failedCommand", "()I"⟩
abbrev cX10_undoableCount : ByteArray := prog_1_method_62_code
def yX10_undoableCount : MethodName := ⟨RX10, "undoableCount", "()I"⟩
abbrev cX10_undo : ByteArray := prog_1_method_63_code
def yX10_undo : MethodName := ⟨RX10, "undo", "()I"⟩
abbrev cX10_save : ByteArray := prog_1_method_64_code
def yX10_save : MethodName := ⟨RX10, "save", "()I"⟩
abbrev cX10_restore : ByteArray := prog_1_method_65_code
def yX10_restore : MethodName := ⟨RX10, "restore", "()I"⟩
abbrev cX10_isWithin : ByteArray := prog_1_method_66_code
def yX10_isWithin : MethodName := ⟨RX10, "isWithin", "(III)Z"⟩
abbrev cX10_trimFor : ByteArray := prog_1_method_67_code
def yX10_trimFor : MethodName := ⟨RX10, "trimFor", "(II)I"⟩
abbrev cX10_faultOfAmount : ByteArray := prog_1_method_68_code
def yX10_faultOfAmount : MethodName := ⟨RX10, "faultOfAmount", "(I)LBallastControl$Fault;"⟩
abbrev cX10_refuse : ByteArray := prog_1_method_69_code
def yX10_refuse : MethodName := ⟨RX10, "refuse", "(LBallastControl$Fault;)V"⟩
abbrev cX10_checkCompartment : ByteArray := prog_1_method_70_code
def yX10_checkCompartment : MethodName := ⟨RX10, "checkCompartment", "(I)V"⟩
abbrev cX10_checkForMean : ByteArray := prog_1_method_71_code
def yX10_checkForMean : MethodName := ⟨RX10, "checkForMean", "()V"⟩
abbrev cX10_positionOfPiece : ByteArray := prog_1_method_72_code
def yX10_positionOfPiece : MethodName := ⟨RX10, "positionOfPiece", "(I)I"⟩
abbrev cX10_positionOfStorm : ByteArray := prog_1_method_73_code
def yX10_positionOfStorm : MethodName := ⟨RX10, "positionOfStorm", "(I)I"⟩
abbrev cX10_findBestTransfer : ByteArray := prog_1_method_74_code
def yX10_findBestTransfer : MethodName := ⟨RX10, "findBestTransfer", "(I)V"⟩
abbrev cX10_findBestShift : ByteArray := prog_1_method_75_code
def yX10_findBestShift : MethodName := ⟨RX10, "findBestShift", "()V"⟩
abbrev cX10_adviceHolds : ByteArray := prog_1_method_76_code
def yX10_adviceHolds : MethodName := ⟨RX10, "adviceHolds", "()Z"⟩
abbrev cX10_separate : ByteArray := prog_1_method_77_code
def yX10_separate : MethodName := ⟨RX10, "separate", "(C)V"⟩
abbrev cX10_faultOf : ByteArray := prog_1_method_78_code
def yX10_faultOf : MethodName := ⟨RX10, "faultOf", "(LBallastControl$Keyword;III)LBallastControl$Fault;"⟩
abbrev cX10_carryOut : ByteArray := prog_1_method_79_code
def yX10_carryOut : MethodName := ⟨RX10, "carryOut", "(LBallastControl$Keyword;III)V"⟩
def RX11 : String := "BallastControlModel"
def TX11 : u_T := fun k => match k with
  | 0 => ("BallastControlModel", "thrown", "I", false)
  | 1 => ("BallastControlModel", "all", "[I", true)
  | 2 => ("BallastControlModel", "changes", "I", false)
  | 3 => ("BallastControlModel", "isSaved", "Z", false)
  | 4 => ("BallastControlModel", "result", "I", false)
  | 5 => ("BallastControlModel", "line", "[C", true)
  | 6 => ("BallastControlModel", "lineSize", "I", false)
  | 7 => ("BallastControlModel", "input", "[C", true)
  | 8 => ("BallastControlModel", "typed", "I", false)
  | 9 => ("BallastControlModel", "here", "I", false)
  | 10 => ("BallastControlModel", "error", "I", false)
  | 11 => ("BallastControlModel", "errorAt", "I", false)
  | 12 => ("BallastControlModel", "failedAt", "I", false)
  | 13 => ("BallastControlModel", "commands", "[I", true)
  | _ => ("BallastControlModel", "commandMany", "I", false)
def tyX11 : Nat → FieldType := fun k => match k with
  | 0 => .int
  | 1 => .array .int
  | 2 => .int
  | 3 => .boolean
  | 4 => .int
  | 5 => .array .char
  | 6 => .int
  | 7 => .array .char
  | 8 => .int
  | 9 => .int
  | 10 => .int
  | 11 => .int
  | 12 => .int
  | 13 => .array .int
  | _ => .int
abbrev wsX110 : List Cond := u_ws RX11 TX11 15
theorem nmX11 : ∀ a, a < 15 → ∀ b, b < 15 → a ≠ b → (TX11 a).2.1 ≠ (TX11 b).2.1 := by decide +kernel
theorem tyX11_ok : ∀ k, k < 15 → parseFieldDescriptor (TX11 k).2.2.1 = some (tyX11 k) := by decide +kernel
abbrev cX11_init : ByteArray := prog_13_method_1_code
def yX11_init : MethodName := ⟨RX11, "<init>", "()V"⟩
abbrev cX11_thrown : ByteArray := prog_13_method_2_code
def yX11_thrown : MethodName := ⟨RX11, "thrown", "()I"⟩
abbrev cX11_in : ByteArray := prog_13_method_3_code
def yX11_in : MethodName := ⟨RX11, "in", "(III)Z"⟩
abbrev cX11_size : ByteArray := prog_13_method_4_code
def yX11_size : MethodName := ⟨RX11, "size", "(I)I"⟩
abbrev cX11_copies : ByteArray := prog_13_method_5_code
def yX11_copies : MethodName := ⟨RX11, "copies", "(II)V"⟩
abbrev cX11_begins : ByteArray := prog_13_method_6_code
def yX11_begins : MethodName := ⟨RX11, "begins", "()V"⟩
abbrev cX11_ends : ByteArray := prog_13_method_7_code
def yX11_ends : MethodName := ⟨RX11, "ends", "(IIIII)I"⟩
abbrev cX11_isFine : ByteArray := prog_13_method_8_code
def yX11_isFine : MethodName := ⟨RX11, "isFine", "(Z)Z"⟩
abbrev cX11_c : ByteArray := prog_13_method_9_code
def yX11_c : MethodName := ⟨RX11, "c", "(II)I"⟩
abbrev cX11_set : ByteArray := prog_13_method_10_code
def yX11_set : MethodName := ⟨RX11, "set", "(III)V"⟩
abbrev cX11_isTank : ByteArray := prog_13_method_11_code
def yX11_isTank : MethodName := ⟨RX11, "isTank", "(I)Z"⟩
abbrev cX11_idOf : ByteArray := prog_13_method_12_code
def yX11_idOf : MethodName := ⟨RX11, "idOf", "(I)I"⟩
abbrev cX11_heavy : ByteArray := prog_13_method_13_code
def yX11_heavy : MethodName := ⟨RX11, "heavy", "(I)I"⟩
abbrev cX11_lies : ByteArray := prog_13_method_14_code
def yX11_lies : MethodName := ⟨RX11, "lies", "(I)I"⟩
abbrev cX11_piece : ByteArray := prog_13_method_15_code
def yX11_piece : MethodName := ⟨RX11, "piece", "(I)I"⟩
abbrev cX11_cargo : ByteArray := prog_13_method_16_code
def yX11_cargo : MethodName := ⟨RX11, "cargo", "(I)I"⟩
abbrev cX11_laden : ByteArray := prog_13_method_17_code
def yX11_laden : MethodName := ⟨RX11, "laden", "(I)I"⟩
abbrev cX11_total : ByteArray := prog_13_method_18_code
def yX11_total : MethodName := ⟨RX11, "total", "()I"⟩
abbrev cX11_turning : ByteArray := prog_13_method_19_code
def yX11_turning : MethodName := ⟨RX11, "turning", "()I"⟩
abbrev cX11_isPumped : ByteArray := prog_13_method_20_code
def yX11_isPumped : MethodName := ⟨RX11, "isPumped", "(I)Z"⟩
abbrev cX11_ahead : ByteArray := prog_13_method_21_code
def yX11_ahead : MethodName := ⟨RX11, "ahead", "(I)I"⟩
abbrev cX11_runs : ByteArray := prog_13_method_22_code
def yX11_runs : MethodName := ⟨RX11, "runs", "(I)Z"⟩
abbrev cX11_storm : ByteArray := prog_13_method_23_code
def yX11_storm : MethodName := ⟨RX11, "storm", "(I)I"⟩
abbrev cX11_passesBy : ByteArray := prog_13_method_24_code
def yX11_passesBy : MethodName := ⟨RX11, "passesBy", "(I)I"⟩
abbrev cX11_strikes : ByteArray := prog_13_method_25_code
def yX11_strikes : MethodName := ⟨RX11, "strikes", "(I)V"⟩
abbrev cX11_ticks : ByteArray := prog_13_method_26_code
def yX11_ticks : MethodName := ⟨RX11, "ticks", "()V"⟩
abbrev cX11_isPossible : ByteArray := prog_13_method_27_code
def yX11_isPossible : MethodName := ⟨RX11, "isPossible", "(III)Z"⟩
abbrev cX11_best : ByteArray := prog_13_method_28_code
def yX11_best : MethodName := ⟨RX11, "best", "(I)I"⟩
abbrev cX11_moves : ByteArray := prog_13_method_29_code
def yX11_moves : MethodName := ⟨RX11, "moves", "(III)V"⟩
abbrev cX11_adds : ByteArray := prog_13_method_30_code
def yX11_adds : MethodName := ⟨RX11, "adds", "(II)I"⟩
abbrev cX11_addCompartment : ByteArray := prog_13_method_31_code
def yX11_addCompartment : MethodName := ⟨RX11, "addCompartment", "(II)I"⟩
abbrev cX11_loads : ByteArray := prog_13_method_32_code
def yX11_loads : MethodName := ⟨RX11, "loads", "(II)I"⟩
abbrev cX11_load : ByteArray := prog_13_method_33_code
def yX11_load : MethodName := ⟨RX11, "load", "(II)I"⟩
abbrev cX11_unloads : ByteArray := prog_13_method_34_code
def yX11_unloads : MethodName := ⟨RX11, "unloads", "(I)I"⟩
abbrev cX11_unload : ByteArray := prog_13_method_35_code
def yX11_unload : MethodName := ⟨RX11, "unload", "(I)I"⟩
abbrev cX11_shifts : ByteArray := prog_13_method_36_code
def yX11_shifts : MethodName := ⟨RX11, "shifts", "(II)I"⟩
abbrev cX11_shift : ByteArray := prog_13_method_37_code
def yX11_shift : MethodName := ⟨RX11, "shift", "(II)I"⟩
abbrev cX11_rates : ByteArray := prog_13_method_38_code
def yX11_rates : MethodName := ⟨RX11, "rates", "(III)I"⟩
abbrev cX11_setLeak : ByteArray := prog_13_method_39_code
def yX11_setLeak : MethodName := ⟨RX11, "setLeak", "(II)I"⟩
abbrev cX11_setPump : ByteArray := prog_13_method_40_code
def yX11_setPump : MethodName := ⟨RX11, "setPump", "(II)I"⟩
abbrev cX11_isAmount : ByteArray := prog_13_method_41_code
def yX11_isAmount : MethodName := ⟨RX11, "isAmount", "(I)Z"⟩
abbrev cX11_transfers : ByteArray := prog_13_method_42_code
def yX11_transfers : MethodName := ⟨RX11, "transfers", "(III)I"⟩
abbrev cX11_transfer : ByteArray := prog_13_method_43_code
def yX11_transfer : MethodName := ⟨RX11, "transfer", "(III)I"⟩
abbrev cX11_balances : ByteArray := prog_13_method_44_code
def yX11_balances : MethodName := ⟨RX11, "balances", "(I)I"⟩
abbrev cX11_balance : ByteArray := prog_13_method_45_code
def yX11_balance : MethodName := ⟨RX11, "balance", "(I)I"⟩
abbrev cX11_turns : ByteArray := prog_13_method_46_code
def yX11_turns : MethodName := ⟨RX11, "turns", "(IIII)I"⟩
abbrev cX11_setPower : ByteArray := prog_13_method_47_code
def yX11_setPower : MethodName := ⟨RX11, "setPower", "(I)I"⟩
abbrev cX11_setLimit : ByteArray := prog_13_method_48_code
def yX11_setLimit : MethodName := ⟨RX11, "setLimit", "(I)I"⟩
abbrev cX11_plans : ByteArray := prog_13_method_49_code
def yX11_plans : MethodName := ⟨RX11, "plans", "(II)I"⟩
abbrev cX11_schedule : ByteArray := prog_13_method_50_code
def yX11_schedule : MethodName := ⟨RX11, "schedule", "(II)I"⟩
abbrev cX11_cancels : ByteArray := prog_13_method_51_code
def yX11_cancels : MethodName := ⟨RX11, "cancels", "(I)I"⟩
abbrev cX11_cancelStorm : ByteArray := prog_13_method_52_code
def yX11_cancelStorm : MethodName := ⟨RX11, "cancelStorm", "(I)I"⟩
abbrev cX11_passes : ByteArray := prog_13_method_53_code
def yX11_passes : MethodName := ⟨RX11, "passes", "(I)I"⟩
abbrev cX11_pass : ByteArray := prog_13_method_54_code
def yX11_pass : MethodName := ⟨RX11, "pass", "(I)I"⟩
abbrev cX11_told : ByteArray := prog_13_method_55_code
def yX11_told : MethodName := ⟨RX11, "told", "(I)I"⟩
abbrev cX11_minute : ByteArray := prog_13_method_56_code
def yX11_minute : MethodName := ⟨RX11, "minute", "()I"⟩
abbrev cX11_compartmentCount : ByteArray := prog_13_method_57_code
def yX11_compartmentCount : MethodName := ⟨RX11, "compartmentCount", "()I"⟩
abbrev cX11_ofTank : ByteArray := prog_13_method_58_code
def yX11_ofTank : MethodName := ⟨RX11, "ofTank", "(II)I"⟩
abbrev cX11_arm : ByteArray := prog_13_method_59_code
def yX11_arm : MethodName := ⟨RX11, "arm", "(I)I"⟩
abbrev cX11_capacity : ByteArray := prog_13_method_60_code
def yX11_capacity : MethodName := ⟨RX11, "capacity", "(I)I"⟩
abbrev cX11_water : ByteArray := prog_13_method_61_code
def yX11_water : MethodName := ⟨RX11, "water", "(I)I"⟩
abbrev cX11_leak : ByteArray := prog_13_method_62_code
def yX11_leak : MethodName := ⟨RX11, "leak", "(I)I"⟩
abbrev cX11_loadOf : ByteArray := prog_13_method_63_code
def yX11_loadOf : MethodName := ⟨RX11, "loadOf", "(I)I"⟩
abbrev cX11_wouldPump : ByteArray := prog_13_method_64_code
def yX11_wouldPump : MethodName := ⟨RX11, "wouldPump", "(I)Z"⟩
abbrev cX11_pumpAt : ByteArray := prog_13_method_65_code
def yX11_pumpAt : MethodName := ⟨RX11, "pumpAt", "(I)I"⟩
abbrev cX11_minutesUntilFull : ByteArray := prog_13_method_66_code
def yX11_minutesUntilFull : MethodName := ⟨RX11, "minutesUntilFull", "(I)I"⟩
abbrev cX11_pieceCount : ByteArray := prog_13_method_67_code
def yX11_pieceCount : MethodName := ⟨RX11, "pieceCount", "()I"⟩
abbrev cX11_idAt : ByteArray := prog_13_method_68_code
def yX11_idAt : MethodName := ⟨RX11, "idAt", "(I)I"⟩
abbrev cX11_weightOf : ByteArray := prog_13_method_69_code
def yX11_weightOf : MethodName := ⟨RX11, "weightOf", "(I)I"⟩
abbrev cX11_compartmentOf : ByteArray := prog_13_method_70_code
def yX11_compartmentOf : MethodName := ⟨RX11, "compartmentOf", "(I)I"⟩
abbrev cX11_heaviestPiece : ByteArray := prog_13_method_71_code
def yX11_heaviestPiece : MethodName := ⟨RX11, "heaviestPiece", "()I"⟩
abbrev cX11_weight : ByteArray := prog_13_method_72_code
def yX11_weight : MethodName := ⟨RX11, "weight", "()I"⟩
abbrev cX11_weightByParts : ByteArray := prog_13_method_73_code
def yX11_weightByParts : MethodName := ⟨RX11, "weightByParts", "()I"⟩
abbrev cX11_moment : ByteArray := prog_13_method_74_code
def yX11_moment : MethodName := ⟨RX11, "moment", "()I"⟩
abbrev cX11_momentByParts : ByteArray := prog_13_method_75_code
def yX11_momentByParts : MethodName := ⟨RX11, "momentByParts", "()I"⟩
abbrev cX11_trim : ByteArray := prog_13_method_76_code
def yX11_trim : MethodName := ⟨RX11, "trim", "()I"⟩
abbrev cX11_isBalanced : ByteArray := prog_13_method_77_code
def yX11_isBalanced : MethodName := ⟨RX11, "isBalanced", "()Z"⟩
abbrev cX11_isAfloat : ByteArray := prog_13_method_78_code
def yX11_isAfloat : MethodName := ⟨RX11, "isAfloat", "()Z"⟩
abbrev cX11_advice : ByteArray := prog_13_method_79_code
def yX11_advice : MethodName := ⟨RX11, "advice", "(I)I"⟩
abbrev cX11_bestSource : ByteArray := prog_13_method_80_code
def yX11_bestSource : MethodName := ⟨RX11, "bestSource", "(I)I"⟩
abbrev cX11_bestTarget : ByteArray := prog_13_method_81_code
def yX11_bestTarget : MethodName := ⟨RX11, "bestTarget", "(I)I"⟩
abbrev cX11_bestMoment : ByteArray := prog_13_method_82_code
def yX11_bestMoment : MethodName := ⟨RX11, "bestMoment", "(I)I"⟩
abbrev cX11_isEven : ByteArray := prog_13_method_83_code
def yX11_isEven : MethodName := ⟨RX11, "isEven", "()Z"⟩
abbrev cX11_transfersToBalance : ByteArray := prog_13_method_84_code
def yX11_transfersToBalance : MethodName := ⟨RX11, "transfersToBalance", "(I)I"⟩
abbrev cX11_bestShift : ByteArray := prog_13_method_85_code
def yX11_bestShift : MethodName := ⟨RX11, "bestShift", "()I"⟩
abbrev cX11_bestShiftPiece : ByteArray := prog_13_method_86_code
def yX11_bestShiftPiece : MethodName := ⟨RX11, "bestShiftPiece", "()I"⟩
abbrev cX11_bestShiftCompartment : ByteArray := prog_13_method_87_code
def yX11_bestShiftCompartment : MethodName := ⟨RX11, "bestShiftCompartment", "()I"⟩
abbrev cX11_momentAfter : ByteArray := prog_13_method_88_code
def yX11_momentAfter : MethodName := ⟨RX11, "momentAfter", "(I)I"⟩
abbrev cX11_minutesUntilSunk : ByteArray := prog_13_method_89_code
def yX11_minutesUntilSunk : MethodName := ⟨RX11, "minutesUntilSunk", "()I"⟩
abbrev cX11_compartmentByLoad : ByteArray := prog_13_method_90_code
def yX11_compartmentByLoad : MethodName := ⟨RX11, "compartmentByLoad", "(I)I"⟩
abbrev cX11_stormCount : ByteArray := prog_13_method_91_code
def yX11_stormCount : MethodName := ⟨RX11, "stormCount", "()I"⟩
abbrev cX11_nextStorm : ByteArray := prog_13_method_92_code
def yX11_nextStorm : MethodName := ⟨RX11, "nextStorm", "()I"⟩
abbrev cX11_strengthAt : ByteArray := prog_13_method_93_code
def yX11_strengthAt : MethodName := ⟨RX11, "strengthAt", "(I)I"⟩
abbrev cX11_loggedMinute : ByteArray := prog_13_method_94_code
def yX11_loggedMinute : MethodName := ⟨RX11, "loggedMinute", "(I)I"⟩
abbrev cX11_pumpedTotal : ByteArray := prog_13_method_95_code
def yX11_pumpedTotal : MethodName := ⟨RX11, "pumpedTotal", "()J"⟩
abbrev cX11_sum : ByteArray := prog_13_method_96_code
def yX11_sum : MethodName := ⟨RX11, "sum", "(I)I"⟩
abbrev cX11_meanWater : ByteArray := prog_13_method_97_code
def yX11_meanWater : MethodName := ⟨RX11, "meanWater", "()D"⟩
abbrev cX11_fillShare : ByteArray := prog_13_method_98_code
def yX11_fillShare : MethodName := ⟨RX11, "fillShare", "()F"⟩
abbrev cX11_isConsistent : ByteArray := prog_13_method_99_code
def yX11_isConsistent : MethodName := ⟨RX11, "isConsistent", "()Z"⟩
abbrev cX11_writes : ByteArray := prog_13_method_100_code
def yX11_writes : MethodName := ⟨RX11, "writes", "(I)V"⟩
abbrev cX11_writesNumber : ByteArray := prog_13_method_101_code
def yX11_writesNumber : MethodName := ⟨RX11, "writesNumber", "(I)V"⟩
abbrev cX11_writesBehind : ByteArray := prog_13_method_102_code
def yX11_writesBehind : MethodName := ⟨RX11, "writesBehind", "(II)V"⟩
abbrev cX11_formatCompartment : ByteArray := prog_13_method_103_code
def yX11_formatCompartment : MethodName := ⟨RX11, "formatCompartment", "(I)I"⟩
abbrev cX11_formatCargo : ByteArray := prog_13_method_104_code
def yX11_formatCargo : MethodName := ⟨RX11, "formatCargo", "(I)I"⟩
abbrev cX11_formatStorms : ByteArray := prog_13_method_105_code
def yX11_formatStorms : MethodName := ⟨RX11, "formatStorms", "()I"⟩
abbrev cX11_lineChar : ByteArray := prog_13_method_106_code
def yX11_lineChar : MethodName := ⟨RX11, "lineChar", "(I)C"⟩
abbrev cX11_append : ByteArray := prog_13_method_107_code
def yX11_append : MethodName := ⟨RX11, "append", "(C)I"⟩
abbrev cX11_sign : ByteArray := prog_13_method_108_code
def yX11_sign : MethodName := ⟨RX11, "sign", "()I"⟩
abbrev cX11_needs : ByteArray := prog_13_method_109_code
def yX11_needs : MethodName := ⟨RX11, "needs", "(I)V"⟩
abbrev cX11_letters : ByteArray := prog_13_method_110_code
def yX11_letters : MethodName := ⟨RX11, "letters", "(III)V"⟩
abbrev cX11_digits : ByteArray := prog_13_method_111_code
def yX11_digits : MethodName := ⟨RX11, "digits", "(I)I"⟩
abbrev cX11_number : ByteArray := prog_13_method_112_code
def yX11_number : MethodName := ⟨RX11, "number", "(I)I"⟩
abbrev cX11_signed : ByteArray := prog_13_method_113_code
def yX11_signed : MethodName := ⟨RX11, "signed", "()I"⟩
abbrev cX11_word : ByteArray := prog_13_method_114_code
def yX11_word : MethodName := ⟨RX11, "word", "(I)I"⟩
abbrev cX11_command : ByteArray := prog_13_method_115_code
def yX11_command : MethodName := ⟨RX11, "command", "()V"⟩
abbrev cX11_parse : ByteArray := prog_13_method_116_code
def yX11_parse : MethodName := ⟨RX11, "parse", "()V"⟩
abbrev cX11_does : ByteArray := prog_13_method_117_code
def yX11_does : MethodName := ⟨RX11, "does", "(I)I"⟩
abbrev cX11_run : ByteArray := prog_13_method_118_code
def yX11_run : MethodName := ⟨RX11, "run", "()I"⟩
abbrev cX11_errorPosition : ByteArray := prog_13_method_119_code
def yX11_errorPosition : MethodName := ⟨RX11, "errorPosition", "()I"⟩
abbrev cX11_failedCommand : ByteArray := prog_13_method_120_code
def yX11_failedCommand : MethodName := ⟨RX11, "failedCommand", "()I"⟩
abbrev cX11_undoableCount : ByteArray := prog_13_method_121_code
def yX11_undoableCount : MethodName := ⟨RX11, "undoableCount", "()I"⟩
abbrev cX11_undo : ByteArray := prog_13_method_122_code
def yX11_undo : MethodName := ⟨RX11, "undo", "()I"⟩
abbrev cX11_save : ByteArray := prog_13_method_123_code
def yX11_save : MethodName := ⟨RX11, "save", "()I"⟩
abbrev cX11_restore : ByteArray := prog_13_method_124_code
def yX11_restore : MethodName := ⟨RX11, "restore", "()I"⟩
def RJx145de : String := "java/io/Serializable"
def TJx145de : u_T := fun k => match k with
  | _ => ("", "", "", false)
def tyJx145de : Nat → FieldType := fun k => match k with
  | _ => .int
abbrev wsJx145de0 : List Cond := u_ws RJx145de TJx145de 0
theorem nmJx145de : ∀ a, a < 0 → ∀ b, b < 0 → a ≠ b → (TJx145de a).2.1 ≠ (TJx145de b).2.1 := by decide +kernel
theorem tyJx145de_ok : ∀ k, k < 0 → parseFieldDescriptor (TJx145de k).2.2.1 = some (tyJx145de k) := by decide +kernel
def RJ5 : String := "java/lang/AbstractStringBuilder"
def TJ5 : u_T := fun k => match k with
  | _ => ("", "", "", false)
def tyJ5 : Nat → FieldType := fun k => match k with
  | _ => .int
abbrev wsJ50 : List Cond := u_ws RJ5 TJ5 0
theorem nmJ5 : ∀ a, a < 0 → ∀ b, b < 0 → a ≠ b → (TJ5 a).2.1 ≠ (TJ5 b).2.1 := by decide +kernel
theorem tyJ5_ok : ∀ k, k < 0 → parseFieldDescriptor (TJ5 k).2.2.1 = some (tyJ5 k) := by decide +kernel
abbrev cJ5_init_d00df : ByteArray := prog_15_method_2_code
def yJ5_init_d00df : MethodName := ⟨RJ5, "<init>", "(I)V"⟩
abbrev cJ5_length_8abf5 : ByteArray := prog_15_method_6_code
def yJ5_length_8abf5 : MethodName := ⟨RJ5, "length", "()I"⟩
abbrev cJ5_ensureCapacityInternal_d00df : ByteArray := prog_15_method_9_code
def yJ5_ensureCapacityInternal_d00df : MethodName := ⟨RJ5, "ensureCapacityInternal", "(I)V"⟩
abbrev cJ5_newCapacity_0f7a4 : ByteArray := prog_15_method_10_code
def yJ5_newCapacity_0f7a4 : MethodName := ⟨RJ5, "newCapacity", "(I)I"⟩
abbrev cJ5_inflate_da8c8 : ByteArray := prog_15_method_11_code
def yJ5_inflate_da8c8 : MethodName := ⟨RJ5, "inflate", "()V"⟩
abbrev cJ5_setLength_d00df : ByteArray := prog_15_method_13_code
def yJ5_setLength_d00df : MethodName := ⟨RJ5, "setLength", "(I)V"⟩
abbrev cJ5_charAt_5068e : ByteArray := prog_15_method_14_code
def yJ5_charAt_5068e : MethodName := ⟨RJ5, "charAt", "(I)C"⟩
abbrev cJ5_append_cf1ce : ByteArray := prog_15_method_22_code
def yJ5_append_cf1ce : MethodName := ⟨RJ5, "append", "(Ljava/lang/String;)Ljava/lang/AbstractStringBuilder;"⟩
abbrev cJ5_appendNull_278bc : ByteArray := prog_15_method_26_code
def yJ5_appendNull_278bc : MethodName := ⟨RJ5, "appendNull", "()Ljava/lang/AbstractStringBuilder;"⟩
abbrev cJ5_append_3fe6f : ByteArray := prog_15_method_31_code
def yJ5_append_3fe6f : MethodName := ⟨RJ5, "append", "(C)Ljava/lang/AbstractStringBuilder;"⟩
abbrev cJ5_append_c97b9 : ByteArray := prog_15_method_32_code
def yJ5_append_c97b9 : MethodName := ⟨RJ5, "append", "(I)Ljava/lang/AbstractStringBuilder;"⟩
abbrev cJ5_getValue_6d5f1 : ByteArray := prog_15_method_64_code
def yJ5_getValue_6d5f1 : MethodName := ⟨RJ5, "getValue", "()[B"⟩
abbrev cJ5_isLatin1_aae02 : ByteArray := prog_15_method_68_code
def yJ5_isLatin1_aae02 : MethodName := ⟨RJ5, "isLatin1", "()Z"⟩
abbrev cJ5_inflateIfNeededFor_a7421 : ByteArray := prog_15_method_71_code
def yJ5_inflateIfNeededFor_a7421 : MethodName := ⟨RJ5, "inflateIfNeededFor", "(Ljava/lang/String;)V"⟩
abbrev cJ5_putStringAt_47b60 : ByteArray := prog_15_method_73_code
def yJ5_putStringAt_47b60 : MethodName := ⟨RJ5, "putStringAt", "(ILjava/lang/String;)V"⟩
def RJx2cfe8 : String := "java/lang/Appendable"
def TJx2cfe8 : u_T := fun k => match k with
  | _ => ("", "", "", false)
def tyJx2cfe8 : Nat → FieldType := fun k => match k with
  | _ => .int
abbrev wsJx2cfe80 : List Cond := u_ws RJx2cfe8 TJx2cfe8 0
theorem nmJx2cfe8 : ∀ a, a < 0 → ∀ b, b < 0 → a ≠ b → (TJx2cfe8 a).2.1 ≠ (TJx2cfe8 b).2.1 := by decide +kernel
theorem tyJx2cfe8_ok : ∀ k, k < 0 → parseFieldDescriptor (TJx2cfe8 k).2.2.1 = some (tyJx2cfe8 k) := by decide +kernel
def RJx00060 : String := "java/lang/ArrayIndexOutOfBoundsException"
def TJx00060 : u_T := fun k => match k with
  | 0 => ("java/lang/Throwable", "cause", "Ljava/lang/Throwable;", false)
  | 1 => ("java/lang/Throwable", "stackTrace", "[Ljava/lang/StackTraceElement;", false)
  | 2 => ("java/lang/Throwable", "suppressedExceptions", "Ljava/util/List;", false)
  | 3 => ("java/lang/Throwable", "detailMessage", "Ljava/lang/String;", false)
  | 4 => ("java/lang/Throwable", "backtrace", "Ljava/lang/Object;", false)
  | _ => ("java/lang/Throwable", "depth", "I", false)
def tyJx00060 : Nat → FieldType := fun k => match k with
  | 0 => .object "java/lang/Throwable"
  | 1 => .array (.object "java/lang/StackTraceElement")
  | 2 => .object "java/util/List"
  | 3 => .object "java/lang/String"
  | 4 => .object "java/lang/Object"
  | _ => .int
abbrev wsJx000600 : List Cond := u_ws RJx00060 TJx00060 6
theorem nmJx00060 : ∀ a, a < 6 → ∀ b, b < 6 → a ≠ b → (TJx00060 a).2.1 ≠ (TJx00060 b).2.1 := by decide +kernel
theorem tyJx00060_ok : ∀ k, k < 6 → parseFieldDescriptor (TJx00060 k).2.2.1 = some (tyJx00060 k) := by decide +kernel
abbrev cJx00060_init_a7421 : ByteArray := prog_18_method_2_code
def yJx00060_init_a7421 : MethodName := ⟨RJx00060, "<init>", "(Ljava/lang/String;)V"⟩
abbrev cJx00060_init_d00df : ByteArray := prog_18_method_3_code
def yJx00060_init_d00df : MethodName := ⟨RJx00060, "<init>", "(I)V"⟩
def RJx9f9b0 : String := "java/lang/CharSequence"
def TJx9f9b0 : u_T := fun k => match k with
  | _ => ("", "", "", false)
def tyJx9f9b0 : Nat → FieldType := fun k => match k with
  | _ => .int
abbrev wsJx9f9b00 : List Cond := u_ws RJx9f9b0 TJx9f9b0 0
theorem nmJx9f9b0 : ∀ a, a < 0 → ∀ b, b < 0 → a ≠ b → (TJx9f9b0 a).2.1 ≠ (TJx9f9b0 b).2.1 := by decide +kernel
theorem tyJx9f9b0_ok : ∀ k, k < 0 → parseFieldDescriptor (TJx9f9b0 k).2.2.1 = some (tyJx9f9b0 k) := by decide +kernel
def RJx8e188 : String := "java/lang/Cloneable"
def TJx8e188 : u_T := fun k => match k with
  | _ => ("", "", "", false)
def tyJx8e188 : Nat → FieldType := fun k => match k with
  | _ => .int
abbrev wsJx8e1880 : List Cond := u_ws RJx8e188 TJx8e188 0
theorem nmJx8e188 : ∀ a, a < 0 → ∀ b, b < 0 → a ≠ b → (TJx8e188 a).2.1 ≠ (TJx8e188 b).2.1 := by decide +kernel
theorem tyJx8e188_ok : ∀ k, k < 0 → parseFieldDescriptor (TJx8e188 k).2.2.1 = some (tyJx8e188 k) := by decide +kernel
def RJxb160c : String := "java/lang/Comparable"
def TJxb160c : u_T := fun k => match k with
  | _ => ("", "", "", false)
def tyJxb160c : Nat → FieldType := fun k => match k with
  | _ => .int
abbrev wsJxb160c0 : List Cond := u_ws RJxb160c TJxb160c 0
theorem nmJxb160c : ∀ a, a < 0 → ∀ b, b < 0 → a ≠ b → (TJxb160c a).2.1 ≠ (TJxb160c b).2.1 := by decide +kernel
theorem tyJxb160c_ok : ∀ k, k < 0 → parseFieldDescriptor (TJxb160c k).2.2.1 = some (tyJxb160c k) := by decide +kernel
def RJx29ce0 : String := "java/lang/Enum"
def TJx29ce0 : u_T := fun k => match k with
  | _ => ("", "", "", false)
def tyJx29ce0 : Nat → FieldType := fun k => match k with
  | _ => .int
abbrev wsJx29ce00 : List Cond := u_ws RJx29ce0 TJx29ce0 0
theorem nmJx29ce0 : ∀ a, a < 0 → ∀ b, b < 0 → a ≠ b → (TJx29ce0 a).2.1 ≠ (TJx29ce0 b).2.1 := by decide +kernel
theorem tyJx29ce0_ok : ∀ k, k < 0 → parseFieldDescriptor (TJx29ce0 k).2.2.1 = some (tyJx29ce0 k) := by decide +kernel
abbrev cJx29ce0_ordinal_8abf5 : ByteArray := prog_22_method_2_code
def yJx29ce0_ordinal_8abf5 : MethodName := ⟨RJx29ce0, "ordinal", "()I"⟩
def RJ6 : String := "java/lang/Integer"
def TJ6 : u_T := fun k => match k with
  | _ => ("", "", "", false)
def tyJ6 : Nat → FieldType := fun k => match k with
  | _ => .int
abbrev wsJ60 : List Cond := u_ws RJ6 TJ6 0
theorem nmJ6 : ∀ a, a < 0 → ∀ b, b < 0 → a ≠ b → (TJ6 a).2.1 ≠ (TJ6 b).2.1 := by decide +kernel
theorem tyJ6_ok : ∀ k, k < 0 → parseFieldDescriptor (TJ6 k).2.2.1 = some (tyJ6 k) := by decide +kernel
abbrev cJ6_getChars_ba4f3 : ByteArray := prog_27_method_12_code
def yJ6_getChars_ba4f3 : MethodName := ⟨RJ6, "getChars", "(II[B)I"⟩
abbrev cJ6_stringSize_0f7a4 : ByteArray := prog_27_method_13_code
def yJ6_stringSize_0f7a4 : MethodName := ⟨RJ6, "stringSize", "(I)I"⟩
def RJ9 : String := "java/lang/Math"
def TJ9 : u_T := fun k => match k with
  | _ => ("", "", "", false)
def tyJ9 : Nat → FieldType := fun k => match k with
  | _ => .int
abbrev wsJ90 : List Cond := u_ws RJ9 TJ9 0
theorem nmJ9 : ∀ a, a < 0 → ∀ b, b < 0 → a ≠ b → (TJ9 a).2.1 ≠ (TJ9 b).2.1 := by decide +kernel
theorem tyJ9_ok : ∀ k, k < 0 → parseFieldDescriptor (TJ9 k).2.2.1 = some (tyJ9 k) := by decide +kernel
abbrev cJ9_abs_0f7a4 : ByteArray := prog_28_method_59_code
def yJ9_abs_0f7a4 : MethodName := ⟨RJ9, "abs", "(I)I"⟩
abbrev cJ9_max_7cf53 : ByteArray := prog_28_method_65_code
def yJ9_max_7cf53 : MethodName := ⟨RJ9, "max", "(II)I"⟩
abbrev cJ9_min_7cf53 : ByteArray := prog_28_method_69_code
def yJ9_min_7cf53 : MethodName := ⟨RJ9, "min", "(II)I"⟩
def RJxd2413 : String := "java/lang/Number"
def TJxd2413 : u_T := fun k => match k with
  | _ => ("", "", "", false)
def tyJxd2413 : Nat → FieldType := fun k => match k with
  | _ => .int
abbrev wsJxd24130 : List Cond := u_ws RJxd2413 TJxd2413 0
theorem nmJxd2413 : ∀ a, a < 0 → ∀ b, b < 0 → a ≠ b → (TJxd2413 a).2.1 ≠ (TJxd2413 b).2.1 := by decide +kernel
theorem tyJxd2413_ok : ∀ k, k < 0 → parseFieldDescriptor (TJxd2413 k).2.2.1 = some (tyJxd2413 k) := by decide +kernel
def RJ0 : String := "java/lang/String"
def TJ0 : u_T := fun k => match k with
  | 0 => ("java/lang/String", "value", "[B", true)
  | 1 => ("java/lang/String", "coder", "B", true)
  | 2 => ("java/lang/String", "hash", "I", false)
  | _ => ("java/lang/String", "hashIsZero", "Z", false)
def tyJ0 : Nat → FieldType := fun k => match k with
  | 0 => .array .byte
  | 1 => .byte
  | 2 => .int
  | _ => .boolean
abbrev wsJ00 : List Cond := u_ws RJ0 TJ0 4
theorem nmJ0 : ∀ a, a < 4 → ∀ b, b < 4 → a ≠ b → (TJ0 a).2.1 ≠ (TJ0 b).2.1 := by decide +kernel
theorem tyJ0_ok : ∀ k, k < 4 → parseFieldDescriptor (TJ0 k).2.2.1 = some (tyJ0 k) := by decide +kernel
abbrev cJ0_init_81219 : ByteArray := prog_31_method_53_code
def yJ0_init_81219 : MethodName := ⟨RJ0, "<init>", "(Ljava/lang/StringBuilder;)V"⟩
abbrev cJ0_length_8abf5 : ByteArray := prog_31_method_54_code
def yJ0_length_8abf5 : MethodName := ⟨RJ0, "length", "()I"⟩
abbrev cJ0_charAt_5068e : ByteArray := prog_31_method_56_code
def yJ0_charAt_5068e : MethodName := ⟨RJ0, "charAt", "(I)C"⟩
abbrev cJ0_getBytes_840e7 : ByteArray := prog_31_method_147_code
def yJ0_getBytes_840e7 : MethodName := ⟨RJ0, "getBytes", "([BIB)V"⟩
abbrev cJ0_init_db425 : ByteArray := prog_31_method_150_code
def yJ0_init_db425 : MethodName := ⟨RJ0, "<init>", "(Ljava/lang/AbstractStringBuilder;Ljava/lang/Void;)V"⟩
abbrev cJ0_coder_7d493 : ByteArray := prog_31_method_152_code
def yJ0_coder_7d493 : MethodName := ⟨RJ0, "coder", "()B"⟩
abbrev cJ0_isLatin1_aae02 : ByteArray := prog_31_method_154_code
def yJ0_isLatin1_aae02 : MethodName := ⟨RJ0, "isLatin1", "()Z"⟩
abbrev cJ0_checkIndex_df160 : ByteArray := prog_31_method_155_code
def yJ0_checkIndex_df160 : MethodName := ⟨RJ0, "checkIndex", "(II)V"⟩
abbrev cJ0_checkBoundsOffCount_cabcc : ByteArray := prog_31_method_157_code
def yJ0_checkBoundsOffCount_cabcc : MethodName := ⟨RJ0, "checkBoundsOffCount", "(III)I"⟩
abbrev cJ0_checkBoundsBeginEnd_23922 : ByteArray := prog_31_method_158_code
def yJ0_checkBoundsBeginEnd_23922 : MethodName := ⟨RJ0, "checkBoundsBeginEnd", "(III)V"⟩
def RJ4 : String := "java/lang/StringBuilder"
def TJ4 : u_T := fun k => match k with
  | 0 => ("java/lang/AbstractStringBuilder", "value", "[B", false)
  | 1 => ("java/lang/AbstractStringBuilder", "coder", "B", false)
  | 2 => ("java/lang/AbstractStringBuilder", "maybeLatin1", "Z", false)
  | _ => ("java/lang/AbstractStringBuilder", "count", "I", false)
def tyJ4 : Nat → FieldType := fun k => match k with
  | 0 => .array .byte
  | 1 => .byte
  | 2 => .boolean
  | _ => .int
abbrev wsJ40 : List Cond := u_ws RJ4 TJ4 4
theorem nmJ4 : ∀ a, a < 4 → ∀ b, b < 4 → a ≠ b → (TJ4 a).2.1 ≠ (TJ4 b).2.1 := by decide +kernel
theorem tyJ4_ok : ∀ k, k < 4 → parseFieldDescriptor (TJ4 k).2.2.1 = some (tyJ4 k) := by decide +kernel
abbrev cJ4_init_da8c8 : ByteArray := prog_32_method_1_code
def yJ4_init_da8c8 : MethodName := ⟨RJ4, "<init>", "()V"⟩
abbrev cJ4_append_15ec4 : ByteArray := prog_32_method_7_code
def yJ4_append_15ec4 : MethodName := ⟨RJ4, "append", "(Ljava/lang/String;)Ljava/lang/StringBuilder;"⟩
abbrev cJ4_append_cf468 : ByteArray := prog_32_method_14_code
def yJ4_append_cf468 : MethodName := ⟨RJ4, "append", "(C)Ljava/lang/StringBuilder;"⟩
abbrev cJ4_append_bf812 : ByteArray := prog_32_method_15_code
def yJ4_append_bf812 : MethodName := ⟨RJ4, "append", "(I)Ljava/lang/StringBuilder;"⟩
abbrev cJ4_toString_0e30d : ByteArray := prog_32_method_42_code
def yJ4_toString_0e30d : MethodName := ⟨RJ4, "toString", "()Ljava/lang/String;"⟩
abbrev cJ4_charAt_5068e : ByteArray := prog_32_method_88_code
def yJ4_charAt_5068e : MethodName := ⟨RJ4, "charAt", "(I)C"⟩
abbrev cJ4_setLength_d00df : ByteArray := prog_32_method_89_code
def yJ4_setLength_d00df : MethodName := ⟨RJ4, "setLength", "(I)V"⟩
abbrev cJ4_length_8abf5 : ByteArray := prog_32_method_93_code
def yJ4_length_8abf5 : MethodName := ⟨RJ4, "length", "()I"⟩
def RJx7c733 : String := "java/lang/StringIndexOutOfBoundsException"
def TJx7c733 : u_T := fun k => match k with
  | 0 => ("java/lang/Throwable", "backtrace", "Ljava/lang/Object;", false)
  | 1 => ("java/lang/Throwable", "detailMessage", "Ljava/lang/String;", false)
  | 2 => ("java/lang/Throwable", "cause", "Ljava/lang/Throwable;", false)
  | 3 => ("java/lang/Throwable", "stackTrace", "[Ljava/lang/StackTraceElement;", false)
  | 4 => ("java/lang/Throwable", "depth", "I", false)
  | _ => ("java/lang/Throwable", "suppressedExceptions", "Ljava/util/List;", false)
def tyJx7c733 : Nat → FieldType := fun k => match k with
  | 0 => .object "java/lang/Object"
  | 1 => .object "java/lang/String"
  | 2 => .object "java/lang/Throwable"
  | 3 => .array (.object "java/lang/StackTraceElement")
  | 4 => .int
  | _ => .object "java/util/List"
abbrev wsJx7c7330 : List Cond := u_ws RJx7c733 TJx7c733 6
theorem nmJx7c733 : ∀ a, a < 6 → ∀ b, b < 6 → a ≠ b → (TJx7c733 a).2.1 ≠ (TJx7c733 b).2.1 := by decide +kernel
theorem tyJx7c733_ok : ∀ k, k < 6 → parseFieldDescriptor (TJx7c733 k).2.2.1 = some (tyJx7c733 k) := by decide +kernel
abbrev cJx7c733_init_d00df : ByteArray := prog_33_method_3_code
def yJx7c733_init_d00df : MethodName := ⟨RJx7c733, "<init>", "(I)V"⟩
def RJ1 : String := "java/lang/StringLatin1"
def TJ1 : u_T := fun k => match k with
  | _ => ("", "", "", false)
def tyJ1 : Nat → FieldType := fun k => match k with
  | _ => .int
abbrev wsJ10 : List Cond := u_ws RJ1 TJ1 0
theorem nmJ1 : ∀ a, a < 0 → ∀ b, b < 0 → a ≠ b → (TJ1 a).2.1 ≠ (TJ1 b).2.1 := by decide +kernel
theorem tyJ1_ok : ∀ k, k < 0 → parseFieldDescriptor (TJ1 k).2.2.1 = some (tyJ1 k) := by decide +kernel
abbrev cJ1_charAt_3b067 : ByteArray := prog_34_method_2_code
def yJ1_charAt_3b067 : MethodName := ⟨RJ1, "charAt", "([BI)C"⟩
abbrev cJ1_canEncode_fc78d : ByteArray := prog_34_method_3_code
def yJ1_canEncode_fc78d : MethodName := ⟨RJ1, "canEncode", "(C)Z"⟩
abbrev cJ1_fillNull_b72d1 : ByteArray := prog_34_method_48_code
def yJ1_fillNull_b72d1 : MethodName := ⟨RJ1, "fillNull", "([BII)V"⟩
abbrev cJ1_inflate_0e8fd : ByteArray := prog_34_method_50_code
def yJ1_inflate_0e8fd : MethodName := ⟨RJ1, "inflate", "([BI[BII)V"⟩
def RJ2 : String := "java/lang/StringUTF16"
def TJ2 : u_T := fun k => match k with
  | _ => ("", "", "", false)
def tyJ2 : Nat → FieldType := fun k => match k with
  | _ => .int
abbrev wsJ20 : List Cond := u_ws RJ2 TJ2 0
theorem nmJ2 : ∀ a, a < 0 → ∀ b, b < 0 → a ≠ b → (TJ2 a).2.1 ≠ (TJ2 b).2.1 := by decide +kernel
theorem tyJ2_ok : ∀ k, k < 0 → parseFieldDescriptor (TJ2 k).2.2.1 = some (tyJ2 k) := by decide +kernel
abbrev cJ2_newBytesFor_77867 : ByteArray := prog_35_method_2_code
def yJ2_newBytesFor_77867 : MethodName := ⟨RJ2, "newBytesFor", "(I)[B"⟩
abbrev cJ2_newBytesLength_0f7a4 : ByteArray := prog_35_method_3_code
def yJ2_newBytesLength_0f7a4 : MethodName := ⟨RJ2, "newBytesLength", "(I)I"⟩
abbrev cJ2_putChar_b72d1 : ByteArray := prog_35_method_4_code
def yJ2_putChar_b72d1 : MethodName := ⟨RJ2, "putChar", "([BII)V"⟩
abbrev cJ2_getChar_3b067 : ByteArray := prog_35_method_5_code
def yJ2_getChar_3b067 : MethodName := ⟨RJ2, "getChar", "([BI)C"⟩
abbrev cJ2_length_9d52b : ByteArray := prog_35_method_6_code
def yJ2_length_9d52b : MethodName := ⟨RJ2, "length", "([B)I"⟩
abbrev cJ2_coderFromArrayLen_85cad : ByteArray := prog_35_method_15_code
def yJ2_coderFromArrayLen_85cad : MethodName := ⟨RJ2, "coderFromArrayLen", "([BI)B"⟩
abbrev cJ2_compress_39247 : ByteArray := prog_35_method_17_code
def yJ2_compress_39247 : MethodName := ⟨RJ2, "compress", "([BII)[B"⟩
abbrev cJ2_compress_5af95 : ByteArray := prog_35_method_22_code
def yJ2_compress_5af95 : MethodName := ⟨RJ2, "compress", "([BI[BII)I"⟩
abbrev cJ2_fillNull_b72d1 : ByteArray := prog_35_method_70_code
def yJ2_fillNull_b72d1 : MethodName := ⟨RJ2, "fillNull", "([BII)V"⟩
abbrev cJ2_putCharSB_b72d1 : ByteArray := prog_35_method_71_code
def yJ2_putCharSB_b72d1 : MethodName := ⟨RJ2, "putCharSB", "([BII)V"⟩
abbrev cJ2_getChars_46870 : ByteArray := prog_35_method_77_code
def yJ2_getChars_46870 : MethodName := ⟨RJ2, "getChars", "(III[B)I"⟩
abbrev cJ2_putCharsAt_cd4e5 : ByteArray := prog_35_method_81_code
def yJ2_putCharsAt_cd4e5 : MethodName := ⟨RJ2, "putCharsAt", "([BICCCC)I"⟩
abbrev cJ2_charAt_3b067 : ByteArray := prog_35_method_83_code
def yJ2_charAt_3b067 : MethodName := ⟨RJ2, "charAt", "([BI)C"⟩
abbrev cJ2_inflate_0e8fd : ByteArray := prog_35_method_86_code
def yJ2_inflate_0e8fd : MethodName := ⟨RJ2, "inflate", "([BI[BII)V"⟩
abbrev cJ2_getChars_ba4f3 : ByteArray := prog_35_method_89_code
def yJ2_getChars_ba4f3 : MethodName := ⟨RJ2, "getChars", "(II[B)I"⟩
abbrev cJ2_checkIndex_2214a : ByteArray := prog_35_method_91_code
def yJ2_checkIndex_2214a : MethodName := ⟨RJ2, "checkIndex", "(I[B)V"⟩
abbrev cJ2_checkBoundsBeginEnd_d044e : ByteArray := prog_35_method_93_code
def yJ2_checkBoundsBeginEnd_d044e : MethodName := ⟨RJ2, "checkBoundsBeginEnd", "(II[B)V"⟩
abbrev cJ2_checkBoundsOffCount_d044e : ByteArray := prog_35_method_94_code
def yJ2_checkBoundsOffCount_d044e : MethodName := ⟨RJ2, "checkBoundsOffCount", "(II[B)V"⟩
def RJ10 : String := "java/lang/System"
def TJ10 : u_T := fun k => match k with
  | _ => ("", "", "", false)
def tyJ10 : Nat → FieldType := fun k => match k with
  | _ => .int
abbrev wsJ100 : List Cond := u_ws RJ10 TJ10 0
theorem nmJ10 : ∀ a, a < 0 → ∀ b, b < 0 → a ≠ b → (TJ10 a).2.1 ≠ (TJ10 b).2.1 := by decide +kernel
theorem tyJ10_ok : ∀ k, k < 0 → parseFieldDescriptor (TJ10 k).2.2.1 = some (tyJ10 k) := by decide +kernel
def RJxfd54e : String := "java/lang/constant/Constable"
def TJxfd54e : u_T := fun k => match k with
  | _ => ("", "", "", false)
def tyJxfd54e : Nat → FieldType := fun k => match k with
  | _ => .int
abbrev wsJxfd54e0 : List Cond := u_ws RJxfd54e TJxfd54e 0
theorem nmJxfd54e : ∀ a, a < 0 → ∀ b, b < 0 → a ≠ b → (TJxfd54e a).2.1 ≠ (TJxfd54e b).2.1 := by decide +kernel
theorem tyJxfd54e_ok : ∀ k, k < 0 → parseFieldDescriptor (TJxfd54e k).2.2.1 = some (tyJxfd54e k) := by decide +kernel
def RJx3cf43 : String := "java/lang/constant/ConstantDesc"
def TJx3cf43 : u_T := fun k => match k with
  | _ => ("", "", "", false)
def tyJx3cf43 : Nat → FieldType := fun k => match k with
  | _ => .int
abbrev wsJx3cf430 : List Cond := u_ws RJx3cf43 TJx3cf43 0
theorem nmJx3cf43 : ∀ a, a < 0 → ∀ b, b < 0 → a ≠ b → (TJx3cf43 a).2.1 ≠ (TJx3cf43 b).2.1 := by decide +kernel
theorem tyJx3cf43_ok : ∀ k, k < 0 → parseFieldDescriptor (TJx3cf43 k).2.2.1 = some (tyJx3cf43 k) := by decide +kernel
def RJ7 : String := "java/util/Arrays"
def TJ7 : u_T := fun k => match k with
  | _ => ("", "", "", false)
def tyJ7 : Nat → FieldType := fun k => match k with
  | _ => .int
abbrev wsJ70 : List Cond := u_ws RJ7 TJ7 0
theorem nmJ7 : ∀ a, a < 0 → ∀ b, b < 0 → a ≠ b → (TJ7 a).2.1 ≠ (TJ7 b).2.1 := by decide +kernel
theorem tyJ7_ok : ∀ k, k < 0 → parseFieldDescriptor (TJ7 k).2.2.1 = some (tyJ7 k) := by decide +kernel
abbrev cJ7_rangeCheck_23922 : ByteArray := prog_40_method_30_code
def yJ7_rangeCheck_23922 : MethodName := ⟨RJ7, "rangeCheck", "(III)V"⟩
abbrev cJ7_fill_eb02e : ByteArray := prog_40_method_110_code
def yJ7_fill_eb02e : MethodName := ⟨RJ7, "fill", "([BIIB)V"⟩
abbrev cJ7_copyOf_9075b : ByteArray := prog_40_method_121_code
def yJ7_copyOf_9075b : MethodName := ⟨RJ7, "copyOf", "([BI)[B"⟩
abbrev cJ7_checkLength_df160 : ByteArray := prog_40_method_131_code
def yJ7_checkLength_df160 : MethodName := ⟨RJ7, "checkLength", "(II)V"⟩
abbrev cJ7_copyOfRange_39247 : ByteArray := prog_40_method_132_code
def yJ7_copyOfRange_39247 : MethodName := ⟨RJ7, "copyOfRange", "([BII)[B"⟩
abbrev cJ7_copyOfRangeByte_39247 : ByteArray := prog_40_method_133_code
def yJ7_copyOfRangeByte_39247 : MethodName := ⟨RJ7, "copyOfRangeByte", "([BII)[B"⟩
def RJ8 : String := "jdk/internal/util/ArraysSupport"
def TJ8 : u_T := fun k => match k with
  | _ => ("", "", "", false)
def tyJ8 : Nat → FieldType := fun k => match k with
  | _ => .int
abbrev wsJ80 : List Cond := u_ws RJ8 TJ8 0
theorem nmJ8 : ∀ a, a < 0 → ∀ b, b < 0 → a ≠ b → (TJ8 a).2.1 ≠ (TJ8 b).2.1 := by decide +kernel
theorem tyJ8_ok : ∀ k, k < 0 → parseFieldDescriptor (TJ8 k).2.2.1 = some (tyJ8 k) := by decide +kernel
abbrev cJ8_newLength_cabcc : ByteArray := prog_42_method_27_code
def yJ8_newLength_cabcc : MethodName := ⟨RJ8, "newLength", "(III)I"⟩
abbrev cJ8_hugeLength_7cf53 : ByteArray := prog_42_method_28_code
def yJ8_hugeLength_7cf53 : MethodName := ⟨RJ8, "hugeLength", "(II)I"⟩
def RJ3 : String := "jdk/internal/util/Preconditions"
def TJ3 : u_T := fun k => match k with
  | _ => ("", "", "", false)
def tyJ3 : Nat → FieldType := fun k => match k with
  | _ => .int
abbrev wsJ30 : List Cond := u_ws RJ3 TJ3 0
theorem nmJ3 : ∀ a, a < 0 → ∀ b, b < 0 → a ≠ b → (TJ3 a).2.1 ≠ (TJ3 b).2.1 := by decide +kernel
theorem tyJ3_ok : ∀ k, k < 0 → parseFieldDescriptor (TJ3 k).2.2.1 = some (tyJ3 k) := by decide +kernel
abbrev cJ3_checkIndex_8e157 : ByteArray := prog_43_method_11_code
def yJ3_checkIndex_8e157 : MethodName := ⟨RJ3, "checkIndex", "(IILjava/util/function/BiFunction;)I"⟩
abbrev cJ3_checkFromToIndex_8c36e : ByteArray := prog_43_method_12_code
def yJ3_checkFromToIndex_8c36e : MethodName := ⟨RJ3, "checkFromToIndex", "(IIILjava/util/function/BiFunction;)I"⟩
abbrev cJ3_checkFromIndexSize_8c36e : ByteArray := prog_43_method_13_code
def yJ3_checkFromIndexSize_8c36e : MethodName := ⟨RJ3, "checkFromIndexSize", "(IIILjava/util/function/BiFunction;)I"⟩
def RL : String := "BallastControlLaw"
abbrev cL_addCompartment : ByteArray := method_3_code
def yL_addCompartment : MethodName := ⟨RL, "addCompartment", "(LBallastControl;II[J)I"⟩
abbrev cL_load : ByteArray := method_4_code
def yL_load : MethodName := ⟨RL, "load", "(LBallastControl;II[J)I"⟩
abbrev cL_unload : ByteArray := method_5_code
def yL_unload : MethodName := ⟨RL, "unload", "(LBallastControl;I[J)I"⟩
abbrev cL_shift : ByteArray := method_6_code
def yL_shift : MethodName := ⟨RL, "shift", "(LBallastControl;II[J)I"⟩
abbrev cL_setLeak : ByteArray := method_7_code
def yL_setLeak : MethodName := ⟨RL, "setLeak", "(LBallastControl;II[J)I"⟩
abbrev cL_setPump : ByteArray := method_8_code
def yL_setPump : MethodName := ⟨RL, "setPump", "(LBallastControl;II[J)I"⟩
abbrev cL_transfer : ByteArray := method_9_code
def yL_transfer : MethodName := ⟨RL, "transfer", "(LBallastControl;III[J)I"⟩
abbrev cL_balance : ByteArray := method_10_code
def yL_balance : MethodName := ⟨RL, "balance", "(LBallastControl;I[J)I"⟩
abbrev cL_setPower : ByteArray := method_11_code
def yL_setPower : MethodName := ⟨RL, "setPower", "(LBallastControl;I[J)I"⟩
abbrev cL_setLimit : ByteArray := method_12_code
def yL_setLimit : MethodName := ⟨RL, "setLimit", "(LBallastControl;I[J)I"⟩
abbrev cL_schedule : ByteArray := method_13_code
def yL_schedule : MethodName := ⟨RL, "schedule", "(LBallastControl;II[J)I"⟩
abbrev cL_cancelStorm : ByteArray := method_14_code
def yL_cancelStorm : MethodName := ⟨RL, "cancelStorm", "(LBallastControl;I[J)I"⟩
abbrev cL_pass : ByteArray := method_15_code
def yL_pass : MethodName := ⟨RL, "pass", "(LBallastControl;I[J)I"⟩
abbrev cL_arm : ByteArray := method_16_code
def yL_arm : MethodName := ⟨RL, "arm", "(LBallastControl;I[J)I"⟩
abbrev cL_capacity : ByteArray := method_17_code
def yL_capacity : MethodName := ⟨RL, "capacity", "(LBallastControl;I[J)I"⟩
abbrev cL_water : ByteArray := method_18_code
def yL_water : MethodName := ⟨RL, "water", "(LBallastControl;I[J)I"⟩
abbrev cL_leak : ByteArray := method_19_code
def yL_leak : MethodName := ⟨RL, "leak", "(LBallastControl;I[J)I"⟩
abbrev cL_loadOf : ByteArray := method_20_code
def yL_loadOf : MethodName := ⟨RL, "loadOf", "(LBallastControl;I[J)I"⟩
abbrev cL_wouldPump : ByteArray := method_21_code
def yL_wouldPump : MethodName := ⟨RL, "wouldPump", "(LBallastControl;I[J)I"⟩
abbrev cL_pumpAt : ByteArray := method_22_code
def yL_pumpAt : MethodName := ⟨RL, "pumpAt", "(LBallastControl;I[J)I"⟩
abbrev cL_minutesUntilFull : ByteArray := method_23_code
def yL_minutesUntilFull : MethodName := ⟨RL, "minutesUntilFull", "(LBallastControl;I[J)I"⟩
abbrev cL_idAt : ByteArray := method_24_code
def yL_idAt : MethodName := ⟨RL, "idAt", "(LBallastControl;I[J)I"⟩
abbrev cL_weightOf : ByteArray := method_25_code
def yL_weightOf : MethodName := ⟨RL, "weightOf", "(LBallastControl;I[J)I"⟩
abbrev cL_compartmentOf : ByteArray := method_26_code
def yL_compartmentOf : MethodName := ⟨RL, "compartmentOf", "(LBallastControl;I[J)I"⟩
abbrev cL_heaviestPiece : ByteArray := method_27_code
def yL_heaviestPiece : MethodName := ⟨RL, "heaviestPiece", "(LBallastControl;[J)I"⟩
abbrev cL_bestSource : ByteArray := method_28_code
def yL_bestSource : MethodName := ⟨RL, "bestSource", "(LBallastControl;I[J)I"⟩
abbrev cL_bestTarget : ByteArray := method_29_code
def yL_bestTarget : MethodName := ⟨RL, "bestTarget", "(LBallastControl;I[J)I"⟩
abbrev cL_bestMoment : ByteArray := method_30_code
def yL_bestMoment : MethodName := ⟨RL, "bestMoment", "(LBallastControl;I[J)I"⟩
abbrev cL_transfersToBalance : ByteArray := method_31_code
def yL_transfersToBalance : MethodName := ⟨RL, "transfersToBalance", "(LBallastControl;I[J)I"⟩
abbrev cL_bestShiftPiece : ByteArray := method_32_code
def yL_bestShiftPiece : MethodName := ⟨RL, "bestShiftPiece", "(LBallastControl;[J)I"⟩
abbrev cL_bestShiftCompartment : ByteArray := method_33_code
def yL_bestShiftCompartment : MethodName := ⟨RL, "bestShiftCompartment", "(LBallastControl;[J)I"⟩
abbrev cL_momentAfter : ByteArray := method_34_code
def yL_momentAfter : MethodName := ⟨RL, "momentAfter", "(LBallastControl;I[J)I"⟩
abbrev cL_minutesUntilSunk : ByteArray := method_35_code
def yL_minutesUntilSunk : MethodName := ⟨RL, "minutesUntilSunk", "(LBallastControl;[J)I"⟩
abbrev cL_compartmentByLoad : ByteArray := method_36_code
def yL_compartmentByLoad : MethodName := ⟨RL, "compartmentByLoad", "(LBallastControl;I[J)I"⟩
abbrev cL_nextStorm : ByteArray := method_37_code
def yL_nextStorm : MethodName := ⟨RL, "nextStorm", "(LBallastControl;[J)I"⟩
abbrev cL_strengthAt : ByteArray := method_38_code
def yL_strengthAt : MethodName := ⟨RL, "strengthAt", "(LBallastControl;I[J)I"⟩
abbrev cL_loggedMinute : ByteArray := method_39_code
def yL_loggedMinute : MethodName := ⟨RL, "loggedMinute", "(LBallastControl;I[J)I"⟩
abbrev cL_meanWater : ByteArray := method_40_code
def yL_meanWater : MethodName := ⟨RL, "meanWater", "(LBallastControl;[D)I"⟩
abbrev cL_fillShare : ByteArray := method_41_code
def yL_fillShare : MethodName := ⟨RL, "fillShare", "(LBallastControl;[D)I"⟩
abbrev cL_formatCompartment : ByteArray := method_42_code
def yL_formatCompartment : MethodName := ⟨RL, "formatCompartment", "(LBallastControl;I[J)I"⟩
abbrev cL_formatCargo : ByteArray := method_43_code
def yL_formatCargo : MethodName := ⟨RL, "formatCargo", "(LBallastControl;I[J)I"⟩
abbrev cL_lineChar : ByteArray := method_44_code
def yL_lineChar : MethodName := ⟨RL, "lineChar", "(LBallastControl;I[J)I"⟩
abbrev cL_append : ByteArray := method_45_code
def yL_append : MethodName := ⟨RL, "append", "(LBallastControl;C[J)I"⟩
abbrev cL_run : ByteArray := method_46_code
def yL_run : MethodName := ⟨RL, "run", "(LBallastControl;[J)I"⟩
abbrev cL_errorPosition : ByteArray := method_47_code
def yL_errorPosition : MethodName := ⟨RL, "errorPosition", "(LBallastControl;[J)I"⟩
abbrev cL_failedCommand : ByteArray := method_48_code
def yL_failedCommand : MethodName := ⟨RL, "failedCommand", "(LBallastControl;[J)I"⟩
abbrev cL_undo : ByteArray := method_49_code
def yL_undo : MethodName := ⟨RL, "undo", "(LBallastControl;[J)I"⟩
abbrev cL_restore : ByteArray := method_50_code
def yL_restore : MethodName := ⟨RL, "restore", "(LBallastControl;[J)I"⟩
abbrev cL_law : ByteArray := code
def yL_law : MethodName := ⟨RL, "law", "([I)Z"⟩
abbrev vwCl : List vw_C := [(RJ0, TJ0, 4), (RJ4, TJ4, 4), (RJx00060, TJx00060, 6), (RJx7c733, TJx7c733, 6), (RX1, TX1, 5), (RX2, TX2, 4), (RX4, TX4, 3), (RX5, TX5, 7), (RX7, TX7, 6), (RX8, TX8, 8), (RX9, TX9, 5), (RX10, TX10, 14), (RX11, TX11, 15)]
end
section
/-! ===== BEGIN words of one list among another's, by their places ===== -/
theorem goodIn_r {big : List Cond} (ws : List Cond) (ps : List Nat) (hp : ws = ps.filterMap (fun i => big[i]?)) (h : ws.all goodWord = true) : GoodIn big ws := by
  intro w hw
  have h1 := List.all_eq_true.mp h w hw
  rw [hp] at hw
  obtain ⟨i, -, hi⟩ := List.mem_filterMap.mp hw
  have hm : w ∈ big := by first | exact List.mem_of_getElem? hi | exact List.getElem?_mem hi
  exact ⟨hm, good_of_word h1⟩
theorem goodIn_app {big a b : List Cond} (ha : GoodIn big a) (hb : GoodIn big b) : GoodIn big (a ++ b) := fun w h => (List.mem_append.mp h).elim (ha w) (hb w)
theorem goodIn_ca {big a b : List Cond} {c : Cond} (ha : GoodIn big (c :: a)) (hb : GoodIn big b) : GoodIn big (c :: (a ++ b)) := fun w h => (List.mem_cons.mp h).elim (fun e => ha w (List.mem_cons.mpr (Or.inl e))) (fun h => (List.mem_append.mp h).elim (fun h => ha w (List.mem_cons.mpr (Or.inr h))) (hb w))
theorem goodIn_sub {big ws : List Cond} (hm : ∀ w ∈ ws, w ∈ big) (h : ws.all goodWord = true) : GoodIn big ws := fun w hw => ⟨hm w hw, good_of_word (List.all_eq_true.mp h w hw)⟩
/-! ===== END ===== -/
/-! ===== BEGIN exceptions that leave a method, and their catching by the caller (launches without stack traces) ===== -/
section VXA
/-! The laws vx_back, vx_callV, vx_callS, vx_callSW, vx_throw0, vx_throwS follow proofs of the library, with one case more: JvmDerived/Free/Laws.lean (Back.of_free), Shelf42/LK1.lean (callV, callS), Shelf/KitTraced.lean (throwNew0V, throwNewS). -/
/-- where a method has thrown q: the class by its name, the cell, what was written, the world -/
def vx_T (XC : String → State → State → Prop) (st : State) (q : Addr) (t : State) (mc ms : Nat) (free : Addr → Prop) : Prop :=
  ∃ (E : String) (ce : Cell) (L : List Loc), XC E st t ∧ t.heap[q]? = some ce ∧ ce.vm = .none ∧ st.vm.findClass E = some ce.cls ∧ st.WarmedH t.vm ∧ st.sameButNew ({ t with vm := st.vm } : State) L mc ms ∧ ∀ z ∈ L, free z.base
def vx_Q (Qc : Array Value → State → Outcome → State → Prop) (XC : String → State → State → Prop) (mc ms : Nat) (free : Addr → Prop) : Array Value → State → Outcome → State → Prop := fun a st o t =>
  (Qc a st o t ∧ ∃ L, FrameEnd st o t L mc ms ∧ ∀ q ∈ L, free q.base) ∨ ∃ q, o = .threw q ∧ vx_T XC st q t mc ms free
/-- a callee that returns or throws -/
def vx_Met (l : Launch) (y : MethodName) (ws : List Cond) (rm : Room) (Pc : Array Value → State → Prop) (Qc : Array Value → State → Outcome → State → Prop) (XC : String → State → State → Prop) (mc ms : Nat) (free : Addr → Prop) : Prop :=
  MetFree l y (headSpec ws rm) Pc (fun _ _ _ _ _ => True) (vx_Q Qc XC mc ms free)
def vx_Post (XC : String → State → State → Prop) (mc ms : Nat) (free : Addr → Prop) : Pt → Array Value → Addr → Pt → Prop := fun A a q B =>
  ∃ (g : JFrame) (mk : MethodId) (t : State) (L : List Loc) (E : String) (ce : Cell), B.U.heap = t.heap ∧ B.U.vm = t.vm ∧ XC E (A.U.calling g mk a) t ∧ t.heap[q]? = some ce ∧ ce.vm = .none ∧ A.U.vm.findClass E = some ce.cls ∧ B.locs = A.locs ++ L ∧ (∀ z ∈ L, free z.base) ∧ B.cells = A.cells + mc ∧ B.slots = A.slots + ms
def vx_Back (l : Launch) (R : Room) (p : Program) (e : Env) (below : List Frame) (s : State) (sargs : Array Value) (y : MethodName) (len W9 : Nat)
    (Pre : Pt → Array Value → Prop) (Post : Pt → Array Value → Option Value → Pt → Prop) (PostX : Pt → Array Value → Addr → Pt → Prop) : Prop :=
  ∀ (m : MethodId) (meth : Method) (c : Code) (A : Pt) (g : JFrame) (ig : Instr) (mk : MethodId) (a : Array Value),
    Stand p l e R s m sargs below meth c A.U A.locs A.cells A.slots → g.method = m → g.locals.size = c.maxLocals → decode c.code g.pc = .ok (ig, len) →
    2 * g.monitorRoom + (g.stack.map fun v => v.category).sum ≤ W9 → A.U.methodNamed? y = some mk → Pre A a →
    (∃ (v : Option Value) (B : Pt), Stand p l e R s m sargs below meth c B.U B.locs B.cells B.slots ∧ Post A a v B ∧
      Steps p.tables e below (doInvoke e (A.U.setTop g) [] mk a).1 (B.U.setTop { g with pc := g.pc + len, stack := v.toList ++ g.stack })) ∨
    (∃ (q : Addr) (B : Pt), Stand p l e R s m sargs below meth c B.U B.locs B.cells B.slots ∧ PostX A a q B ∧
      Steps p.tables e below (doInvoke e (A.U.setTop g) [] mk a).1 ((B.U.setTop g).pushFrame (.throwing q)))
section Payer
variable {l : Launch} {R : Room} {p : Program} {e : Env} {below : List Frame} {s : State} {sargs : Array Value} {y : MethodName} {len W9 : Nat}
theorem vx_back {ws : List Cond} {rm : Room} {Pc : Array Value → State → Prop} {Qc : Array Value → State → Outcome → State → Prop} {XC : String → State → State → Prop} {mc ms : Nat} {free : Addr → Prop} {bytes : ByteArray} {maxL : Nat} {ret : Option FieldType}
    (hM : vx_Met l y ws rm Pc Qc XC mc ms free) (hblind : FrameBlind Pc) (hrc : rm.cells = mc) (hrs : rm.slots = ms)
    (hframes : rm.frames + 1 ≤ R.frames) (hlocals : W9 + (maxL + 11) + rm.locals ≤ R.locals)
    (hws : ∀ w ∈ ws, ∀ a' U, s.WarmedH U.vm → w.before a' U = true) (hcode : Cond.code y bytes maxL ret ∈ ws) (hinit : ∀ a' U, s.WarmedH U.vm → (Cond.initialized y.cls).before a' U = true) :
    vx_Back l R p e below s sargs y len W9 (PreOf R mc ms Pc) (PostOf Qc mc ms free) (vx_Post XC mc ms free) := by
  intro m meth c A g ig mk a X hg hsize hdg hW hn hp
  have h1 : (headSpec ws rm).pre.before a A.U = true := atoms_intro fun w hw => hws w hw _ _ X.warmed
  have h2 : (Cond.code y bytes maxL ret).before a A.U = true := hws _ hcode _ _ X.warmed
  have h3 : (Cond.initialized y.cls).before a A.U = true := hinit _ _ X.warmed
  have h4 : A.cells + (headSpec ws rm).room.cells ≤ R.cells := by rw [show (headSpec ws rm).room.cells = mc from hrc]; exact hp.1
  have h5 : A.slots + (headSpec ws rm).room.slots ≤ R.slots := by rw [show (headSpec ws rm).room.slots = ms from hrs]; exact hp.2.1
  have hPc : Pc a (A.U.calling g mk a) := hblind _ _ _ _ hp.2.2
  obtain ⟨U, Ls, c0, s0⟩ := A
  dsimp only [Pt.U, Pt.locs, Pt.cells, Pt.slots] at h1 h2 h3 h4 h5 X hn hPc ⊢
  obtain ⟨methY, cY, hmY, hcY, -, hlY, -, -, -, -⟩ := Cond.code_spec hn h2
  obtain ⟨kY, hkY, -⟩ := className_of_methodNamed hn
  have hinitY : kY.init = .initialized := Cond.initialized_spec (findClass_of_methodNamed hn) hkY h3
  have h : At U g.method c below := by rw [hg]; exact X.here
  have hlocals9 : W9 + (maxL + 11) + (headSpec ws rm).room.locals ≤ R.locals := hlocals
  have happ : (headSpec ws rm).appliesLoose y e.platform (U.calling g mk a) = true :=
    Spec.appliesLoose_calling (g := g) h hdg hn hkY hinitY
      (X.room_calling (g := g) (R' := (headSpec ws rm).room) hsize hmY hcY hframes (by rw [hlY]; omega) h4 h5) h1
  obtain ⟨mid, hmid⟩ := h.above
  have hfr : (U.setTop g).frames = (.java g :: mid) ++ below := by rw [State.frames_setTop' g h.top, hmid]; rfl
  obtain ⟨o, s₂, hsteps, -, hend, hq⟩ := Steps.callFree hM p X.admits X.cas X.clock (acts := []) hfr happ hPc trivial
  have hq' : vx_Q Qc XC mc ms free a (U.calling g mk a) o s₂ := hq
  rw [State.frames_setTop' g h.top] at hend
  obtain ⟨g₀, hg0⟩ := Option.isSome_iff_exists.mp h.top
  obtain ⟨r, hr⟩ := State.topJava?_eq_some.mp hg0
  have hr' : (({ U with heap := s₂.heap, slotsUsed := s₂.slotsUsed } : State).setVm s₂.vm).frames = .java g₀ :: r := hr
  rcases hq' with ⟨hqc, L, hfe, hL⟩ | ⟨q, rfl, E, ce, L, hx, hce, hcv, hcl, hW₂, hsm, hL⟩
  · obtain ⟨⟨v, rfl⟩, hW₂, e2, q2, q3, q4, q5, q6⟩ := id hfe
    have e3 : s₂ = ({ (U.calling g mk a).setFrames s₂.frames with heap := s₂.heap, slotsUsed := s₂.slotsUsed } : State).setVm s₂.vm := by
      have : s₂ = ({ s₂ with vm := (U.calling g mk a).vm } : State).setVm s₂.vm := rfl
      rw [e2] at this
      exact this
    obtain ⟨c₂, i₂, len₂, hc₂, hd₂, hf₂⟩ := hend
    have hW' : U.WarmedH s₂.vm := hW₂
    have hcc : c₂ = c := by
      have h1 : s₂.code? g.method = U.code? g.method := by
        rw [State.code?_eq, State.code?_eq, hW'.alike.method?]
      exact Option.some.inj (hc₂.symm.trans (h1.trans h.code))
    subst hcc
    have hlen : len₂ = len := by rw [hdg] at hd₂; cases hd₂; rfl
    subst hlen
    have hs₂ : s₂ = (({ U with heap := s₂.heap, slotsUsed := s₂.slotsUsed } : State).setVm s₂.vm).setTop { g with pc := g.pc + len₂, stack := v.toList ++ g.stack } := by
      refine e3.trans ?_
      rw [hf₂, State.calling_eq h.top, State.setFrames_setFrames, State.setTop_of_frames _ hr', hr]
      rfl
    have hsame : U.sameButNew ({ U with heap := s₂.heap, slotsUsed := s₂.slotsUsed } : State) L mc ms := by
      refine ⟨?_, q2, q3, q4, q5, q6⟩
      obtain ⟨t, ht, -⟩ := State.frames_cons hr
      show ({ U with heap := s₂.heap, slotsUsed := s₂.slotsUsed } : State) = { U.setFrames U.frames with heap := s₂.heap, slotsUsed := s₂.slotsUsed }
      rw [State.setFrames_self ht]
    subst hg
    refine Or.inl ⟨v, ⟨(({ U with heap := s₂.heap, slotsUsed := s₂.slotsUsed } : State).setVm s₂.vm), Ls ++ L, c0 + mc, s0 + ms⟩,
      ⟨X.admits, X.cas, X.clock, X.frames, X.room, X.hears, X.method, X.code, (X.here.setHeapUsed s₂.heap s₂.slotsUsed).setVm hW'.alike, X.tail, State.WarmedH.trans X.warmed hW', X.limits, X.bytes, X.same.trans (hsame.setVm s.vm)⟩,
      ⟨g, mk, s₂, L, rfl, rfl, hqc, rfl, hL, rfl, rfl⟩, ?_⟩
    show Steps p.tables e below _ ((({ U with heap := s₂.heap, slotsUsed := s₂.slotsUsed } : State).setVm s₂.vm).setTop { g with pc := g.pc + len₂, stack := v.toList ++ g.stack })
    rw [← hs₂]
    exact hsteps
  · obtain ⟨e2, q2, q3, q4, q5, q6⟩ := id hsm
    have e3 : s₂ = ({ (U.calling g mk a).setFrames s₂.frames with heap := s₂.heap, slotsUsed := s₂.slotsUsed } : State).setVm s₂.vm := by
      have : s₂ = ({ s₂ with vm := (U.calling g mk a).vm } : State).setVm s₂.vm := rfl
      rw [e2] at this
      exact this
    have hf₂ : s₂.frames = .throwing q :: .java g :: U.frames.tail := hend
    have hW' : U.WarmedH s₂.vm := hW₂
    have hs₂ : s₂ = ((({ U with heap := s₂.heap, slotsUsed := s₂.slotsUsed } : State).setVm s₂.vm).setTop g).pushFrame (.throwing q) := by
      refine e3.trans ?_
      rw [hf₂, State.calling_eq h.top, State.setFrames_setFrames, State.pushFrame, State.frames_setTop _ hr', State.setTop_of_frames _ hr', State.setFrames_setFrames, hr]
      rfl
    have hsame : U.sameButNew ({ U with heap := s₂.heap, slotsUsed := s₂.slotsUsed } : State) L mc ms := by
      refine ⟨?_, q2, q3, q4, q5, q6⟩
      obtain ⟨t, ht, -⟩ := State.frames_cons hr
      show ({ U with heap := s₂.heap, slotsUsed := s₂.slotsUsed } : State) = { U.setFrames U.frames with heap := s₂.heap, slotsUsed := s₂.slotsUsed }
      rw [State.setFrames_self ht]
    subst hg
    refine Or.inr ⟨q, ⟨(({ U with heap := s₂.heap, slotsUsed := s₂.slotsUsed } : State).setVm s₂.vm), Ls ++ L, c0 + mc, s0 + ms⟩,
      ⟨X.admits, X.cas, X.clock, X.frames, X.room, X.hears, X.method, X.code, (X.here.setHeapUsed s₂.heap s₂.slotsUsed).setVm hW'.alike, X.tail, State.WarmedH.trans X.warmed hW', X.limits, X.bytes, X.same.trans (hsame.setVm s.vm)⟩,
      ⟨g, mk, s₂, L, E, ce, rfl, rfl, hx, hce, hcv, hcl, rfl, hL, rfl, rfl⟩, ?_⟩
    show Steps p.tables e below _ (((({ U with heap := s₂.heap, slotsUsed := s₂.slotsUsed } : State).setVm s₂.vm).setTop g).pushFrame (.throwing q))
    rw [← hs₂]
    exact hsteps
end Payer
section Calls
variable {p : Program} {l : Launch} {e : Env} {R : Room} {s : State} {m : MethodId} {args : Array Value} {below : List Frame} {meth : Method} {c : Code} {T : State} {locs : List Loc} {cells slots : Nat}
theorem vx_callV (X : Stand p l e R s m args below meth c T locs cells slots) (hexec : p.tables.exec = Jvm.exec) {own C : String} {index : Nat} {y : MethodName} {bytes : ByteArray} {maxL : Nat} {ret : Option FieldType}
    (hown : s.vm.findClass own = some m.cls) (hlink : (Cond.methodLink own index y).before args s = true) (hinst : (Cond.instanceMethod y).before args s = true) (hsel : (Cond.selects C y y).before args s = true)
    (hcode : (Cond.code y bytes maxL ret).before args s = true) (hy : y.cls ≠ "java/lang/invoke/MethodHandle" ∧ y.cls ≠ "java/lang/invoke/VarHandle")
    {W9 : Nat} {Pre : Pt → Array Value → Prop} {Post : Pt → Array Value → Option Value → Pt → Prop} {PostX : Pt → Array Value → Addr → Pt → Prop} (hK : vx_Back l R p e below s args y 3 W9 Pre Post PostX)
    {b : Addr} {cellB : Cell} (hcell : T.heap[b]? = some cellB) (hobj : cellB.vm.isStatics = false) (hcls : s.vm.findClass C = some cellB.cls)
    {g : JFrame} (hg : g.method = m) (hsize : g.locals.size = c.maxLocals) {argsL rest : List Value} (hlen : ∀ sig, parseMethodDescriptor y.desc = some sig → argsL.length = sig.parameters.length)
    (hstack : g.stack = argsL.reverse ++ .ref b :: rest) (hW : 2 * g.monitorRoom + (rest.map fun v => v.category).sum ≤ W9) (hdg : decode c.code g.pc = .ok (.invokevirtual index, 3))
    (hpre : ∀ vm₁, s.WarmedH vm₁ → Pre ⟨T.setVm vm₁, locs, cells, slots⟩ (Value.ref b :: argsL).toArray) :
    (∃ (v : Option Value) (vm₁ : Vm) (B : Pt), s.WarmedH vm₁ ∧ Stand p l e R s m args below meth c B.U B.locs B.cells B.slots ∧ Post ⟨T.setVm vm₁, locs, cells, slots⟩ (Value.ref b :: argsL).toArray v B ∧
      ∀ target, Steps p.tables e below (B.U.setTop { g with pc := g.pc + 3, stack := v.toList ++ rest }) target → Steps p.tables e below (T.setTop g) target) ∨
    (∃ (q : Addr) (vm₁ : Vm) (B : Pt), s.WarmedH vm₁ ∧ Stand p l e R s m args below meth c B.U B.locs B.cells B.slots ∧ PostX ⟨T.setVm vm₁, locs, cells, slots⟩ (Value.ref b :: argsL).toArray q B ∧
      Steps p.tables e below (T.setTop g) ((B.U.setTop { g with stack := rest }).pushFrame (.throwing q))) := by
  obtain ⟨mk, methM, hnamed, hmethM, hstM, habM⟩ := Cond.instanceMethod_spec hinst
  obtain ⟨methM', cM, hmethM', -, -, -, -, -, -, hsigM⟩ := Cond.code_spec hnamed hcode
  cases hmethM.symm.trans hmethM'
  obtain ⟨c2, r2, m2, q1, q2, q3, q4, kP, hkP, hkPi⟩ := Cond.selects_spec hsel
  cases hcls.symm.trans q1
  cases (State.methodFound?_of_named hnamed hy).symm.trans q2
  cases hnamed.symm.trans q3
  have hselP : selectMethod e.platform s.vm cellB.cls mk = .method mk := by rw [Launch.admits_selectMethod X.admits]; exact q4
  obtain ⟨vm₁, X₁, hstep₁⟩ := X.invokevirtual hexec hown hlink hnamed hmethM hstM hkP hkPi hy (a := b) (cell := cellB) hcell
    (fun z h => by rw [h] at hobj; cases hobj) hselP hmethM habM hkP hkPi (g := g) hg (argsL := argsL) (rest := rest) (hlen _ hsigM) hstack hdg
  rcases hK m meth c ⟨T.setVm vm₁, locs, cells, slots⟩ { g with stack := rest } (.invokevirtual index) mk (Value.ref b :: argsL).toArray X₁ hg hsize hdg hW (X₁.named hnamed) (hpre vm₁ X₁.warmed) with ⟨v, B, X', hpost, hsteps⟩ | ⟨q, B, X', hpost, hsteps⟩
  · exact Or.inl ⟨v, vm₁, B, X₁.warmed, X', hpost, fun target h => hstep₁ _ fun acts => by rw [doInvoke_state]; exact hsteps.trans h⟩
  · exact Or.inr ⟨q, vm₁, B, X₁.warmed, X', hpost, hstep₁ _ fun acts => by rw [doInvoke_state]; exact hsteps⟩
theorem vx_callS (X : Stand p l e R s m args below meth c T locs cells slots) (hexec : p.tables.exec = Jvm.exec) {own : String} {index : Nat} {y : MethodName} {bytes : ByteArray} {maxL : Nat} {ret : Option FieldType}
    (hown : s.vm.findClass own = some m.cls) (hlink : (Cond.methodLink own index y).before args s = true) (hstat : (Cond.static y).before args s = true) (hinit : (Cond.initialized y.cls).before args s = true)
    (hcode : (Cond.code y bytes maxL ret).before args s = true) (hy : y.cls ≠ "java/lang/invoke/MethodHandle" ∧ y.cls ≠ "java/lang/invoke/VarHandle")
    {W9 : Nat} {Pre : Pt → Array Value → Prop} {Post : Pt → Array Value → Option Value → Pt → Prop} {PostX : Pt → Array Value → Addr → Pt → Prop} (hK : vx_Back l R p e below s args y 3 W9 Pre Post PostX)
    {g : JFrame} (hg : g.method = m) (hsize : g.locals.size = c.maxLocals) {argsL rest : List Value} (hlen : ∀ sig, parseMethodDescriptor y.desc = some sig → argsL.length = sig.parameters.length)
    (hstack : g.stack = argsL.reverse ++ rest) (hW : 2 * g.monitorRoom + (rest.map fun v => v.category).sum ≤ W9) (hdg : decode c.code g.pc = .ok (.invokestatic index, 3))
    (hpre : ∀ vm₁, s.WarmedH vm₁ → Pre ⟨T.setVm vm₁, locs, cells, slots⟩ argsL.toArray) :
    (∃ (v : Option Value) (vm₁ : Vm) (B : Pt), s.WarmedH vm₁ ∧ Stand p l e R s m args below meth c B.U B.locs B.cells B.slots ∧ Post ⟨T.setVm vm₁, locs, cells, slots⟩ argsL.toArray v B ∧
      ∀ target, Steps p.tables e below (B.U.setTop { g with pc := g.pc + 3, stack := v.toList ++ rest }) target → Steps p.tables e below (T.setTop g) target) ∨
    (∃ (q : Addr) (vm₁ : Vm) (B : Pt), s.WarmedH vm₁ ∧ Stand p l e R s m args below meth c B.U B.locs B.cells B.slots ∧ PostX ⟨T.setVm vm₁, locs, cells, slots⟩ argsL.toArray q B ∧
      Steps p.tables e below (T.setTop g) ((B.U.setTop { g with stack := rest }).pushFrame (.throwing q))) := by
  obtain ⟨mk, hnamed⟩ := Cond.code_named hcode
  obtain ⟨methM, cM, hmethM, -, -, -, -, -, -, hsigM⟩ := Cond.code_spec hnamed hcode
  have hstatic : methM.isStatic = true := Cond.static_spec hnamed hmethM hstat
  obtain ⟨kP, hkP, -⟩ := className_of_methodNamed hnamed
  have hinitP : kP.init = .initialized := Cond.initialized_spec (findClass_of_methodNamed hnamed) hkP hinit
  obtain ⟨vm₁, X₁, hstep₁⟩ := X.invokestatic hexec hown hlink hnamed hmethM hstatic hkP hinitP hy (g := g) hg (argsL := argsL) (rest := rest) (hlen _ hsigM) hstack hdg
  rcases hK m meth c ⟨T.setVm vm₁, locs, cells, slots⟩ { g with stack := rest } (.invokestatic index) mk argsL.toArray X₁ hg hsize hdg hW (X₁.named hnamed) (hpre vm₁ X₁.warmed) with ⟨v, B, X', hpost, hsteps⟩ | ⟨q, B, X', hpost, hsteps⟩
  · exact Or.inl ⟨v, vm₁, B, X₁.warmed, X', hpost, fun target h => hstep₁ _ fun acts => by rw [doInvoke_state]; exact hsteps.trans h⟩
  · exact Or.inr ⟨q, vm₁, B, X₁.warmed, X', hpost, hstep₁ _ fun acts => by rw [doInvoke_state]; exact hsteps⟩
end Calls
theorem vx_cls {s : State} {T : State} {vm₁ : Vm} {E : String} {k : ClassId} (hW : s.WarmedH vm₁) (h : (T.setVm vm₁).vm.findClass E = some k) : s.vm.findClass E = some k := by
  have h1 : vm₁.findClass E = some k := h
  rw [hW.alike.findClass] at h1
  exact h1
/-- the method's frame g, with q thrown over it -/
def vx_W (p : Program) (l : Launch) (e : Env) (R : Room) (s : State) (m : MethodId) (args : Array Value) (below : List Frame) (meth : Method) (c : Code) (H : Heap) (locs : List Loc) (cells slots : Nat) (Q : State → Prop) (g : JFrame) (q : Addr) : Prop :=
  ∀ T : State, T.heap = H → Stand p l e R s m args below meth c T locs cells slots → ∃ t, Steps p.tables e below ((T.setTop g).pushFrame (.throwing q)) t ∧ Q t
def vx_Run (p : Program) (l : Launch) (e : Env) (R : Room) (s : State) (m : MethodId) (args : Array Value) (below : List Frame) (meth : Method) (c : Code) (H : Heap) (locs : List Loc) (cells slots mc ms : Nat) (g : JFrame) (rest : List Value) (Qa : State → Outcome → State → Prop) (XC : String → State → State → Prop) (free : Addr → Prop) : Prop :=
  ∀ T : State, T.heap = H → Stand p l e R s m args below meth c T locs cells slots →
    (∃ (v : Option Value) (st₀ t T' : State) (L : List Loc), st₀.heap = H ∧ Stand p l e R s m args below meth c T' (locs ++ L) (cells + mc) (slots + ms) ∧ (∀ q ∈ L, free q.base) ∧ T'.heap = t.heap ∧ T'.vm = t.vm ∧ Qa st₀ (.returned v) t ∧
      Goes p e below T g T' { g with pc := g.pc + 3, stack := v.toList ++ rest }) ∨
    (∃ (q : Addr) (st₀ t T' : State) (L : List Loc) (E : String) (ce : Cell), st₀.heap = H ∧ Stand p l e R s m args below meth c T' (locs ++ L) (cells + mc) (slots + ms) ∧ (∀ z ∈ L, free z.base) ∧ T'.heap = t.heap ∧ T'.vm = t.vm ∧ XC E st₀ t ∧ t.heap[q]? = some ce ∧ ce.vm = .none ∧ s.vm.findClass E = some ce.cls ∧
      Steps p.tables e below (T.setTop g) ((T'.setTop { g with stack := rest }).pushFrame (.throwing q)))
def vx_X {S : Type} (px : S → Prop) (B : String → S → State → Prop) (A : Nat → Prop) : String → State → State → Prop := fun E st t => ∃ u : S, px u ∧ B E u t ∧ va_F A st t
section Runs
variable {p : Program} {l : Launch} {e : Env} {R : Room} {s : State} {m : MethodId} {args : Array Value} {below : List Frame} {meth : Method} {c : Code} {H : Heap} {locs : List Loc} {cells slots : Nat}
variable {y : MethodName} {bytes cc : ByteArray} {maxL nL mc ms n index : Nat} {ret : Option FieldType} {ws : List Cond} {rm : Room} {Pc : Array Value → State → Prop} {Qc : Array Value → State → Outcome → State → Prop} {XC : String → State → State → Prop} {free : Addr → Prop} {Ts : List Cond} {own C : String} {b : Addr} {As rest : List Value} {g : JFrame}
theorem vx_callBack (cb : CallB R s args own index y bytes maxL ret ws rm mc ms n) (hM : vx_Met l y ws rm Pc Qc XC mc ms free) (hbl : FrameBlind Pc) : vx_Back l R p e below s args y 3 8 (PreOf R mc ms Pc) (PostOf Qc mc ms free) (vx_Post XC mc ms free) := by
  obtain ⟨hrc, hrs, hfr, hlo, hws, hcw, -, hini, -⟩ := cb
  exact vx_back (bytes := bytes) (maxL := maxL) (ret := ret) hM hbl hrc hrs hfr hlo hws hcw (fun a' U hW => word_at hW (Or.inl (by first | rfl | simp [Cond.onTables, Cond.keeps, Cond.steady])) hini)
theorem vx_runV (S : CallFix p m c cc nL s args Ts own) (hM : vx_Met l y ws rm Pc Qc XC mc ms free) (cw : CallW R s args own C index y bytes maxL ret ws rm mc ms n) (hp : PreV s H C b Pc As)
    (hg : g.method = m) (hn : As.length = n) (hsize : g.locals.size = nL) (hstack : g.stack = As.reverse ++ .ref b :: rest) (hW : 2 * g.monitorRoom + (rest.map fun v => v.category).sum ≤ 8) (hdg : decode cc g.pc = .ok (.invokevirtual index, 3)) (hf : cells + mc ≤ R.cells ∧ slots + ms ≤ R.slots) :
    vx_Run p l e R s m args below meth c H locs cells slots mc ms g rest (Qc (Value.ref b :: As).toArray) XC free := by
  have hK : vx_Back l R p e below s args y 3 8 (PreOf R mc ms Pc) (PostOf Qc mc ms free) (vx_Post XC mc ms free) := vx_callBack cw.1 hM hp.1
  obtain ⟨⟨-, -, -, -, -, -, hcode, -, hy, hlen, hl⟩, hin, hse⟩ := cw
  obtain ⟨hx, hb, hml, ho, -⟩ := S
  obtain ⟨-, ⟨cellB, hcB, hoB, hclB⟩, hPc⟩ := hp
  intro T hT X
  rcases vx_callV X hx (C := C) (bytes := bytes) (maxL := maxL) (ret := ret) ho hl hin hse hcode hy hK (by rw [hT]; exact hcB) hoB hclB hg (hsize.trans hml.symm) (argsL := As) (rest := rest) (fun sig h => hn.trans (hlen sig h)) hstack hW (by rw [hb]; exact hdg)
    (fun vm₁ hW₁ => ⟨hf.1, hf.2, hPc (T.setVm vm₁) hT hW₁⟩) with ⟨v, vm₁, ⟨U', l2, c2, s2⟩, hW₁, X', ⟨g', mk, t, L, e1, e2, hq, h1, hL, h2, h3⟩, st⟩ | ⟨q, vm₁, ⟨U', l2, c2, s2⟩, hW₁, X', ⟨g', mk, t, L, E, ce, e1, e2, hq, hce, hcv, hcl, h1, hL, h2, h3⟩, st⟩
  · dsimp only [Pt.U, Pt.locs, Pt.cells, Pt.slots] at X' e1 e2 h1 h2 h3 st
    subst h1; subst h2; subst h3
    exact Or.inl ⟨v, (T.setVm vm₁).calling g' mk (Value.ref b :: As).toArray, t, U', L, hT, X', hL, e1, e2, hq, st⟩
  · dsimp only [Pt.U, Pt.locs, Pt.cells, Pt.slots] at X' e1 e2 h1 h2 h3 st hcl
    subst h1; subst h2; subst h3
    exact Or.inr ⟨q, (T.setVm vm₁).calling g' mk (Value.ref b :: As).toArray, t, U', L, E, ce, hT, X', hL, e1, e2, hq, hce, hcv, vx_cls hW₁ hcl, st⟩
theorem vx_runS (S : CallFix p m c cc nL s args Ts own) (hM : vx_Met l y ws rm Pc Qc XC mc ms free) (cw : CallB R s args own index y bytes maxL ret ws rm mc ms n ∧ (Cond.static y).before args s = true) (hp : PreS s H Pc As)
    (hg : g.method = m) (hn : As.length = n) (hsize : g.locals.size = nL) (hstack : g.stack = As.reverse ++ rest) (hW : 2 * g.monitorRoom + (rest.map fun v => v.category).sum ≤ 8) (hdg : decode cc g.pc = .ok (.invokestatic index, 3)) (hf : cells + mc ≤ R.cells ∧ slots + ms ≤ R.slots) :
    vx_Run p l e R s m args below meth c H locs cells slots mc ms g rest (Qc As.toArray) XC free := by
  have hK : vx_Back l R p e below s args y 3 8 (PreOf R mc ms Pc) (PostOf Qc mc ms free) (vx_Post XC mc ms free) := vx_callBack cw.1 hM hp.1
  obtain ⟨⟨-, -, -, -, -, -, hcode, hini, hy, hlen, hl⟩, hstt⟩ := cw
  obtain ⟨hx, hb, hml, ho, -⟩ := S
  intro T hT X
  rcases vx_callS X hx (bytes := bytes) (maxL := maxL) (ret := ret) ho hl hstt hini hcode hy hK hg (hsize.trans hml.symm) (argsL := As) (rest := rest) (fun sig h => hn.trans (hlen sig h)) hstack hW (by rw [hb]; exact hdg)
    (fun vm₁ hW₁ => ⟨hf.1, hf.2, hp.2 (T.setVm vm₁) hT hW₁⟩) with ⟨v, vm₁, ⟨U', l2, c2, s2⟩, hW₁, X', ⟨g', mk, t, L, e1, e2, hq, h1, hL, h2, h3⟩, st⟩ | ⟨q, vm₁, ⟨U', l2, c2, s2⟩, hW₁, X', ⟨g', mk, t, L, E, ce, e1, e2, hq, hce, hcv, hcl, h1, hL, h2, h3⟩, st⟩
  · dsimp only [Pt.U, Pt.locs, Pt.cells, Pt.slots] at X' e1 e2 h1 h2 h3 st
    subst h1; subst h2; subst h3
    exact Or.inl ⟨v, (T.setVm vm₁).calling g' mk As.toArray, t, U', L, hT, X', hL, e1, e2, hq, st⟩
  · dsimp only [Pt.U, Pt.locs, Pt.cells, Pt.slots] at X' e1 e2 h1 h2 h3 st hcl
    subst h1; subst h2; subst h3
    exact Or.inr ⟨q, (T.setVm vm₁).calling g' mk As.toArray, t, U', L, E, ce, hT, X', hL, e1, e2, hq, hce, hcv, vx_cls hW₁ hcl, st⟩
end Runs
section Rows
variable {p : Program} {l : Launch} {e : Env} {R : Room} {s : State} {m : MethodId} {args : Array Value} {below : List Frame} {meth : Method} {c : Code} {H : Heap} {locs : List Loc} {cells slots : Nat} {Q : State → Prop}
variable {mc ms : Nat} {free : Addr → Prop} {A0 A1 : Nat → Prop} {H0 : Heap} {a : Array Value} {pc : Nat} {ls : Array Slot} {st0 rest : List Value}
theorem vx_keep {st₀ t T' : State} {L : List Loc} (h0 : st₀.heap = H) (e1 : T'.heap = t.heap) (hS : va_S A0 H0 H locs) (hA : ∀ q, q < H.size → A1 q → A0 q) (hf : ∀ q, free q → A0 q) (hL : ∀ q ∈ L, free q.base) (hF : va_F A1 st₀ t) :
    H.size ≤ T'.heap.size ∧ (∀ q : Nat, q < H.size → ¬ A1 q → T'.heap[q]? = H[q]?) ∧ va_S A0 H0 T'.heap (locs ++ L) := by
  obtain ⟨hz, hk⟩ := hF
  rw [h0] at hz hk
  exact ⟨by rw [e1]; exact hz, fun q h1 h2 => by rw [e1]; exact hk q h1 h2,
    ⟨Nat.le_trans hS.1 (by rw [e1]; exact hz), fun q h1 h2 => by rw [e1, hk q (Nat.lt_of_lt_of_le h1 hS.1) (fun z => h2 (hA q (Nat.lt_of_lt_of_le h1 hS.1) z))]; exact hS.2.1 q h1 h2, fun q hq => by
      rcases List.mem_append.mp hq with h | h
      · exact hS.2.2 q h
      · exact hf _ (hL q h)⟩⟩
theorem vx_calli {S SX : Type} {post : Int32 → S → Prop} {px : SX → Prop} {B : S → State → Prop} {BX : String → SX → State → Prop} {AX : Nat → Prop} (hr : vx_Run p l e R s m args below meth c H locs cells slots mc ms (F0 m pc ls st0) rest (va_Qi post B A1 a) (vx_X px BX AX) free) (hS : va_S A0 H0 H locs) (hA : ∀ q, q < H.size → A1 q → A0 q) (hf : ∀ q, free q → A0 q) (hAX : ∀ q, q < H.size → AX q → A0 q)
    (kx : ∀ (E : String) (ce : Cell) (q9 : Addr) (u : SX) (t : State) (H1 : Heap) (locs1 : List Loc), t.heap = H1 → s.vm.Alike t.vm → px u → BX E u t → H.size ≤ H1.size → (∀ q : Nat, q < H.size → ¬ AX q → H1[q]? = H[q]?) → va_S A0 H0 H1 locs1 → H1[q9]? = some ce → ce.vm = .none → s.vm.findClass E = some ce.cls → vx_W p l e R s m args below meth c H1 locs1 (cells + mc) (slots + ms) Q (F0 m pc ls rest) q9)
    (kk : ∀ (r : Int32) (u : S) (t : State) (H1 : Heap) (locs1 : List Loc), t.heap = H1 → s.vm.Alike t.vm → post r u → B u t → H.size ≤ H1.size → (∀ q : Nat, q < H.size → ¬ A1 q → H1[q]? = H[q]?) → va_S A0 H0 H1 locs1 → W p l e R s m args below meth c H1 locs1 (cells + mc) (slots + ms) Q (F0 m (pc + 3) ls (.int r :: rest))) : W p l e R s m args below meth c H locs cells slots Q (F0 m pc ls st0) := by
  intro T hT X
  rcases hr T hT X with ⟨v, st₀, t, T', L, h0, X', hL, e1, e2, ⟨⟨r, u, hv, hp, hb⟩, hF⟩, st⟩ | ⟨q, st₀, t, T', L, E, ce, h0, X', hL, e1, e2, ⟨u, hp, hb, hF⟩, hce, hcv, hcl, st⟩
  · cases hv
    obtain ⟨k1, k2, k3⟩ := vx_keep h0 e1 hS hA hf hL hF
    obtain ⟨t2, a1, b1⟩ := kk r u t T'.heap (locs ++ L) e1.symm (by rw [← e2]; exact X'.warmed.alike) hp hb k1 k2 k3 T' rfl X'
    exact ⟨t2, st t2 a1, b1⟩
  · obtain ⟨k1, k2, k3⟩ := vx_keep h0 e1 hS hAX hf hL hF
    obtain ⟨t2, a1, b1⟩ := kx E ce q u t T'.heap (locs ++ L) e1.symm (by rw [← e2]; exact X'.warmed.alike) hp hb k1 k2 k3 (by rw [e1]; exact hce) hcv hcl T' rfl X'
    exact ⟨t2, st.trans a1, b1⟩
theorem vx_calll {S SX : Type} {post : Int64 → S → Prop} {px : SX → Prop} {B : S → State → Prop} {BX : String → SX → State → Prop} {AX : Nat → Prop} (hr : vx_Run p l e R s m args below meth c H locs cells slots mc ms (F0 m pc ls st0) rest (va_Ql post B A1 a) (vx_X px BX AX) free) (hS : va_S A0 H0 H locs) (hA : ∀ q, q < H.size → A1 q → A0 q) (hf : ∀ q, free q → A0 q) (hAX : ∀ q, q < H.size → AX q → A0 q)
    (kx : ∀ (E : String) (ce : Cell) (q9 : Addr) (u : SX) (t : State) (H1 : Heap) (locs1 : List Loc), t.heap = H1 → s.vm.Alike t.vm → px u → BX E u t → H.size ≤ H1.size → (∀ q : Nat, q < H.size → ¬ AX q → H1[q]? = H[q]?) → va_S A0 H0 H1 locs1 → H1[q9]? = some ce → ce.vm = .none → s.vm.findClass E = some ce.cls → vx_W p l e R s m args below meth c H1 locs1 (cells + mc) (slots + ms) Q (F0 m pc ls rest) q9)
    (kk : ∀ (r : Int64) (u : S) (t : State) (H1 : Heap) (locs1 : List Loc), t.heap = H1 → s.vm.Alike t.vm → post r u → B u t → H.size ≤ H1.size → (∀ q : Nat, q < H.size → ¬ A1 q → H1[q]? = H[q]?) → va_S A0 H0 H1 locs1 → W p l e R s m args below meth c H1 locs1 (cells + mc) (slots + ms) Q (F0 m (pc + 3) ls (.long r :: rest))) : W p l e R s m args below meth c H locs cells slots Q (F0 m pc ls st0) := by
  intro T hT X
  rcases hr T hT X with ⟨v, st₀, t, T', L, h0, X', hL, e1, e2, ⟨⟨r, u, hv, hp, hb⟩, hF⟩, st⟩ | ⟨q, st₀, t, T', L, E, ce, h0, X', hL, e1, e2, ⟨u, hp, hb, hF⟩, hce, hcv, hcl, st⟩
  · cases hv
    obtain ⟨k1, k2, k3⟩ := vx_keep h0 e1 hS hA hf hL hF
    obtain ⟨t2, a1, b1⟩ := kk r u t T'.heap (locs ++ L) e1.symm (by rw [← e2]; exact X'.warmed.alike) hp hb k1 k2 k3 T' rfl X'
    exact ⟨t2, st t2 a1, b1⟩
  · obtain ⟨k1, k2, k3⟩ := vx_keep h0 e1 hS hAX hf hL hF
    obtain ⟨t2, a1, b1⟩ := kx E ce q u t T'.heap (locs ++ L) e1.symm (by rw [← e2]; exact X'.warmed.alike) hp hb k1 k2 k3 (by rw [e1]; exact hce) hcv hcl T' rfl X'
    exact ⟨t2, st.trans a1, b1⟩
theorem vx_callf {S SX : Type} {post : UInt32 → S → Prop} {px : SX → Prop} {B : S → State → Prop} {BX : String → SX → State → Prop} {AX : Nat → Prop} (hr : vx_Run p l e R s m args below meth c H locs cells slots mc ms (F0 m pc ls st0) rest (va_Qf post B A1 a) (vx_X px BX AX) free) (hS : va_S A0 H0 H locs) (hA : ∀ q, q < H.size → A1 q → A0 q) (hf : ∀ q, free q → A0 q) (hAX : ∀ q, q < H.size → AX q → A0 q)
    (kx : ∀ (E : String) (ce : Cell) (q9 : Addr) (u : SX) (t : State) (H1 : Heap) (locs1 : List Loc), t.heap = H1 → s.vm.Alike t.vm → px u → BX E u t → H.size ≤ H1.size → (∀ q : Nat, q < H.size → ¬ AX q → H1[q]? = H[q]?) → va_S A0 H0 H1 locs1 → H1[q9]? = some ce → ce.vm = .none → s.vm.findClass E = some ce.cls → vx_W p l e R s m args below meth c H1 locs1 (cells + mc) (slots + ms) Q (F0 m pc ls rest) q9)
    (kk : ∀ (r : UInt32) (u : S) (t : State) (H1 : Heap) (locs1 : List Loc), t.heap = H1 → s.vm.Alike t.vm → post r u → B u t → H.size ≤ H1.size → (∀ q : Nat, q < H.size → ¬ A1 q → H1[q]? = H[q]?) → va_S A0 H0 H1 locs1 → W p l e R s m args below meth c H1 locs1 (cells + mc) (slots + ms) Q (F0 m (pc + 3) ls (.float r :: rest))) : W p l e R s m args below meth c H locs cells slots Q (F0 m pc ls st0) := by
  intro T hT X
  rcases hr T hT X with ⟨v, st₀, t, T', L, h0, X', hL, e1, e2, ⟨⟨r, u, hv, hp, hb⟩, hF⟩, st⟩ | ⟨q, st₀, t, T', L, E, ce, h0, X', hL, e1, e2, ⟨u, hp, hb, hF⟩, hce, hcv, hcl, st⟩
  · cases hv
    obtain ⟨k1, k2, k3⟩ := vx_keep h0 e1 hS hA hf hL hF
    obtain ⟨t2, a1, b1⟩ := kk r u t T'.heap (locs ++ L) e1.symm (by rw [← e2]; exact X'.warmed.alike) hp hb k1 k2 k3 T' rfl X'
    exact ⟨t2, st t2 a1, b1⟩
  · obtain ⟨k1, k2, k3⟩ := vx_keep h0 e1 hS hAX hf hL hF
    obtain ⟨t2, a1, b1⟩ := kx E ce q u t T'.heap (locs ++ L) e1.symm (by rw [← e2]; exact X'.warmed.alike) hp hb k1 k2 k3 (by rw [e1]; exact hce) hcv hcl T' rfl X'
    exact ⟨t2, st.trans a1, b1⟩
theorem vx_calld {S SX : Type} {post : UInt64 → S → Prop} {px : SX → Prop} {B : S → State → Prop} {BX : String → SX → State → Prop} {AX : Nat → Prop} (hr : vx_Run p l e R s m args below meth c H locs cells slots mc ms (F0 m pc ls st0) rest (va_Qd post B A1 a) (vx_X px BX AX) free) (hS : va_S A0 H0 H locs) (hA : ∀ q, q < H.size → A1 q → A0 q) (hf : ∀ q, free q → A0 q) (hAX : ∀ q, q < H.size → AX q → A0 q)
    (kx : ∀ (E : String) (ce : Cell) (q9 : Addr) (u : SX) (t : State) (H1 : Heap) (locs1 : List Loc), t.heap = H1 → s.vm.Alike t.vm → px u → BX E u t → H.size ≤ H1.size → (∀ q : Nat, q < H.size → ¬ AX q → H1[q]? = H[q]?) → va_S A0 H0 H1 locs1 → H1[q9]? = some ce → ce.vm = .none → s.vm.findClass E = some ce.cls → vx_W p l e R s m args below meth c H1 locs1 (cells + mc) (slots + ms) Q (F0 m pc ls rest) q9)
    (kk : ∀ (r : UInt64) (u : S) (t : State) (H1 : Heap) (locs1 : List Loc), t.heap = H1 → s.vm.Alike t.vm → post r u → B u t → H.size ≤ H1.size → (∀ q : Nat, q < H.size → ¬ A1 q → H1[q]? = H[q]?) → va_S A0 H0 H1 locs1 → W p l e R s m args below meth c H1 locs1 (cells + mc) (slots + ms) Q (F0 m (pc + 3) ls (.double r :: rest))) : W p l e R s m args below meth c H locs cells slots Q (F0 m pc ls st0) := by
  intro T hT X
  rcases hr T hT X with ⟨v, st₀, t, T', L, h0, X', hL, e1, e2, ⟨⟨r, u, hv, hp, hb⟩, hF⟩, st⟩ | ⟨q, st₀, t, T', L, E, ce, h0, X', hL, e1, e2, ⟨u, hp, hb, hF⟩, hce, hcv, hcl, st⟩
  · cases hv
    obtain ⟨k1, k2, k3⟩ := vx_keep h0 e1 hS hA hf hL hF
    obtain ⟨t2, a1, b1⟩ := kk r u t T'.heap (locs ++ L) e1.symm (by rw [← e2]; exact X'.warmed.alike) hp hb k1 k2 k3 T' rfl X'
    exact ⟨t2, st t2 a1, b1⟩
  · obtain ⟨k1, k2, k3⟩ := vx_keep h0 e1 hS hAX hf hL hF
    obtain ⟨t2, a1, b1⟩ := kx E ce q u t T'.heap (locs ++ L) e1.symm (by rw [← e2]; exact X'.warmed.alike) hp hb k1 k2 k3 (by rw [e1]; exact hce) hcv hcl T' rfl X'
    exact ⟨t2, st.trans a1, b1⟩
theorem vx_callv {S SX : Type} {post : S → Prop} {px : SX → Prop} {B : S → State → Prop} {BX : String → SX → State → Prop} {AX : Nat → Prop} (hr : vx_Run p l e R s m args below meth c H locs cells slots mc ms (F0 m pc ls st0) rest (va_Qv post B A1 a) (vx_X px BX AX) free) (hS : va_S A0 H0 H locs) (hA : ∀ q, q < H.size → A1 q → A0 q) (hf : ∀ q, free q → A0 q) (hAX : ∀ q, q < H.size → AX q → A0 q)
    (kx : ∀ (E : String) (ce : Cell) (q9 : Addr) (u : SX) (t : State) (H1 : Heap) (locs1 : List Loc), t.heap = H1 → s.vm.Alike t.vm → px u → BX E u t → H.size ≤ H1.size → (∀ q : Nat, q < H.size → ¬ AX q → H1[q]? = H[q]?) → va_S A0 H0 H1 locs1 → H1[q9]? = some ce → ce.vm = .none → s.vm.findClass E = some ce.cls → vx_W p l e R s m args below meth c H1 locs1 (cells + mc) (slots + ms) Q (F0 m pc ls rest) q9)
    (kk : ∀ (u : S) (t : State) (H1 : Heap) (locs1 : List Loc), t.heap = H1 → s.vm.Alike t.vm → post u → B u t → H.size ≤ H1.size → (∀ q : Nat, q < H.size → ¬ A1 q → H1[q]? = H[q]?) → va_S A0 H0 H1 locs1 → W p l e R s m args below meth c H1 locs1 (cells + mc) (slots + ms) Q (F0 m (pc + 3) ls (rest))) : W p l e R s m args below meth c H locs cells slots Q (F0 m pc ls st0) := by
  intro T hT X
  rcases hr T hT X with ⟨v, st₀, t, T', L, h0, X', hL, e1, e2, ⟨⟨u, hv, hp, hb⟩, hF⟩, st⟩ | ⟨q, st₀, t, T', L, E, ce, h0, X', hL, e1, e2, ⟨u, hp, hb, hF⟩, hce, hcv, hcl, st⟩
  · cases hv
    obtain ⟨k1, k2, k3⟩ := vx_keep h0 e1 hS hA hf hL hF
    obtain ⟨t2, a1, b1⟩ := kk u t T'.heap (locs ++ L) e1.symm (by rw [← e2]; exact X'.warmed.alike) hp hb k1 k2 k3 T' rfl X'
    exact ⟨t2, st t2 a1, b1⟩
  · obtain ⟨k1, k2, k3⟩ := vx_keep h0 e1 hS hAX hf hL hF
    obtain ⟨t2, a1, b1⟩ := kx E ce q u t T'.heap (locs ++ L) e1.symm (by rw [← e2]; exact X'.warmed.alike) hp hb k1 k2 k3 (by rw [e1]; exact hce) hcv hcl T' rfl X'
    exact ⟨t2, st.trans a1, b1⟩
/-- caught by the row x of this method's table; the rows ahead don't take it -/
theorem vx_catch {own name : String} {E : String} {ce : Cell} {q : Addr} (hown : s.vm.findClass own = some m.cls) (pre : List ExceptionTableEntry) (x : ExceptionTableEntry) (suf : List ExceptionTableEntry) (hsplit : c.exceptionTable.toList = pre ++ x :: suf)
    (hpass : ∀ z ∈ pre, covers z pc = false ∨ (z.catchType ≠ 0 ∧ ∃ nm : String, (Cond.classLink own z.catchType nm).before args s = true ∧ va_Nc E nm s)) (hx : covers x pc = true) (h0 : x.catchType ≠ 0)
    (hlink : (Cond.classLink own x.catchType name).before args s = true) (hcast : (Cond.castable E name).before args s = true) (hcell : H[q]? = some ce) (hv : ce.vm = .none) (hcl : s.vm.findClass E = some ce.cls)
    (kk : W p l e R s m args below meth c H locs cells slots Q (F0 m x.handlerPc ls [.ref q])) : vx_W p l e R s m args below meth c H locs cells slots Q (F0 m pc ls rest) q := by
  intro T hT X
  have hpl : e.platform.magicAccessors = ({} : Platform).magicAccessors := by rw [X.admits.platform]
  obtain ⟨c3, c4, hc3, hc4, hasg⟩ := Cond.castable_spec hcast
  cases Option.some.inj (hc3.symm.trans hcl)
  obtain ⟨c5, hc5, hcl5⟩ := Cond.classLink_spec hown hlink e.platform hpl
  cases Option.some.inj (hc4.symm.trans hc5)
  obtain ⟨vm', X', st⟩ := X.thenCaughtThrough q (g := F0 m pc ls rest) rfl (Steps.refl _) (by rw [hT]; exact hcell) (by rw [hv]; rfl) (by obtain ⟨k9, h9, -⟩ := Vm.findClass_spec hcl; exact ⟨k9, h9⟩) pre x suf hsplit
    (fun z hz => by
      rcases hpass z hz with h | ⟨hz0, nm, hl1, hn1⟩
      · exact Or.inl h
      · obtain ⟨c6, hc6, hcl6⟩ := Cond.classLink_spec hown hl1 e.platform hpl
        obtain ⟨a8, b8, h1, h2, h3⟩ := hn1
        cases Option.some.inj (h1.symm.trans hcl)
        cases Option.some.inj (h2.symm.trans hc6)
        exact Or.inr ⟨hz0, _, hcl6, h3⟩) hx (Or.inr ⟨h0, c4, hcl5, hasg⟩)
  obtain ⟨t, a1, b1⟩ := kk (T.setVm vm') hT X'
  exact ⟨t, st.trans a1, b1⟩
end Rows
section Ends
variable {p : Program} {l : Launch} {e : Env} {R : Room} {s : State} {m : MethodId} {args : Array Value} {below : List Frame} {meth : Method} {c : Code} {H : Heap} {locs : List Loc} {cells slots : Nat} {Q : State → Prop}
variable {mc ms : Nat} {free : Addr → Prop} {A0 A1 : Nat → Prop} {H0 : Heap} {a : Array Value} {ls : Array Slot} {st0 rest : List Value}
variable {Qc : Array Value → State → Outcome → State → Prop} {XC : String → State → State → Prop}
/-- what a body that may throw owes at its end -/
def vx_MQ (below : List Frame) (Qc : Array Value → State → Outcome → State → Prop) (XC : String → State → State → Prop) (a : Array Value) (s : State) (mc ms : Nat) (free : Addr → Prop) : State → Prop := fun t =>
  ∃ o, t.status = .running ∧ Ended t below o ∧ vx_Q Qc XC mc ms free a s o t
theorem vx_ret {g : JFrame} {mc ms : Nat} (k : W p l e R s m args below meth c H locs cells slots (MQ below Qc args s mc ms free) g) : W p l e R s m args below meth c H locs cells slots (vx_MQ below Qc XC args s mc ms free) g := by
  intro T hT X
  obtain ⟨t, a1, o, b1, b2, b3, b4⟩ := k T hT X
  exact ⟨t, a1, o, b1, b2, Or.inl ⟨b3, b4⟩⟩
/-- not caught here: it goes on to the caller -/
theorem vx_widen {g : JFrame} {q : Addr} {k n : Nat} (h1 : cells ≤ k) (h2 : slots ≤ n) (kk : vx_W p l e R s m args below meth c H locs k n Q g q) : vx_W p l e R s m args below meth c H locs cells slots Q g q := fun T hT X => kk T hT (stand_widen X h1 h2)
theorem vx_out {pc : Nat} {E : String} {ce : Cell} {q : Addr} {mc ms : Nat} (hout : ∀ x ∈ c.exceptionTable.toList, covers x pc = false) (hlocks : meth.locks = false) (hcell : H[q]? = some ce) (hv : ce.vm = .none) (hcl : s.vm.findClass E = some ce.cls)
    (hx : ∀ t : State, t.heap = H → s.vm.Alike t.vm → XC E s t) (hf : ∀ z ∈ locs, free z.base) (hc : cells ≤ mc) (hs : slots ≤ ms) :
    vx_W p l e R s m args below meth c H locs cells slots (vx_MQ below Qc XC args s mc ms free) (F0 m pc ls rest) q := by
  intro T hT X
  obtain ⟨st1, hrun, hend, hW, hsm⟩ := X.leaveThrown q (g := F0 m pc ls rest) rfl rfl rfl hout hlocks
  have hcell9 : (T.setFrames (.throwing q :: below)).heap[q]? = some ce := by
    show T.heap[q]? = some ce
    rw [hT]; exact hcell
  exact ⟨_, st1, .threw q, hrun, hend, Or.inr ⟨q, rfl, E, ce, locs, hx _ hT hW.alike, hcell9, hv, hcl, hW, hsm.mono hc hs, hf⟩⟩
theorem vx_frame {U : State} {k n : Nat} (h : s.sameButNew ({ U with vm := s.vm } : State) locs k n) : s.heap.size ≤ U.heap.size ∧ ∀ q : Nat, q < s.heap.size → (∀ z ∈ locs, z.base ≠ q) → U.heap[q]? = s.heap[q]? := by
  obtain ⟨-, h2, -, -, -, h6⟩ := h
  refine ⟨h2, fun q hq hz => ?_⟩
  obtain ⟨c9, e1, e2, e3, e4⟩ := h6 q _ (Array.getElem?_eq_getElem hq)
  have hs : c9.slots = (s.heap[q]).slots := Array.ext_getElem? fun i => e4 i fun hm => hz _ hm rfl
  have h9 : c9 = s.heap[q] := by
    rw [hs] at e2
    exact e2
  have e5 : U.heap[q]? = some c9 := e1
  rw [e5, h9, Array.getElem?_eq_getElem hq]
/-- the words of a throw but the four that speak of the heap -/
def vx_no (w : Cond) : Bool := decide (w ≠ .isRef (.static Bundle.tN "UNASSIGNED_STACK" Bundle.steD)) && decide (w ≠ .isRef (.static Bundle.tN "SUPPRESSED_SENTINEL" Bundle.listD)) && decide (w ≠ .laysStatic Bundle.tN "UNASSIGNED_STACK" Bundle.steD) && decide (w ≠ .laysStatic Bundle.tN "SUPPRESSED_SENTINEL" Bundle.listD)
def vx_at0 (own : String) (ic : Nat) (X : String) (names : List String) : List Cond := (Bundle.ownAtoms0 own ic X names).filter vx_no
def vx_atS (own : String) (ic : Nat) (X : String) (names : List String) : List Cond := (Bundle.ownAtoms own ic X names).filter vx_no
/-- a word that the tables alone decide, or a good one -/
def vx_ot (w : Cond) : Bool := w.onTables || goodWord w
theorem vx_ot_at {args a' : Array Value} {s U : State} {w : Cond} (hW : s.WarmedH U.vm) (hvm : s.vm = U.vm) (hg : vx_ot w = true) (h : w.before args s = true) : w.before a' U = true := by
  simp only [vx_ot, Bool.or_eq_true] at hg
  rcases hg with hg | hg
  · exact va_tabs hg hvm h
  · exact word_at hW (good_of_word hg) h
/-- a list's words: the good ones out of the method's own list, the others by premises of their own -/
theorem vx_hat {args : Array Value} {s : State} {L B : List Cond} (h1 : ∀ w ∈ L.filter goodWord, w.before args s = true) (h2 : ∀ w ∈ L.filter (fun w => !goodWord w), w ∈ B) (h3 : ∀ w ∈ B, w.before args s = true) : ∀ w ∈ L, w.before args s = true := by
  intro w hw
  by_cases g : goodWord w = true
  · exact h1 w (List.mem_filter.mpr ⟨hw, g⟩)
  · refine h3 w (h2 w (List.mem_filter.mpr ⟨hw, ?_⟩))
    show (!goodWord w) = true
    cases hgw : goodWord w
    · rfl
    · exact absurd hgw g
theorem vx_c {args : Array Value} {s : State} {w : Cond} {B : List Cond} (h : w.before args s = true) (t : ∀ w ∈ B, w.before args s = true) : ∀ w' ∈ w :: B, w'.before args s = true := fun w' h' => (List.mem_cons.mp h').elim (fun e => by rw [e]; exact h) (t w')
theorem vx_n {args : Array Value} {s : State} : ∀ w ∈ ([] : List Cond), w.before args s = true := fun _ h => nomatch h
theorem vx_own {args : Array Value} {s : State} {L : List Cond} (h1 : ∀ w ∈ L.filter vx_no, w.before args s = true)
    (hU : (Cond.isRef (.static Bundle.tN "UNASSIGNED_STACK" Bundle.steD)).before args s = true) (hN : (Cond.isRef (.static Bundle.tN "SUPPRESSED_SENTINEL" Bundle.listD)).before args s = true)
    (lU : (Cond.laysStatic Bundle.tN "UNASSIGNED_STACK" Bundle.steD).before args s = true) (lN : (Cond.laysStatic Bundle.tN "SUPPRESSED_SENTINEL" Bundle.listD).before args s = true) : ∀ w ∈ L, w.before args s = true := by
  intro w hw
  by_cases e1 : w = .isRef (.static Bundle.tN "UNASSIGNED_STACK" Bundle.steD)
  · rw [e1]; exact hU
  · by_cases e2 : w = .isRef (.static Bundle.tN "SUPPRESSED_SENTINEL" Bundle.listD)
    · rw [e2]; exact hN
    · by_cases e3 : w = .laysStatic Bundle.tN "UNASSIGNED_STACK" Bundle.steD
      · rw [e3]; exact lU
      · by_cases e4 : w = .laysStatic Bundle.tN "SUPPRESSED_SENTINEL" Bundle.listD
        · rw [e4]; exact lN
        · exact h1 w (List.mem_filter.mpr ⟨hw, by unfold vx_no; rw [decide_eq_true e1, decide_eq_true e2, decide_eq_true e3, decide_eq_true e4]; rfl⟩)
/-- where a static field lies, its class's statics cell in H -/
def vx_L (C n d : String) (A : Nat → Prop) (U : State) (H : Heap) : Prop := ∃ (c : ClassId) (k : Class) (i : Nat) (f : Field) (a : Nat) (cell : Cell), U.vm.findClass C = some c ∧ U.fieldFound? C n d = some (c, k, i, f) ∧ f.isStatic = true ∧ k.statics = some a ∧ H[a]? = some cell ∧ cell.vm.isStatics = true ∧ cell.cls = c ∧ f.slot < cell.slots.size ∧ k.staticTypes[f.slot]? = some f.type ∧ ¬ A a
theorem vx_L.moved {C n d : String} {A : Nat → Prop} {u U : State} {H : Heap} (hvm : u.vm.Alike U.vm) (h : vx_L C n d A u H) : vx_L C n d A U H := by
  obtain ⟨c, k, i, f, a, cell, h1, h2, h3, h4, h5, h6, h7, h8, h9, h10⟩ := h
  obtain ⟨k', hi', he⟩ := State.fieldFound?_setVm hvm h2
  exact ⟨c, k', i, f, a, cell, by rw [hvm.findClass]; exact h1, hi', h3, by rw [he]; exact h4, h5, h6, h7, h8, by rw [he]; exact h9, h10⟩
theorem vx_L.kept {C n d : String} {A : Nat → Prop} {U : State} {H H1 : Heap} (h : vx_L C n d A U H) (hq : ∀ a : Nat, a < H.size → ¬ A a → H1[a]? = H[a]?) : vx_L C n d A U H1 := by
  obtain ⟨c, k, i, f, a, cell, h1, h2, h3, h4, h5, h6, h7, h8, h9, h10⟩ := h
  exact ⟨c, k, i, f, a, cell, h1, h2, h3, h4, by rw [hq a (Array.getElem?_eq_some_iff.mp h5).1 h10]; exact h5, h6, h7, h8, h9, h10⟩
theorem vx_L.narrow {C n d : String} {A B : Nat → Prop} {U : State} {H : Heap} (h : vx_L C n d A U H) (hAB : ∀ q, B q → A q) : vx_L C n d B U H := by
  obtain ⟨c, k, i, f, a, cell, h1, h2, h3, h4, h5, h6, h7, h8, h9, h10⟩ := h
  exact ⟨c, k, i, f, a, cell, h1, h2, h3, h4, h5, h6, h7, h8, h9, fun z => h10 (hAB _ z)⟩
theorem vx_L.word {C n d : String} {A : Nat → Prop} {s : State} {args : Array Value} (h : vx_L C n d A s s.heap) : (Cond.laysStatic C n d).before args s = true := by
  obtain ⟨c, k, i, f, a, cell, h1, h2, h3, h4, h5, h6, h7, h8, h9, -⟩ := h
  show (Cond.laysStatic C n d).holds args s none s [] = true
  exact Cond.laysStatic_of h1 h2 h3 h4 h5 h6 h7 h8 h9
/-- .. and what it holds: null or some reference -/
def vx_Zq (C n d : String) (A : Nat → Prop) (U : State) (H : Heap) : Prop := va_Zq C n d A U H ∧ vx_L C n d A U H
theorem vx_Zq.moved {C n d : String} {A : Nat → Prop} {u U : State} {H : Heap} (hvm : u.vm.Alike U.vm) (h : vx_Zq C n d A u H) : vx_Zq C n d A U H := ⟨va_Zq.moved hvm h.1, vx_L.moved hvm h.2⟩
theorem vx_Zq.kept {C n d : String} {A : Nat → Prop} {U : State} {H H1 : Heap} (h : vx_Zq C n d A U H) (hq : ∀ a : Nat, a < H.size → ¬ A a → H1[a]? = H[a]?) : vx_Zq C n d A U H1 := ⟨va_Zq.kept h.1 hq, vx_L.kept h.2 hq⟩
theorem vx_Zq.narrow {C n d : String} {A B : Nat → Prop} {U : State} {H : Heap} (h : vx_Zq C n d A U H) (hAB : ∀ q, B q → A q) : vx_Zq C n d B U H := ⟨va_Zq.narrow h.1 hAB, vx_L.narrow h.2 hAB⟩
theorem vx_Zqof {args : Array Value} {s : State} {C n d : String} {A : Nat → Prop} (hl : (Cond.laysStatic C n d).before args s = true) (hini : (Cond.initialized C).before args s = true) (h : (Cond.isRef (.static C n d)).before args s = true) (hA : ∀ a : Nat, a < s.heap.size → ¬ A a) : vx_Zq C n d A s s.heap := by
  refine ⟨va_Zqof hl hini h hA, ?_⟩
  obtain ⟨c, k, i, f, a, cell, h1, h2, h3, h4, h5, h6, h7, h8, h9⟩ := Cond.laysStatic_spec hl
  exact ⟨c, k, i, f, a, cell, h1, h2, h3, h4, h5, h6, h7, h8, h9, hA a (Array.getElem?_eq_some_iff.mp h5).1⟩
theorem vx_isRef {C n d : String} {v : Value} {A : Nat → Prop} {s : State} {args : Array Value} (h : va_Z C n d v A s s.heap) (hv : v.isRef = true) : (Cond.isRef (.static C n d)).before args s = true := by
  obtain ⟨cf, kf, fi, f, a, cell, h1, h2, h3, h4, h5, h6, h7, -⟩ := h
  have he : (Term.static C n d).eval args s none [] s = some v := by
    simp [Term.eval, State.fieldNamed?, h1, h2, h4, h5, h6, h7]
  simp only [Cond.before, Cond.holds, Cond.value, he]
  cases v <;> simp_all [Value.isRef]
theorem vx_isRefq {C n d : String} {A : Nat → Prop} {s : State} {args : Array Value} (h : va_Zq C n d A s s.heap) : (Cond.isRef (.static C n d)).before args s = true := by
  rcases h with h | ⟨t, h⟩
  · exact vx_isRef h rfl
  · exact vx_isRef h rfl
/-- the same frame, seen from here: as if the method were called anew in this heap -/
theorem vx_rebase {T : State} (X : Stand p l e R s m args below meth c T locs cells slots) {R' : Room} (hf : R'.frames ≤ R.frames) (hl : R'.locals ≤ R.locals) (hc : cells + R'.cells ≤ R.cells) (hs : slots + R'.slots ≤ R.slots) :
    Stand p l e R' ((T.setVm s.vm).setFrames (.invoking m args :: below)) m args below meth c T [] 0 0 := by
  have htop : (T.setVm s.vm).topJava?.isSome := X.here.top
  have hF : ((T.setVm s.vm).setFrames (.invoking m args :: below)).frames = .invoking m args :: below := State.frames_setFrames _ (State.cur_lt_of_top htop)
  obtain ⟨g₀, hg0⟩ := Option.isSome_iff_exists.mp htop
  obtain ⟨r, hr⟩ := State.topJava?_eq_some.mp hg0
  have hl9 : e.platform.stackLimits (T.setVm s.vm).me = e.platform.stackLimits s.me := X.limits
  have hb9 : (T.setVm s.vm).me.stackBytes = s.me.stackBytes := X.bytes
  refine ⟨X.admits, X.cas, X.clock, hF, ?_, X.hears, X.method, X.code, X.here, X.tail, X.warmed, ?_, ?_, ?_⟩
  · have h := X.room
    have hU : ((T.setVm s.vm).setFrames (.invoking m args :: below)).localsInUse = s.localsInUse := by
      rw [State.localsInUse_invoking hF (meth := meth) (c := c) X.method X.code, State.localsInUse_invoking X.frames X.method X.code]
    simp only [State.hasRoom, Bool.and_eq_true, decide_eq_true_eq] at h ⊢
    obtain ⟨⟨⟨⟨h1, h2, h3, h4, h5, h6⟩, h7⟩, h8⟩, h9⟩ := h
    rw [X.frames, List.length_cons] at h2 h3
    have q1 := X.heapSize
    have q2 := X.used
    simp only [hF, hU, List.length_cons, State.stackLimits_setFrames, State.stackBytes_setFrames, hl9, hb9]
    refine ⟨⟨⟨⟨by omega, by omega, by omega, by omega, by omega, h6⟩, ?_⟩, ?_⟩, X.book⟩
    · show T.heap.size + R'.cells ≤ e.platform.maxCells
      omega
    · show T.slotsUsed + R'.slots ≤ e.platform.maxSlots
      omega
  · rw [State.stackLimits_setFrames]; rfl
  · rw [State.stackBytes_setFrames]; rfl
  · refine ⟨?_, Nat.le_refl _, Nat.le_refl _, ?_, ?_, fun a c9 h9 => ⟨c9, h9, rfl, rfl, fun _ _ => rfl⟩⟩
    · obtain ⟨t, ht, -⟩ := State.frames_cons hr
      show T.setVm s.vm = { ((T.setVm s.vm).setFrames (.invoking m args :: below)).setFrames (T.setVm s.vm).frames with heap := T.heap, slotsUsed := T.slotsUsed }
      rw [State.setFrames_setFrames, State.setFrames_self ht]
      rfl
    · show T.slotsUsed = T.slotsUsed + ((T.heap.toList.drop T.heap.size).map (·.slots.size)).sum
      rw [List.drop_eq_nil_of_le (Nat.le_of_eq Array.length_toList)]
      rfl
    · show ((T.heap.toList.drop T.heap.size).map (·.slots.size)).sum ≤ 0
      rw [List.drop_eq_nil_of_le (Nat.le_of_eq Array.length_toList)]
      exact Nat.le_refl _
/-- 'throw new E()': new; dup; invokespecial; athrow -/
theorem vx_throw0 {cc : ByteArray} {pc : Nat} (hexec : p.tables.exec = Jvm.exec) (hb : c.code = cc) (hl : l.stackTraces = false) {own cls : String} {names : List String} {ik ic mc ms : Nat} {A : Nat → Prop}
    (hown : s.vm.findClass own = some m.cls) (hcls : Bundle.fit cls = true) (hnames : ∀ n ∈ names, Bundle.fit n = true)
    (hk : (Cond.classLink own ik cls).before args s = true) (hini : (Cond.initialized cls).before args s = true) (hat : ∀ w ∈ vx_at0 own ic cls names, w.before args s = true)
    (hgood : ∀ w ∈ Cond.classLink own ik cls :: Cond.initialized cls :: vx_at0 own ic cls names, vx_ot w = true)
    (hU : vx_Zq Bundle.tN "UNASSIGNED_STACK" Bundle.steD A s s.heap) (hN : vx_Zq Bundle.tN "SUPPRESSED_SENTINEL" Bundle.listD A s s.heap) (hS : va_S A s.heap H locs) (hsize : ls.size = c.maxLocals)
    (d0 : decode cc pc = .ok (.new ik, 3)) (d3 : decode cc (pc + 3) = .ok (.dup, 1)) (d4 : decode cc (pc + 4) = .ok (.invokespecial ic, 3)) (d7 : decode cc (pc + 7) = .ok (.athrow, 1))
    (hout : ∀ x ∈ c.exceptionTable.toList, covers x (pc + 7) = false)
    (hRframes : names.length + 3 < R.frames) (hRlocals : (rest.map fun v => v.category).sum + (13 * (names.length + 1) + 42) ≤ R.locals) (hRcells : cells + 1 ≤ R.cells) (hRslots : slots + 6 ≤ R.slots) (hlocks : meth.locks = false)
    (hx : ∀ t : State, s.vm.Alike t.vm → H.size ≤ t.heap.size → (∀ q : Nat, q < H.size → t.heap[q]? = H[q]?) → XC cls s t)
    (hf : ∀ z ∈ locs, free z.base) (hc : cells + 1 ≤ mc) (hs : slots + 6 ≤ ms) :
    W p l e R s m args below meth c H locs cells slots (vx_MQ below Qc XC args s mc ms free) (F0 m pc ls rest) := by
  intro T hT X
  have htr : e.platform.stackTraces = false := (show e.platform.stackTraces = l.stackTraces by rw [X.admits.platform]).trans hl
  have Y := vx_rebase X (R' := { frames := R.frames, locals := R.locals, cells := 1, slots := 6 }) (Nat.le_refl _) (Nat.le_refl _) hRcells hRslots
  obtain ⟨s', hA⟩ : ∃ z, z = (T.setVm s.vm).setFrames (.invoking m args :: below) := ⟨_, rfl⟩
  rw [← hA] at Y
  have hvm : s'.vm = s.vm := by rw [hA]; rfl
  have hhp : s'.heap = H := by rw [hA]; exact hT
  have hW0 : s.WarmedH s'.vm := by rw [hvm]; exact State.WarmedH.refl s
  have hat' : ∀ w ∈ vx_at0 own ic cls names, w.before args s' = true := fun w hw => vx_ot_at hW0 hvm.symm (hgood w (List.mem_cons_of_mem _ (List.mem_cons_of_mem _ hw))) (hat w hw)
  have hk' : (Cond.classLink own ik cls).before args s' = true := vx_ot_at hW0 hvm.symm (hgood _ List.mem_cons_self) hk
  have hini' : (Cond.initialized cls).before args s' = true := vx_ot_at hW0 hvm.symm (hgood _ (List.mem_cons_of_mem _ List.mem_cons_self)) hini
  have hU' : vx_Zq Bundle.tN "UNASSIGNED_STACK" Bundle.steD A s' s'.heap := by rw [hhp]; exact vx_Zq.moved hW0.alike (hU.kept hS.2.1)
  have hN' : vx_Zq Bundle.tN "SUPPRESSED_SENTINEL" Bundle.listD A s' s'.heap := by rw [hhp]; exact vx_Zq.moved hW0.alike (hN.kept hS.2.1)
  have h : ∀ w ∈ Bundle.ownAtoms0 own ic cls names, w.before args s' = true := vx_own hat' (vx_isRefq hU'.1) (vx_isRefq hN'.1) hU'.2.word hN'.2.word
  have hown' : s'.vm.findClass own = some m.cls := by rw [hvm]; exact hown
  have hins : (Cond.instantiable cls 6).before args s' = true := h _ (by simp [Bundle.ownAtoms0])
  obtain ⟨vm₁, cX, kX, hfX, hkX, -, -, X₁, st1⟩ := Y.newCold hexec (own := own) (C := cls) (index := ik) (n := 6) hown' hk' hins hini'
    (g := F0 m pc ls rest) rfl (by rw [hb]; exact d0) (Nat.le_refl _) (Nat.le_refl _)
  generalize hT1 : (T.setVm vm₁).pushCell { cls := cX, slots := kX.instanceTypes.map defaultValue, vm := .none } = T1 at X₁ st1
  have hcat : (Value.ref T.heap.size).category = 1 := rfl
  have hcellA : T1.heap[T.heap.size]? = some (freshCell cX kX) := by rw [← hT1]; exact State.heap_pushCell_size _ _
  have d3' : decode c.code (pc + 3) = .ok (.dup, 1) := by rw [hb]; exact d3
  obtain ⟨U, hsteps, hrun, hend, hW, hsame, ce, hce, hO⟩ := X₁.ctorThrow0 hexec htr (own := own) (cls := cls) (names := names) (ic := ic) hown' hcls hnames h (fun x hx => nomatch hx) hfX hkX hcellA (by rw [hhp, hT]; exact Nat.le_refl _)
    (g := { method := m, pc := pc + 4, locals := ls, stack := .ref T.heap.size :: .ref T.heap.size :: rest, locked := none }) rfl hsize rfl rfl (rest := rest) rfl
    (by rw [hb]; exact d4) (by rw [hb]; exact d7) hout hRframes (by simp only [List.map_cons, List.sum_cons, hcat]; omega) hlocks
  obtain ⟨f1, f2⟩ := vx_frame hsame
  rw [hhp] at f1 f2
  have hWs : s.WarmedH U.vm := State.WarmedH.trans hW0 hW
  have hcl : s.vm.findClass cls = some ce.cls := by
    have h9 := hO.cls
    rw [hvm] at h9
    exact h9
  have hall : s.sameButNew ({ U with vm := s.vm } : State) locs mc ms := by
    subst hA
    obtain ⟨e1, e2⟩ := hsame
    rw [State.setFrames_setFrames] at e1
    have h2 : (T.setVm s.vm).sameButNew ({ U with vm := s.vm } : State) [] (0 + 1) (0 + 6) := ⟨e1, e2⟩
    have h3 := X.same.trans h2
    rw [List.append_nil] at h3
    exact h3.mono hc hs
  refine ⟨U, ?_, .threw T.heap.size, hrun, hend, Or.inr ⟨T.heap.size, rfl, cls, ce, locs, hx U hWs.alike f1 (fun q hq => f2 q hq (fun z hz => nomatch hz)), hce, hO.vm, hcl, hWs, hall, hf⟩⟩
  refine st1 _ ?_
  show Steps p.tables e below (T1.setTop { method := m, pc := pc + 3, locals := ls, stack := .ref T.heap.size :: rest, locked := none }) _
  jvm_step X₁.here [X₁.here.top, hexec, d3', Value.category]
  exact hsteps
/-- 'throw new E("text")': new; dup; ldc; invokespecial; athrow -/
theorem vx_throwS {cc : ByteArray} {pc : Nat} (hexec : p.tables.exec = Jvm.exec) (hb : c.code = cc) (hl : l.stackTraces = false) {own cls text : String} {names : List String} {ik is ic mc ms sa : Nat} {A : Nat → Prop}
    (hown : s.vm.findClass own = some m.cls) (hcls : Bundle.fit cls = true) (hnames : ∀ n ∈ names, Bundle.fit n = true)
    (hk : (Cond.classLink own ik cls).before args s = true) (hini : (Cond.initialized cls).before args s = true) (hstr : vk_R own is text sa s) (hat : ∀ w ∈ vx_atS own ic cls names, w.before args s = true)
    (hgood : ∀ w ∈ Cond.classLink own ik cls :: Cond.initialized cls :: vx_atS own ic cls names, vx_ot w = true)
    (hU : vx_Zq Bundle.tN "UNASSIGNED_STACK" Bundle.steD A s s.heap) (hN : vx_Zq Bundle.tN "SUPPRESSED_SENTINEL" Bundle.listD A s s.heap) (hS : va_S A s.heap H locs) (hsize : ls.size = c.maxLocals)
    (d0 : decode cc pc = .ok (.new ik, 3)) (d3 : decode cc (pc + 3) = .ok (.dup, 1)) (d4 : decode cc (pc + 4) = .ok (.ldc is, 2)) (d6 : decode cc (pc + 6) = .ok (.invokespecial ic, 3)) (d9 : decode cc (pc + 9) = .ok (.athrow, 1))
    (hout : ∀ x ∈ c.exceptionTable.toList, covers x (pc + 9) = false)
    (hRframes : names.length + 3 < R.frames) (hRlocals : (rest.map fun v => v.category).sum + (13 * (names.length + 1) + 43) ≤ R.locals) (hRcells : cells + 1 ≤ R.cells) (hRslots : slots + 6 ≤ R.slots) (hlocks : meth.locks = false)
    (hx : ∀ t : State, s.vm.Alike t.vm → H.size ≤ t.heap.size → (∀ q : Nat, q < H.size → t.heap[q]? = H[q]?) → XC cls s t)
    (hf : ∀ z ∈ locs, free z.base) (hc : cells + 1 ≤ mc) (hs : slots + 6 ≤ ms) :
    W p l e R s m args below meth c H locs cells slots (vx_MQ below Qc XC args s mc ms free) (F0 m pc ls rest) := by
  intro T hT X
  have htr : e.platform.stackTraces = false := (show e.platform.stackTraces = l.stackTraces by rw [X.admits.platform]).trans hl
  have Y := vx_rebase X (R' := { frames := R.frames, locals := R.locals, cells := 1, slots := 6 }) (Nat.le_refl _) (Nat.le_refl _) hRcells hRslots
  obtain ⟨s', hA⟩ : ∃ z, z = (T.setVm s.vm).setFrames (.invoking m args :: below) := ⟨_, rfl⟩
  rw [← hA] at Y
  have hvm : s'.vm = s.vm := by rw [hA]; rfl
  have hhp : s'.heap = H := by rw [hA]; exact hT
  have hW0 : s.WarmedH s'.vm := by rw [hvm]; exact State.WarmedH.refl s
  have hat' : ∀ w ∈ vx_atS own ic cls names, w.before args s' = true := fun w hw => vx_ot_at hW0 hvm.symm (hgood w (List.mem_cons_of_mem _ (List.mem_cons_of_mem _ hw))) (hat w hw)
  have hk' : (Cond.classLink own ik cls).before args s' = true := vx_ot_at hW0 hvm.symm (hgood _ List.mem_cons_self) hk
  have hini' : (Cond.initialized cls).before args s' = true := vx_ot_at hW0 hvm.symm (hgood _ (List.mem_cons_of_mem _ List.mem_cons_self)) hini
  have hU' : vx_Zq Bundle.tN "UNASSIGNED_STACK" Bundle.steD A s' s'.heap := by rw [hhp]; exact vx_Zq.moved hW0.alike (hU.kept hS.2.1)
  have hN' : vx_Zq Bundle.tN "SUPPRESSED_SENTINEL" Bundle.listD A s' s'.heap := by rw [hhp]; exact vx_Zq.moved hW0.alike (hN.kept hS.2.1)
  have h : ∀ w ∈ Bundle.ownAtoms own ic cls names, w.before args s' = true := vx_own hat' (vx_isRefq hU'.1) (vx_isRefq hN'.1) hU'.2.word hN'.2.word
  have hown' : s'.vm.findClass own = some m.cls := by rw [hvm]; exact hown
  have hins : (Cond.instantiable cls 6).before args s' = true := h _ (by simp [Bundle.ownAtoms])
  obtain ⟨vm₁, cX, kX, hfX, hkX, -, -, X₁, st1⟩ := Y.newCold hexec (own := own) (C := cls) (index := ik) (n := 6) hown' hk' hins hini'
    (g := F0 m pc ls rest) rfl (by rw [hb]; exact d0) (Nat.le_refl _) (Nat.le_refl _)
  generalize hT1 : (T.setVm vm₁).pushCell { cls := cX, slots := kX.instanceTypes.map defaultValue, vm := .none } = T1 at X₁ st1
  have hcat : (Value.ref T.heap.size).category = 1 := rfl
  have hcellA : T1.heap[T.heap.size]? = some (freshCell cX kX) := by rw [← hT1]; exact State.heap_pushCell_size _ _
  have d3' : decode c.code (pc + 3) = .ok (.dup, 1) := by rw [hb]; exact d3
  have d4' : decode c.code (pc + 4) = .ok (.ldc is, 2) := by rw [hb]; exact d4
  have hstr' : vk_R own is text sa s' := vk_R.warm hW0 hstr
  obtain ⟨U, hsteps, hrun, hend, hW, hsame, ce, hce, hO⟩ := X₁.ctorThrowS hexec htr (own := own) (cls := cls) (names := names) (ic := ic) hown' hcls hnames h (fun x hx => nomatch hx) hfX hkX hcellA (by rw [hhp, hT]; exact Nat.le_refl _) (msg := .ref sa) rfl
    (g := { method := m, pc := pc + 6, locals := ls, stack := .ref sa :: .ref T.heap.size :: .ref T.heap.size :: rest, locked := none }) rfl hsize rfl rfl (rest := rest) rfl
    (by rw [hb]; exact d6) (by rw [hb]; exact d9) hout hRframes (by simp only [List.map_cons, List.sum_cons, hcat]; omega) hlocks
  obtain ⟨f1, f2⟩ := vx_frame hsame
  rw [hhp] at f1 f2
  have hWs : s.WarmedH U.vm := State.WarmedH.trans hW0 hW
  have hcl : s.vm.findClass cls = some ce.cls := by
    have h9 := hO.cls
    rw [hvm] at h9
    exact h9
  have hall : s.sameButNew ({ U with vm := s.vm } : State) locs mc ms := by
    subst hA
    obtain ⟨e1, e2⟩ := hsame
    rw [State.setFrames_setFrames] at e1
    have h2 : (T.setVm s.vm).sameButNew ({ U with vm := s.vm } : State) [] (0 + 1) (0 + 6) := ⟨e1, e2⟩
    have h3 := X.same.trans h2
    rw [List.append_nil] at h3
    exact h3.mono hc hs
  refine ⟨U, ?_, .threw T.heap.size, hrun, hend, Or.inr ⟨T.heap.size, rfl, cls, ce, locs, hx U hWs.alike f1 (fun q hq => f2 q hq (fun z hz => nomatch hz)), hce, hO.vm, hcl, hWs, hall, hf⟩⟩
  refine st1 _ ?_
  show Steps p.tables e below (T1.setTop { method := m, pc := pc + 3, locals := ls, stack := .ref T.heap.size :: rest, locked := none }) _
  jvm_step X₁.here [X₁.here.top, hexec, d3', Value.category]
  exact X₁.ldcString hexec (own := own) (text := text) (index := is) (a := sa) hown' hstr'.1 hstr'.2
    (g := { method := m, pc := pc + 4, locals := ls, stack := .ref T.heap.size :: .ref T.heap.size :: rest, locked := none }) rfl d4' _ hsteps
/-- 'throw new E("text")', the text by a wide index -/
theorem vx_throwSW {cc : ByteArray} {pc : Nat} (hexec : p.tables.exec = Jvm.exec) (hb : c.code = cc) (hl : l.stackTraces = false) {own cls text : String} {names : List String} {ik is ic mc ms sa : Nat} {A : Nat → Prop}
    (hown : s.vm.findClass own = some m.cls) (hcls : Bundle.fit cls = true) (hnames : ∀ n ∈ names, Bundle.fit n = true)
    (hk : (Cond.classLink own ik cls).before args s = true) (hini : (Cond.initialized cls).before args s = true) (hstr : vk_R own is text sa s) (hat : ∀ w ∈ vx_atS own ic cls names, w.before args s = true)
    (hgood : ∀ w ∈ Cond.classLink own ik cls :: Cond.initialized cls :: vx_atS own ic cls names, vx_ot w = true)
    (hU : vx_Zq Bundle.tN "UNASSIGNED_STACK" Bundle.steD A s s.heap) (hN : vx_Zq Bundle.tN "SUPPRESSED_SENTINEL" Bundle.listD A s s.heap) (hS : va_S A s.heap H locs) (hsize : ls.size = c.maxLocals)
    (d0 : decode cc pc = .ok (.new ik, 3)) (d3 : decode cc (pc + 3) = .ok (.dup, 1)) (d4 : decode cc (pc + 4) = .ok (.ldc_w is, 3)) (d7 : decode cc (pc + 7) = .ok (.invokespecial ic, 3)) (d10 : decode cc (pc + 10) = .ok (.athrow, 1))
    (hout : ∀ x ∈ c.exceptionTable.toList, covers x (pc + 10) = false)
    (hRframes : names.length + 3 < R.frames) (hRlocals : (rest.map fun v => v.category).sum + (13 * (names.length + 1) + 43) ≤ R.locals) (hRcells : cells + 1 ≤ R.cells) (hRslots : slots + 6 ≤ R.slots) (hlocks : meth.locks = false)
    (hx : ∀ t : State, s.vm.Alike t.vm → H.size ≤ t.heap.size → (∀ q : Nat, q < H.size → t.heap[q]? = H[q]?) → XC cls s t)
    (hf : ∀ z ∈ locs, free z.base) (hc : cells + 1 ≤ mc) (hs : slots + 6 ≤ ms) :
    W p l e R s m args below meth c H locs cells slots (vx_MQ below Qc XC args s mc ms free) (F0 m pc ls rest) := by
  intro T hT X
  have htr : e.platform.stackTraces = false := (show e.platform.stackTraces = l.stackTraces by rw [X.admits.platform]).trans hl
  have Y := vx_rebase X (R' := { frames := R.frames, locals := R.locals, cells := 1, slots := 6 }) (Nat.le_refl _) (Nat.le_refl _) hRcells hRslots
  obtain ⟨s', hA⟩ : ∃ z, z = (T.setVm s.vm).setFrames (.invoking m args :: below) := ⟨_, rfl⟩
  rw [← hA] at Y
  have hvm : s'.vm = s.vm := by rw [hA]; rfl
  have hhp : s'.heap = H := by rw [hA]; exact hT
  have hW0 : s.WarmedH s'.vm := by rw [hvm]; exact State.WarmedH.refl s
  have hat' : ∀ w ∈ vx_atS own ic cls names, w.before args s' = true := fun w hw => vx_ot_at hW0 hvm.symm (hgood w (List.mem_cons_of_mem _ (List.mem_cons_of_mem _ hw))) (hat w hw)
  have hk' : (Cond.classLink own ik cls).before args s' = true := vx_ot_at hW0 hvm.symm (hgood _ List.mem_cons_self) hk
  have hini' : (Cond.initialized cls).before args s' = true := vx_ot_at hW0 hvm.symm (hgood _ (List.mem_cons_of_mem _ List.mem_cons_self)) hini
  have hU' : vx_Zq Bundle.tN "UNASSIGNED_STACK" Bundle.steD A s' s'.heap := by rw [hhp]; exact vx_Zq.moved hW0.alike (hU.kept hS.2.1)
  have hN' : vx_Zq Bundle.tN "SUPPRESSED_SENTINEL" Bundle.listD A s' s'.heap := by rw [hhp]; exact vx_Zq.moved hW0.alike (hN.kept hS.2.1)
  have h : ∀ w ∈ Bundle.ownAtoms own ic cls names, w.before args s' = true := vx_own hat' (vx_isRefq hU'.1) (vx_isRefq hN'.1) hU'.2.word hN'.2.word
  have hown' : s'.vm.findClass own = some m.cls := by rw [hvm]; exact hown
  have hins : (Cond.instantiable cls 6).before args s' = true := h _ (by simp [Bundle.ownAtoms])
  obtain ⟨vm₁, cX, kX, hfX, hkX, -, -, X₁, st1⟩ := Y.newCold hexec (own := own) (C := cls) (index := ik) (n := 6) hown' hk' hins hini'
    (g := F0 m pc ls rest) rfl (by rw [hb]; exact d0) (Nat.le_refl _) (Nat.le_refl _)
  generalize hT1 : (T.setVm vm₁).pushCell { cls := cX, slots := kX.instanceTypes.map defaultValue, vm := .none } = T1 at X₁ st1
  have hcat : (Value.ref T.heap.size).category = 1 := rfl
  have hcellA : T1.heap[T.heap.size]? = some (freshCell cX kX) := by rw [← hT1]; exact State.heap_pushCell_size _ _
  have d3' : decode c.code (pc + 3) = .ok (.dup, 1) := by rw [hb]; exact d3
  have d4' : decode c.code (pc + 4) = .ok (.ldc_w is, 3) := by rw [hb]; exact d4
  have hstr' : vk_R own is text sa s' := vk_R.warm hW0 hstr
  obtain ⟨U, hsteps, hrun, hend, hW, hsame, ce, hce, hO⟩ := X₁.ctorThrowS hexec htr (own := own) (cls := cls) (names := names) (ic := ic) hown' hcls hnames h (fun x hx => nomatch hx) hfX hkX hcellA (by rw [hhp, hT]; exact Nat.le_refl _) (msg := .ref sa) rfl
    (g := { method := m, pc := pc + 7, locals := ls, stack := .ref sa :: .ref T.heap.size :: .ref T.heap.size :: rest, locked := none }) rfl hsize rfl rfl (rest := rest) rfl
    (by rw [hb]; exact d7) (by rw [hb]; exact d10) hout hRframes (by simp only [List.map_cons, List.sum_cons, hcat]; omega) hlocks
  obtain ⟨f1, f2⟩ := vx_frame hsame
  rw [hhp] at f1 f2
  have hWs : s.WarmedH U.vm := State.WarmedH.trans hW0 hW
  have hcl : s.vm.findClass cls = some ce.cls := by
    have h9 := hO.cls
    rw [hvm] at h9
    exact h9
  have hall : s.sameButNew ({ U with vm := s.vm } : State) locs mc ms := by
    subst hA
    obtain ⟨e1, e2⟩ := hsame
    rw [State.setFrames_setFrames] at e1
    have h2 : (T.setVm s.vm).sameButNew ({ U with vm := s.vm } : State) [] (0 + 1) (0 + 6) := ⟨e1, e2⟩
    have h3 := X.same.trans h2
    rw [List.append_nil] at h3
    exact h3.mono hc hs
  refine ⟨U, ?_, .threw T.heap.size, hrun, hend, Or.inr ⟨T.heap.size, rfl, cls, ce, locs, hx U hWs.alike f1 (fun q hq => f2 q hq (fun z hz => nomatch hz)), hce, hO.vm, hcl, hWs, hall, hf⟩⟩
  refine st1 _ ?_
  show Steps p.tables e below (T1.setTop { method := m, pc := pc + 3, locals := ls, stack := .ref T.heap.size :: rest, locked := none }) _
  jvm_step X₁.here [X₁.here.top, hexec, d3', Value.category]
  exact X₁.ldcStringW hexec (own := own) (text := text) (index := is) (a := sa) hown' hstr'.1 hstr'.2
    (g := { method := m, pc := pc + 4, locals := ls, stack := .ref T.heap.size :: .ref T.heap.size :: rest, locked := none }) rfl d4' _ hsteps
end Ends
section Bodies
variable {l : Launch}
theorem vx_ofW {y : MethodName} {ws ws' : List Cond} {rm : Room} {Pc : Array Value → State → Prop} {Qc : Array Value → State → Outcome → State → Prop} {XC : String → State → State → Prop} {mc ms : Nat} {free : Addr → Prop} {cc : ByteArray} {maxL : Nat} {ret : Option FieldType}
    (hy : plainName y.cls = true) (hw : ws = Cond.code y cc maxL ret :: ws')
    (body : ∀ p e s m args below meth c s₁, BodyLoose p l y (headSpec ws rm) cc maxL ret e s m args below meth c s₁ → c.maxLocals = maxL → (∀ x ∈ c.exceptionTable.toList, False) → Pc args s →
      W p l e (headSpec ws rm).room s m args below meth c s.heap [] 0 0 (vx_MQ below Qc XC args s mc ms free) (entryFrame m args maxL)) : vx_Met l y ws rm Pc Qc XC mc ms free := by
  refine MetFree.of_bodyS (code := cc) (maxLocals := maxL) (ret := ret) hy ?_ ?_
  · intro args s m h hn
    obtain ⟨meth, c, h1, h2, h3, h4, h5, h6, -, -⟩ := Cond.code_spec hn (atoms_spec (ws := ws) h _ (by rw [hw]; exact List.mem_cons_self))
    exact ⟨meth, c, h1, h2, h3, h4, h5, h6⟩
  · intro p e s m args below meth c s₁ B hml hP _
    have hh0 : s₁.heap = s.heap := by rw [B.state]; rfl
    have ht : ∀ x ∈ c.exceptionTable.toList, False := by
      obtain ⟨meth9, c9, h1, h2, -, -, -, -, h7, -⟩ := Cond.code_spec B.named (atoms_spec (ws := ws) B.pre _ (by rw [hw]; exact List.mem_cons_self))
      cases Option.some.inj (h1.symm.trans B.method)
      cases Option.some.inj (h2.symm.trans (Stand.of_body B).code)
      intro x hx
      rw [Array.isEmpty_iff.mp h7] at hx
      cases hx
    obtain ⟨t, a1, o, b1, b2, b3⟩ := body p e s m args below meth c s₁ B hml ht hP s₁ hh0 (Stand.of_body B)
    exact ⟨t, o, a1, b1, b2, b3⟩
/-- the table of a body with handlers -/
theorem vx_table {p : Program} {x y : MethodName} {S : Spec} {cc bytes : ByteArray} {maxL maxL' : Nat} {ret ret' : Option FieldType} {e : Env} {s s₁ : State} {m : MethodId} {args : Array Value} {below : List Frame} {meth : Method} {c : Code} {hh : List (Nat × Nat × Nat × Nat)}
    (B : BodyLoose p l y S cc maxL ret e s m args below meth c s₁) (h : (Cond.codeWith y bytes maxL' ret' hh).before args s = true) : c.exceptionTable.toList = tableOf hh := by
  obtain ⟨m9, meth9, c9, hn9, h1, h2, -, -, h6, -⟩ := Cond.codeWith_spec h
  cases Option.some.inj (hn9.symm.trans B.named)
  cases Option.some.inj (h1.symm.trans B.method)
  cases Option.some.inj (h2.symm.trans (Stand.of_body B).code)
  rw [← h6, table_eq]
end Bodies
end VXA
/-! ===== END ===== -/
/-! ===== BEGIN a static call of a method with an exception table ===== -/
section VXS
variable {p : Program} {l : Launch} {e : Env} {R : Room} {s : State} {m : MethodId} {args : Array Value} {below : List Frame} {meth : Method} {c : Code} {T : State} {H : Heap} {locs : List Loc} {cells slots : Nat}
abbrev vx_CSW (R : Room) (s : State) (args : Array Value) (own : String) (index : Nat) (y : MethodName) (bytes : ByteArray) (maxL : Nat) (ret : Option FieldType) (hh : List (Nat × Nat × Nat × Nat)) (ws : List Cond) (rm : Room) (mc ms n : Nat) : Prop :=
  (rm.cells = mc ∧ rm.slots = ms ∧ rm.frames + 1 ≤ R.frames ∧ 8 + (maxL + 11) + rm.locals ≤ R.locals ∧ (∀ w ∈ ws, ∀ (a' : Array Value) (U : State), s.WarmedH U.vm → w.before a' U = true) ∧ Cond.codeWith y bytes maxL ret hh ∈ ws) ∧
  (Cond.codeWith y bytes maxL ret hh).before args s = true ∧ (Cond.initialized y.cls).before args s = true ∧ (y.cls ≠ "java/lang/invoke/MethodHandle" ∧ y.cls ≠ "java/lang/invoke/VarHandle") ∧
  (∀ sig, parseMethodDescriptor y.desc = some sig → n = sig.parameters.length) ∧ (Cond.methodLink own index y).before args s = true ∧ (Cond.static y).before args s = true
theorem vx_cwSW {own : String} {index maxL mc ms : Nat} {y : MethodName} {bytes : ByteArray} {ret : Option FieldType} {hh : List (Nat × Nat × Nat × Nat)} {Ts ws ws' : List Cond} {rm : Room} (n : Nat) (ht : ∀ w ∈ Ts, w.before args s = true) (hT : GoodIn Ts (va_wsS own index y ws)) (hw : ws = Cond.codeWith y bytes maxL ret hh :: ws') (hrc : rm.cells = mc) (hrs : rm.slots = ms)
    (hd : y.cls ≠ "java/lang/invoke/MethodHandle" ∧ y.cls ≠ "java/lang/invoke/VarHandle" ∧ (parseMethodDescriptor y.desc).map (fun d => d.parameters.length) = some n) (hR : rm.frames + 1 ≤ R.frames ∧ 8 + (maxL + 11) + rm.locals ≤ R.locals) :
    vx_CSW R s args own index y bytes maxL ret hh ws rm mc ms n := by
  have ok : ∀ w ∈ va_wsS own index y ws, w.before args s = true := fun w h => ht w (hT w h).1
  have hG : GoodIn Ts ws := fun w h => hT w (by unfold va_wsS; exact List.mem_append_right _ h)
  have hc : Cond.codeWith y bytes maxL ret hh ∈ ws := by rw [hw]; exact List.mem_cons_self
  refine ⟨⟨hrc, hrs, hR.1, hR.2, pay_in ht hG, hc⟩, ht _ (hG _ hc).1, ok _ (by simp [va_wsS]), ⟨hd.1, hd.2.1⟩, fun sig h => ?_, ok _ (by simp [va_wsS]), ok _ (by simp [va_wsS])⟩
  have h2 := hd.2.2
  rw [h] at h2
  exact (Option.some.inj h2).symm
theorem vx_callSW (X : Stand p l e R s m args below meth c T locs cells slots) (hexec : p.tables.exec = Jvm.exec) {own : String} {index : Nat} {y : MethodName} {bytes : ByteArray} {maxL : Nat} {ret : Option FieldType} {hh : List (Nat × Nat × Nat × Nat)}
    (hown : s.vm.findClass own = some m.cls) (hlink : (Cond.methodLink own index y).before args s = true) (hstat : (Cond.static y).before args s = true) (hinit : (Cond.initialized y.cls).before args s = true)
    (hcode : (Cond.codeWith y bytes maxL ret hh).before args s = true) (hy : y.cls ≠ "java/lang/invoke/MethodHandle" ∧ y.cls ≠ "java/lang/invoke/VarHandle")
    {W9 : Nat} {Pre : Pt → Array Value → Prop} {Post : Pt → Array Value → Option Value → Pt → Prop} (hK : Back l R p e below s args y 3 W9 Pre Post)
    {g : JFrame} (hg : g.method = m) (hsize : g.locals.size = c.maxLocals) {argsL rest : List Value} (hlen : ∀ sig, parseMethodDescriptor y.desc = some sig → argsL.length = sig.parameters.length)
    (hstack : g.stack = argsL.reverse ++ rest) (hW : 2 * g.monitorRoom + (rest.map fun v => v.category).sum ≤ W9) (hdg : decode c.code g.pc = .ok (.invokestatic index, 3))
    (hpre : ∀ vm₁, s.WarmedH vm₁ → Pre ⟨T.setVm vm₁, locs, cells, slots⟩ argsL.toArray) :
    ∃ (v : Option Value) (vm₁ : Vm) (B : Pt), s.WarmedH vm₁ ∧ Stand p l e R s m args below meth c B.U B.locs B.cells B.slots ∧ Post ⟨T.setVm vm₁, locs, cells, slots⟩ argsL.toArray v B ∧
      ∀ target, Steps p.tables e below (B.U.setTop { g with pc := g.pc + 3, stack := v.toList ++ rest }) target → Steps p.tables e below (T.setTop g) target := by
  obtain ⟨mk, methM, cM, hnamed, hmethM, -, -, -, -, -, -, hsigM⟩ := Cond.codeWith_spec hcode
  have hstatic : methM.isStatic = true := Cond.static_spec hnamed hmethM hstat
  obtain ⟨kP, hkP, -⟩ := className_of_methodNamed hnamed
  have hinitP : kP.init = .initialized := Cond.initialized_spec (findClass_of_methodNamed hnamed) hkP hinit
  obtain ⟨vm₁, X₁, hstep₁⟩ := X.invokestatic hexec hown hlink hnamed hmethM hstatic hkP hinitP hy (g := g) hg (argsL := argsL) (rest := rest) (hlen _ hsigM) hstack hdg
  obtain ⟨v, B, X', hpost, hsteps⟩ := hK m meth c ⟨T.setVm vm₁, locs, cells, slots⟩ { g with stack := rest } (.invokestatic index) mk argsL.toArray X₁ hg hsize hdg hW (X₁.named hnamed) (hpre vm₁ X₁.warmed)
  exact ⟨v, vm₁, B, X₁.warmed, X', hpost, fun target h => hstep₁ _ fun acts => by rw [doInvoke_state]; exact hsteps.trans h⟩
theorem vx_runSW {y : MethodName} {bytes cc : ByteArray} {maxL nL mc ms n index : Nat} {ret : Option FieldType} {hh : List (Nat × Nat × Nat × Nat)} {ws : List Cond} {rm : Room} {Pc : Array Value → State → Prop} {Qc : Array Value → State → Outcome → State → Prop} {free : Addr → Prop} {Ts : List Cond} {own : String} {As rest : List Value} {g : JFrame}
    (S : CallFix p m c cc nL s args Ts own) (hM : Met l y ws rm Pc Qc mc ms free) (cw : vx_CSW R s args own index y bytes maxL ret hh ws rm mc ms n) (hp : PreS s H Pc As)
    (hg : g.method = m) (hn : As.length = n) (hsize : g.locals.size = nL) (hstack : g.stack = As.reverse ++ rest) (hW : 2 * g.monitorRoom + (rest.map fun v => v.category).sum ≤ 8) (hdg : decode cc g.pc = .ok (.invokestatic index, 3)) (hf : cells + mc ≤ R.cells ∧ slots + ms ≤ R.slots) :
    va_Run p l e R s m args below meth c H locs cells slots mc ms g rest (Qc As.toArray) (free) := by
  obtain ⟨⟨hrc, hrs, hfr, hlo, hws, hcw⟩, hcode, hini, hy, hlen, hl, hstt⟩ := cw
  have hK : Back l R p e below s args y 3 8 (PreOf R mc ms Pc) (PostOf Qc mc ms free) := va_backW (hh := hh) (bytes := bytes) (maxL := maxL) (ret := ret) hM hp.1 hrc hrs hfr hlo hws hcw (fun a' U hW => word_at hW (Or.inl (by first | rfl | simp [Cond.onTables, Cond.keeps, Cond.steady])) hini)
  obtain ⟨hx, hb, hml, ho, -⟩ := S
  intro T hT X
  obtain ⟨v, vm₁, ⟨U', l2, c2, s2⟩, hW₁, X', ⟨g', mk, t, L, e1, e2, hq, h1, hL, h2, h3⟩, st⟩ := vx_callSW X hx (hh := hh) (bytes := bytes) (maxL := maxL) (ret := ret) ho hl hstt hini hcode hy hK hg (hsize.trans hml.symm) (argsL := As) (rest := rest) (fun sig h => hn.trans (hlen sig h)) hstack hW (by rw [hb]; exact hdg)
    (fun vm₁ hW₁ => ⟨hf.1, hf.2, hp.2 (T.setVm vm₁) hT hW₁⟩)
  dsimp only [Pt.U, Pt.locs, Pt.cells, Pt.slots] at X' e1 e2 h1 h2 h3 st
  subst h1; subst h2; subst h3
  exact ⟨v, (T.setVm vm₁).calling g' mk As.toArray, t, U', L, hT, X', hL, e1, e2, hq, st⟩
/-- not caught here, past rows that name other classes: it goes on to the caller -/
theorem vx_outP {p : Program} {l : Launch} {e : Env} {R : Room} {s : State} {m : MethodId} {args : Array Value} {below : List Frame} {meth : Method} {c : Code} {H : Heap} {locs : List Loc} {cells slots : Nat} {free : Addr → Prop} {ls : Array Slot} {rest : List Value} {Qc : Array Value → State → Outcome → State → Prop} {XC : String → State → State → Prop}
    {pc : Nat} {own E : String} {ce : Cell} {q : Addr} {mc ms : Nat} (hown : s.vm.findClass own = some m.cls) (hlocks : meth.locks = false)
    (hpass : ∀ z ∈ c.exceptionTable.toList, covers z pc = false ∨ (z.catchType ≠ 0 ∧ ∃ nm : String, (Cond.classLink own z.catchType nm).before args s = true ∧ va_Nc E nm s)) (hcell : H[q]? = some ce) (hv : ce.vm = .none) (hcl : s.vm.findClass E = some ce.cls)
    (hx : ∀ t : State, t.heap = H → s.vm.Alike t.vm → XC E s t) (hf : ∀ z ∈ locs, free z.base) (hc : cells ≤ mc) (hs : slots ≤ ms) :
    vx_W p l e R s m args below meth c H locs cells slots (vx_MQ below Qc XC args s mc ms free) (F0 m pc ls rest) q := by
  intro T hT X
  have hpl : e.platform.magicAccessors = ({} : Platform).magicAccessors := by rw [X.admits.platform]
  obtain ⟨vm', hW', X', st⟩ := X.outThrough hlocks q (g := F0 m pc ls rest) rfl rfl rfl (cell := ce) (by rw [hT]; exact hcell) (by rw [hv]; rfl)
    (by obtain ⟨k9, h9, -⟩ := Vm.findClass_spec hcl; exact ⟨k9, h9⟩) (fun z hz => by
      rcases hpass z hz with h | ⟨hz0, nm, hl1, hn1⟩
      · exact Or.inl h
      · obtain ⟨c6, hc6, hcl6⟩ := Cond.classLink_spec hown hl1 e.platform hpl
        obtain ⟨a8, b8, h1, h2, h3⟩ := hn1
        cases Option.some.inj (h1.symm.trans hcl)
        cases Option.some.inj (h2.symm.trans hc6)
        exact Or.inr ⟨hz0, _, hcl6, h3⟩)
  obtain ⟨g₀, hfr⟩ := X'.frames_eq
  have hcell9 : ((T.setVm vm').setFrames (.throwing q :: below)).heap[q]? = some ce := by
    show T.heap[q]? = some ce
    rw [hT]; exact hcell
  have hend : Ended ((T.setVm vm').setFrames (.throwing q :: below)) below (.threw q) := State.frames_setFrames _ (State.cur_lt_of_frames hfr)
  refine ⟨(T.setVm vm').setFrames (.throwing q :: below), ?_, .threw q, X'.here.running, hend, Or.inr ⟨q, rfl, E, ce, locs, hx _ hT (X'.ends _).1.alike, hcell9, hv, hcl, (X'.ends _).1, (X'.ends _).2.mono hc hs, hf⟩⟩
  rw [X.pushThrowing_eq]
  exact st
/-- a thing of a world lies in the heap -/
theorem vx_lt {D : va_G} {cl : List vw_C} {ws : va_W} {H1 : Heap} (h : va_P D cl ws H1) {k : Nat} {q : Nat × va_E} (hk : ws[k]? = some q) : q.1 < H1.size := (h k q hk).lt
end VXS
/-! ===== END ===== -/
/-! ===== BEGIN methods with a table of their own: called by a name, returning or throwing ===== -/
section VXH
/-! vx_backW, vx_callVX, vx_callSX, vx_callVW, vx_runVW, vx_runVX, vx_runSX, vx_ofWH follow the same proofs as their sisters above (Free/Laws.lean, Shelf42/LK1.lean); vx_outP calls Shelf42/NT130.lean (outThrough). -/
section
variable {l : Launch} {R : Room} {p : Program} {e : Env} {below : List Frame} {s : State} {sargs : Array Value} {y : MethodName} {len W9 : Nat}
theorem vx_backW {ws : List Cond} {rm : Room} {Pc : Array Value → State → Prop} {Qc : Array Value → State → Outcome → State → Prop} {XC : String → State → State → Prop} {mc ms : Nat} {free : Addr → Prop} {bytes : ByteArray} {maxL : Nat} {ret : Option FieldType} {hh : List (Nat × Nat × Nat × Nat)}
    (hM : vx_Met l y ws rm Pc Qc XC mc ms free) (hblind : FrameBlind Pc) (hrc : rm.cells = mc) (hrs : rm.slots = ms)
    (hframes : rm.frames + 1 ≤ R.frames) (hlocals : W9 + (maxL + 11) + rm.locals ≤ R.locals)
    (hws : ∀ w ∈ ws, ∀ a' U, s.WarmedH U.vm → w.before a' U = true) (hcode : Cond.codeWith y bytes maxL ret hh ∈ ws) (hinit : ∀ a' U, s.WarmedH U.vm → (Cond.initialized y.cls).before a' U = true) :
    vx_Back l R p e below s sargs y len W9 (PreOf R mc ms Pc) (PostOf Qc mc ms free) (vx_Post XC mc ms free) := by
  intro m meth c A g ig mk a X hg hsize hdg hW hn hp
  have h1 : (headSpec ws rm).pre.before a A.U = true := atoms_intro fun w hw => hws w hw _ _ X.warmed
  have h2 : (Cond.codeWith y bytes maxL ret hh).before a A.U = true := hws _ hcode _ _ X.warmed
  have h3 : (Cond.initialized y.cls).before a A.U = true := hinit _ _ X.warmed
  have h4 : A.cells + (headSpec ws rm).room.cells ≤ R.cells := by rw [show (headSpec ws rm).room.cells = mc from hrc]; exact hp.1
  have h5 : A.slots + (headSpec ws rm).room.slots ≤ R.slots := by rw [show (headSpec ws rm).room.slots = ms from hrs]; exact hp.2.1
  have hPc : Pc a (A.U.calling g mk a) := hblind _ _ _ _ hp.2.2
  obtain ⟨U, Ls, c0, s0⟩ := A
  dsimp only [Pt.U, Pt.locs, Pt.cells, Pt.slots] at h1 h2 h3 h4 h5 X hn hPc ⊢
  obtain ⟨m9, methY, cY, hn9, hmY, hcY, -, hlY, -⟩ := Cond.codeWith_spec h2
  cases Option.some.inj (hn9.symm.trans hn)
  obtain ⟨kY, hkY, -⟩ := className_of_methodNamed hn
  have hinitY : kY.init = .initialized := Cond.initialized_spec (findClass_of_methodNamed hn) hkY h3
  have h : At U g.method c below := by rw [hg]; exact X.here
  have hlocals9 : W9 + (maxL + 11) + (headSpec ws rm).room.locals ≤ R.locals := hlocals
  have happ : (headSpec ws rm).appliesLoose y e.platform (U.calling g mk a) = true :=
    Spec.appliesLoose_calling (g := g) h hdg hn hkY hinitY
      (X.room_calling (g := g) (R' := (headSpec ws rm).room) hsize hmY hcY hframes (by rw [hlY]; omega) h4 h5) h1
  obtain ⟨mid, hmid⟩ := h.above
  have hfr : (U.setTop g).frames = (.java g :: mid) ++ below := by rw [State.frames_setTop' g h.top, hmid]; rfl
  obtain ⟨o, s₂, hsteps, -, hend, hq⟩ := Steps.callFree hM p X.admits X.cas X.clock (acts := []) hfr happ hPc trivial
  have hq' : vx_Q Qc XC mc ms free a (U.calling g mk a) o s₂ := hq
  rw [State.frames_setTop' g h.top] at hend
  obtain ⟨g₀, hg0⟩ := Option.isSome_iff_exists.mp h.top
  obtain ⟨r, hr⟩ := State.topJava?_eq_some.mp hg0
  have hr' : (({ U with heap := s₂.heap, slotsUsed := s₂.slotsUsed } : State).setVm s₂.vm).frames = .java g₀ :: r := hr
  rcases hq' with ⟨hqc, L, hfe, hL⟩ | ⟨q, rfl, E, ce, L, hx, hce, hcv, hcl, hW₂, hsm, hL⟩
  · obtain ⟨⟨v, rfl⟩, hW₂, e2, q2, q3, q4, q5, q6⟩ := id hfe
    have e3 : s₂ = ({ (U.calling g mk a).setFrames s₂.frames with heap := s₂.heap, slotsUsed := s₂.slotsUsed } : State).setVm s₂.vm := by
      have : s₂ = ({ s₂ with vm := (U.calling g mk a).vm } : State).setVm s₂.vm := rfl
      rw [e2] at this
      exact this
    obtain ⟨c₂, i₂, len₂, hc₂, hd₂, hf₂⟩ := hend
    have hW' : U.WarmedH s₂.vm := hW₂
    have hcc : c₂ = c := by
      have h1 : s₂.code? g.method = U.code? g.method := by
        rw [State.code?_eq, State.code?_eq, hW'.alike.method?]
      exact Option.some.inj (hc₂.symm.trans (h1.trans h.code))
    subst hcc
    have hlen : len₂ = len := by rw [hdg] at hd₂; cases hd₂; rfl
    subst hlen
    have hs₂ : s₂ = (({ U with heap := s₂.heap, slotsUsed := s₂.slotsUsed } : State).setVm s₂.vm).setTop { g with pc := g.pc + len₂, stack := v.toList ++ g.stack } := by
      refine e3.trans ?_
      rw [hf₂, State.calling_eq h.top, State.setFrames_setFrames, State.setTop_of_frames _ hr', hr]
      rfl
    have hsame : U.sameButNew ({ U with heap := s₂.heap, slotsUsed := s₂.slotsUsed } : State) L mc ms := by
      refine ⟨?_, q2, q3, q4, q5, q6⟩
      obtain ⟨t, ht, -⟩ := State.frames_cons hr
      show ({ U with heap := s₂.heap, slotsUsed := s₂.slotsUsed } : State) = { U.setFrames U.frames with heap := s₂.heap, slotsUsed := s₂.slotsUsed }
      rw [State.setFrames_self ht]
    subst hg
    refine Or.inl ⟨v, ⟨(({ U with heap := s₂.heap, slotsUsed := s₂.slotsUsed } : State).setVm s₂.vm), Ls ++ L, c0 + mc, s0 + ms⟩,
      ⟨X.admits, X.cas, X.clock, X.frames, X.room, X.hears, X.method, X.code, (X.here.setHeapUsed s₂.heap s₂.slotsUsed).setVm hW'.alike, X.tail, State.WarmedH.trans X.warmed hW', X.limits, X.bytes, X.same.trans (hsame.setVm s.vm)⟩,
      ⟨g, mk, s₂, L, rfl, rfl, hqc, rfl, hL, rfl, rfl⟩, ?_⟩
    show Steps p.tables e below _ ((({ U with heap := s₂.heap, slotsUsed := s₂.slotsUsed } : State).setVm s₂.vm).setTop { g with pc := g.pc + len₂, stack := v.toList ++ g.stack })
    rw [← hs₂]
    exact hsteps
  · obtain ⟨e2, q2, q3, q4, q5, q6⟩ := id hsm
    have e3 : s₂ = ({ (U.calling g mk a).setFrames s₂.frames with heap := s₂.heap, slotsUsed := s₂.slotsUsed } : State).setVm s₂.vm := by
      have : s₂ = ({ s₂ with vm := (U.calling g mk a).vm } : State).setVm s₂.vm := rfl
      rw [e2] at this
      exact this
    have hf₂ : s₂.frames = .throwing q :: .java g :: U.frames.tail := hend
    have hW' : U.WarmedH s₂.vm := hW₂
    have hs₂ : s₂ = ((({ U with heap := s₂.heap, slotsUsed := s₂.slotsUsed } : State).setVm s₂.vm).setTop g).pushFrame (.throwing q) := by
      refine e3.trans ?_
      rw [hf₂, State.calling_eq h.top, State.setFrames_setFrames, State.pushFrame, State.frames_setTop _ hr', State.setTop_of_frames _ hr', State.setFrames_setFrames, hr]
      rfl
    have hsame : U.sameButNew ({ U with heap := s₂.heap, slotsUsed := s₂.slotsUsed } : State) L mc ms := by
      refine ⟨?_, q2, q3, q4, q5, q6⟩
      obtain ⟨t, ht, -⟩ := State.frames_cons hr
      show ({ U with heap := s₂.heap, slotsUsed := s₂.slotsUsed } : State) = { U.setFrames U.frames with heap := s₂.heap, slotsUsed := s₂.slotsUsed }
      rw [State.setFrames_self ht]
    subst hg
    refine Or.inr ⟨q, ⟨(({ U with heap := s₂.heap, slotsUsed := s₂.slotsUsed } : State).setVm s₂.vm), Ls ++ L, c0 + mc, s0 + ms⟩,
      ⟨X.admits, X.cas, X.clock, X.frames, X.room, X.hears, X.method, X.code, (X.here.setHeapUsed s₂.heap s₂.slotsUsed).setVm hW'.alike, X.tail, State.WarmedH.trans X.warmed hW', X.limits, X.bytes, X.same.trans (hsame.setVm s.vm)⟩,
      ⟨g, mk, s₂, L, E, ce, rfl, rfl, hx, hce, hcv, hcl, rfl, hL, rfl, rfl⟩, ?_⟩
    show Steps p.tables e below _ (((({ U with heap := s₂.heap, slotsUsed := s₂.slotsUsed } : State).setVm s₂.vm).setTop g).pushFrame (.throwing q))
    rw [← hs₂]
    exact hsteps
end
variable {p : Program} {l : Launch} {e : Env} {R : Room} {s : State} {m : MethodId} {args : Array Value} {below : List Frame} {meth : Method} {c : Code} {T : State} {H : Heap} {locs : List Loc} {cells slots : Nat}
theorem vx_callVX (X : Stand p l e R s m args below meth c T locs cells slots) (hexec : p.tables.exec = Jvm.exec) {own C : String} {index : Nat} {y : MethodName} {bytes : ByteArray} {maxL : Nat} {ret : Option FieldType} {hh : List (Nat × Nat × Nat × Nat)}
    (hown : s.vm.findClass own = some m.cls) (hlink : (Cond.methodLink own index y).before args s = true) (hinst : (Cond.instanceMethod y).before args s = true) (hsel : (Cond.selects C y y).before args s = true)
    (hcode : (Cond.codeWith y bytes maxL ret hh).before args s = true) (hy : y.cls ≠ "java/lang/invoke/MethodHandle" ∧ y.cls ≠ "java/lang/invoke/VarHandle")
    {W9 : Nat} {Pre : Pt → Array Value → Prop} {Post : Pt → Array Value → Option Value → Pt → Prop} {PostX : Pt → Array Value → Addr → Pt → Prop} (hK : vx_Back l R p e below s args y 3 W9 Pre Post PostX)
    {b : Addr} {cellB : Cell} (hcell : T.heap[b]? = some cellB) (hobj : cellB.vm.isStatics = false) (hcls : s.vm.findClass C = some cellB.cls)
    {g : JFrame} (hg : g.method = m) (hsize : g.locals.size = c.maxLocals) {argsL rest : List Value} (hlen : ∀ sig, parseMethodDescriptor y.desc = some sig → argsL.length = sig.parameters.length)
    (hstack : g.stack = argsL.reverse ++ .ref b :: rest) (hW : 2 * g.monitorRoom + (rest.map fun v => v.category).sum ≤ W9) (hdg : decode c.code g.pc = .ok (.invokevirtual index, 3))
    (hpre : ∀ vm₁, s.WarmedH vm₁ → Pre ⟨T.setVm vm₁, locs, cells, slots⟩ (Value.ref b :: argsL).toArray) :
    (∃ (v : Option Value) (vm₁ : Vm) (B : Pt), s.WarmedH vm₁ ∧ Stand p l e R s m args below meth c B.U B.locs B.cells B.slots ∧ Post ⟨T.setVm vm₁, locs, cells, slots⟩ (Value.ref b :: argsL).toArray v B ∧
      ∀ target, Steps p.tables e below (B.U.setTop { g with pc := g.pc + 3, stack := v.toList ++ rest }) target → Steps p.tables e below (T.setTop g) target) ∨
    (∃ (q : Addr) (vm₁ : Vm) (B : Pt), s.WarmedH vm₁ ∧ Stand p l e R s m args below meth c B.U B.locs B.cells B.slots ∧ PostX ⟨T.setVm vm₁, locs, cells, slots⟩ (Value.ref b :: argsL).toArray q B ∧
      Steps p.tables e below (T.setTop g) ((B.U.setTop { g with stack := rest }).pushFrame (.throwing q))) := by
  obtain ⟨mk, methM, hnamed, hmethM, hstM, habM⟩ := Cond.instanceMethod_spec hinst
  obtain ⟨m8, methM', cM, hn8, hmethM', -, -, -, -, -, -, hsigM⟩ := Cond.codeWith_spec hcode
  cases Option.some.inj (hn8.symm.trans hnamed)
  cases hmethM.symm.trans hmethM'
  obtain ⟨c2, r2, m2, q1, q2, q3, q4, kP, hkP, hkPi⟩ := Cond.selects_spec hsel
  cases hcls.symm.trans q1
  cases (State.methodFound?_of_named hnamed hy).symm.trans q2
  cases hnamed.symm.trans q3
  have hselP : selectMethod e.platform s.vm cellB.cls mk = .method mk := by rw [Launch.admits_selectMethod X.admits]; exact q4
  obtain ⟨vm₁, X₁, hstep₁⟩ := X.invokevirtual hexec hown hlink hnamed hmethM hstM hkP hkPi hy (a := b) (cell := cellB) hcell
    (fun z h => by rw [h] at hobj; cases hobj) hselP hmethM habM hkP hkPi (g := g) hg (argsL := argsL) (rest := rest) (hlen _ hsigM) hstack hdg
  rcases hK m meth c ⟨T.setVm vm₁, locs, cells, slots⟩ { g with stack := rest } (.invokevirtual index) mk (Value.ref b :: argsL).toArray X₁ hg hsize hdg hW (X₁.named hnamed) (hpre vm₁ X₁.warmed) with ⟨v, B, X', hpost, hsteps⟩ | ⟨q, B, X', hpost, hsteps⟩
  · exact Or.inl ⟨v, vm₁, B, X₁.warmed, X', hpost, fun target h => hstep₁ _ fun acts => by rw [doInvoke_state]; exact hsteps.trans h⟩
  · exact Or.inr ⟨q, vm₁, B, X₁.warmed, X', hpost, hstep₁ _ fun acts => by rw [doInvoke_state]; exact hsteps⟩
theorem vx_callSX (X : Stand p l e R s m args below meth c T locs cells slots) (hexec : p.tables.exec = Jvm.exec) {own : String} {index : Nat} {y : MethodName} {bytes : ByteArray} {maxL : Nat} {ret : Option FieldType} {hh : List (Nat × Nat × Nat × Nat)}
    (hown : s.vm.findClass own = some m.cls) (hlink : (Cond.methodLink own index y).before args s = true) (hstat : (Cond.static y).before args s = true) (hinit : (Cond.initialized y.cls).before args s = true)
    (hcode : (Cond.codeWith y bytes maxL ret hh).before args s = true) (hy : y.cls ≠ "java/lang/invoke/MethodHandle" ∧ y.cls ≠ "java/lang/invoke/VarHandle")
    {W9 : Nat} {Pre : Pt → Array Value → Prop} {Post : Pt → Array Value → Option Value → Pt → Prop} {PostX : Pt → Array Value → Addr → Pt → Prop} (hK : vx_Back l R p e below s args y 3 W9 Pre Post PostX)
    {g : JFrame} (hg : g.method = m) (hsize : g.locals.size = c.maxLocals) {argsL rest : List Value} (hlen : ∀ sig, parseMethodDescriptor y.desc = some sig → argsL.length = sig.parameters.length)
    (hstack : g.stack = argsL.reverse ++ rest) (hW : 2 * g.monitorRoom + (rest.map fun v => v.category).sum ≤ W9) (hdg : decode c.code g.pc = .ok (.invokestatic index, 3))
    (hpre : ∀ vm₁, s.WarmedH vm₁ → Pre ⟨T.setVm vm₁, locs, cells, slots⟩ argsL.toArray) :
    (∃ (v : Option Value) (vm₁ : Vm) (B : Pt), s.WarmedH vm₁ ∧ Stand p l e R s m args below meth c B.U B.locs B.cells B.slots ∧ Post ⟨T.setVm vm₁, locs, cells, slots⟩ argsL.toArray v B ∧
      ∀ target, Steps p.tables e below (B.U.setTop { g with pc := g.pc + 3, stack := v.toList ++ rest }) target → Steps p.tables e below (T.setTop g) target) ∨
    (∃ (q : Addr) (vm₁ : Vm) (B : Pt), s.WarmedH vm₁ ∧ Stand p l e R s m args below meth c B.U B.locs B.cells B.slots ∧ PostX ⟨T.setVm vm₁, locs, cells, slots⟩ argsL.toArray q B ∧
      Steps p.tables e below (T.setTop g) ((B.U.setTop { g with stack := rest }).pushFrame (.throwing q))) := by
  obtain ⟨mk, methM, cM, hnamed, hmethM, -, -, -, -, -, -, hsigM⟩ := Cond.codeWith_spec hcode
  have hstatic : methM.isStatic = true := Cond.static_spec hnamed hmethM hstat
  obtain ⟨kP, hkP, -⟩ := className_of_methodNamed hnamed
  have hinitP : kP.init = .initialized := Cond.initialized_spec (findClass_of_methodNamed hnamed) hkP hinit
  obtain ⟨vm₁, X₁, hstep₁⟩ := X.invokestatic hexec hown hlink hnamed hmethM hstatic hkP hinitP hy (g := g) hg (argsL := argsL) (rest := rest) (hlen _ hsigM) hstack hdg
  rcases hK m meth c ⟨T.setVm vm₁, locs, cells, slots⟩ { g with stack := rest } (.invokestatic index) mk argsL.toArray X₁ hg hsize hdg hW (X₁.named hnamed) (hpre vm₁ X₁.warmed) with ⟨v, B, X', hpost, hsteps⟩ | ⟨q, B, X', hpost, hsteps⟩
  · exact Or.inl ⟨v, vm₁, B, X₁.warmed, X', hpost, fun target h => hstep₁ _ fun acts => by rw [doInvoke_state]; exact hsteps.trans h⟩
  · exact Or.inr ⟨q, vm₁, B, X₁.warmed, X', hpost, hstep₁ _ fun acts => by rw [doInvoke_state]; exact hsteps⟩
theorem vx_callVW (X : Stand p l e R s m args below meth c T locs cells slots) (hexec : p.tables.exec = Jvm.exec) {own C : String} {index : Nat} {y : MethodName} {bytes : ByteArray} {maxL : Nat} {ret : Option FieldType} {hh : List (Nat × Nat × Nat × Nat)}
    (hown : s.vm.findClass own = some m.cls) (hlink : (Cond.methodLink own index y).before args s = true) (hinst : (Cond.instanceMethod y).before args s = true) (hsel : (Cond.selects C y y).before args s = true)
    (hcode : (Cond.codeWith y bytes maxL ret hh).before args s = true) (hy : y.cls ≠ "java/lang/invoke/MethodHandle" ∧ y.cls ≠ "java/lang/invoke/VarHandle")
    {W9 : Nat} {Pre : Pt → Array Value → Prop} {Post : Pt → Array Value → Option Value → Pt → Prop} (hK : Back l R p e below s args y 3 W9 Pre Post)
    {b : Addr} {cellB : Cell} (hcell : T.heap[b]? = some cellB) (hobj : cellB.vm.isStatics = false) (hcls : s.vm.findClass C = some cellB.cls)
    {g : JFrame} (hg : g.method = m) (hsize : g.locals.size = c.maxLocals) {argsL rest : List Value} (hlen : ∀ sig, parseMethodDescriptor y.desc = some sig → argsL.length = sig.parameters.length)
    (hstack : g.stack = argsL.reverse ++ .ref b :: rest) (hW : 2 * g.monitorRoom + (rest.map fun v => v.category).sum ≤ W9) (hdg : decode c.code g.pc = .ok (.invokevirtual index, 3))
    (hpre : ∀ vm₁, s.WarmedH vm₁ → Pre ⟨T.setVm vm₁, locs, cells, slots⟩ (Value.ref b :: argsL).toArray) :
    ∃ (v : Option Value) (vm₁ : Vm) (B : Pt), s.WarmedH vm₁ ∧ Stand p l e R s m args below meth c B.U B.locs B.cells B.slots ∧ Post ⟨T.setVm vm₁, locs, cells, slots⟩ (Value.ref b :: argsL).toArray v B ∧
      ∀ target, Steps p.tables e below (B.U.setTop { g with pc := g.pc + 3, stack := v.toList ++ rest }) target → Steps p.tables e below (T.setTop g) target := by
  obtain ⟨mk, methM, hnamed, hmethM, hstM, habM⟩ := Cond.instanceMethod_spec hinst
  obtain ⟨m8, methM', cM, hn8, hmethM', -, -, -, -, -, -, hsigM⟩ := Cond.codeWith_spec hcode
  cases Option.some.inj (hn8.symm.trans hnamed)
  cases hmethM.symm.trans hmethM'
  obtain ⟨c2, r2, m2, q1, q2, q3, q4, kP, hkP, hkPi⟩ := Cond.selects_spec hsel
  cases hcls.symm.trans q1
  cases (State.methodFound?_of_named hnamed hy).symm.trans q2
  cases hnamed.symm.trans q3
  have hselP : selectMethod e.platform s.vm cellB.cls mk = .method mk := by rw [Launch.admits_selectMethod X.admits]; exact q4
  obtain ⟨vm₁, X₁, hstep₁⟩ := X.invokevirtual hexec hown hlink hnamed hmethM hstM hkP hkPi hy (a := b) (cell := cellB) hcell
    (fun z h => by rw [h] at hobj; cases hobj) hselP hmethM habM hkP hkPi (g := g) hg (argsL := argsL) (rest := rest) (hlen _ hsigM) hstack hdg
  obtain ⟨v, B, X', hpost, hsteps⟩ := hK m meth c ⟨T.setVm vm₁, locs, cells, slots⟩ { g with stack := rest } (.invokevirtual index) mk (Value.ref b :: argsL).toArray X₁ hg hsize hdg hW (X₁.named hnamed) (hpre vm₁ X₁.warmed)
  exact ⟨v, vm₁, B, X₁.warmed, X', hpost, fun target h => hstep₁ _ fun acts => by rw [doInvoke_state]; exact hsteps.trans h⟩
abbrev vx_CVW (R : Room) (s : State) (args : Array Value) (own C : String) (index : Nat) (y : MethodName) (bytes : ByteArray) (maxL : Nat) (ret : Option FieldType) (hh : List (Nat × Nat × Nat × Nat)) (ws : List Cond) (rm : Room) (mc ms n : Nat) : Prop :=
  (rm.cells = mc ∧ rm.slots = ms ∧ rm.frames + 1 ≤ R.frames ∧ 8 + (maxL + 11) + rm.locals ≤ R.locals ∧ (∀ w ∈ ws, ∀ (a' : Array Value) (U : State), s.WarmedH U.vm → w.before a' U = true) ∧ Cond.codeWith y bytes maxL ret hh ∈ ws) ∧
  (Cond.codeWith y bytes maxL ret hh).before args s = true ∧ (Cond.initialized y.cls).before args s = true ∧ (y.cls ≠ "java/lang/invoke/MethodHandle" ∧ y.cls ≠ "java/lang/invoke/VarHandle") ∧
  (∀ sig, parseMethodDescriptor y.desc = some sig → n = sig.parameters.length) ∧ (Cond.methodLink own index y).before args s = true ∧ (Cond.instanceMethod y).before args s = true ∧ (Cond.selects C y y).before args s = true
theorem vx_cwVW {own C : String} {index maxL mc ms : Nat} {y : MethodName} {bytes : ByteArray} {ret : Option FieldType} {hh : List (Nat × Nat × Nat × Nat)} {Ts ws ws' : List Cond} {rm : Room} (n : Nat) (ht : ∀ w ∈ Ts, w.before args s = true) (hT : GoodIn Ts (wsV own index C y ws)) (hw : ws = Cond.codeWith y bytes maxL ret hh :: ws') (hrc : rm.cells = mc) (hrs : rm.slots = ms)
    (hd : y.cls = C ∧ y.cls ≠ "java/lang/invoke/MethodHandle" ∧ y.cls ≠ "java/lang/invoke/VarHandle" ∧ (parseMethodDescriptor y.desc).map (fun d => d.parameters.length) = some n) (hR : rm.frames + 1 ≤ R.frames ∧ 8 + (maxL + 11) + rm.locals ≤ R.locals) :
    vx_CVW R s args own C index y bytes maxL ret hh ws rm mc ms n := by
  obtain ⟨hC, hd⟩ := hd
  subst hC
  have ok : ∀ w ∈ wsV own index y.cls y ws, w.before args s = true := fun w h => ht w (hT w h).1
  have hG : GoodIn Ts ws := fun w h => hT w (by unfold wsV; exact List.mem_append_right _ h)
  have hc : Cond.codeWith y bytes maxL ret hh ∈ ws := by rw [hw]; exact List.mem_cons_self
  refine ⟨⟨hrc, hrs, hR.1, hR.2, pay_in ht hG, hc⟩, ht _ (hG _ hc).1, ok _ (by simp [wsV]), ⟨hd.1, hd.2.1⟩, fun sig h => ?_, ok _ (by simp [wsV]), ok _ (by simp [wsV]), ok _ (by simp [wsV])⟩
  have h2 := hd.2.2
  rw [h] at h2
  exact (Option.some.inj h2).symm
theorem vx_runVW {y : MethodName} {bytes cc : ByteArray} {maxL nL mc ms n index : Nat} {ret : Option FieldType} {hh : List (Nat × Nat × Nat × Nat)} {ws : List Cond} {rm : Room} {Pc : Array Value → State → Prop} {Qc : Array Value → State → Outcome → State → Prop} {free : Addr → Prop} {Ts : List Cond} {own C : String} {b : Addr} {As rest : List Value} {g : JFrame}
    (S : CallFix p m c cc nL s args Ts own) (hM : Met l y ws rm Pc Qc mc ms free) (cw : vx_CVW R s args own C index y bytes maxL ret hh ws rm mc ms n) (hp : PreV s H C b Pc As)
    (hg : g.method = m) (hn : As.length = n) (hsize : g.locals.size = nL) (hstack : g.stack = As.reverse ++ .ref b :: rest) (hW : 2 * g.monitorRoom + (rest.map fun v => v.category).sum ≤ 8) (hdg : decode cc g.pc = .ok (.invokevirtual index, 3)) (hf : cells + mc ≤ R.cells ∧ slots + ms ≤ R.slots) :
    va_Run p l e R s m args below meth c H locs cells slots mc ms g rest (Qc (Value.ref b :: As).toArray) free := by
  obtain ⟨⟨hrc, hrs, hfr, hlo, hws, hcw⟩, hcode, hini, hy, hlen, hl, hin, hse⟩ := cw
  have hK : Back l R p e below s args y 3 8 (PreOf R mc ms Pc) (PostOf Qc mc ms free) := va_backW (hh := hh) (bytes := bytes) (maxL := maxL) (ret := ret) hM hp.1 hrc hrs hfr hlo hws hcw (fun a' U hW => word_at hW (Or.inl (by first | rfl | simp [Cond.onTables, Cond.keeps, Cond.steady])) hini)
  obtain ⟨hx, hb, hml, ho, -⟩ := S
  obtain ⟨-, ⟨cellB, hcB, hoB, hclB⟩, hPc⟩ := hp
  intro T hT X
  obtain ⟨v, vm₁, ⟨U', l2, c2, s2⟩, hW₁, X', ⟨g', mk, t, L, e1, e2, hq, h1, hL, h2, h3⟩, st⟩ := vx_callVW X hx (C := C) (hh := hh) (bytes := bytes) (maxL := maxL) (ret := ret) ho hl hin hse hcode hy hK (by rw [hT]; exact hcB) hoB hclB hg (hsize.trans hml.symm) (argsL := As) (rest := rest) (fun sig h => hn.trans (hlen sig h)) hstack hW (by rw [hb]; exact hdg)
    (fun vm₁ hW₁ => ⟨hf.1, hf.2, hPc (T.setVm vm₁) hT hW₁⟩)
  dsimp only [Pt.U, Pt.locs, Pt.cells, Pt.slots] at X' e1 e2 h1 h2 h3 st
  subst h1; subst h2; subst h3
  exact ⟨v, (T.setVm vm₁).calling g' mk (Value.ref b :: As).toArray, t, U', L, hT, X', hL, e1, e2, hq, st⟩
section
variable {y : MethodName} {bytes cc : ByteArray} {maxL nL mc ms n index : Nat} {ret : Option FieldType} {ws : List Cond} {rm : Room} {Pc : Array Value → State → Prop} {Qc : Array Value → State → Outcome → State → Prop} {XC : String → State → State → Prop} {free : Addr → Prop} {Ts : List Cond} {own C : String} {b : Addr} {As rest : List Value} {g : JFrame}
theorem vx_runVX {hh : List (Nat × Nat × Nat × Nat)} (S : CallFix p m c cc nL s args Ts own) (hM : vx_Met l y ws rm Pc Qc XC mc ms free) (cw : vx_CVW R s args own C index y bytes maxL ret hh ws rm mc ms n) (hp : PreV s H C b Pc As)
    (hg : g.method = m) (hn : As.length = n) (hsize : g.locals.size = nL) (hstack : g.stack = As.reverse ++ .ref b :: rest) (hW : 2 * g.monitorRoom + (rest.map fun v => v.category).sum ≤ 8) (hdg : decode cc g.pc = .ok (.invokevirtual index, 3)) (hf : cells + mc ≤ R.cells ∧ slots + ms ≤ R.slots) :
    vx_Run p l e R s m args below meth c H locs cells slots mc ms g rest (Qc (Value.ref b :: As).toArray) XC free := by
  obtain ⟨⟨hrc, hrs, hfr, hlo, hws, hcw⟩, hcode, hini, hy, hlen, hl, hin, hse⟩ := cw
  have hK : vx_Back l R p e below s args y 3 8 (PreOf R mc ms Pc) (PostOf Qc mc ms free) (vx_Post XC mc ms free) := vx_backW (hh := hh) (bytes := bytes) (maxL := maxL) (ret := ret) hM hp.1 hrc hrs hfr hlo hws hcw (fun a' U hW => word_at hW (Or.inl (by first | rfl | simp [Cond.onTables, Cond.keeps, Cond.steady])) hini)
  obtain ⟨hx, hb, hml, ho, -⟩ := S
  obtain ⟨-, ⟨cellB, hcB, hoB, hclB⟩, hPc⟩ := hp
  intro T hT X
  rcases vx_callVX X hx (C := C) (hh := hh) (bytes := bytes) (maxL := maxL) (ret := ret) ho hl hin hse hcode hy hK (by rw [hT]; exact hcB) hoB hclB hg (hsize.trans hml.symm) (argsL := As) (rest := rest) (fun sig h => hn.trans (hlen sig h)) hstack hW (by rw [hb]; exact hdg)
    (fun vm₁ hW₁ => ⟨hf.1, hf.2, hPc (T.setVm vm₁) hT hW₁⟩) with ⟨v, vm₁, ⟨U', l2, c2, s2⟩, hW₁, X', ⟨g', mk, t, L, e1, e2, hq, h1, hL, h2, h3⟩, st⟩ | ⟨q, vm₁, ⟨U', l2, c2, s2⟩, hW₁, X', ⟨g', mk, t, L, E, ce, e1, e2, hq, hce, hcv, hcl, h1, hL, h2, h3⟩, st⟩
  · dsimp only [Pt.U, Pt.locs, Pt.cells, Pt.slots] at X' e1 e2 h1 h2 h3 st
    subst h1; subst h2; subst h3
    exact Or.inl ⟨v, (T.setVm vm₁).calling g' mk (Value.ref b :: As).toArray, t, U', L, hT, X', hL, e1, e2, hq, st⟩
  · dsimp only [Pt.U, Pt.locs, Pt.cells, Pt.slots] at X' e1 e2 h1 h2 h3 st hcl
    subst h1; subst h2; subst h3
    exact Or.inr ⟨q, (T.setVm vm₁).calling g' mk (Value.ref b :: As).toArray, t, U', L, E, ce, hT, X', hL, e1, e2, hq, hce, hcv, vx_cls hW₁ hcl, st⟩
theorem vx_runSX {hh : List (Nat × Nat × Nat × Nat)} (S : CallFix p m c cc nL s args Ts own) (hM : vx_Met l y ws rm Pc Qc XC mc ms free) (cw : vx_CSW R s args own index y bytes maxL ret hh ws rm mc ms n) (hp : PreS s H Pc As)
    (hg : g.method = m) (hn : As.length = n) (hsize : g.locals.size = nL) (hstack : g.stack = As.reverse ++ rest) (hW : 2 * g.monitorRoom + (rest.map fun v => v.category).sum ≤ 8) (hdg : decode cc g.pc = .ok (.invokestatic index, 3)) (hf : cells + mc ≤ R.cells ∧ slots + ms ≤ R.slots) :
    vx_Run p l e R s m args below meth c H locs cells slots mc ms g rest (Qc As.toArray) XC free := by
  obtain ⟨⟨hrc, hrs, hfr, hlo, hws, hcw⟩, hcode, hini, hy, hlen, hl, hstt⟩ := cw
  have hK : vx_Back l R p e below s args y 3 8 (PreOf R mc ms Pc) (PostOf Qc mc ms free) (vx_Post XC mc ms free) := vx_backW (hh := hh) (bytes := bytes) (maxL := maxL) (ret := ret) hM hp.1 hrc hrs hfr hlo hws hcw (fun a' U hW => word_at hW (Or.inl (by first | rfl | simp [Cond.onTables, Cond.keeps, Cond.steady])) hini)
  obtain ⟨hx, hb, hml, ho, -⟩ := S
  intro T hT X
  rcases vx_callSX X hx (hh := hh) (bytes := bytes) (maxL := maxL) (ret := ret) ho hl hstt hini hcode hy hK hg (hsize.trans hml.symm) (argsL := As) (rest := rest) (fun sig h => hn.trans (hlen sig h)) hstack hW (by rw [hb]; exact hdg)
    (fun vm₁ hW₁ => ⟨hf.1, hf.2, hp.2 (T.setVm vm₁) hT hW₁⟩) with ⟨v, vm₁, ⟨U', l2, c2, s2⟩, hW₁, X', ⟨g', mk, t, L, e1, e2, hq, h1, hL, h2, h3⟩, st⟩ | ⟨q, vm₁, ⟨U', l2, c2, s2⟩, hW₁, X', ⟨g', mk, t, L, E, ce, e1, e2, hq, hce, hcv, hcl, h1, hL, h2, h3⟩, st⟩
  · dsimp only [Pt.U, Pt.locs, Pt.cells, Pt.slots] at X' e1 e2 h1 h2 h3 st
    subst h1; subst h2; subst h3
    exact Or.inl ⟨v, (T.setVm vm₁).calling g' mk As.toArray, t, U', L, hT, X', hL, e1, e2, hq, st⟩
  · dsimp only [Pt.U, Pt.locs, Pt.cells, Pt.slots] at X' e1 e2 h1 h2 h3 st hcl
    subst h1; subst h2; subst h3
    exact Or.inr ⟨q, (T.setVm vm₁).calling g' mk As.toArray, t, U', L, E, ce, hT, X', hL, e1, e2, hq, hce, hcv, vx_cls hW₁ hcl, st⟩
end
end VXH
theorem vx_ofWH {l : Launch} {y : MethodName} {ws ws' : List Cond} {rm : Room} {Pc : Array Value → State → Prop} {Qc : Array Value → State → Outcome → State → Prop} {XC : String → State → State → Prop} {mc ms : Nat} {free : Addr → Prop} {cc : ByteArray} {maxL : Nat} {ret : Option FieldType} {hh : List (Nat × Nat × Nat × Nat)}
    (hy : plainName y.cls = true) (hw : ws = Cond.codeWith y cc maxL ret hh :: ws')
    (body : ∀ p e s m args below meth c s₁, BodyLoose p l y (headSpec ws rm) cc maxL ret e s m args below meth c s₁ → c.maxLocals = maxL → Pc args s →
      W p l e (headSpec ws rm).room s m args below meth c s.heap [] 0 0 (vx_MQ below Qc XC args s mc ms free) (entryFrame m args maxL)) : vx_Met l y ws rm Pc Qc XC mc ms free := by
  refine MetFree.of_bodyS (code := cc) (maxLocals := maxL) (ret := ret) hy ?_ ?_
  · intro args s m h hn
    obtain ⟨m9, meth, c, hn9, h1, h2, h3, h4, -, h5, h6, -⟩ := Cond.codeWith_spec (atoms_spec (ws := ws) h _ (by rw [hw]; exact List.mem_cons_self))
    cases hn.symm.trans hn9
    exact ⟨meth, c, h1, h2, h3, h4, h5, h6⟩
  · intro p e s m args below meth c s₁ B hml hP _
    have hh0 : s₁.heap = s.heap := by rw [B.state]; rfl
    obtain ⟨t, a1, o, b1, b2, b3⟩ := body p e s m args below meth c s₁ B hml hP s₁ hh0 (Stand.of_body B)
    exact ⟨t, o, a1, b1, b2, b3⟩
/-! ===== END ===== -/
/-! ===== BEGIN what the machine throws by itself, no traces kept ===== -/
section VXM
set_option maxHeartbeats 1000000 in
/-- the machine throws cls with the message text, no traces kept: from its note over the frame g to 'throwing' over the same frame (follows the proofs of Stand.vmThrowsMessage, Shelf/KitTracedVmS.lean, and Stand.throwsMessageColdBareV, StandMessageColdV.lean, without the step out of the frame) -/
theorem vx_vmAt {p : Program} {l : Launch} {e : Env} {R : Room} {s : State} {m₀ : MethodId} {args : Array Value} {below : List Frame} {meth : Method} {c : Code} {W : State} {locs : List Loc} {cells slots : Nat}
    (X : Stand p l e R s m₀ args below meth c W locs cells slots) (hexec : p.tables.exec = Jvm.exec) (htr : e.platform.stackTraces = false) {cls : String} {names : List String} {text : String}
    (hcls : Bundle.fit cls = true) (hnames : ∀ n ∈ names, Bundle.fit n = true) (hsoe : (cls == "java/lang/StackOverflowError") = false) (hoom : (cls == "java/lang/OutOfMemoryError") = false)
    (h : ∀ a ∈ Bundle.messageArmAtoms cls names, a.before args s = true)
    (hlocs : ∀ x ∈ locs, ∀ cell, s.heap[x.base]? = some cell → cell.vm.isStatics = false)
    (htext : (text == notModelled) = false) (hlimit : ¬ (stringBytes (stringToUtf16 text)).size > e.platform.arrayLengthLimit) (hheap : ¬ (stringBytes (stringToUtf16 text)).size * componentBytes .byte > e.platform.maxHeapBytes)
    {g : JFrame} (hg : g.method = m₀) (hsize : g.locals.size = c.maxLocals)
    (hRframes : names.length + 4 < R.frames) (hRlocals : 2 * g.monitorRoom + (g.stack.map fun v => v.category).sum + 10240 ≤ R.locals) (hshort : 13 * names.length + 55 ≤ 10240)
    (hRcells : cells + 3 ≤ R.cells) (hRslots : slots + ((stringBytes (stringToUtf16 text)).size + 4 + 6) ≤ R.slots) (hlocks : meth.locks = false) :
    ∃ (S : State) (q : Addr) (ce : Cell), (∀ target, Steps p.tables e below ((S.setTop g).pushFrame (.throwing q)) target → Steps p.tables e below ((W.setTop g).pushFrame (.throwNew cls (some text) none)) target) ∧
      Stand p l e R s m₀ args below meth c S locs (cells + 3) (slots + ((stringBytes (stringToUtf16 text)).size + 4 + 6)) ∧ S.heap[q]? = some ce ∧ s.vm.findClass cls = some ce.cls ∧ ce.vm = .none := by
  have howns : e.platform.frameOwnsMonitors = true := by rw [X.admits.platform]
  have hfin : e.platform.finalization = false := by rw [X.admits.platform]
  have hpl : e.platform.magicAccessors = ({} : Platform).magicAccessors := by rw [X.admits.platform]
  have a : ∀ x, x ∈ Bundle.messageArmAtoms cls names → x.holds args s none s [] = true := fun x hx => h x hx
  obtain ⟨T, Z0, L, -, Y⟩ := ThrowableC.of_atoms (args := args) howns hfin hpl (fun x hx => h x (by simp [Bundle.messageArmAtoms, hx]))
  obtain ⟨Z, M, LZ, LM, hnZ⟩ := Init0T.ofS_atoms (args := args) hpl L Y (fun x hx => h x (by simp [Bundle.messageArmAtoms, hx]))
  obtain ⟨P1, Ps, hlen, L1, hL, hP1m, hlink1, hlink⟩ := Bundle.chainS (args := args) hpl hnZ names cls hcls hnames (fun x hx => h x (by simp [Bundle.messageArmAtoms, hx]))
  obtain ⟨Zs, LZs, hn4, hfitv, hfitc⟩ := StringT.of_atoms (args := args) (fun x hx => h x (by simp [Bundle.messageArmAtoms, hx]))
  have hfound : s.vm.findClass cls = some P1.m.cls := findClass_of_methodNamed hP1m
  obtain ⟨c1, kX, hc1, hk, hord, -, -, hn6⟩ := Cond.instantiable_spec (a (.instantiable cls 6) (by simp [Bundle.messageArmAtoms]))
  cases Option.some.inj (hc1.symm.trans hfound)
  have hinit := Cond.initialized_spec hfound hk (a (.initialized cls) (by simp [Bundle.messageArmAtoms]))
  have hctor : kX.findMethod "<init>" "(Ljava/lang/String;)V" = some P1.m.idx := findMethod_of_methodNamed hP1m hk
  have hsel0 : selectMethod e.platform s.vm P1.m.cls T.fill0 = .method T.fill0 := by
    obtain ⟨c2, r2, m2, q1, q2, q3, q4, -⟩ := Cond.selects_spec (a (.selects cls Bundle.tFill0 Bundle.tFill0) (by simp [Bundle.messageArmAtoms]))
    cases Option.some.inj (q1.symm.trans hfound)
    cases Option.some.inj (q2.symm.trans (State.methodFound?_of_named Y.fill0 (by decide)))
    cases Option.some.inj (q3.symm.trans Y.fill0)
    rw [Launch.admits_selectMethod X.admits]; exact q4
  have hselF : selectMethod e.platform s.vm P1.m.cls T.fill = .method T.fill := by
    obtain ⟨c2, r2, m2, q1, q2, q3, q4, -⟩ := Cond.selects_spec (a (.selects cls Bundle.tFill Bundle.tFill) (by simp [Bundle.messageArmAtoms]))
    cases Option.some.inj (q1.symm.trans hfound)
    cases Option.some.inj (q2.symm.trans (State.methodFound?_of_named Y.fill (by decide)))
    cases Option.some.inj (q3.symm.trans Y.fill)
    rw [Launch.admits_selectMethod X.admits]; exact q4
  obtain ⟨cellS0, hcS0, hiss⟩ := Y.statics
  obtain ⟨u0, hu0⟩ := Cond.staticRefV Y.unassigned L.unassignedStatic L.statics hcS0 hiss (a (.isRef (.static Bundle.tN "UNASSIGNED_STACK" Bundle.steD)) (by simp [Bundle.messageArmAtoms]))
  obtain ⟨sen, hsen⟩ := Cond.staticRefV Y.sentinel L.sentinelStatic L.statics hcS0 hiss (a (.isRef (.static Bundle.tN "SUPPRESSED_SENTINEL" Bundle.listD)) (by simp [Bundle.messageArmAtoms]))
  obtain ⟨ci198, i198, fB, hk198, hg198, ha198, hsB, -, hnB, htB, hffB⟩ := Cond.ownField (t := .object "java/lang/Object") Y.found L.cls (by decide +kernel) (a (.fieldLink Bundle.tN 198 Bundle.tN "backtrace" "Ljava/lang/Object;") (by simp [Bundle.messageArmAtoms])) (a (.lays Bundle.tN Bundle.tN "backtrace" "Ljava/lang/Object;") (by simp [Bundle.messageArmAtoms])) e.platform hpl
  obtain ⟨cellS, hcS', heS, -, hkeep⟩ := X.same.2.2.2.2.2 T.aS cellS0 hcS0
  have hcellS : W.heap[T.aS]? = some cellS := hcS'
  have hout' : ∀ i, (⟨T.aS, i⟩ : Loc) ∉ locs := fun i hmem => by
    have := hlocs _ hmem cellS0 hcS0
    rw [hiss] at this; cases this
  have hknownS : cellS.vm ≠ .unknown := by
    rw [heS]; intro hu
    rw [show cellS0.vm = .unknown from hu] at hiss
    cases hiss
  have hvU : cellS.slots[T.fUnassigned.slot]? = some u0.v := by rw [hkeep _ (hout' _)]; exact hu0
  have hvSen : cellS.slots[T.fSentinel.slot]? = some sen.v := by rw [hkeep _ (hout' _)]; exact hsen
  obtain ⟨iM, hffM⟩ := Y.msg
  obtain ⟨tyC, dC, hdC, hdnC⟩ := Cond.laysAt hfound hk Y.cause (a (.lays cls Bundle.tN "cause" "Ljava/lang/Throwable;") (by simp [Bundle.messageArmAtoms]))
  obtain ⟨tyS, dS, hdS, hdnS⟩ := Cond.laysAt hfound hk Y.stack (a (.lays cls Bundle.tN "stackTrace" Bundle.steD) (by simp [Bundle.messageArmAtoms]))
  obtain ⟨tyP, dP, hdP, hdnP⟩ := Cond.laysAt hfound hk Y.supp (a (.lays cls Bundle.tN "suppressedExceptions" Bundle.listD) (by simp [Bundle.messageArmAtoms]))
  obtain ⟨tyM, dM, hdM, hdnM⟩ := Cond.laysAt hfound hk hffM (a (.lays cls Bundle.tN "detailMessage" "Ljava/lang/String;") (by simp [Bundle.messageArmAtoms]))
  obtain ⟨tyB, dB, hdB, hdnB⟩ := Cond.laysAt hfound hk hffB (a (.lays cls Bundle.tN "backtrace" "Ljava/lang/Object;") (by simp [Bundle.messageArmAtoms]))
  have bC := Cond.laysApart hdB hdC hdnB hdnC (by rw [hnB, Y.causeName]; decide)
  have bS := Cond.laysApart hdB hdS hdnB hdnS (by rw [hnB, Y.stackName]; decide)
  have bP := Cond.laysApart hdB hdP hdnB hdnP (by rw [hnB, Y.suppName]; decide)
  have hbk : ((preparedCellV T.toThrowableT (freshCell P1.m.cls kX) (W.heap.size + 2) u0 sen).withEntry W.cur).slots[fB.slot]? = some .null := by
    have := fresh_default (c := P1.m.cls) tyB
    rw [htB] at this
    simpa [preparedCellV, Cell.setSlot, Cell.withEntry, Array.getElem?_setIfInBounds, bC, bS, bP, bC.symm, bS.symm, bP.symm, defaultValue] using this
  have tkC := Takes.of_laid (v := .ref (W.heap.size + 2)) hk hord tyC (by rw [Y.causeType]; rfl)
  have tkS := Takes.of_laid (v := u0.v) hk hord tyS (by rw [Y.stackType]; exact fits_refV_array _ u0)
  have tkP := Takes.of_laid (v := sen.v) hk hord tyP (by rw [Y.suppType]; exact fits_refV_object _ sen)
  have tkM := Takes.of_laid (v := .ref (W.heap.size + 1)) hk hord tyM (by rw [Y.msgType]; rfl)
  have hskip : SkipFacts T e.platform s (fun u => u) u0 ((preparedCellV T.toThrowableT (freshCell P1.m.cls kX) (W.heap.size + 2) u0 sen).withEntry W.cur) := ⟨{ ci198 := ci198, i198 := i198, fBack := fB }, ⟨hk198, hg198, ha198, hsB⟩, hbk, fun _ _ => rfl⟩
  have h0 : At W g.method c below := by rw [hg]; exact X.here
  obtain ⟨hbeyond, hfreeW⟩ := X.vmMayThrow hsize (.throwNew cls (some text) none) (fun f hf => by cases hf) rfl hRlocals
  have hfr' : W.frames.length + Ps.length + 4 < (e.platform.stackLimits W.me).1 := by have := X.framesAbove hRframes; omega
  have hwd' : (stackUse (.java g :: W.frames.tail)).2 + 13 * Ps.length + 55 ≤ (e.platform.stackLimits W.me).2 := by have := X.stackAbove hsize (K := 13 * Ps.length + 55) (by omega); omega
  have hslots : W.slotsUsed + (stringBytes (stringToUtf16 text)).size + Zs.kS.instanceTypes.size + kX.instanceTypes.size ≤ e.platform.maxSlots := by
    have := X.slotsAbove hRslots
    rw [hn4, hn6]
    omega
  obtain ⟨vm', hW', st⟩ := Steps.vmThrowsMessageColdByV p (s₀ := s) (S := W) (g := g) h0 hexec T L Z LZ M LM X.warmed (t := W.cur) rfl Zs LZs P1 L1 Ps hL hlink1 hlink hsoe hoom hfound hk hinit hord hctor
    (Launch.admits_hotImplicitExceptions X.admits) hbeyond hfreeW htext hlimit hheap (X.cellsAbove hRcells) hslots (hfitv _) (hfitc _)
    (Nn := fun u => u) heapOnly_id (fun _ _ => rfl) (fun _ => rfl) (fun u x y => setCell_twice _ _ _ _) (fun _ => Nat.le_refl _) (cN := ((preparedCellV T.toThrowableT (freshCell P1.m.cls kX) (W.heap.size + 2) u0 sen).withEntry W.cur))
    hsel0 hcellS hknownS hvU tkS (fun _ hu => hu) (fun _ hu => hu) rfl rfl rfl (by simp [preparedCellV, Cell.setSlot, Cell.withEntry]) hskip (fun _ _ hA hW _ hroom _ hrest => L.nativeOff p htr hA hW hroom hrest) hselF hvSen tkC tkP tkM Y.objLocals rfl hfr' hwd'
  rw [plainBareV_eq T.toThrowableT (W.heap.size + 2) u0 sen (.ref (W.heap.size + 1)) W.cur rfl rfl] at st
  obtain ⟨-, -, w3, w4, -, -, -⟩ := withThrown_facts e.platform W Zs text P1.m.cls kX
  have X3 := ((X.pushed (bytesOf Zs.cB (stringToUtf16 text))).pushed (stringAt Zs.cS Zs.kS Zs.fv Zs.fc (stringToUtf16 text) W.heap.size)).pushed (freshCell P1.m.cls kX)
  rw [← withString_eq] at X3
  have X4 := X3.noted hW'
  have ha : (W.heap.size + 2) < ((withThrown W Zs text P1.m.cls kX).setVm vm').heap.size := by show _ < (withThrown W Zs text P1.m.cls kX).heap.size; rw [w3]; omega
  have hcell : ((withThrown W Zs text P1.m.cls kX).setVm vm').heap[(W.heap.size + 2)]? = some (freshCell P1.m.cls kX) := w4
  have X5 := ((((X4.stored hcell T.fCause.slot (.ref (W.heap.size + 2))).storedAgain ha T.fStack.slot u0.v).storedAgain ha T.fSupp.slot sen.v).storedAgain ha T.fStack.slot u0.v).storedAgain ha T.fMsg.slot (.ref (W.heap.size + 1))
  obtain ⟨g₁, hfrM⟩ := X5.frames_eq
  have hU : ((((withThrown W Zs text P1.m.cls kX).setVm vm').setCell (W.heap.size + 2) (plainBareV T.toThrowableT (freshCell P1.m.cls kX) (W.heap.size + 2) u0 sen (.ref (W.heap.size + 1)))).setTop g).pushFrame (.throwing (W.heap.size + 2)) = (((withThrown W Zs text P1.m.cls kX).setVm vm').setCell (W.heap.size + 2) (plainBareV T.toThrowableT (freshCell P1.m.cls kX) (W.heap.size + 2) u0 sen (.ref (W.heap.size + 1)))).setFrames (.throwing (W.heap.size + 2) :: .java g :: below) := by
    rw [State.pushFrame, State.frames_setTop _ hfrM, State.setTop_of_frames _ hfrM, State.setFrames_setFrames]
  have b1 : (bytesOf Zs.cB (stringToUtf16 text)).slots.size = (stringBytes (stringToUtf16 text)).size := by
    rw [(Cell.writeAll_facts _ _).2.2]; simp [bytes0]
  have b2 : (stringAt Zs.cS Zs.kS Zs.fv Zs.fc (stringToUtf16 text) W.heap.size).slots.size = 4 := by simp [string0, Cell.setSlot, hn4]
  have b3 : (freshCell P1.m.cls kX).slots.size = 6 := by simp [hn6]
  rw [b1, b2, b3] at X5
  have e9 : slots + (stringBytes (stringToUtf16 text)).size + 4 + 6 = slots + ((stringBytes (stringToUtf16 text)).size + 4 + 6) := by omega
  rw [e9] at X5
  simp only [List.append_assoc, List.cons_append, List.nil_append] at X5
  refine ⟨((withThrown W Zs text P1.m.cls kX).setVm vm').setCell (W.heap.size + 2) (plainBareV T.toThrowableT (freshCell P1.m.cls kX) (W.heap.size + 2) u0 sen (.ref (W.heap.size + 1))), W.heap.size + 2, _, fun target ht => st _ (by rw [X.tail, ← hU]; exact ht),
    X5.forget (fun y hy => ?_), heapAt_setCell_self _ ha, hfound, rfl⟩
  simp only [List.mem_cons, List.not_mem_nil, or_false] at hy
  have hge : s.heap.size ≤ W.heap.size := X.same.2.1
  rcases hy with rfl | rfl | rfl | rfl | rfl <;> exact Nat.le_trans hge (Nat.le_add_right _ 2)
set_option maxHeartbeats 1000000 in
/-- the machine throws NullPointerException, no traces kept: from its note over the frame g to 'throwing' over the same frame (follows the proof of Stand.vmThrowsNpe, Shelf42/KT2.lean; throwsNpeColdBareVAt, Shelf42/NT91.lean, called) -/
theorem vx_npeAt {p : Program} {l : Launch} {e : Env} {R : Room} {s : State} {m₀ : MethodId} {args : Array Value} {below : List Frame} {meth : Method} {c : Code} {W : State} {locs : List Loc} {cells slots : Nat}
    (X : Stand p l e R s m₀ args below meth c W locs cells slots) (hexec : p.tables.exec = Jvm.exec) (htr : e.platform.stackTraces = false) {n : Nat}
    (h : ∀ a ∈ Bundle.npeArmAtoms n, a.before args s = true)
    (hlocs : ∀ x ∈ locs, ∀ cell, s.heap[x.base]? = some cell → cell.vm.isStatics = false)
    {g : JFrame} (hg : g.method = m₀) (hsize : g.locals.size = c.maxLocals)
    (hRframes : 7 < R.frames) (hRlocals : 2 * g.monitorRoom + (g.stack.map fun v => v.category).sum + 10240 ≤ R.locals)
    (hRcells : cells + 1 ≤ R.cells) (hRslots : slots + n ≤ R.slots) (hlocks : meth.locks = false) :
    ∃ (S : State) (q : Addr) (ce : Cell), (∀ target, Steps p.tables e below ((S.setTop g).pushFrame (.throwing q)) target → Steps p.tables e below ((W.setTop g).pushFrame (.throwNew "java/lang/NullPointerException" none none)) target) ∧
      Stand p l e R s m₀ args below meth c S locs (cells + 1) (slots + n) ∧ S.heap[q]? = some ce ∧ s.vm.findClass "java/lang/NullPointerException" = some ce.cls ∧ ce.vm = .none := by
  have howns : e.platform.frameOwnsMonitors = true := by rw [X.admits.platform]
  have hfin : e.platform.finalization = false := by rw [X.admits.platform]
  have hpl : e.platform.magicAccessors = ({} : Platform).magicAccessors := by rw [X.admits.platform]
  have hpl2 : e.platform.arrayCloneIsPublic = true := by rw [X.admits.platform]
  have a' : ∀ x, x ∈ Bundle.npeArmAtoms n → x.holds args s none s [] = true := fun x hx => h x hx
  obtain ⟨T, Z, L, LZ, Y⟩ := ThrowableC.of_atoms (args := args) howns hfin hpl (fun x hx => h x (by simp [Bundle.npeArmAtoms, hx]))
  obtain ⟨N, LN, hcN, hnNF, hordN, hffS⟩ := NpeC.of_atoms (args := args) hpl hpl2 L Y (fun x hx => h x (by simp [Bundle.npeArmAtoms, hx]))
  obtain ⟨P1, L1, hP1m, hP1s⟩ := PassC.of_atoms (args := args) (s := s) hpl (X := Bundle.nN) (Y := Bundle.rN) (by decide) (by decide) LibCode.NullPointerException.Init0.at_0 LibCode.NullPointerException.Init0.at_1 LibCode.NullPointerException.Init0.at_4 (fun x hx => h x (by simp [Bundle.npeArmAtoms, hx]))
  obtain ⟨PR, LR, hPRm, hPRs⟩ := PassC.of_atoms (args := args) (s := s) hpl (X := Bundle.rN) (Y := Bundle.eN) (by decide) (by decide) LibCode.RuntimeException.Init0.at_0 LibCode.RuntimeException.Init0.at_1 LibCode.RuntimeException.Init0.at_4 (fun x hx => h x (by simp [Bundle.npeArmAtoms, hx]))
  obtain ⟨PE, LEx, hPEm, hPEs⟩ := PassC.of_atoms (args := args) (s := s) hpl (X := Bundle.eN) (Y := Bundle.tN) (by decide) (by decide) LibCode.Exception.Init0.at_0 LibCode.Exception.Init0.at_1 LibCode.Exception.Init0.at_4 (fun x hx => h x (by simp [Bundle.npeArmAtoms, hx]))
  have hfound : s.vm.findClass Bundle.nN = some P1.m.cls := findClass_of_methodNamed hP1m
  have ecls : N.cN = P1.m.cls := Option.some.inj (hcN.symm.trans hfound)
  have hk : s.vm.classes[P1.m.cls]? = some N.kN := by rw [← ecls]; exact LN.cls
  have hinit := Cond.initialized_spec hfound hk (a' (.initialized Bundle.nN) (by simp [Bundle.npeArmAtoms]))
  have hctor : N.kN.findMethod "<init>" "()V" = some P1.m.idx := findMethod_of_methodNamed hP1m hk
  obtain ⟨c1, k1, hc1, hk1, -, -, -, hn⟩ := Cond.instantiable_spec (a' (.instantiable Bundle.nN n) (by simp [Bundle.npeArmAtoms]))
  cases Option.some.inj (hc1.symm.trans hfound)
  cases Option.some.inj (hk1.symm.trans hk)
  have hfsz : (freshCell P1.m.cls N.kN).slots.size = n := by simp [hn]
  have hlink1 : P1.sup = PR.m := Option.some.inj (hP1s.symm.trans hPRm)
  have hlinkR : PR.sup = PE.m := Option.some.inj (hPRs.symm.trans hPEm)
  have hlinkE : PE.sup = Z.m T.toThrowableT := Option.some.inj (hPEs.symm.trans Y.init0)
  have hLs : ∀ P, P ∈ [PR, PE] → P.Links0 e.platform s := fun P hP => by
    simp only [List.mem_cons, List.not_mem_nil, or_false] at hP
    rcases hP with rfl | rfl
    · exact LR
    · exact LEx
  have hsel0 : selectMethod e.platform s.vm P1.m.cls T.fill0 = .method T.fill0 := by
    obtain ⟨c2, r2, m2, q1, q2, q3, q4, -⟩ := Cond.selects_spec (a' (.selects Bundle.nN Bundle.tFill0 Bundle.tFill0) (by simp [Bundle.npeArmAtoms]))
    cases Option.some.inj (q1.symm.trans hfound)
    cases Option.some.inj (q2.symm.trans (State.methodFound?_of_named Y.fill0 (by decide)))
    cases Option.some.inj (q3.symm.trans Y.fill0)
    rw [Launch.admits_selectMethod X.admits]; exact q4
  have hselF : selectMethod e.platform s.vm P1.m.cls T.fill = .method N.fill := by
    obtain ⟨c2, r2, m2, q1, q2, q3, q4, -⟩ := Cond.selects_spec (a' (.selects Bundle.nN Bundle.tFill Bundle.nFill) (by simp [Bundle.npeArmAtoms]))
    cases Option.some.inj (q1.symm.trans hfound)
    cases Option.some.inj (q2.symm.trans (State.methodFound?_of_named Y.fill (by decide)))
    cases Option.some.inj (q3.symm.trans hnNF)
    rw [Launch.admits_selectMethod X.admits]; exact q4
  obtain ⟨cellS0, hcS0, hiss⟩ := Y.statics
  obtain ⟨u0, hu0⟩ := Cond.staticRefV Y.unassigned L.unassignedStatic L.statics hcS0 hiss (a' (.isRef (.static Bundle.tN "UNASSIGNED_STACK" Bundle.steD)) (by simp [Bundle.npeArmAtoms]))
  obtain ⟨sen, hsen⟩ := Cond.staticRefV Y.sentinel L.sentinelStatic L.statics hcS0 hiss (a' (.isRef (.static Bundle.tN "SUPPRESSED_SENTINEL" Bundle.listD)) (by simp [Bundle.npeArmAtoms]))
  obtain ⟨ci198, i198, fB, hk198, hg198, ha198, hsB, -, hnB, htB, hffB⟩ := Cond.ownField (t := .object "java/lang/Object") Y.found L.cls (by decide +kernel) (a' (.fieldLink Bundle.tN 198 Bundle.tN "backtrace" Bundle.objD) (by simp [Bundle.npeArmAtoms])) (a' (.lays Bundle.tN Bundle.tN "backtrace" Bundle.objD) (by simp [Bundle.npeArmAtoms])) e.platform hpl
  obtain ⟨cellS, hcS', heS, -, hkeep⟩ := X.same.2.2.2.2.2 T.aS cellS0 hcS0
  have hcellS : W.heap[T.aS]? = some cellS := hcS'
  have hout' : ∀ i, (⟨T.aS, i⟩ : Loc) ∉ locs := fun i hmem => by
    have := hlocs _ hmem cellS0 hcS0
    rw [hiss] at this; cases this
  have hknownS : cellS.vm ≠ .unknown := by
    rw [heS]; intro hu
    rw [show cellS0.vm = .unknown from hu] at hiss
    cases hiss
  have hvU : cellS.slots[T.fUnassigned.slot]? = some u0.v := by rw [hkeep _ (hout' _)]; exact hu0
  have hvSen : cellS.slots[T.fSentinel.slot]? = some sen.v := by rw [hkeep _ (hout' _)]; exact hsen
  obtain ⟨tyC, dC, hdC, hdnC⟩ := Cond.laysAt hfound hk Y.cause (a' (.lays Bundle.nN Bundle.tN "cause" "Ljava/lang/Throwable;") (by simp [Bundle.npeArmAtoms]))
  obtain ⟨tyS, dS, hdS, hdnS⟩ := Cond.laysAt hfound hk Y.stack (a' (.lays Bundle.nN Bundle.tN "stackTrace" Bundle.steD) (by simp [Bundle.npeArmAtoms]))
  obtain ⟨tyP, dP, hdP, hdnP⟩ := Cond.laysAt hfound hk Y.supp (a' (.lays Bundle.nN Bundle.tN "suppressedExceptions" Bundle.listD) (by simp [Bundle.npeArmAtoms]))
  obtain ⟨tyX, dX, hdX, hdnX⟩ := Cond.laysAt hfound hk hffS (a' (.lays Bundle.nN Bundle.nN "extendedMessageState" "I") (by simp [Bundle.npeArmAtoms, Bundle.npeAtoms]))
  obtain ⟨hnX, htX⟩ := State.fieldFound?_type hffS (t := .int) (by decide +kernel)
  have xC := Cond.laysApart hdC hdX hdnC hdnX (by rw [hnX, Y.causeName]; decide)
  have xS := Cond.laysApart hdS hdX hdnS hdnX (by rw [hnX, Y.stackName]; decide)
  have xP := Cond.laysApart hdP hdX hdnP hdnX (by rw [hnX, Y.suppName]; decide)
  have hv0 : (freshCell P1.m.cls N.kN).slots[N.fState.slot]? = some (.int 0) := by
    have := fresh_default (c := P1.m.cls) tyX
    rw [htX] at this; exact this
  obtain ⟨tyB, dB, hdB, hdnB⟩ := Cond.laysAt hfound hk hffB (a' (.lays Bundle.nN Bundle.tN "backtrace" Bundle.objD) (by simp [Bundle.npeArmAtoms]))
  have bC := Cond.laysApart hdB hdC hdnB hdnC (by rw [hnB, Y.causeName]; decide)
  have bS := Cond.laysApart hdB hdS hdnB hdnS (by rw [hnB, Y.stackName]; decide)
  have bP := Cond.laysApart hdB hdP hdnB hdnP (by rw [hnB, Y.suppName]; decide)
  have bX := Cond.laysApart hdB hdX hdnB hdnX (by rw [hnB, hnX]; decide)
  have hbk : ((npeCell N.toNpeT (preparedCellV T.toThrowableT (freshCell P1.m.cls N.kN) W.heap.size u0 sen) W.cur).withEntry W.cur).slots[fB.slot]? = some .null := by
    have := fresh_default (c := P1.m.cls) tyB
    rw [htB] at this
    simpa [npeCell, preparedCellV, Cell.setSlot, Cell.withEntry, Array.getElem?_setIfInBounds, bC, bS, bP, bX, bC.symm, bS.symm, bP.symm, bX.symm, defaultValue] using this
  have tkC := Takes.of_laid (v := .ref W.heap.size) hk hordN tyC (by rw [Y.causeType]; rfl)
  have tkS := Takes.of_laid (v := u0.v) hk hordN tyS (by rw [Y.stackType]; exact fits_refV_array _ u0)
  have tkP := Takes.of_laid (v := sen.v) hk hordN tyP (by rw [Y.suppType]; exact fits_refV_object _ sen)
  have tkX := Takes.of_laid (v := .int 1) hk hordN tyX (by rw [htX]; rfl)
  have hskip : SkipFacts T e.platform s (fun u => u) u0 ((npeCell N.toNpeT (preparedCellV T.toThrowableT (freshCell P1.m.cls N.kN) W.heap.size u0 sen) W.cur).withEntry W.cur) := ⟨{ ci198 := ci198, i198 := i198, fBack := fB }, ⟨hk198, hg198, ha198, hsB⟩, hbk, fun _ _ => rfl⟩
  obtain ⟨vm', X3, st, -⟩ := X.throwsNpeColdBareVAt hexec hg hsize T L Z LZ N LN P1 L1 [PR, PE] hLs hlink1 ⟨hlinkR, hlinkE, trivial⟩ hfound hk hinit hordN hctor hsel0 hselF hcellS hknownS hvU hvSen
    hv0 xC xS xP tkC tkS tkP tkX Y.objLocals hskip (fun _ _ hA hW _ hroom _ hrest => L.nativeOff p htr hA hW hroom hrest) (by simpa using hRframes) hRlocals (by simp) hRcells (by rw [hn]; exact hRslots)
  have hlt : W.heap.size < ((W.pushCell (freshCell P1.m.cls N.kN)).setVm vm').heap.size := by
    show W.heap.size < (W.pushCell (freshCell P1.m.cls N.kN)).heap.size
    rw [State.heap_size_pushCell]; omega
  rw [hfsz] at X3
  obtain ⟨g₁, hfrM⟩ := X3.frames_eq
  have hU : ((((W.pushCell (freshCell P1.m.cls N.kN)).setVm vm').setCell W.heap.size (npeBareV T.toThrowableT N.toNpeT (freshCell P1.m.cls N.kN) W.heap.size u0 sen)).setTop g).pushFrame (.throwing W.heap.size) = (((W.pushCell (freshCell P1.m.cls N.kN)).setVm vm').setCell W.heap.size (npeBareV T.toThrowableT N.toNpeT (freshCell P1.m.cls N.kN) W.heap.size u0 sen)).setFrames (.throwing W.heap.size :: .java g :: below) := by
    rw [State.pushFrame, State.frames_setTop _ hfrM, State.setTop_of_frames _ hfrM, State.setFrames_setFrames]
  refine ⟨_, W.heap.size, _, fun target ht => st.trans (by rw [← hU]; exact ht), X3.forget (fun y hy => ?_), heapAt_setCell_self _ hlt, hfound, rfl⟩
  simp only [List.mem_cons, List.not_mem_nil, or_false] at hy
  have hge : s.heap.size ≤ W.heap.size := X.same.2.1
  rcases hy with rfl | rfl | rfl | rfl | rfl <;> exact hge
/-- the words of a machine's NullPointerException, but the four that speak of the heap -/
def vx_atN (n : Nat) : List Cond := (Bundle.npeArmAtoms n).filter vx_no
/-- the words of a machine's throw with a message, but the four that speak of the heap -/
def vx_atM (X : String) (names : List String) : List Cond := (Bundle.messageArmAtoms X names).filter vx_no
section
variable {p : Program} {l : Launch} {e : Env} {R : Room} {s : State} {m : MethodId} {args : Array Value} {below : List Frame} {meth : Method} {c : Code} {H : Heap} {locs : List Loc} {cells slots : Nat}
/-- a frame seen from a rebased start, seen from the first start again -/
theorem vx_back9 {T S : State} {R' : Room} {k n : Nat} (X : Stand p l e R s m args below meth c T locs cells slots) (Y : Stand p l e R' ((T.setVm s.vm).setFrames (.invoking m args :: below)) m args below meth c T [] 0 0) (Z : Stand p l e R' ((T.setVm s.vm).setFrames (.invoking m args :: below)) m args below meth c S [] k n) :
    Stand p l e R s m args below meth c S locs (cells + k) (slots + n) := by
  have hW0 : s.WarmedH ((T.setVm s.vm).setFrames (.invoking m args :: below)).vm := State.WarmedH.refl s
  refine { admits := X.admits, cas := X.cas, clock := X.clock, frames := X.frames, room := X.room, hears := X.hears, method := X.method, code := X.code, here := Z.here, tail := Z.tail, warmed := State.WarmedH.trans hW0 Z.warmed, limits := Z.limits.trans (Y.limits.symm.trans X.limits), bytes := Z.bytes.trans (Y.bytes.symm.trans X.bytes), same := ?_ }
  obtain ⟨e1, e2⟩ := Z.same
  rw [State.setFrames_setFrames] at e1
  have h2 : (T.setVm s.vm).sameButNew (S.setVm s.vm) [] k n := ⟨e1, e2⟩
  have h3 := X.same.trans h2
  rw [List.append_nil] at h3
  exact h3
/-- from the machine's note that E is thrown here with this text -/
def vx_Note (p : Program) (l : Launch) (e : Env) (R : Room) (s : State) (m : MethodId) (args : Array Value) (below : List Frame) (meth : Method) (c : Code) (H : Heap) (locs : List Loc) (cells slots : Nat) (Q : State → Prop) (g : JFrame) (E text : String) : Prop :=
  ∀ T : State, T.heap = H → Stand p l e R s m args below meth c T locs cells slots → ∃ t, Steps p.tables e below ((T.setTop g).pushFrame (.throwNew E (some text) none)) t ∧ Q t
theorem vx_vm {pc : Nat} {ls : Array Slot} {rest : List Value} {Q : State → Prop} (hexec : p.tables.exec = Jvm.exec) (hl : l.stackTraces = false) {cls text : String} {names : List String} {nb : Nat} {A : Nat → Prop}
    (hcls : Bundle.fit cls = true) (hnames : ∀ n ∈ names, Bundle.fit n = true) (hsoe : (cls == "java/lang/StackOverflowError") = false) (hoom : (cls == "java/lang/OutOfMemoryError") = false)
    (hat : ∀ w ∈ vx_atM cls names, w.before args s = true) (hgood : ∀ w ∈ vx_atM cls names, vx_ot w = true)
    (hU : vx_Zq Bundle.tN "UNASSIGNED_STACK" Bundle.steD A s s.heap) (hN : vx_Zq Bundle.tN "SUPPRESSED_SENTINEL" Bundle.listD A s s.heap) (hS : va_S A s.heap H locs) (hsize : ls.size = c.maxLocals)
    (htext : (text == notModelled) = false) (hnb : (stringBytes (stringToUtf16 text)).size ≤ nb) (hnb1 : nb ≤ 1000)
    (hRframes : names.length + 4 < R.frames) (hRlocals : (rest.map fun v => v.category).sum + 10240 ≤ R.locals) (hshort : 13 * names.length + 55 ≤ 10240) (hRcells : cells + 3 ≤ R.cells) (hRslots : slots + (nb + 10) ≤ R.slots) (hlocks : meth.locks = false)
    (k : ∀ (H1 : Heap) (q9 : Addr) (ce : Cell), H.size ≤ H1.size → (∀ q : Nat, q < H.size → H1[q]? = H[q]?) → va_S A s.heap H1 locs → H1[q9]? = some ce → ce.vm = .none → s.vm.findClass cls = some ce.cls → vx_W p l e R s m args below meth c H1 locs (cells + 3) (slots + (nb + 10)) Q (F0 m pc ls rest) q9) :
    vx_Note p l e R s m args below meth c H locs cells slots Q (F0 m pc ls rest) cls text := by
  intro T hT X
  have htr : e.platform.stackTraces = false := (show e.platform.stackTraces = l.stackTraces by rw [X.admits.platform]).trans hl
  have Y := vx_rebase X (R' := { frames := R.frames, locals := R.locals, cells := 3, slots := nb + 10 }) (Nat.le_refl _) (Nat.le_refl _) hRcells hRslots
  have hhp : ((T.setVm s.vm).setFrames (.invoking m args :: below)).heap = H := hT
  have hW0 : s.WarmedH ((T.setVm s.vm).setFrames (.invoking m args :: below)).vm := State.WarmedH.refl s
  have hat' : ∀ w ∈ vx_atM cls names, w.before args ((T.setVm s.vm).setFrames (.invoking m args :: below)) = true := fun w hw => vx_ot_at hW0 rfl (hgood w hw) (hat w hw)
  have hU' : vx_Zq Bundle.tN "UNASSIGNED_STACK" Bundle.steD A ((T.setVm s.vm).setFrames (.invoking m args :: below)) ((T.setVm s.vm).setFrames (.invoking m args :: below)).heap := by rw [hhp]; exact vx_Zq.moved hW0.alike (hU.kept hS.2.1)
  have hN' : vx_Zq Bundle.tN "SUPPRESSED_SENTINEL" Bundle.listD A ((T.setVm s.vm).setFrames (.invoking m args :: below)) ((T.setVm s.vm).setFrames (.invoking m args :: below)).heap := by rw [hhp]; exact vx_Zq.moved hW0.alike (hN.kept hS.2.1)
  obtain ⟨S, q, ce, st, Z, hce, hcl', hv⟩ := vx_vmAt Y hexec htr (cls := cls) (names := names) (text := text) hcls hnames hsoe hoom (vx_own hat' (vx_isRefq hU'.1) (vx_isRefq hN'.1) hU'.2.word hN'.2.word) (fun x hx => nomatch hx) htext
    (by rw [Launch.admits_arrayLengthLimit X.admits]; omega) (by rw [Launch.admits_maxHeapBytes X.admits]; simp only [componentBytes]; omega)
    (g := F0 m pc ls rest) rfl hsize hRframes (by show 2 * 0 + (rest.map fun v => v.category).sum + 10240 ≤ R.locals; omega) hshort (by show 0 + 3 ≤ 3; omega) (by show 0 + (_ + 4 + 6) ≤ nb + 10; omega) hlocks
  obtain ⟨f1, f2⟩ := vx_frame Z.same
  have f1' : H.size ≤ S.heap.size := by rw [← hT]; exact f1
  have f2' : ∀ q : Nat, q < H.size → S.heap[q]? = H[q]? := fun q hq => by
    rw [← hT]
    exact f2 q (by rw [← hT] at hq; exact hq) (fun z hz => nomatch hz)
  have X5 := vx_back9 X Y Z
  have X6 : Stand p l e R s m args below meth c S locs (cells + 3) (slots + (nb + 10)) := { X5 with same := X5.same.mono (by omega) (by omega) }
  obtain ⟨t, a1, b1⟩ := k S.heap q ce f1' f2' ⟨Nat.le_trans hS.1 f1', fun q h1 h2 => (f2' q (Nat.lt_of_lt_of_le h1 hS.1)).trans (hS.2.1 q h1 h2), hS.2.2⟩ hce hv hcl' S rfl X6
  exact ⟨t, st t a1, b1⟩
/-- from the machine's note that NullPointerException is thrown here -/
def vx_NoteN (p : Program) (l : Launch) (e : Env) (R : Room) (s : State) (m : MethodId) (args : Array Value) (below : List Frame) (meth : Method) (c : Code) (H : Heap) (locs : List Loc) (cells slots : Nat) (Q : State → Prop) (g : JFrame) : Prop :=
  ∀ T : State, T.heap = H → Stand p l e R s m args below meth c T locs cells slots → ∃ t, Steps p.tables e below ((T.setTop g).pushFrame (.throwNew "java/lang/NullPointerException" none none)) t ∧ Q t
theorem vx_npe {pc : Nat} {ls : Array Slot} {rest : List Value} {Q : State → Prop} (hexec : p.tables.exec = Jvm.exec) (hl : l.stackTraces = false) {nb : Nat} {A : Nat → Prop}
    (hat : ∀ w ∈ vx_atN nb, w.before args s = true) (hgood : ∀ w ∈ vx_atN nb, vx_ot w = true)
    (hU : vx_Zq Bundle.tN "UNASSIGNED_STACK" Bundle.steD A s s.heap) (hN : vx_Zq Bundle.tN "SUPPRESSED_SENTINEL" Bundle.listD A s s.heap) (hS : va_S A s.heap H locs) (hsize : ls.size = c.maxLocals)
    (hRframes : 7 < R.frames) (hRlocals : (rest.map fun v => v.category).sum + 10240 ≤ R.locals) (hRcells : cells + 1 ≤ R.cells) (hRslots : slots + nb ≤ R.slots) (hlocks : meth.locks = false)
    (k : ∀ (H1 : Heap) (q9 : Addr) (ce : Cell), H.size ≤ H1.size → (∀ q : Nat, q < H.size → H1[q]? = H[q]?) → va_S A s.heap H1 locs → H1[q9]? = some ce → ce.vm = .none → s.vm.findClass "java/lang/NullPointerException" = some ce.cls → vx_W p l e R s m args below meth c H1 locs (cells + 1) (slots + nb) Q (F0 m pc ls rest) q9) :
    vx_NoteN p l e R s m args below meth c H locs cells slots Q (F0 m pc ls rest) := by
  intro T hT X
  have htr : e.platform.stackTraces = false := (show e.platform.stackTraces = l.stackTraces by rw [X.admits.platform]).trans hl
  have Y := vx_rebase X (R' := { frames := R.frames, locals := R.locals, cells := 1, slots := nb }) (Nat.le_refl _) (Nat.le_refl _) hRcells hRslots
  have hhp : ((T.setVm s.vm).setFrames (.invoking m args :: below)).heap = H := hT
  have hW0 : s.WarmedH ((T.setVm s.vm).setFrames (.invoking m args :: below)).vm := State.WarmedH.refl s
  have hat' : ∀ w ∈ vx_atN nb, w.before args ((T.setVm s.vm).setFrames (.invoking m args :: below)) = true := fun w hw => vx_ot_at hW0 rfl (hgood w hw) (hat w hw)
  have hU' : vx_Zq Bundle.tN "UNASSIGNED_STACK" Bundle.steD A ((T.setVm s.vm).setFrames (.invoking m args :: below)) ((T.setVm s.vm).setFrames (.invoking m args :: below)).heap := by rw [hhp]; exact vx_Zq.moved hW0.alike (hU.kept hS.2.1)
  have hN' : vx_Zq Bundle.tN "SUPPRESSED_SENTINEL" Bundle.listD A ((T.setVm s.vm).setFrames (.invoking m args :: below)) ((T.setVm s.vm).setFrames (.invoking m args :: below)).heap := by rw [hhp]; exact vx_Zq.moved hW0.alike (hN.kept hS.2.1)
  obtain ⟨S, q, ce, st, Z, hce, hcl', hv⟩ := vx_npeAt Y hexec htr (n := nb) (vx_own hat' (vx_isRefq hU'.1) (vx_isRefq hN'.1) hU'.2.word hN'.2.word) (fun x hx => nomatch hx)
    (g := F0 m pc ls rest) rfl hsize hRframes (by show 2 * 0 + (rest.map fun v => v.category).sum + 10240 ≤ R.locals; omega) (by show 0 + 1 ≤ 1; omega) (by show 0 + nb ≤ nb; omega) hlocks
  obtain ⟨f1, f2⟩ := vx_frame Z.same
  have f1' : H.size ≤ S.heap.size := by rw [← hT]; exact f1
  have f2' : ∀ q : Nat, q < H.size → S.heap[q]? = H[q]? := fun q hq => by
    rw [← hT]
    exact f2 q (by rw [← hT] at hq; exact hq) (fun z hz => nomatch hz)
  have X5 := vx_back9 X Y Z
  have X6 : Stand p l e R s m args below meth c S locs (cells + 1) (slots + nb) := { X5 with same := X5.same.mono (by omega) (by omega) }
  obtain ⟨t, a1, b1⟩ := k S.heap q ce f1' f2' ⟨Nat.le_trans hS.1 f1', fun q h1 h2 => (f2' q (Nat.lt_of_lt_of_le h1 hS.1)).trans (hS.2.1 q h1 h2), hS.2.2⟩ hce hv hcl' S rfl X6
  exact ⟨t, st t a1, b1⟩
variable {Q : State → Prop} {cc : ByteArray} {pc : Nat} {ls : Array Slot} {rest : List Value}
theorem vx_idivZ (hexec : p.tables.exec = Jvm.exec) (hb : c.code = cc) {a b : Int32} (h0 : b = 0) (d : decode cc pc = .ok (.idiv, 1)) (k : vx_Note p l e R s m args below meth c H locs cells slots Q (F0 m pc ls rest) "java/lang/ArithmeticException" "/ by zero") :
    W p l e R s m args below meth c H locs cells slots Q (F0 m pc ls (.int b :: .int a :: rest)) := by
  intro T hT X
  obtain ⟨t, st, q⟩ := k T hT X
  exact ⟨t, X.idivZero hexec (g := F0 m pc ls (.int b :: .int a :: rest)) rfl (a := a) (rest := rest) (by rw [h0]) (by rw [hb]; exact d) t st, q⟩
theorem vx_iremZ (hexec : p.tables.exec = Jvm.exec) (hb : c.code = cc) {a b : Int32} (h0 : b = 0) (d : decode cc pc = .ok (.irem, 1)) (k : vx_Note p l e R s m args below meth c H locs cells slots Q (F0 m pc ls rest) "java/lang/ArithmeticException" "/ by zero") :
    W p l e R s m args below meth c H locs cells slots Q (F0 m pc ls (.int b :: .int a :: rest)) := by
  intro T hT X
  obtain ⟨t, st, q⟩ := k T hT X
  exact ⟨t, X.iremZero hexec (g := F0 m pc ls (.int b :: .int a :: rest)) rfl (a := a) (rest := rest) (by rw [h0]) (by rw [hb]; exact d) t st, q⟩
theorem vx_ldivZ (hexec : p.tables.exec = Jvm.exec) (hb : c.code = cc) {a b : Int64} (h0 : b = 0) (d : decode cc pc = .ok (.ldiv, 1)) (k : vx_Note p l e R s m args below meth c H locs cells slots Q (F0 m pc ls rest) "java/lang/ArithmeticException" "/ by zero") :
    W p l e R s m args below meth c H locs cells slots Q (F0 m pc ls (.long b :: .long a :: rest)) := by
  intro T hT X
  obtain ⟨t, st, q⟩ := k T hT X
  exact ⟨t, X.ldivZero hexec (g := F0 m pc ls (.long b :: .long a :: rest)) rfl (a := a) (rest := rest) (by rw [h0]) (by rw [hb]; exact d) t st, q⟩
theorem vx_lremZ (hexec : p.tables.exec = Jvm.exec) (hb : c.code = cc) {a b : Int64} (h0 : b = 0) (d : decode cc pc = .ok (.lrem, 1)) (k : vx_Note p l e R s m args below meth c H locs cells slots Q (F0 m pc ls rest) "java/lang/ArithmeticException" "/ by zero") :
    W p l e R s m args below meth c H locs cells slots Q (F0 m pc ls (.long b :: .long a :: rest)) := by
  intro T hT X
  obtain ⟨t, st, q⟩ := k T hT X
  exact ⟨t, X.lremZero hexec (g := F0 m pc ls (.long b :: .long a :: rest)) rfl (a := a) (rest := rest) (by rw [h0]) (by rw [hb]; exact d) t st, q⟩
theorem vx_ialdZ {D : va_G} {cl : List vw_C} {ws : va_W} {tys : List (ClassId × FieldType)} {a : Nat} (hexec : p.tables.exec = Jvm.exec) (hb : c.code = cc) (hK : va_K D cl tys s) (hP : va_P D cl ws H) (q0 t0 : Nat) {cA : ClassId} {n : Nat} {f : Nat → Int32} (ha : ws[q0]? = some (a, .inl (cA, n, .inl f))) (ht : tys[t0]? = some (cA, .int)) {i : Int32} (hout : ¬ vp_in i n) (hdg : decode cc pc = .ok (.iaload, 1))
    (k : ∀ tx : String, tx = (toString "Index " ++ toString i ++ toString " out of bounds for length " ++ toString n : String) → vx_Note p l e R s m args below meth c H locs cells slots Q (F0 m pc ls rest) "java/lang/ArrayIndexOutOfBoundsException" tx) : W p l e R s m args below meth c H locs cells slots Q (F0 m pc ls (.int i :: .ref a :: rest)) := by
  intro T hT X
  obtain ⟨t, st, q⟩ := k _ rfl T hT X
  refine ⟨t, ?_, q⟩
  have h1 := X.ialoadOut hexec (by rw [hT]; exact hP q0 _ ha) ((hK.2 t0 _ ht).1 n (fun j => .int (f j))) (j := i) (by show (i < 0 ∨ (arrV _ _ _).slots.size ≤ _); rw [arrV_size]; exact Classical.byContradiction hout) (g := F0 m pc ls (.int i :: .ref a :: rest)) rfl (rest := rest) rfl (by rw [hb]; exact hdg) t
  simp only [arrV_size] at h1
  exact h1 st
theorem vx_iastZ {D : va_G} {cl : List vw_C} {ws : va_W} {tys : List (ClassId × FieldType)} {a : Nat} (hexec : p.tables.exec = Jvm.exec) (hb : c.code = cc) (hK : va_K D cl tys s) (hP : va_P D cl ws H) (q0 t0 : Nat) {cA : ClassId} {n : Nat} {f : Nat → Int32} (ha : ws[q0]? = some (a, .inl (cA, n, .inl f))) (ht : tys[t0]? = some (cA, .int)) {i : Int32} {x : Int32} (hout : ¬ vp_in i n) (hdg : decode cc pc = .ok (.iastore, 1))
    (k : ∀ tx : String, tx = (toString "Index " ++ toString i ++ toString " out of bounds for length " ++ toString n : String) → vx_Note p l e R s m args below meth c H locs cells slots Q (F0 m pc ls rest) "java/lang/ArrayIndexOutOfBoundsException" tx) : W p l e R s m args below meth c H locs cells slots Q (F0 m pc ls (.int x :: .int i :: .ref a :: rest)) := by
  intro T hT X
  obtain ⟨t, st, q⟩ := k _ rfl T hT X
  refine ⟨t, ?_, q⟩
  have h1 := X.iastoreOut hexec (by rw [hT]; exact hP q0 _ ha) ((hK.2 t0 _ ht).1 n (fun j => .int (f j))) (j := i) (by show (i < 0 ∨ (arrV _ _ _).slots.size ≤ _); rw [arrV_size]; exact Classical.byContradiction hout) (g := F0 m pc ls (.int x :: .int i :: .ref a :: rest)) rfl (rest := rest) rfl (by rw [hb]; exact hdg) t
  simp only [arrV_size] at h1
  exact h1 st
theorem vx_baldZ {D : va_G} {cl : List vw_C} {ws : va_W} {tys : List (ClassId × FieldType)} {a : Nat} (hexec : p.tables.exec = Jvm.exec) (hb : c.code = cc) (hK : va_K D cl tys s) (hP : va_P D cl ws H) (q0 t0 : Nat) {cA : ClassId} {n : Nat} {f : Nat → Int32} (ha : ws[q0]? = some (a, .inl (cA, n, .inl f))) (ht : tys[t0]? = some (cA, .byte)) {i : Int32} (hout : ¬ vp_in i n) (hdg : decode cc pc = .ok (.baload, 1))
    (k : ∀ tx : String, tx = (toString "Index " ++ toString i ++ toString " out of bounds for length " ++ toString n : String) → vx_Note p l e R s m args below meth c H locs cells slots Q (F0 m pc ls rest) "java/lang/ArrayIndexOutOfBoundsException" tx) : W p l e R s m args below meth c H locs cells slots Q (F0 m pc ls (.int i :: .ref a :: rest)) := by
  intro T hT X
  obtain ⟨t, st, q⟩ := k _ rfl T hT X
  refine ⟨t, ?_, q⟩
  have h1 := X.baloadOut hexec (by rw [hT]; exact hP q0 _ ha) ((hK.2 t0 _ ht).1 n (fun j => .int (f j))) (j := i) (by show (i < 0 ∨ (arrV _ _ _).slots.size ≤ _); rw [arrV_size]; exact Classical.byContradiction hout) (g := F0 m pc ls (.int i :: .ref a :: rest)) rfl (rest := rest) rfl (by rw [hb]; exact hdg) t
  simp only [arrV_size] at h1
  exact h1 st
theorem vx_bastZ {D : va_G} {cl : List vw_C} {ws : va_W} {tys : List (ClassId × FieldType)} {a : Nat} (hexec : p.tables.exec = Jvm.exec) (hb : c.code = cc) (hK : va_K D cl tys s) (hP : va_P D cl ws H) (q0 t0 : Nat) {cA : ClassId} {n : Nat} {f : Nat → Int32} (ha : ws[q0]? = some (a, .inl (cA, n, .inl f))) (ht : tys[t0]? = some (cA, .byte)) {i : Int32} {x : Int32} (hout : ¬ vp_in i n) (hdg : decode cc pc = .ok (.bastore, 1))
    (k : ∀ tx : String, tx = (toString "Index " ++ toString i ++ toString " out of bounds for length " ++ toString n : String) → vx_Note p l e R s m args below meth c H locs cells slots Q (F0 m pc ls rest) "java/lang/ArrayIndexOutOfBoundsException" tx) : W p l e R s m args below meth c H locs cells slots Q (F0 m pc ls (.int x :: .int i :: .ref a :: rest)) := by
  intro T hT X
  obtain ⟨t, st, q⟩ := k _ rfl T hT X
  refine ⟨t, ?_, q⟩
  have h1 := X.bastoreOut hexec (by rw [hT]; exact hP q0 _ ha) ((hK.2 t0 _ ht).1 n (fun j => .int (f j))) (j := i) (by show (i < 0 ∨ (arrV _ _ _).slots.size ≤ _); rw [arrV_size]; exact Classical.byContradiction hout) (g := F0 m pc ls (.int x :: .int i :: .ref a :: rest)) rfl (rest := rest) rfl (by rw [hb]; exact hdg) t
  simp only [arrV_size] at h1
  exact h1 st
theorem vx_zaldZ {D : va_G} {cl : List vw_C} {ws : va_W} {tys : List (ClassId × FieldType)} {a : Nat} (hexec : p.tables.exec = Jvm.exec) (hb : c.code = cc) (hK : va_K D cl tys s) (hP : va_P D cl ws H) (q0 t0 : Nat) {cA : ClassId} {n : Nat} {f : Nat → Int32} (ha : ws[q0]? = some (a, .inl (cA, n, .inl f))) (ht : tys[t0]? = some (cA, .boolean)) {i : Int32} (hout : ¬ vp_in i n) (hdg : decode cc pc = .ok (.baload, 1))
    (k : ∀ tx : String, tx = (toString "Index " ++ toString i ++ toString " out of bounds for length " ++ toString n : String) → vx_Note p l e R s m args below meth c H locs cells slots Q (F0 m pc ls rest) "java/lang/ArrayIndexOutOfBoundsException" tx) : W p l e R s m args below meth c H locs cells slots Q (F0 m pc ls (.int i :: .ref a :: rest)) := by
  intro T hT X
  obtain ⟨t, st, q⟩ := k _ rfl T hT X
  refine ⟨t, ?_, q⟩
  have h1 := X.baloadOut hexec (by rw [hT]; exact hP q0 _ ha) ((hK.2 t0 _ ht).1 n (fun j => .int (f j))) (j := i) (by show (i < 0 ∨ (arrV _ _ _).slots.size ≤ _); rw [arrV_size]; exact Classical.byContradiction hout) (g := F0 m pc ls (.int i :: .ref a :: rest)) rfl (rest := rest) rfl (by rw [hb]; exact hdg) t
  simp only [arrV_size] at h1
  exact h1 st
theorem vx_zastZ {D : va_G} {cl : List vw_C} {ws : va_W} {tys : List (ClassId × FieldType)} {a : Nat} (hexec : p.tables.exec = Jvm.exec) (hb : c.code = cc) (hK : va_K D cl tys s) (hP : va_P D cl ws H) (q0 t0 : Nat) {cA : ClassId} {n : Nat} {f : Nat → Int32} (ha : ws[q0]? = some (a, .inl (cA, n, .inl f))) (ht : tys[t0]? = some (cA, .boolean)) {i : Int32} {x : Int32} (hout : ¬ vp_in i n) (hdg : decode cc pc = .ok (.bastore, 1))
    (k : ∀ tx : String, tx = (toString "Index " ++ toString i ++ toString " out of bounds for length " ++ toString n : String) → vx_Note p l e R s m args below meth c H locs cells slots Q (F0 m pc ls rest) "java/lang/ArrayIndexOutOfBoundsException" tx) : W p l e R s m args below meth c H locs cells slots Q (F0 m pc ls (.int x :: .int i :: .ref a :: rest)) := by
  intro T hT X
  obtain ⟨t, st, q⟩ := k _ rfl T hT X
  refine ⟨t, ?_, q⟩
  have h1 := X.bastoreOut hexec (by rw [hT]; exact hP q0 _ ha) ((hK.2 t0 _ ht).1 n (fun j => .int (f j))) (j := i) (by show (i < 0 ∨ (arrV _ _ _).slots.size ≤ _); rw [arrV_size]; exact Classical.byContradiction hout) (g := F0 m pc ls (.int x :: .int i :: .ref a :: rest)) rfl (rest := rest) rfl (by rw [hb]; exact hdg) t
  simp only [arrV_size] at h1
  exact h1 st
theorem vx_caldZ {D : va_G} {cl : List vw_C} {ws : va_W} {tys : List (ClassId × FieldType)} {a : Nat} (hexec : p.tables.exec = Jvm.exec) (hb : c.code = cc) (hK : va_K D cl tys s) (hP : va_P D cl ws H) (q0 t0 : Nat) {cA : ClassId} {n : Nat} {f : Nat → Int32} (ha : ws[q0]? = some (a, .inl (cA, n, .inl f))) (ht : tys[t0]? = some (cA, .char)) {i : Int32} (hout : ¬ vp_in i n) (hdg : decode cc pc = .ok (.caload, 1))
    (k : ∀ tx : String, tx = (toString "Index " ++ toString i ++ toString " out of bounds for length " ++ toString n : String) → vx_Note p l e R s m args below meth c H locs cells slots Q (F0 m pc ls rest) "java/lang/ArrayIndexOutOfBoundsException" tx) : W p l e R s m args below meth c H locs cells slots Q (F0 m pc ls (.int i :: .ref a :: rest)) := by
  intro T hT X
  obtain ⟨t, st, q⟩ := k _ rfl T hT X
  refine ⟨t, ?_, q⟩
  have h1 := X.caloadOut hexec (by rw [hT]; exact hP q0 _ ha) ((hK.2 t0 _ ht).1 n (fun j => .int (f j))) (j := i) (by show (i < 0 ∨ (arrV _ _ _).slots.size ≤ _); rw [arrV_size]; exact Classical.byContradiction hout) (g := F0 m pc ls (.int i :: .ref a :: rest)) rfl (rest := rest) rfl (by rw [hb]; exact hdg) t
  simp only [arrV_size] at h1
  exact h1 st
theorem vx_castZ {D : va_G} {cl : List vw_C} {ws : va_W} {tys : List (ClassId × FieldType)} {a : Nat} (hexec : p.tables.exec = Jvm.exec) (hb : c.code = cc) (hK : va_K D cl tys s) (hP : va_P D cl ws H) (q0 t0 : Nat) {cA : ClassId} {n : Nat} {f : Nat → Int32} (ha : ws[q0]? = some (a, .inl (cA, n, .inl f))) (ht : tys[t0]? = some (cA, .char)) {i : Int32} {x : Int32} (hout : ¬ vp_in i n) (hdg : decode cc pc = .ok (.castore, 1))
    (k : ∀ tx : String, tx = (toString "Index " ++ toString i ++ toString " out of bounds for length " ++ toString n : String) → vx_Note p l e R s m args below meth c H locs cells slots Q (F0 m pc ls rest) "java/lang/ArrayIndexOutOfBoundsException" tx) : W p l e R s m args below meth c H locs cells slots Q (F0 m pc ls (.int x :: .int i :: .ref a :: rest)) := by
  intro T hT X
  obtain ⟨t, st, q⟩ := k _ rfl T hT X
  refine ⟨t, ?_, q⟩
  have h1 := X.castoreOut hexec (by rw [hT]; exact hP q0 _ ha) ((hK.2 t0 _ ht).1 n (fun j => .int (f j))) (j := i) (by show (i < 0 ∨ (arrV _ _ _).slots.size ≤ _); rw [arrV_size]; exact Classical.byContradiction hout) (g := F0 m pc ls (.int x :: .int i :: .ref a :: rest)) rfl (rest := rest) rfl (by rw [hb]; exact hdg) t
  simp only [arrV_size] at h1
  exact h1 st
theorem vx_saldZ {D : va_G} {cl : List vw_C} {ws : va_W} {tys : List (ClassId × FieldType)} {a : Nat} (hexec : p.tables.exec = Jvm.exec) (hb : c.code = cc) (hK : va_K D cl tys s) (hP : va_P D cl ws H) (q0 t0 : Nat) {cA : ClassId} {n : Nat} {f : Nat → Int32} (ha : ws[q0]? = some (a, .inl (cA, n, .inl f))) (ht : tys[t0]? = some (cA, .short)) {i : Int32} (hout : ¬ vp_in i n) (hdg : decode cc pc = .ok (.saload, 1))
    (k : ∀ tx : String, tx = (toString "Index " ++ toString i ++ toString " out of bounds for length " ++ toString n : String) → vx_Note p l e R s m args below meth c H locs cells slots Q (F0 m pc ls rest) "java/lang/ArrayIndexOutOfBoundsException" tx) : W p l e R s m args below meth c H locs cells slots Q (F0 m pc ls (.int i :: .ref a :: rest)) := by
  intro T hT X
  obtain ⟨t, st, q⟩ := k _ rfl T hT X
  refine ⟨t, ?_, q⟩
  have h1 := X.saloadOut hexec (by rw [hT]; exact hP q0 _ ha) ((hK.2 t0 _ ht).1 n (fun j => .int (f j))) (j := i) (by show (i < 0 ∨ (arrV _ _ _).slots.size ≤ _); rw [arrV_size]; exact Classical.byContradiction hout) (g := F0 m pc ls (.int i :: .ref a :: rest)) rfl (rest := rest) rfl (by rw [hb]; exact hdg) t
  simp only [arrV_size] at h1
  exact h1 st
theorem vx_sastZ {D : va_G} {cl : List vw_C} {ws : va_W} {tys : List (ClassId × FieldType)} {a : Nat} (hexec : p.tables.exec = Jvm.exec) (hb : c.code = cc) (hK : va_K D cl tys s) (hP : va_P D cl ws H) (q0 t0 : Nat) {cA : ClassId} {n : Nat} {f : Nat → Int32} (ha : ws[q0]? = some (a, .inl (cA, n, .inl f))) (ht : tys[t0]? = some (cA, .short)) {i : Int32} {x : Int32} (hout : ¬ vp_in i n) (hdg : decode cc pc = .ok (.sastore, 1))
    (k : ∀ tx : String, tx = (toString "Index " ++ toString i ++ toString " out of bounds for length " ++ toString n : String) → vx_Note p l e R s m args below meth c H locs cells slots Q (F0 m pc ls rest) "java/lang/ArrayIndexOutOfBoundsException" tx) : W p l e R s m args below meth c H locs cells slots Q (F0 m pc ls (.int x :: .int i :: .ref a :: rest)) := by
  intro T hT X
  obtain ⟨t, st, q⟩ := k _ rfl T hT X
  refine ⟨t, ?_, q⟩
  have h1 := X.sastoreOut hexec (by rw [hT]; exact hP q0 _ ha) ((hK.2 t0 _ ht).1 n (fun j => .int (f j))) (j := i) (by show (i < 0 ∨ (arrV _ _ _).slots.size ≤ _); rw [arrV_size]; exact Classical.byContradiction hout) (g := F0 m pc ls (.int x :: .int i :: .ref a :: rest)) rfl (rest := rest) rfl (by rw [hb]; exact hdg) t
  simp only [arrV_size] at h1
  exact h1 st
theorem vx_laldZ {D : va_G} {cl : List vw_C} {ws : va_W} {tys : List (ClassId × FieldType)} {a : Nat} (hexec : p.tables.exec = Jvm.exec) (hb : c.code = cc) (hK : va_K D cl tys s) (hP : va_P D cl ws H) (q0 t0 : Nat) {cA : ClassId} {n : Nat} {f : Nat → Int64} (ha : ws[q0]? = some (a, .inl (cA, n, .inr (.inl f)))) (ht : tys[t0]? = some (cA, .long)) {i : Int32} (hout : ¬ vp_in i n) (hdg : decode cc pc = .ok (.laload, 1))
    (k : ∀ tx : String, tx = (toString "Index " ++ toString i ++ toString " out of bounds for length " ++ toString n : String) → vx_Note p l e R s m args below meth c H locs cells slots Q (F0 m pc ls rest) "java/lang/ArrayIndexOutOfBoundsException" tx) : W p l e R s m args below meth c H locs cells slots Q (F0 m pc ls (.int i :: .ref a :: rest)) := by
  intro T hT X
  obtain ⟨t, st, q⟩ := k _ rfl T hT X
  refine ⟨t, ?_, q⟩
  have h1 := X.laloadOut hexec (by rw [hT]; exact hP q0 _ ha) ((hK.2 t0 _ ht).1 n (fun j => .long (f j))) (j := i) (by show (i < 0 ∨ (arrV _ _ _).slots.size ≤ _); rw [arrV_size]; exact Classical.byContradiction hout) (g := F0 m pc ls (.int i :: .ref a :: rest)) rfl (rest := rest) rfl (by rw [hb]; exact hdg) t
  simp only [arrV_size] at h1
  exact h1 st
theorem vx_lastZ {D : va_G} {cl : List vw_C} {ws : va_W} {tys : List (ClassId × FieldType)} {a : Nat} (hexec : p.tables.exec = Jvm.exec) (hb : c.code = cc) (hK : va_K D cl tys s) (hP : va_P D cl ws H) (q0 t0 : Nat) {cA : ClassId} {n : Nat} {f : Nat → Int64} (ha : ws[q0]? = some (a, .inl (cA, n, .inr (.inl f)))) (ht : tys[t0]? = some (cA, .long)) {i : Int32} {x : Int64} (hout : ¬ vp_in i n) (hdg : decode cc pc = .ok (.lastore, 1))
    (k : ∀ tx : String, tx = (toString "Index " ++ toString i ++ toString " out of bounds for length " ++ toString n : String) → vx_Note p l e R s m args below meth c H locs cells slots Q (F0 m pc ls rest) "java/lang/ArrayIndexOutOfBoundsException" tx) : W p l e R s m args below meth c H locs cells slots Q (F0 m pc ls (.long x :: .int i :: .ref a :: rest)) := by
  intro T hT X
  obtain ⟨t, st, q⟩ := k _ rfl T hT X
  refine ⟨t, ?_, q⟩
  have h1 := X.lastoreOut hexec (by rw [hT]; exact hP q0 _ ha) ((hK.2 t0 _ ht).1 n (fun j => .long (f j))) (j := i) (by show (i < 0 ∨ (arrV _ _ _).slots.size ≤ _); rw [arrV_size]; exact Classical.byContradiction hout) (g := F0 m pc ls (.long x :: .int i :: .ref a :: rest)) rfl (rest := rest) rfl (by rw [hb]; exact hdg) t
  simp only [arrV_size] at h1
  exact h1 st
theorem vx_faldZ {D : va_G} {cl : List vw_C} {ws : va_W} {tys : List (ClassId × FieldType)} {a : Nat} (hexec : p.tables.exec = Jvm.exec) (hb : c.code = cc) (hK : va_K D cl tys s) (hP : va_P D cl ws H) (q0 t0 : Nat) {cA : ClassId} {n : Nat} {f : Nat → UInt32} (ha : ws[q0]? = some (a, .inl (cA, n, .inr (.inr (.inl f))))) (ht : tys[t0]? = some (cA, .float)) {i : Int32} (hout : ¬ vp_in i n) (hdg : decode cc pc = .ok (.faload, 1))
    (k : ∀ tx : String, tx = (toString "Index " ++ toString i ++ toString " out of bounds for length " ++ toString n : String) → vx_Note p l e R s m args below meth c H locs cells slots Q (F0 m pc ls rest) "java/lang/ArrayIndexOutOfBoundsException" tx) : W p l e R s m args below meth c H locs cells slots Q (F0 m pc ls (.int i :: .ref a :: rest)) := by
  intro T hT X
  obtain ⟨t, st, q⟩ := k _ rfl T hT X
  refine ⟨t, ?_, q⟩
  have h1 := X.faloadOut hexec (by rw [hT]; exact hP q0 _ ha) ((hK.2 t0 _ ht).1 n (fun j => .float (f j))) (j := i) (by show (i < 0 ∨ (arrV _ _ _).slots.size ≤ _); rw [arrV_size]; exact Classical.byContradiction hout) (g := F0 m pc ls (.int i :: .ref a :: rest)) rfl (rest := rest) rfl (by rw [hb]; exact hdg) t
  simp only [arrV_size] at h1
  exact h1 st
theorem vx_fastZ {D : va_G} {cl : List vw_C} {ws : va_W} {tys : List (ClassId × FieldType)} {a : Nat} (hexec : p.tables.exec = Jvm.exec) (hb : c.code = cc) (hK : va_K D cl tys s) (hP : va_P D cl ws H) (q0 t0 : Nat) {cA : ClassId} {n : Nat} {f : Nat → UInt32} (ha : ws[q0]? = some (a, .inl (cA, n, .inr (.inr (.inl f))))) (ht : tys[t0]? = some (cA, .float)) {i : Int32} {x : UInt32} (hout : ¬ vp_in i n) (hdg : decode cc pc = .ok (.fastore, 1))
    (k : ∀ tx : String, tx = (toString "Index " ++ toString i ++ toString " out of bounds for length " ++ toString n : String) → vx_Note p l e R s m args below meth c H locs cells slots Q (F0 m pc ls rest) "java/lang/ArrayIndexOutOfBoundsException" tx) : W p l e R s m args below meth c H locs cells slots Q (F0 m pc ls (.float x :: .int i :: .ref a :: rest)) := by
  intro T hT X
  obtain ⟨t, st, q⟩ := k _ rfl T hT X
  refine ⟨t, ?_, q⟩
  have h1 := X.fastoreOut hexec (by rw [hT]; exact hP q0 _ ha) ((hK.2 t0 _ ht).1 n (fun j => .float (f j))) (j := i) (by show (i < 0 ∨ (arrV _ _ _).slots.size ≤ _); rw [arrV_size]; exact Classical.byContradiction hout) (g := F0 m pc ls (.float x :: .int i :: .ref a :: rest)) rfl (rest := rest) rfl (by rw [hb]; exact hdg) t
  simp only [arrV_size] at h1
  exact h1 st
theorem vx_daldZ {D : va_G} {cl : List vw_C} {ws : va_W} {tys : List (ClassId × FieldType)} {a : Nat} (hexec : p.tables.exec = Jvm.exec) (hb : c.code = cc) (hK : va_K D cl tys s) (hP : va_P D cl ws H) (q0 t0 : Nat) {cA : ClassId} {n : Nat} {f : Nat → UInt64} (ha : ws[q0]? = some (a, .inl (cA, n, .inr (.inr (.inr (.inl f)))))) (ht : tys[t0]? = some (cA, .double)) {i : Int32} (hout : ¬ vp_in i n) (hdg : decode cc pc = .ok (.daload, 1))
    (k : ∀ tx : String, tx = (toString "Index " ++ toString i ++ toString " out of bounds for length " ++ toString n : String) → vx_Note p l e R s m args below meth c H locs cells slots Q (F0 m pc ls rest) "java/lang/ArrayIndexOutOfBoundsException" tx) : W p l e R s m args below meth c H locs cells slots Q (F0 m pc ls (.int i :: .ref a :: rest)) := by
  intro T hT X
  obtain ⟨t, st, q⟩ := k _ rfl T hT X
  refine ⟨t, ?_, q⟩
  have h1 := X.daloadOut hexec (by rw [hT]; exact hP q0 _ ha) ((hK.2 t0 _ ht).1 n (fun j => .double (f j))) (j := i) (by show (i < 0 ∨ (arrV _ _ _).slots.size ≤ _); rw [arrV_size]; exact Classical.byContradiction hout) (g := F0 m pc ls (.int i :: .ref a :: rest)) rfl (rest := rest) rfl (by rw [hb]; exact hdg) t
  simp only [arrV_size] at h1
  exact h1 st
theorem vx_dastZ {D : va_G} {cl : List vw_C} {ws : va_W} {tys : List (ClassId × FieldType)} {a : Nat} (hexec : p.tables.exec = Jvm.exec) (hb : c.code = cc) (hK : va_K D cl tys s) (hP : va_P D cl ws H) (q0 t0 : Nat) {cA : ClassId} {n : Nat} {f : Nat → UInt64} (ha : ws[q0]? = some (a, .inl (cA, n, .inr (.inr (.inr (.inl f)))))) (ht : tys[t0]? = some (cA, .double)) {i : Int32} {x : UInt64} (hout : ¬ vp_in i n) (hdg : decode cc pc = .ok (.dastore, 1))
    (k : ∀ tx : String, tx = (toString "Index " ++ toString i ++ toString " out of bounds for length " ++ toString n : String) → vx_Note p l e R s m args below meth c H locs cells slots Q (F0 m pc ls rest) "java/lang/ArrayIndexOutOfBoundsException" tx) : W p l e R s m args below meth c H locs cells slots Q (F0 m pc ls (.double x :: .int i :: .ref a :: rest)) := by
  intro T hT X
  obtain ⟨t, st, q⟩ := k _ rfl T hT X
  refine ⟨t, ?_, q⟩
  have h1 := X.dastoreOut hexec (by rw [hT]; exact hP q0 _ ha) ((hK.2 t0 _ ht).1 n (fun j => .double (f j))) (j := i) (by show (i < 0 ∨ (arrV _ _ _).slots.size ≤ _); rw [arrV_size]; exact Classical.byContradiction hout) (g := F0 m pc ls (.double x :: .int i :: .ref a :: rest)) rfl (rest := rest) rfl (by rw [hb]; exact hdg) t
  simp only [arrV_size] at h1
  exact h1 st
theorem vx_arraylengthN (hexec : p.tables.exec = Jvm.exec) (hb : c.code = cc) (hdg : decode cc pc = .ok (.arraylength, 1)) (k : vx_NoteN p l e R s m args below meth c H locs cells slots Q (F0 m pc ls rest)) : W p l e R s m args below meth c H locs cells slots Q (F0 m pc ls (.null :: rest)) := by
  intro T hT X
  obtain ⟨t, st, q⟩ := k T hT X
  exact ⟨t, X.arraylengthNull hexec (g := F0 m pc ls (.null :: rest)) rfl (rest := rest) rfl (by rw [hb]; exact hdg) t st, q⟩
theorem vx_ialoadN (hexec : p.tables.exec = Jvm.exec) (hb : c.code = cc) {i : Int32} (hdg : decode cc pc = .ok (.iaload, 1)) (k : vx_NoteN p l e R s m args below meth c H locs cells slots Q (F0 m pc ls rest)) : W p l e R s m args below meth c H locs cells slots Q (F0 m pc ls (.int i :: .null :: rest)) := by
  intro T hT X
  obtain ⟨t, st, q⟩ := k T hT X
  exact ⟨t, X.ialoadNull hexec (g := F0 m pc ls (.int i :: .null :: rest)) rfl (rest := rest) rfl (by rw [hb]; exact hdg) t st, q⟩
theorem vx_laloadN (hexec : p.tables.exec = Jvm.exec) (hb : c.code = cc) {i : Int32} (hdg : decode cc pc = .ok (.laload, 1)) (k : vx_NoteN p l e R s m args below meth c H locs cells slots Q (F0 m pc ls rest)) : W p l e R s m args below meth c H locs cells slots Q (F0 m pc ls (.int i :: .null :: rest)) := by
  intro T hT X
  obtain ⟨t, st, q⟩ := k T hT X
  exact ⟨t, X.laloadNull hexec (g := F0 m pc ls (.int i :: .null :: rest)) rfl (rest := rest) rfl (by rw [hb]; exact hdg) t st, q⟩
theorem vx_faloadN (hexec : p.tables.exec = Jvm.exec) (hb : c.code = cc) {i : Int32} (hdg : decode cc pc = .ok (.faload, 1)) (k : vx_NoteN p l e R s m args below meth c H locs cells slots Q (F0 m pc ls rest)) : W p l e R s m args below meth c H locs cells slots Q (F0 m pc ls (.int i :: .null :: rest)) := by
  intro T hT X
  obtain ⟨t, st, q⟩ := k T hT X
  exact ⟨t, X.faloadNull hexec (g := F0 m pc ls (.int i :: .null :: rest)) rfl (rest := rest) rfl (by rw [hb]; exact hdg) t st, q⟩
theorem vx_daloadN (hexec : p.tables.exec = Jvm.exec) (hb : c.code = cc) {i : Int32} (hdg : decode cc pc = .ok (.daload, 1)) (k : vx_NoteN p l e R s m args below meth c H locs cells slots Q (F0 m pc ls rest)) : W p l e R s m args below meth c H locs cells slots Q (F0 m pc ls (.int i :: .null :: rest)) := by
  intro T hT X
  obtain ⟨t, st, q⟩ := k T hT X
  exact ⟨t, X.daloadNull hexec (g := F0 m pc ls (.int i :: .null :: rest)) rfl (rest := rest) rfl (by rw [hb]; exact hdg) t st, q⟩
theorem vx_aaloadN (hexec : p.tables.exec = Jvm.exec) (hb : c.code = cc) {i : Int32} (hdg : decode cc pc = .ok (.aaload, 1)) (k : vx_NoteN p l e R s m args below meth c H locs cells slots Q (F0 m pc ls rest)) : W p l e R s m args below meth c H locs cells slots Q (F0 m pc ls (.int i :: .null :: rest)) := by
  intro T hT X
  obtain ⟨t, st, q⟩ := k T hT X
  exact ⟨t, X.aaloadNull hexec (g := F0 m pc ls (.int i :: .null :: rest)) rfl (rest := rest) rfl (by rw [hb]; exact hdg) t st, q⟩
theorem vx_baloadN (hexec : p.tables.exec = Jvm.exec) (hb : c.code = cc) {i : Int32} (hdg : decode cc pc = .ok (.baload, 1)) (k : vx_NoteN p l e R s m args below meth c H locs cells slots Q (F0 m pc ls rest)) : W p l e R s m args below meth c H locs cells slots Q (F0 m pc ls (.int i :: .null :: rest)) := by
  intro T hT X
  obtain ⟨t, st, q⟩ := k T hT X
  exact ⟨t, X.baloadNull hexec (g := F0 m pc ls (.int i :: .null :: rest)) rfl (rest := rest) rfl (by rw [hb]; exact hdg) t st, q⟩
theorem vx_caloadN (hexec : p.tables.exec = Jvm.exec) (hb : c.code = cc) {i : Int32} (hdg : decode cc pc = .ok (.caload, 1)) (k : vx_NoteN p l e R s m args below meth c H locs cells slots Q (F0 m pc ls rest)) : W p l e R s m args below meth c H locs cells slots Q (F0 m pc ls (.int i :: .null :: rest)) := by
  intro T hT X
  obtain ⟨t, st, q⟩ := k T hT X
  exact ⟨t, X.caloadNull hexec (g := F0 m pc ls (.int i :: .null :: rest)) rfl (rest := rest) rfl (by rw [hb]; exact hdg) t st, q⟩
theorem vx_saloadN (hexec : p.tables.exec = Jvm.exec) (hb : c.code = cc) {i : Int32} (hdg : decode cc pc = .ok (.saload, 1)) (k : vx_NoteN p l e R s m args below meth c H locs cells slots Q (F0 m pc ls rest)) : W p l e R s m args below meth c H locs cells slots Q (F0 m pc ls (.int i :: .null :: rest)) := by
  intro T hT X
  obtain ⟨t, st, q⟩ := k T hT X
  exact ⟨t, X.saloadNull hexec (g := F0 m pc ls (.int i :: .null :: rest)) rfl (rest := rest) rfl (by rw [hb]; exact hdg) t st, q⟩
theorem vx_iastoreN (hexec : p.tables.exec = Jvm.exec) (hb : c.code = cc) {x : Int32} {i : Int32} (hdg : decode cc pc = .ok (.iastore, 1)) (k : vx_NoteN p l e R s m args below meth c H locs cells slots Q (F0 m pc ls rest)) : W p l e R s m args below meth c H locs cells slots Q (F0 m pc ls (.int x :: .int i :: .null :: rest)) := by
  intro T hT X
  obtain ⟨t, st, q⟩ := k T hT X
  exact ⟨t, X.iastoreNull hexec (g := F0 m pc ls (.int x :: .int i :: .null :: rest)) rfl (rest := rest) rfl (by rw [hb]; exact hdg) t st, q⟩
theorem vx_lastoreN (hexec : p.tables.exec = Jvm.exec) (hb : c.code = cc) {x : Int64} {i : Int32} (hdg : decode cc pc = .ok (.lastore, 1)) (k : vx_NoteN p l e R s m args below meth c H locs cells slots Q (F0 m pc ls rest)) : W p l e R s m args below meth c H locs cells slots Q (F0 m pc ls (.long x :: .int i :: .null :: rest)) := by
  intro T hT X
  obtain ⟨t, st, q⟩ := k T hT X
  exact ⟨t, X.lastoreNull hexec (g := F0 m pc ls (.long x :: .int i :: .null :: rest)) rfl (rest := rest) rfl (by rw [hb]; exact hdg) t st, q⟩
theorem vx_fastoreN (hexec : p.tables.exec = Jvm.exec) (hb : c.code = cc) {x : UInt32} {i : Int32} (hdg : decode cc pc = .ok (.fastore, 1)) (k : vx_NoteN p l e R s m args below meth c H locs cells slots Q (F0 m pc ls rest)) : W p l e R s m args below meth c H locs cells slots Q (F0 m pc ls (.float x :: .int i :: .null :: rest)) := by
  intro T hT X
  obtain ⟨t, st, q⟩ := k T hT X
  exact ⟨t, X.fastoreNull hexec (g := F0 m pc ls (.float x :: .int i :: .null :: rest)) rfl (rest := rest) rfl (by rw [hb]; exact hdg) t st, q⟩
theorem vx_dastoreN (hexec : p.tables.exec = Jvm.exec) (hb : c.code = cc) {x : UInt64} {i : Int32} (hdg : decode cc pc = .ok (.dastore, 1)) (k : vx_NoteN p l e R s m args below meth c H locs cells slots Q (F0 m pc ls rest)) : W p l e R s m args below meth c H locs cells slots Q (F0 m pc ls (.double x :: .int i :: .null :: rest)) := by
  intro T hT X
  obtain ⟨t, st, q⟩ := k T hT X
  exact ⟨t, X.dastoreNull hexec (g := F0 m pc ls (.double x :: .int i :: .null :: rest)) rfl (rest := rest) rfl (by rw [hb]; exact hdg) t st, q⟩
theorem vx_bastoreN (hexec : p.tables.exec = Jvm.exec) (hb : c.code = cc) {x : Int32} {i : Int32} (hdg : decode cc pc = .ok (.bastore, 1)) (k : vx_NoteN p l e R s m args below meth c H locs cells slots Q (F0 m pc ls rest)) : W p l e R s m args below meth c H locs cells slots Q (F0 m pc ls (.int x :: .int i :: .null :: rest)) := by
  intro T hT X
  obtain ⟨t, st, q⟩ := k T hT X
  exact ⟨t, X.bastoreNull hexec (g := F0 m pc ls (.int x :: .int i :: .null :: rest)) rfl (rest := rest) rfl (by rw [hb]; exact hdg) t st, q⟩
theorem vx_castoreN (hexec : p.tables.exec = Jvm.exec) (hb : c.code = cc) {x : Int32} {i : Int32} (hdg : decode cc pc = .ok (.castore, 1)) (k : vx_NoteN p l e R s m args below meth c H locs cells slots Q (F0 m pc ls rest)) : W p l e R s m args below meth c H locs cells slots Q (F0 m pc ls (.int x :: .int i :: .null :: rest)) := by
  intro T hT X
  obtain ⟨t, st, q⟩ := k T hT X
  exact ⟨t, X.castoreNull hexec (g := F0 m pc ls (.int x :: .int i :: .null :: rest)) rfl (rest := rest) rfl (by rw [hb]; exact hdg) t st, q⟩
theorem vx_sastoreN (hexec : p.tables.exec = Jvm.exec) (hb : c.code = cc) {x : Int32} {i : Int32} (hdg : decode cc pc = .ok (.sastore, 1)) (k : vx_NoteN p l e R s m args below meth c H locs cells slots Q (F0 m pc ls rest)) : W p l e R s m args below meth c H locs cells slots Q (F0 m pc ls (.int x :: .int i :: .null :: rest)) := by
  intro T hT X
  obtain ⟨t, st, q⟩ := k T hT X
  exact ⟨t, X.sastoreNull hexec (g := F0 m pc ls (.int x :: .int i :: .null :: rest)) rfl (rest := rest) rfl (by rw [hb]; exact hdg) t st, q⟩
theorem vx_invokeN {own C : String} {index maxL : Nat} {y : MethodName} {bytes : ByteArray} {ret : Option FieldType} (hexec : p.tables.exec = Jvm.exec) (hb : c.code = cc) (hown : s.vm.findClass own = some m.cls) (hlink : (Cond.methodLink own index y).before args s = true) (hinst : (Cond.instanceMethod y).before args s = true) (hcode : (Cond.code y bytes maxL ret).before args s = true) (hsel : (Cond.selects C y y).before args s = true)
    (hx : y.cls ≠ "java/lang/invoke/MethodHandle" ∧ y.cls ≠ "java/lang/invoke/VarHandle") {As : List Value} (hlen : (parseMethodDescriptor y.desc).map (fun d => d.parameters.length) = some As.length) (hdg : decode cc pc = .ok (.invokevirtual index, 3))
    (k : vx_NoteN p l e R s m args below meth c H locs cells slots Q (F0 m pc ls rest)) {st0 : List Value} (hst : st0 = As.reverse ++ .null :: rest) : W p l e R s m args below meth c H locs cells slots Q (F0 m pc ls st0) := by
  intro T hT X
  obtain ⟨r0, r, hn, hrm, hstR, hsigR⟩ := va_Decl.of hinst hcode
  obtain ⟨c2, r2, m2, q1, q2, q3, q4, kP, hkP, hkPi⟩ := Cond.selects_spec hsel
  cases hn.symm.trans q3
  have hl9 : As.length = r.sig.parameters.length := by
    rw [hsigR] at hlen
    exact (Option.some.inj hlen).symm
  obtain ⟨vm', X1, st1⟩ := X.invokevirtualNull hexec hown hlink hn hrm hstR hkP hkPi hx (g := F0 m pc ls st0) rfl (argsL := As) (rest := rest) hl9 hst (by rw [hb]; exact hdg)
  obtain ⟨t, st, q⟩ := k (T.setVm vm') hT X1
  exact ⟨t, st1 t st, q⟩
theorem vx_newarrayZ {atype : ArrayType} (hexec : p.tables.exec = Jvm.exec) (hb : c.code = cc) {n : Int32} (h0 : n < 0) (hdg : decode cc pc = .ok (.newarray atype, 2)) (k : ∀ tx : String, tx = toString n → vx_Note p l e R s m args below meth c H locs cells slots Q (F0 m pc ls rest) "java/lang/NegativeArraySizeException" tx) : W p l e R s m args below meth c H locs cells slots Q (F0 m pc ls (.int n :: rest)) := by
  intro T hT X
  obtain ⟨t, st, q⟩ := k _ rfl T hT X
  exact ⟨t, X.newarrayNegative hexec (g := F0 m pc ls (.int n :: rest)) rfl h0 (rest := rest) rfl (by rw [hb]; exact hdg) t st, q⟩
end
end VXM
/-! ===== END ===== -/
/-! ===== BEGIN an exception as an object: made, kept, thrown later (no traces kept) ===== -/
section VXK
variable {p : Program} {l : Launch} {e : Env} {R : Room} {s : State} {m₀ : MethodId} {args : Array Value} {below : List Frame} {meth : Method} {c : Code} {W : State} {locs : List Loc} {cells slots : Nat}
set_option maxHeartbeats 1000000 in
theorem vx_ctorMadeS (X : Stand p l e R s m₀ args below meth c W locs cells slots) (hexec : p.tables.exec = Jvm.exec) (htr : e.platform.stackTraces = false) {own cls : String} {names : List String} {ic : Nat}
    (hown : s.vm.findClass own = some m₀.cls) (hcls : Bundle.fit cls = true) (hnames : ∀ n ∈ names, Bundle.fit n = true)
    (h : ∀ a ∈ Bundle.ownAtoms own ic cls names, a.before args s = true)
    (hlocs : ∀ x ∈ locs, ∀ cell, s.heap[x.base]? = some cell → cell.vm.isStatics = false)
    {a : Addr} {cX : ClassId} {kX : Class} (hfoundX : s.vm.findClass cls = some cX) (hkX : s.vm.classes[cX]? = some kX) (hcell : W.heap[a]? = some (freshCell cX kX)) (hnew : s.heap.size ≤ a)
    {msg : Value} (hmsg : msg.isRef = true)
    {g : JFrame} (hg : g.method = m₀) (hsize : g.locals.size = c.maxLocals) {rest : List Value} (hstack : g.stack = msg :: .ref a :: .ref a :: rest)
    (hd6 : decode c.code g.pc = .ok (.invokespecial ic, 3))
    (hRframes : names.length + 3 < R.frames) (hRlocals : 2 * g.monitorRoom + ((Value.ref a :: rest).map fun v => v.category).sum + (13 * (names.length + 1) + 42) ≤ R.locals) :
    ∃ (V : State) (ce : Cell) (L : List Loc), Stand p l e R s m₀ args below meth c (V.setCell a ce) (locs ++ L) cells slots ∧ (∀ y ∈ L, y.base = a) ∧ a < V.heap.size ∧ ce.cls = cX ∧ ce.vm = .none ∧
      ∀ target, Steps p.tables e below ((V.setCell a ce).setTop { g with stack := .ref a :: rest, pc := g.pc + 3 }) target → Steps p.tables e below (W.setTop g) target := by
  have howns : e.platform.frameOwnsMonitors = true := by rw [X.admits.platform]
  have hfin : e.platform.finalization = false := by rw [X.admits.platform]
  have hpl : e.platform.magicAccessors = ({} : Platform).magicAccessors := by rw [X.admits.platform]
  have a' : ∀ x, x ∈ Bundle.ownAtoms own ic cls names → x.holds args s none s [] = true := fun x hx => h x hx
  obtain ⟨T, Z0, L, -, Y⟩ := ThrowableC.of_atoms (args := args) howns hfin hpl (fun x hx => h x (by simp [Bundle.ownAtoms, hx]))
  obtain ⟨Z, M, LZ, LM, hnZ⟩ := Init0T.ofS_atoms (args := args) hpl L Y (fun x hx => h x (by simp [Bundle.ownAtoms, hx]))
  obtain ⟨P1, Ps, hlen, L1, hL, hP1m, hlink1, hlink⟩ := Bundle.chainS (args := args) hpl hnZ names cls hcls hnames (fun x hx => h x (by simp [Bundle.ownAtoms, hx]))
  have hfound : s.vm.findClass cls = some P1.m.cls := findClass_of_methodNamed hP1m
  cases Option.some.inj (hfoundX.symm.trans hfound)
  obtain ⟨c1, kX', hc1, hk, hord, -, -, hn6⟩ := Cond.instantiable_spec (a' (.instantiable cls 6) (by simp [Bundle.ownAtoms]))
  cases Option.some.inj (hc1.symm.trans hfound)
  cases Option.some.inj (hkX.symm.trans hk)
  have hsel0 : selectMethod e.platform s.vm P1.m.cls T.fill0 = .method T.fill0 := by
    obtain ⟨c2, r2, m2, q1, q2, q3, q4, -⟩ := Cond.selects_spec (a' (.selects cls Bundle.tFill0 Bundle.tFill0) (by simp [Bundle.ownAtoms]))
    cases Option.some.inj (q1.symm.trans hfound)
    cases Option.some.inj (q2.symm.trans (State.methodFound?_of_named Y.fill0 (by decide)))
    cases Option.some.inj (q3.symm.trans Y.fill0)
    rw [Launch.admits_selectMethod X.admits]; exact q4
  have hselF : selectMethod e.platform s.vm P1.m.cls T.fill = .method T.fill := by
    obtain ⟨c2, r2, m2, q1, q2, q3, q4, -⟩ := Cond.selects_spec (a' (.selects cls Bundle.tFill Bundle.tFill) (by simp [Bundle.ownAtoms]))
    cases Option.some.inj (q1.symm.trans hfound)
    cases Option.some.inj (q2.symm.trans (State.methodFound?_of_named Y.fill (by decide)))
    cases Option.some.inj (q3.symm.trans Y.fill)
    rw [Launch.admits_selectMethod X.admits]; exact q4
  obtain ⟨cellS0, hcS0, hiss⟩ := Y.statics
  obtain ⟨u0, hu0⟩ := Cond.staticRefV Y.unassigned L.unassignedStatic L.statics hcS0 hiss (a' (.isRef (.static Bundle.tN "UNASSIGNED_STACK" Bundle.steD)) (by simp [Bundle.ownAtoms]))
  obtain ⟨sen, hsen⟩ := Cond.staticRefV Y.sentinel L.sentinelStatic L.statics hcS0 hiss (a' (.isRef (.static Bundle.tN "SUPPRESSED_SENTINEL" Bundle.listD)) (by simp [Bundle.ownAtoms]))
  obtain ⟨ci198, i198, fB, hk198, hg198, ha198, hsB, -, hnB, htB, hffB⟩ := Cond.ownField (t := .object "java/lang/Object") Y.found L.cls (by decide +kernel) (a' (.fieldLink Bundle.tN 198 Bundle.tN "backtrace" "Ljava/lang/Object;") (by simp [Bundle.ownAtoms])) (a' (.lays Bundle.tN Bundle.tN "backtrace" "Ljava/lang/Object;") (by simp [Bundle.ownAtoms])) e.platform hpl
  obtain ⟨cellS, hcS', heS, -, hkeep⟩ := X.same.2.2.2.2.2 T.aS cellS0 hcS0
  have hcellS : W.heap[T.aS]? = some cellS := hcS'
  have hout' : ∀ i, (⟨T.aS, i⟩ : Loc) ∉ locs := fun i hmem => by
    have := hlocs _ hmem cellS0 hcS0
    rw [hiss] at this; cases this
  have hknownS : cellS.vm ≠ .unknown := by
    rw [heS]; intro hu
    rw [show cellS0.vm = .unknown from hu] at hiss
    cases hiss
  have hneS : T.aS ≠ a := Nat.ne_of_lt (Nat.lt_of_lt_of_le (Array.getElem?_eq_some_iff.mp hcS0).1 hnew)
  obtain ⟨iM, hffM⟩ := Y.msg
  obtain ⟨tyC, dC, hdC, hdnC⟩ := Cond.laysAt hfound hk Y.cause (a' (.lays cls Bundle.tN "cause" "Ljava/lang/Throwable;") (by simp [Bundle.ownAtoms]))
  obtain ⟨tyS, dS, hdS, hdnS⟩ := Cond.laysAt hfound hk Y.stack (a' (.lays cls Bundle.tN "stackTrace" Bundle.steD) (by simp [Bundle.ownAtoms]))
  obtain ⟨tyP, dP, hdP, hdnP⟩ := Cond.laysAt hfound hk Y.supp (a' (.lays cls Bundle.tN "suppressedExceptions" Bundle.listD) (by simp [Bundle.ownAtoms]))
  obtain ⟨tyM, dM, hdM, hdnM⟩ := Cond.laysAt hfound hk hffM (a' (.lays cls Bundle.tN "detailMessage" "Ljava/lang/String;") (by simp [Bundle.ownAtoms]))
  obtain ⟨tyB, dB, hdB, hdnB⟩ := Cond.laysAt hfound hk hffB (a' (.lays cls Bundle.tN "backtrace" "Ljava/lang/Object;") (by simp [Bundle.ownAtoms]))
  have bC := Cond.laysApart hdB hdC hdnB hdnC (by rw [hnB, Y.causeName]; decide)
  have bS := Cond.laysApart hdB hdS hdnB hdnS (by rw [hnB, Y.stackName]; decide)
  have bP := Cond.laysApart hdB hdP hdnB hdnP (by rw [hnB, Y.suppName]; decide)
  have hskip : SkipFacts T e.platform s (fun u => u) u0 ((preparedCellV T.toThrowableT (freshCell P1.m.cls kX) a u0 sen).withEntry W.cur) :=
    ⟨{ ci198 := ci198, i198 := i198, fBack := fB }, ⟨hk198, hg198, ha198, hsB⟩, by
      have := fresh_default (c := P1.m.cls) tyB
      rw [htB] at this
      simpa [preparedCellV, Cell.setSlot, Cell.withEntry, Array.getElem?_setIfInBounds, bC, bS, bP, bC.symm, bS.symm, bP.symm, defaultValue] using this, fun _ _ => rfl⟩
  obtain ⟨tm, methC, cdC, kC, vm₁, hnC, -, -, -, -, -, -, -, hW₁, st1⟩ := Steps.initColdS (tb := p.tables) (e := e) (below := below) (s := s) (U := W) X.here hexec X.warmed hpl hown (t := Bundle.initS cls) rfl rfl (Bundle.fit_spec hcls).2
    (a' (.methodLink own ic (Bundle.initS cls)) (by simp [Bundle.ownAtoms])) (h (.instanceMethod (Bundle.initS cls)) (by cases names <;> simp [Bundle.ownAtoms, Bundle.chainSAtoms, Bundle.passSAtoms])) (bytes := Bundle.six) (maxL := 2) (h (.code (Bundle.initS cls) Bundle.six 2 none) (by cases names <;> simp [Bundle.ownAtoms, Bundle.chainSAtoms, Bundle.passSAtoms]))
    (f := g) hg (a := a) (msg := msg) (rest := .ref a :: rest) hstack hd6
  cases Option.some.inj (hnC.symm.trans hP1m)
  have X₁ := X.noted hW₁
  obtain ⟨vm₂, X₂, st2⟩ := X₁.ctorMessageOffV hexec (g := { g with stack := .ref a :: rest }) hg hsize T L Z LZ M LM (P1 :: Ps)
    (fun P hP => by rcases List.mem_cons.mp hP with rfl | hP; exact L1; exact hL P hP) ⟨hlink1, hlink⟩ (u0 := u0) (sen := sen) (self := a) hmsg (cell := freshCell P1.m.cls kX) (cellS := cellS)
    hcell (fun _ => by simp) (by simp) rfl rfl hsel0 hselF hcellS hneS hknownS (by rw [hkeep _ (hout' _)]; exact hu0) (by rw [hkeep _ (hout' _)]; exact hsen)
    (Takes.of_laid hk hord tyC (by rw [Y.causeType]; rfl)) (Takes.of_laid hk hord tyS (by rw [Y.stackType]; exact fits_refV_array _ u0)) (Takes.of_laid hk hord tyP (by rw [Y.suppType]; exact fits_refV_object _ sen))
    (Takes.of_laid hk hord tyM (by rw [Y.msgType]; exact fits_refV_object _ ⟨msg, hmsg⟩)) Y.objLocals hskip htr [] hd6
    (by simp only [List.length_cons, hlen]; omega) (by simp only [List.length_cons, hlen]; exact hRlocals)
  have hlt : a < ((W.setVm vm₁).setVm vm₂).heap.size := (Array.getElem?_eq_some_iff.mp hcell).1
  refine ⟨(W.setVm vm₁).setVm vm₂, _, _, X₂, fun y hy => ?_, hlt, rfl, rfl, fun target hwalk => st1 _ (fun acts => ?_)⟩
  · simp only [List.mem_cons, List.not_mem_nil, or_false] at hy
    rcases hy with rfl | rfl | rfl | rfl | rfl <;> rfl
  · rw [doInvoke_state]
    exact st2 _ hwalk
set_option maxHeartbeats 1000000 in
theorem vx_ctorMade0 (X : Stand p l e R s m₀ args below meth c W locs cells slots) (hexec : p.tables.exec = Jvm.exec) (htr : e.platform.stackTraces = false) {own cls : String} {names : List String} {ic : Nat}
    (hown : s.vm.findClass own = some m₀.cls) (hcls : Bundle.fit cls = true) (hnames : ∀ n ∈ names, Bundle.fit n = true)
    (h : ∀ a ∈ Bundle.ownAtoms0 own ic cls names, a.before args s = true)
    (hlocs : ∀ x ∈ locs, ∀ cell, s.heap[x.base]? = some cell → cell.vm.isStatics = false)
    {a : Addr} {cX : ClassId} {kX : Class} (hfoundX : s.vm.findClass cls = some cX) (hkX : s.vm.classes[cX]? = some kX) (hcell : W.heap[a]? = some (freshCell cX kX)) (hnew : s.heap.size ≤ a)
    {g : JFrame} (hg : g.method = m₀) (hsize : g.locals.size = c.maxLocals) {rest : List Value} (hstack : g.stack = .ref a :: .ref a :: rest)
    (hd6 : decode c.code g.pc = .ok (.invokespecial ic, 3))
    (hRframes : names.length + 3 < R.frames) (hRlocals : 2 * g.monitorRoom + ((Value.ref a :: rest).map fun v => v.category).sum + (13 * (names.length + 1) + 41) ≤ R.locals) :
    ∃ (V : State) (ce : Cell) (L : List Loc), Stand p l e R s m₀ args below meth c (V.setCell a ce) (locs ++ L) cells slots ∧ (∀ y ∈ L, y.base = a) ∧ a < V.heap.size ∧ ce.cls = cX ∧ ce.vm = .none ∧
      ∀ target, Steps p.tables e below ((V.setCell a ce).setTop { g with stack := .ref a :: rest, pc := g.pc + 3 }) target → Steps p.tables e below (W.setTop g) target := by
  have howns : e.platform.frameOwnsMonitors = true := by rw [X.admits.platform]
  have hfin : e.platform.finalization = false := by rw [X.admits.platform]
  have hpl : e.platform.magicAccessors = ({} : Platform).magicAccessors := by rw [X.admits.platform]
  have a' : ∀ x, x ∈ Bundle.ownAtoms0 own ic cls names → x.holds args s none s [] = true := fun x hx => h x hx
  obtain ⟨T, Z, L, LZ, Y⟩ := ThrowableC.of_atoms (args := args) howns hfin hpl (fun x hx => h x (by simp [Bundle.ownAtoms0, hx]))
  obtain ⟨P1, Ps, hlen, L1, hL, hP1m, hlink1, hlink⟩ := Bundle.chain0 (args := args) hpl Y.init0 names cls hcls hnames (fun x hx => h x (by simp [Bundle.ownAtoms0, hx]))
  have hfound : s.vm.findClass cls = some P1.m.cls := findClass_of_methodNamed hP1m
  cases Option.some.inj (hfoundX.symm.trans hfound)
  obtain ⟨c1, kX', hc1, hk, hord, -, -, hn6⟩ := Cond.instantiable_spec (a' (.instantiable cls 6) (by simp [Bundle.ownAtoms0]))
  cases Option.some.inj (hc1.symm.trans hfound)
  cases Option.some.inj (hkX.symm.trans hk)
  have hsel0 : selectMethod e.platform s.vm P1.m.cls T.fill0 = .method T.fill0 := by
    obtain ⟨c2, r2, m2, q1, q2, q3, q4, -⟩ := Cond.selects_spec (a' (.selects cls Bundle.tFill0 Bundle.tFill0) (by simp [Bundle.ownAtoms0]))
    cases Option.some.inj (q1.symm.trans hfound)
    cases Option.some.inj (q2.symm.trans (State.methodFound?_of_named Y.fill0 (by decide)))
    cases Option.some.inj (q3.symm.trans Y.fill0)
    rw [Launch.admits_selectMethod X.admits]; exact q4
  have hselF : selectMethod e.platform s.vm P1.m.cls T.fill = .method T.fill := by
    obtain ⟨c2, r2, m2, q1, q2, q3, q4, -⟩ := Cond.selects_spec (a' (.selects cls Bundle.tFill Bundle.tFill) (by simp [Bundle.ownAtoms0]))
    cases Option.some.inj (q1.symm.trans hfound)
    cases Option.some.inj (q2.symm.trans (State.methodFound?_of_named Y.fill (by decide)))
    cases Option.some.inj (q3.symm.trans Y.fill)
    rw [Launch.admits_selectMethod X.admits]; exact q4
  obtain ⟨cellS0, hcS0, hiss⟩ := Y.statics
  obtain ⟨u0, hu0⟩ := Cond.staticRefV Y.unassigned L.unassignedStatic L.statics hcS0 hiss (a' (.isRef (.static Bundle.tN "UNASSIGNED_STACK" Bundle.steD)) (by simp [Bundle.ownAtoms0]))
  obtain ⟨sen, hsen⟩ := Cond.staticRefV Y.sentinel L.sentinelStatic L.statics hcS0 hiss (a' (.isRef (.static Bundle.tN "SUPPRESSED_SENTINEL" Bundle.listD)) (by simp [Bundle.ownAtoms0]))
  obtain ⟨ci198, i198, fB, hk198, hg198, ha198, hsB, -, hnB, htB, hffB⟩ := Cond.ownField (t := .object "java/lang/Object") Y.found L.cls (by decide +kernel) (a' (.fieldLink Bundle.tN 198 Bundle.tN "backtrace" "Ljava/lang/Object;") (by simp [Bundle.ownAtoms0])) (a' (.lays Bundle.tN Bundle.tN "backtrace" "Ljava/lang/Object;") (by simp [Bundle.ownAtoms0])) e.platform hpl
  obtain ⟨cellS, hcS', heS, -, hkeep⟩ := X.same.2.2.2.2.2 T.aS cellS0 hcS0
  have hcellS : W.heap[T.aS]? = some cellS := hcS'
  have hout' : ∀ i, (⟨T.aS, i⟩ : Loc) ∉ locs := fun i hmem => by
    have := hlocs _ hmem cellS0 hcS0
    rw [hiss] at this; cases this
  have hknownS : cellS.vm ≠ .unknown := by
    rw [heS]; intro hu
    rw [show cellS0.vm = .unknown from hu] at hiss
    cases hiss
  have hneS : T.aS ≠ a := Nat.ne_of_lt (Nat.lt_of_lt_of_le (Array.getElem?_eq_some_iff.mp hcS0).1 hnew)
  obtain ⟨iM, hffM⟩ := Y.msg
  obtain ⟨tyC, dC, hdC, hdnC⟩ := Cond.laysAt hfound hk Y.cause (a' (.lays cls Bundle.tN "cause" "Ljava/lang/Throwable;") (by simp [Bundle.ownAtoms0]))
  obtain ⟨tyS, dS, hdS, hdnS⟩ := Cond.laysAt hfound hk Y.stack (a' (.lays cls Bundle.tN "stackTrace" Bundle.steD) (by simp [Bundle.ownAtoms0]))
  obtain ⟨tyP, dP, hdP, hdnP⟩ := Cond.laysAt hfound hk Y.supp (a' (.lays cls Bundle.tN "suppressedExceptions" Bundle.listD) (by simp [Bundle.ownAtoms0]))
  obtain ⟨tyM, dM, hdM, hdnM⟩ := Cond.laysAt hfound hk hffM (a' (.lays cls Bundle.tN "detailMessage" "Ljava/lang/String;") (by simp [Bundle.ownAtoms0]))
  obtain ⟨tyB, dB, hdB, hdnB⟩ := Cond.laysAt hfound hk hffB (a' (.lays cls Bundle.tN "backtrace" "Ljava/lang/Object;") (by simp [Bundle.ownAtoms0]))
  have bC := Cond.laysApart hdB hdC hdnB hdnC (by rw [hnB, Y.causeName]; decide)
  have bS := Cond.laysApart hdB hdS hdnB hdnS (by rw [hnB, Y.stackName]; decide)
  have bP := Cond.laysApart hdB hdP hdnB hdnP (by rw [hnB, Y.suppName]; decide)
  have hskip : SkipFacts T e.platform s (fun u => u) u0 ((preparedCellV T.toThrowableT (freshCell P1.m.cls kX) a u0 sen).withEntry W.cur) :=
    ⟨{ ci198 := ci198, i198 := i198, fBack := fB }, ⟨hk198, hg198, ha198, hsB⟩, by
      have := fresh_default (c := P1.m.cls) tyB
      rw [htB] at this
      simpa [preparedCellV, Cell.setSlot, Cell.withEntry, Array.getElem?_setIfInBounds, bC, bS, bP, bC.symm, bS.symm, bP.symm, defaultValue] using this, fun _ _ => rfl⟩
  obtain ⟨tm, methC, cdC, kC, vm₁, hnC, -, -, -, -, -, -, -, hW₁, st1⟩ := Steps.initCold (tb := p.tables) (e := e) (below := below) (s := s) (U := W) X.here hexec X.warmed hpl hown (t := Bundle.init0 cls) rfl rfl (Bundle.fit_spec hcls).2
    (a' (.methodLink own ic (Bundle.init0 cls)) (by simp [Bundle.ownAtoms0])) (h (.instanceMethod (Bundle.init0 cls)) (by cases names <;> simp [Bundle.ownAtoms0, Bundle.chain0Atoms, Bundle.passAtoms])) (bytes := Bundle.five) (maxL := 1) (h (.code (Bundle.init0 cls) Bundle.five 1 none) (by cases names <;> simp [Bundle.ownAtoms0, Bundle.chain0Atoms, Bundle.passAtoms]))
    (f := g) hg (a := a) (rest := .ref a :: rest) hstack hd6
  cases Option.some.inj (hnC.symm.trans hP1m)
  have X₁ := X.noted hW₁
  obtain ⟨vm₂, X₂, st2⟩ := X₁.ctorPlainOffV hexec (g := { g with stack := .ref a :: rest }) hg hsize T L Z LZ (P1 :: Ps)
    (fun P hP => by rcases List.mem_cons.mp hP with rfl | hP; exact L1; exact hL P hP) ⟨hlink1, hlink⟩ (u0 := u0) (sen := sen) (self := a) (cell := freshCell P1.m.cls kX) (cellS := cellS)
    hcell (fun _ => by simp) (by simp) rfl rfl hsel0 hselF hcellS hneS hknownS (by rw [hkeep _ (hout' _)]; exact hu0) (by rw [hkeep _ (hout' _)]; exact hsen)
    (Takes.of_laid hk hord tyC (by rw [Y.causeType]; rfl)) (Takes.of_laid hk hord tyS (by rw [Y.stackType]; exact fits_refV_array _ u0)) (Takes.of_laid hk hord tyP (by rw [Y.suppType]; exact fits_refV_object _ sen)) Y.objLocals hskip htr [] hd6
    (by simp only [List.length_cons, hlen]; omega) (by simp only [List.length_cons, hlen]; exact hRlocals)
  have hlt : a < ((W.setVm vm₁).setVm vm₂).heap.size := (Array.getElem?_eq_some_iff.mp hcell).1
  refine ⟨(W.setVm vm₁).setVm vm₂, _, _, X₂, fun y hy => ?_, hlt, rfl, rfl, fun target hwalk => st1 _ (fun acts => ?_)⟩
  · simp only [List.mem_cons, List.not_mem_nil, or_false] at hy
    rcases hy with rfl | rfl | rfl | rfl <;> rfl
  · rw [doInvoke_state]
    exact st2 _ hwalk
end VXK
section VXK2
variable {p : Program} {l : Launch} {e : Env} {R : Room} {s : State} {m : MethodId} {args : Array Value} {below : List Frame} {meth : Method} {c : Code} {H : Heap} {locs : List Loc} {cells slots : Nat} {Q : State → Prop}
variable {ls : Array Slot} {rest : List Value} {D : va_G} {cl : List vw_C} {tys : List (ClassId × FieldType)} {ws : va_W}
/-- 'new E("text")' that isn't thrown at once: the object goes on the stack -/
theorem vx_makeS {cc : ByteArray} {pc : Nat} (hexec : p.tables.exec = Jvm.exec) (hb : c.code = cc) (hl : l.stackTraces = false) {own cls text : String} {names : List String} {ik is ic sa ci : Nat} {A : Nat → Prop} {T0 : u_T}
    (hown : s.vm.findClass own = some m.cls) (hcls : Bundle.fit cls = true) (hnames : ∀ n ∈ names, Bundle.fit n = true)
    (hk : (Cond.classLink own ik cls).before args s = true) (hini : (Cond.initialized cls).before args s = true) (hstr : vk_R own is text sa s) (hat : ∀ w ∈ vx_atS own ic cls names, w.before args s = true)
    (hgood : ∀ w ∈ Cond.classLink own ik cls :: Cond.initialized cls :: vx_atS own ic cls names, vx_ot w = true)
    (hU : vx_Zq Bundle.tN "UNASSIGNED_STACK" Bundle.steD A s s.heap) (hN : vx_Zq Bundle.tN "SUPPRESSED_SENTINEL" Bundle.listD A s s.heap) (hS : va_S A s.heap H locs) (hsize : ls.size = c.maxLocals)
    (d0 : decode cc pc = .ok (.new ik, 3)) (d3 : decode cc (pc + 3) = .ok (.dup, 1)) (d4 : decode cc (pc + 4) = .ok (.ldc is, 2)) (d6 : decode cc (pc + 6) = .ok (.invokespecial ic, 3))
    (hK : va_K D cl tys s) (hP : va_P D cl ws H) (hD : va_D A ws) (hA : ∀ q, s.heap.size ≤ q → A q) (hc : cl[ci]? = some (cls, T0, 0))
    (hRframes : names.length + 3 < R.frames) (hRlocals : (rest.map fun v => v.category).sum + (13 * (names.length + 1) + 43) ≤ R.locals) (hRcells : cells + 1 ≤ R.cells) (hRslots : slots + 6 ≤ R.slots)
    (kk : ∀ (q : Nat) (H1 : Heap), va_P D cl (ws ++ [(q, .inr (ci, []))]) H1 → va_D A (ws ++ [(q, .inr (ci, []))]) → va_S A s.heap H1 locs → W p l e R s m args below meth c H1 locs (cells + 1) (slots + 6) Q (F0 m (pc + 9) ls (.ref q :: rest))) :
    W p l e R s m args below meth c H locs cells slots Q (F0 m pc ls rest) := by
  intro T hT X
  subst hT
  have htr : e.platform.stackTraces = false := (show e.platform.stackTraces = l.stackTraces by rw [X.admits.platform]).trans hl
  have Y := vx_rebase X (R' := { frames := R.frames, locals := R.locals, cells := 1, slots := 6 }) (Nat.le_refl _) (Nat.le_refl _) hRcells hRslots
  obtain ⟨s', hA'⟩ : ∃ z, z = (T.setVm s.vm).setFrames (.invoking m args :: below) := ⟨_, rfl⟩
  rw [← hA'] at Y
  have hvm : s'.vm = s.vm := by rw [hA']; rfl
  have hhp : s'.heap = T.heap := by rw [hA']; rfl
  have hW0 : s.WarmedH s'.vm := by rw [hvm]; exact State.WarmedH.refl s
  have hat' : ∀ w ∈ vx_atS own ic cls names, w.before args s' = true := fun w hw => vx_ot_at hW0 hvm.symm (hgood w (List.mem_cons_of_mem _ (List.mem_cons_of_mem _ hw))) (hat w hw)
  have hk' : (Cond.classLink own ik cls).before args s' = true := vx_ot_at hW0 hvm.symm (hgood _ List.mem_cons_self) hk
  have hini' : (Cond.initialized cls).before args s' = true := vx_ot_at hW0 hvm.symm (hgood _ (List.mem_cons_of_mem _ List.mem_cons_self)) hini
  have hU' : vx_Zq Bundle.tN "UNASSIGNED_STACK" Bundle.steD A s' s'.heap := by rw [hhp]; exact vx_Zq.moved hW0.alike (hU.kept hS.2.1)
  have hN' : vx_Zq Bundle.tN "SUPPRESSED_SENTINEL" Bundle.listD A s' s'.heap := by rw [hhp]; exact vx_Zq.moved hW0.alike (hN.kept hS.2.1)
  have h : ∀ w ∈ Bundle.ownAtoms own ic cls names, w.before args s' = true := vx_own hat' (vx_isRefq hU'.1) (vx_isRefq hN'.1) hU'.2.word hN'.2.word
  have hown' : s'.vm.findClass own = some m.cls := by rw [hvm]; exact hown
  have hins : (Cond.instantiable cls 6).before args s' = true := h _ (by simp [Bundle.ownAtoms])
  obtain ⟨vm₁, cX, kX, hfX, hkX, -, -, X₁, st1⟩ := Y.newCold hexec (own := own) (C := cls) (index := ik) (n := 6) hown' hk' hins hini'
    (g := F0 m pc ls rest) rfl (by rw [hb]; exact d0) (Nat.le_refl _) (Nat.le_refl _)
  generalize hT1 : (T.setVm vm₁).pushCell { cls := cX, slots := kX.instanceTypes.map defaultValue, vm := .none } = T1 at X₁ st1
  have hcat : (Value.ref T.heap.size).category = 1 := rfl
  have hcellA : T1.heap[T.heap.size]? = some (freshCell cX kX) := by rw [← hT1]; exact State.heap_pushCell_size _ _
  have d3' : decode c.code (pc + 3) = .ok (.dup, 1) := by rw [hb]; exact d3
  have d4' : decode c.code (pc + 4) = .ok (.ldc is, 2) := by rw [hb]; exact d4
  have hstr' : vk_R own is text sa s' := vk_R.warm hW0 hstr
  obtain ⟨V, ce, L, Z, hL, hlt, hcl9, hvm9, st⟩ := vx_ctorMadeS X₁ hexec htr (own := own) (cls := cls) (names := names) (ic := ic) hown' hcls hnames h (fun x hx => nomatch hx) hfX hkX hcellA (by rw [hhp]; exact Nat.le_refl _) (msg := .ref sa) rfl
    (g := { method := m, pc := pc + 6, locals := ls, stack := .ref sa :: .ref T.heap.size :: .ref T.heap.size :: rest, locked := none }) rfl hsize (rest := rest) rfl
    (by rw [hb]; exact d6) hRframes (by simp only [List.map_cons, List.sum_cons, hcat]; omega)
  have Z0 := Stand.forget (locs := []) Z (fun y hy => by rw [hL y hy, hhp]; exact Nat.le_refl _)
  obtain ⟨f1, f2⟩ := vx_frame Z0.same
  rw [hhp] at f1 f2
  have hcid : ce.cls = D.1 ci := by
    rw [hcl9]
    have h1 := (hK.1 ci _ hc).2.1
    rw [hvm] at hfX
    exact Option.some.inj (hfX.symm.trans h1)
  have hh : (V.setCell T.heap.size ce).heap[T.heap.size]? = some ce := heapAt_setCell_self (s := V) ce hlt
  subst hA'
  have X5 := vx_back9 X Y Z0
  have X6 : Stand p l e R s m args below meth c (V.setCell T.heap.size ce) locs (cells + 1) (slots + 6) := { X5 with same := X5.same.mono (by omega) (by omega) }
  have hk9 : ∀ (k : Nat) (x : Nat × va_E), ws[k]? = some x → (V.setCell T.heap.size ce).heap[x.1]? = T.heap[x.1]? := fun k x hx => f2 x.1 ((hP k x hx).lt) (fun z hz => nomatch hz)
  obtain ⟨t, a1, b1⟩ := kk T.heap.size (V.setCell T.heap.size ce).heap ((hP.kept hk9).app (fun k x hx => by
      have hz : k < 1 := (List.getElem?_eq_some_iff.mp hx).1
      rw [show k = 0 by omega] at hx
      cases hx
      exact ⟨_, hc, ce, hh, hcid, hvm9, fun k hk => absurd hk (Nat.not_lt_zero k)⟩)) (hD.push hP rfl (hA _ hS.1)) ⟨Nat.le_trans hS.1 f1, fun q h1 h2 => (f2 q (Nat.lt_of_lt_of_le h1 hS.1) (fun z hz => nomatch hz)).trans (hS.2.1 q h1 h2), hS.2.2⟩ _ rfl X6
  refine ⟨t, st1 _ ?_, b1⟩
  show Steps p.tables e below (T1.setTop { method := m, pc := pc + 3, locals := ls, stack := .ref T.heap.size :: rest, locked := none }) _
  jvm_step X₁.here [X₁.here.top, hexec, d3', Value.category]
  exact X₁.ldcString hexec (own := own) (text := text) (index := is) (a := sa) hown' hstr'.1 hstr'.2
    (g := { method := m, pc := pc + 4, locals := ls, stack := .ref T.heap.size :: .ref T.heap.size :: rest, locked := none }) rfl d4' _ (st _ a1)
/-- 'new E()' that isn't thrown at once: the object goes on the stack -/
theorem vx_make0 {cc : ByteArray} {pc : Nat} (hexec : p.tables.exec = Jvm.exec) (hb : c.code = cc) (hl : l.stackTraces = false) {own cls : String} {names : List String} {ik ic ci : Nat} {A : Nat → Prop} {T0 : u_T}
    (hown : s.vm.findClass own = some m.cls) (hcls : Bundle.fit cls = true) (hnames : ∀ n ∈ names, Bundle.fit n = true)
    (hk : (Cond.classLink own ik cls).before args s = true) (hini : (Cond.initialized cls).before args s = true) (hat : ∀ w ∈ vx_at0 own ic cls names, w.before args s = true)
    (hgood : ∀ w ∈ Cond.classLink own ik cls :: Cond.initialized cls :: vx_at0 own ic cls names, vx_ot w = true)
    (hU : vx_Zq Bundle.tN "UNASSIGNED_STACK" Bundle.steD A s s.heap) (hN : vx_Zq Bundle.tN "SUPPRESSED_SENTINEL" Bundle.listD A s s.heap) (hS : va_S A s.heap H locs) (hsize : ls.size = c.maxLocals)
    (d0 : decode cc pc = .ok (.new ik, 3)) (d3 : decode cc (pc + 3) = .ok (.dup, 1)) (d4 : decode cc (pc + 4) = .ok (.invokespecial ic, 3))
    (hK : va_K D cl tys s) (hP : va_P D cl ws H) (hD : va_D A ws) (hA : ∀ q, s.heap.size ≤ q → A q) (hc : cl[ci]? = some (cls, T0, 0))
    (hRframes : names.length + 3 < R.frames) (hRlocals : (rest.map fun v => v.category).sum + (13 * (names.length + 1) + 42) ≤ R.locals) (hRcells : cells + 1 ≤ R.cells) (hRslots : slots + 6 ≤ R.slots)
    (kk : ∀ (q : Nat) (H1 : Heap), va_P D cl (ws ++ [(q, .inr (ci, []))]) H1 → va_D A (ws ++ [(q, .inr (ci, []))]) → va_S A s.heap H1 locs → W p l e R s m args below meth c H1 locs (cells + 1) (slots + 6) Q (F0 m (pc + 7) ls (.ref q :: rest))) :
    W p l e R s m args below meth c H locs cells slots Q (F0 m pc ls rest) := by
  intro T hT X
  subst hT
  have htr : e.platform.stackTraces = false := (show e.platform.stackTraces = l.stackTraces by rw [X.admits.platform]).trans hl
  have Y := vx_rebase X (R' := { frames := R.frames, locals := R.locals, cells := 1, slots := 6 }) (Nat.le_refl _) (Nat.le_refl _) hRcells hRslots
  obtain ⟨s', hA'⟩ : ∃ z, z = (T.setVm s.vm).setFrames (.invoking m args :: below) := ⟨_, rfl⟩
  rw [← hA'] at Y
  have hvm : s'.vm = s.vm := by rw [hA']; rfl
  have hhp : s'.heap = T.heap := by rw [hA']; rfl
  have hW0 : s.WarmedH s'.vm := by rw [hvm]; exact State.WarmedH.refl s
  have hat' : ∀ w ∈ vx_at0 own ic cls names, w.before args s' = true := fun w hw => vx_ot_at hW0 hvm.symm (hgood w (List.mem_cons_of_mem _ (List.mem_cons_of_mem _ hw))) (hat w hw)
  have hk' : (Cond.classLink own ik cls).before args s' = true := vx_ot_at hW0 hvm.symm (hgood _ List.mem_cons_self) hk
  have hini' : (Cond.initialized cls).before args s' = true := vx_ot_at hW0 hvm.symm (hgood _ (List.mem_cons_of_mem _ List.mem_cons_self)) hini
  have hU' : vx_Zq Bundle.tN "UNASSIGNED_STACK" Bundle.steD A s' s'.heap := by rw [hhp]; exact vx_Zq.moved hW0.alike (hU.kept hS.2.1)
  have hN' : vx_Zq Bundle.tN "SUPPRESSED_SENTINEL" Bundle.listD A s' s'.heap := by rw [hhp]; exact vx_Zq.moved hW0.alike (hN.kept hS.2.1)
  have h : ∀ w ∈ Bundle.ownAtoms0 own ic cls names, w.before args s' = true := vx_own hat' (vx_isRefq hU'.1) (vx_isRefq hN'.1) hU'.2.word hN'.2.word
  have hown' : s'.vm.findClass own = some m.cls := by rw [hvm]; exact hown
  have hins : (Cond.instantiable cls 6).before args s' = true := h _ (by simp [Bundle.ownAtoms0])
  obtain ⟨vm₁, cX, kX, hfX, hkX, -, -, X₁, st1⟩ := Y.newCold hexec (own := own) (C := cls) (index := ik) (n := 6) hown' hk' hins hini'
    (g := F0 m pc ls rest) rfl (by rw [hb]; exact d0) (Nat.le_refl _) (Nat.le_refl _)
  generalize hT1 : (T.setVm vm₁).pushCell { cls := cX, slots := kX.instanceTypes.map defaultValue, vm := .none } = T1 at X₁ st1
  have hcat : (Value.ref T.heap.size).category = 1 := rfl
  have hcellA : T1.heap[T.heap.size]? = some (freshCell cX kX) := by rw [← hT1]; exact State.heap_pushCell_size _ _
  have d3' : decode c.code (pc + 3) = .ok (.dup, 1) := by rw [hb]; exact d3
  obtain ⟨V, ce, L, Z, hL, hlt, hcl9, hvm9, st⟩ := vx_ctorMade0 X₁ hexec htr (own := own) (cls := cls) (names := names) (ic := ic) hown' hcls hnames h (fun x hx => nomatch hx) hfX hkX hcellA (by rw [hhp]; exact Nat.le_refl _)
    (g := { method := m, pc := pc + 4, locals := ls, stack := .ref T.heap.size :: .ref T.heap.size :: rest, locked := none }) rfl hsize (rest := rest) rfl
    (by rw [hb]; exact d4) hRframes (by simp only [List.map_cons, List.sum_cons, hcat]; omega)
  have Z0 := Stand.forget (locs := []) Z (fun y hy => by rw [hL y hy, hhp]; exact Nat.le_refl _)
  obtain ⟨f1, f2⟩ := vx_frame Z0.same
  rw [hhp] at f1 f2
  have hcid : ce.cls = D.1 ci := by
    rw [hcl9]
    have h1 := (hK.1 ci _ hc).2.1
    rw [hvm] at hfX
    exact Option.some.inj (hfX.symm.trans h1)
  have hh : (V.setCell T.heap.size ce).heap[T.heap.size]? = some ce := heapAt_setCell_self (s := V) ce hlt
  subst hA'
  have X5 := vx_back9 X Y Z0
  have X6 : Stand p l e R s m args below meth c (V.setCell T.heap.size ce) locs (cells + 1) (slots + 6) := { X5 with same := X5.same.mono (by omega) (by omega) }
  have hk9 : ∀ (k : Nat) (x : Nat × va_E), ws[k]? = some x → (V.setCell T.heap.size ce).heap[x.1]? = T.heap[x.1]? := fun k x hx => f2 x.1 ((hP k x hx).lt) (fun z hz => nomatch hz)
  obtain ⟨t, a1, b1⟩ := kk T.heap.size (V.setCell T.heap.size ce).heap ((hP.kept hk9).app (fun k x hx => by
      have hz : k < 1 := (List.getElem?_eq_some_iff.mp hx).1
      rw [show k = 0 by omega] at hx
      cases hx
      exact ⟨_, hc, ce, hh, hcid, hvm9, fun k hk => absurd hk (Nat.not_lt_zero k)⟩)) (hD.push hP rfl (hA _ hS.1)) ⟨Nat.le_trans hS.1 f1, fun q h1 h2 => (f2 q (Nat.lt_of_lt_of_le h1 hS.1) (fun z hz => nomatch hz)).trans (hS.2.1 q h1 h2), hS.2.2⟩ _ rfl X6
  refine ⟨t, st1 _ ?_, b1⟩
  show Steps p.tables e below (T1.setTop { method := m, pc := pc + 3, locals := ls, stack := .ref T.heap.size :: rest, locked := none }) _
  jvm_step X₁.here [X₁.here.top, hexec, d3', Value.category]
  exact st _ a1
/-- 'throw x' of an object that was made before -/
theorem vx_athrow {cc : ByteArray} {pc : Nat} (hexec : p.tables.exec = Jvm.exec) (hb : c.code = cc) {q : Addr} (hdg : decode cc pc = .ok (.athrow, 1)) (k : vx_W p l e R s m args below meth c H locs cells slots Q (F0 m pc ls rest) q) : W p l e R s m args below meth c H locs cells slots Q (F0 m pc ls (.ref q :: rest)) := by
  intro T hT X
  obtain ⟨t, st, hq⟩ := k T hT X
  refine ⟨t, ?_, hq⟩
  have hdg' : decode c.code pc = .ok (.athrow, 1) := by rw [hb]; exact hdg
  jvm_step X.here [X.here.top, hexec, hdg', athrow.wp_sem]
  exact st
end VXK2
/-! ===== END ===== -/
/-! ===== BEGIN a constructor that throws (launches without stack traces) ===== -/
section VXIA
variable {p : Program} {l : Launch} {e : Env} {R : Room} {s : State} {m : MethodId} {args : Array Value} {below : List Frame} {meth : Method} {c : Code} {T : State} {locs : List Loc} {cells slots : Nat}
theorem vx_callI (X : Stand p l e R s m args below meth c T locs cells slots) (hexec : p.tables.exec = Jvm.exec) {own : String} {index : Nat} {y : MethodName} {bytes : ByteArray} {maxL : Nat}
    (hown : s.vm.findClass own = some m.cls) (hy1 : y.name = "<init>") (hlink : (Cond.methodLink own index y).before args s = true) (hinst : (Cond.instanceMethod y).before args s = true)
    (hcode : (Cond.code y bytes maxL none).before args s = true) (hy : y.cls ≠ "java/lang/invoke/MethodHandle" ∧ y.cls ≠ "java/lang/invoke/VarHandle")
    {W9 : Nat} {Pre : Pt → Array Value → Prop} {Post : Pt → Array Value → Option Value → Pt → Prop} {PostX : Pt → Array Value → Addr → Pt → Prop} (hK : vx_Back l R p e below s args y 3 W9 Pre Post PostX)
    {g : JFrame} (hg : g.method = m) (hsize : g.locals.size = c.maxLocals) {a : Addr} {argsL rest : List Value} (hlen : ∀ sig, parseMethodDescriptor y.desc = some sig → argsL.length = sig.parameters.length)
    (hstack : g.stack = argsL.reverse ++ .ref a :: rest) (hW : 2 * g.monitorRoom + (rest.map fun v => v.category).sum ≤ W9) (hdg : decode c.code g.pc = .ok (.invokespecial index, 3))
    (hpre : ∀ vm₁, s.WarmedH vm₁ → Pre ⟨T.setVm vm₁, locs, cells, slots⟩ (Value.ref a :: argsL).toArray) :
    (∃ (v : Option Value) (vm₁ : Vm) (B : Pt), s.WarmedH vm₁ ∧ Stand p l e R s m args below meth c B.U B.locs B.cells B.slots ∧ Post ⟨T.setVm vm₁, locs, cells, slots⟩ (Value.ref a :: argsL).toArray v B ∧
      ∀ target, Steps p.tables e below (B.U.setTop { g with pc := g.pc + 3, stack := v.toList ++ rest }) target → Steps p.tables e below (T.setTop g) target) ∨
    (∃ (q : Addr) (vm₁ : Vm) (B : Pt), s.WarmedH vm₁ ∧ Stand p l e R s m args below meth c B.U B.locs B.cells B.slots ∧ PostX ⟨T.setVm vm₁, locs, cells, slots⟩ (Value.ref a :: argsL).toArray q B ∧
      Steps p.tables e below (T.setTop g) ((B.U.setTop { g with stack := rest }).pushFrame (.throwing q))) := by
  subst hg
  have hpl : e.platform.magicAccessors = ({} : Platform).magicAccessors := by rw [X.admits.platform]
  obtain ⟨mk, methM, cM, kP, vm₁, hnamed, hmethM, hcodeM, -, hlocalsM, -, hkP, -, hW₁, hstep₁⟩ := Steps.initColdArgs (e := e) X.here hexec X.warmed hpl hown hy1 hy hlink hinst hcode (f := g) rfl hlen hstack hdg
  have X₁ := X.noted hW₁
  rcases hK g.method meth c ⟨T.setVm vm₁, locs, cells, slots⟩ { g with stack := rest } (.invokespecial index) mk (Value.ref a :: argsL).toArray X₁ rfl hsize hdg hW (X₁.named hnamed) (hpre vm₁ X₁.warmed) with ⟨v, B, X', hpost, hsteps⟩ | ⟨q, B, X', hpost, hsteps⟩
  · exact Or.inl ⟨v, vm₁, B, X₁.warmed, X', hpost, fun target h => hstep₁ _ fun acts => by rw [doInvoke_state]; exact hsteps.trans h⟩
  · exact Or.inr ⟨q, vm₁, B, X₁.warmed, X', hpost, hstep₁ _ fun acts => by rw [doInvoke_state]; exact hsteps⟩
end VXIA
section VXIB
variable {p : Program} {l : Launch} {e : Env} {R : Room} {s : State} {m : MethodId} {args : Array Value} {below : List Frame} {meth : Method} {c : Code} {H : Heap} {locs : List Loc} {cells slots : Nat}
variable {y : MethodName} {bytes cc : ByteArray} {maxL nL mc ms n index : Nat} {ret : Option FieldType} {ws : List Cond} {rm : Room} {Pc : Array Value → State → Prop} {Qc : Array Value → State → Outcome → State → Prop} {XC : String → State → State → Prop} {free : Addr → Prop} {Ts : List Cond} {own C : String} {b : Addr} {As rest : List Value} {g : JFrame}
theorem vx_runI (S : CallFix p m c cc nL s args Ts own) (hM : vx_Met l y ws rm Pc Qc XC mc ms free) (cw : CallB R s args own index y bytes maxL none ws rm mc ms n ∧ y.name = "<init>" ∧ (Cond.instanceMethod y).before args s = true) (hp : PreS s H Pc (.ref b :: As))
    (hg : g.method = m) (hn : As.length = n) (hsize : g.locals.size = nL) (hstack : g.stack = As.reverse ++ .ref b :: rest) (hW : 2 * g.monitorRoom + (rest.map fun v => v.category).sum ≤ 8) (hdg : decode cc g.pc = .ok (.invokespecial index, 3)) (hf : cells + mc ≤ R.cells ∧ slots + ms ≤ R.slots) :
    vx_Run p l e R s m args below meth c H locs cells slots mc ms g rest (Qc (Value.ref b :: As).toArray) XC free := by
  have hK : vx_Back l R p e below s args y 3 8 (PreOf R mc ms Pc) (PostOf Qc mc ms free) (vx_Post XC mc ms free) := vx_callBack cw.1 hM hp.1
  obtain ⟨⟨-, -, -, -, -, -, hcode, -, hy, hlen, hl⟩, hy1, hin⟩ := cw
  obtain ⟨hx, hb, hml, ho, -⟩ := S
  have hPc := hp.2
  intro T hT X
  rcases vx_callI X hx (bytes := bytes) (maxL := maxL) ho hy1 hl hin hcode hy hK hg (hsize.trans hml.symm) (a := b) (argsL := As) (rest := rest) (fun sig h => hn.trans (hlen sig h)) hstack hW (by rw [hb]; exact hdg)
    (fun vm₁ hW₁ => ⟨hf.1, hf.2, hPc (T.setVm vm₁) hT hW₁⟩) with ⟨v, vm₁, ⟨U', l2, c2, s2⟩, hW₁, X', ⟨g', mk, t, L, e1, e2, hq, h1, hL, h2, h3⟩, st⟩ | ⟨q, vm₁, ⟨U', l2, c2, s2⟩, hW₁, X', ⟨g', mk, t, L, E, ce, e1, e2, hq, hce, hcv, hcl, h1, hL, h2, h3⟩, st⟩
  · dsimp only [Pt.U, Pt.locs, Pt.cells, Pt.slots] at X' e1 e2 h1 h2 h3 st
    subst h1; subst h2; subst h3
    exact Or.inl ⟨v, (T.setVm vm₁).calling g' mk (Value.ref b :: As).toArray, t, U', L, hT, X', hL, e1, e2, hq, st⟩
  · dsimp only [Pt.U, Pt.locs, Pt.cells, Pt.slots] at X' e1 e2 h1 h2 h3 st hcl
    subst h1; subst h2; subst h3
    exact Or.inr ⟨q, (T.setVm vm₁).calling g' mk (Value.ref b :: As).toArray, t, U', L, E, ce, hT, X', hL, e1, e2, hq, hce, hcv, vx_cls hW₁ hcl, st⟩
end VXIB
/-! ===== END ===== -/
/-! ===== BEGIN a private constructor of a nest mate that throws ===== -/
section VXIC
variable {p : Program} {l : Launch} {e : Env} {R : Room} {s : State} {m : MethodId} {args : Array Value} {below : List Frame} {meth : Method} {c : Code} {T : State} {locs : List Loc} {cells slots : Nat}
theorem vx_callIN (X : Stand p l e R s m args below meth c T locs cells slots) (hexec : p.tables.exec = Jvm.exec) {own : String} {index : Nat} {host : String} {y : MethodName} {bytes : ByteArray} {maxL : Nat}
    (hown : s.vm.findClass own = some m.cls) (hy1 : y.name = "<init>") (hlink : (Cond.methodLinkNest own index y host).before args s = true) (hinst : (Cond.instanceMethod y).before args s = true)
    (hcode : (Cond.code y bytes maxL none).before args s = true) (hy : y.cls ≠ "java/lang/invoke/MethodHandle" ∧ y.cls ≠ "java/lang/invoke/VarHandle")
    {W9 : Nat} {Pre : Pt → Array Value → Prop} {Post : Pt → Array Value → Option Value → Pt → Prop} {PostX : Pt → Array Value → Addr → Pt → Prop} (hK : vx_Back l R p e below s args y 3 W9 Pre Post PostX)
    {g : JFrame} (hg : g.method = m) (hsize : g.locals.size = c.maxLocals) {a : Addr} {argsL rest : List Value} (hlen : ∀ sig, parseMethodDescriptor y.desc = some sig → argsL.length = sig.parameters.length)
    (hstack : g.stack = argsL.reverse ++ .ref a :: rest) (hW : 2 * g.monitorRoom + (rest.map fun v => v.category).sum ≤ W9) (hdg : decode c.code g.pc = .ok (.invokespecial index, 3))
    (hpre : ∀ vm₁, s.WarmedH vm₁ → Pre ⟨T.setVm vm₁, locs, cells, slots⟩ (Value.ref a :: argsL).toArray) :
    (∃ (v : Option Value) (vm₁ : Vm) (B : Pt), s.WarmedH vm₁ ∧ Stand p l e R s m args below meth c B.U B.locs B.cells B.slots ∧ Post ⟨T.setVm vm₁, locs, cells, slots⟩ (Value.ref a :: argsL).toArray v B ∧
      ∀ target, Steps p.tables e below (B.U.setTop { g with pc := g.pc + 3, stack := v.toList ++ rest }) target → Steps p.tables e below (T.setTop g) target) ∨
    (∃ (q : Addr) (vm₁ : Vm) (B : Pt), s.WarmedH vm₁ ∧ Stand p l e R s m args below meth c B.U B.locs B.cells B.slots ∧ PostX ⟨T.setVm vm₁, locs, cells, slots⟩ (Value.ref a :: argsL).toArray q B ∧
      Steps p.tables e below (T.setTop g) ((B.U.setTop { g with stack := rest }).pushFrame (.throwing q))) := by
  subst hg
  have hpl : e.platform.magicAccessors = ({} : Platform).magicAccessors := by rw [X.admits.platform]
  obtain ⟨mk, methM, cM, kP, vm₁, hnamed, hmethM, hcodeM, -, hlocalsM, -, hkP, -, hW₁, hstep₁⟩ := Steps.initColdArgsNest (e := e) X.here hexec X.warmed hpl hown hy1 hy hlink hinst hcode (f := g) rfl hlen hstack hdg
  have X₁ := X.noted hW₁
  rcases hK g.method meth c ⟨T.setVm vm₁, locs, cells, slots⟩ { g with stack := rest } (.invokespecial index) mk (Value.ref a :: argsL).toArray X₁ rfl hsize hdg hW (X₁.named hnamed) (hpre vm₁ X₁.warmed) with ⟨v, B, X', hpost, hsteps⟩ | ⟨q, B, X', hpost, hsteps⟩
  · exact Or.inl ⟨v, vm₁, B, X₁.warmed, X', hpost, fun target h => hstep₁ _ fun acts => by rw [doInvoke_state]; exact hsteps.trans h⟩
  · exact Or.inr ⟨q, vm₁, B, X₁.warmed, X', hpost, hstep₁ _ fun acts => by rw [doInvoke_state]; exact hsteps⟩
end VXIC
section VXID
variable {p : Program} {l : Launch} {e : Env} {R : Room} {s : State} {m : MethodId} {args : Array Value} {below : List Frame} {meth : Method} {c : Code} {H : Heap} {locs : List Loc} {cells slots : Nat}
theorem vx_runIN {y : MethodName} {bytes cc : ByteArray} {maxL nL mc ms n index : Nat} {ws : List Cond} {rm : Room} {Pc : Array Value → State → Prop} {Qc : Array Value → State → Outcome → State → Prop} {XC : String → State → State → Prop} {free : Addr → Prop} {Ts : List Cond} {own host : String} {b : Addr} {As rest : List Value} {g : JFrame}
    (S : CallFix p m c cc nL s args Ts own) (hM : vx_Met l y ws rm Pc Qc XC mc ms free) (cw : va_CN R s args own index y host bytes maxL none ws rm mc ms n ∧ y.name = "<init>" ∧ (Cond.instanceMethod y).before args s = true) (hp : PreS s H Pc (.ref b :: As))
    (hg : g.method = m) (hn : As.length = n) (hsize : g.locals.size = nL) (hstack : g.stack = As.reverse ++ .ref b :: rest) (hW : 2 * g.monitorRoom + (rest.map fun v => v.category).sum ≤ 8) (hdg : decode cc g.pc = .ok (.invokespecial index, 3)) (hf : cells + mc ≤ R.cells ∧ slots + ms ≤ R.slots) :
    vx_Run p l e R s m args below meth c H locs cells slots mc ms g rest (Qc (Value.ref b :: As).toArray) XC free := by
  obtain ⟨⟨⟨hrc, hrs, hfr, hlo, hws, hcw⟩, hcode, hini, hy, hlen, hl⟩, hx1, hx2⟩ := cw
  have hK : vx_Back l R p e below s args y 3 8 (PreOf R mc ms Pc) (PostOf Qc mc ms free) (vx_Post XC mc ms free) := vx_back (bytes := bytes) (maxL := maxL) (ret := none) hM hp.1 hrc hrs hfr hlo hws hcw (fun a' U hW => word_at hW (Or.inl (by first | rfl | simp [Cond.onTables, Cond.keeps, Cond.steady])) hini)
  obtain ⟨hx, hb, hml, ho, -⟩ := S
  have hPc := hp.2
  intro T hT X
  rcases vx_callIN X hx (bytes := bytes) (maxL := maxL) ho hx1 hl hx2 hcode hy hK hg (hsize.trans hml.symm) (a := b) (argsL := As) (rest := rest) (fun sig h => hn.trans (hlen sig h)) hstack hW (by rw [hb]; exact hdg)
    (fun vm₁ hW₁ => ⟨hf.1, hf.2, hPc (T.setVm vm₁) hT hW₁⟩) with ⟨v, vm₁, ⟨U', l2, c2, s2⟩, hW₁, X', ⟨g', mk, t, L, e1, e2, hq, h1, hL, h2, h3⟩, st⟩ | ⟨q, vm₁, ⟨U', l2, c2, s2⟩, hW₁, X', ⟨g', mk, t, L, E, ce, e1, e2, hq, hce, hcv, hcl, h1, hL, h2, h3⟩, st⟩
  · dsimp only [Pt.U, Pt.locs, Pt.cells, Pt.slots] at X' e1 e2 h1 h2 h3 st
    subst h1; subst h2; subst h3
    exact Or.inl ⟨v, (T.setVm vm₁).calling g' mk (Value.ref b :: As).toArray, t, U', L, hT, X', hL, e1, e2, hq, st⟩
  · dsimp only [Pt.U, Pt.locs, Pt.cells, Pt.slots] at X' e1 e2 h1 h2 h3 st hcl
    subst h1; subst h2; subst h3
    exact Or.inr ⟨q, (T.setVm vm₁).calling g' mk (Value.ref b :: As).toArray, t, U', L, E, ce, hT, X', hL, e1, e2, hq, hce, hcv, vx_cls hW₁ hcl, st⟩
end VXID
/-! ===== END ===== -/
/-! ===== BEGIN a method of a class above, found by the receiver, that may throw (follows va_callVU, va_runU of this kit) ===== -/
section
variable {p : Program} {l : Launch} {e : Env} {R : Room} {s : State} {m : MethodId} {args : Array Value} {below : List Frame} {meth : Method} {c : Code} {H : Heap} {locs : List Loc} {cells slots : Nat}
theorem vx_callVU {T : State} {locs : List Loc} {cells slots : Nat} (X : Stand p l e R s m args below meth c T locs cells slots) (hexec : p.tables.exec = Jvm.exec) {own C owner : String} {index : Nat} {x y : MethodName} {bytes : ByteArray} {maxL : Nat} {ret : Option FieldType}
    (hown : s.vm.findClass own = some m.cls) (hlink : (Cond.methodLink own index x).before args s = true) (hsame : (Cond.sameMethod x.cls owner x.name x.desc).before args s = true)
    (hd0 : va_Decl s ⟨owner, x.name, x.desc⟩) (howner : owner ≠ "java/lang/invoke/MethodHandle" ∧ owner ≠ "java/lang/invoke/VarHandle")
    (hsel : (Cond.selects C x y).before args s = true) (hinst : (Cond.instanceMethod y).before args s = true) (hcode : (Cond.code y bytes maxL ret).before args s = true)
    {W : Nat} {Pre : Pt → Array Value → Prop} {Post : Pt → Array Value → Option Value → Pt → Prop} {PostX : Pt → Array Value → Addr → Pt → Prop} (hK : vx_Back l R p e below s args y 3 W Pre Post PostX)
    {b : Addr} {cellB : Cell} (hcell : T.heap[b]? = some cellB) (hobj : cellB.vm.isStatics = false) (hcls : s.vm.findClass C = some cellB.cls)
    {g : JFrame} (hg : g.method = m) (hsize : g.locals.size = c.maxLocals) {argsL rest : List Value} (hlen : ∀ sig, parseMethodDescriptor x.desc = some sig → argsL.length = sig.parameters.length)
    (hstack : g.stack = argsL.reverse ++ .ref b :: rest) (hW : 2 * g.monitorRoom + (rest.map fun v => v.category).sum ≤ W) (hdg : decode c.code g.pc = .ok (.invokevirtual index, 3))
    (hpre : ∀ vm₁, s.WarmedH vm₁ → Pre ⟨T.setVm vm₁, locs, cells, slots⟩ (Value.ref b :: argsL).toArray) :
    (∃ (v : Option Value) (vm₁ : Vm) (B : Pt), s.WarmedH vm₁ ∧ Stand p l e R s m args below meth c B.U B.locs B.cells B.slots ∧ Post ⟨T.setVm vm₁, locs, cells, slots⟩ (Value.ref b :: argsL).toArray v B ∧
      ∀ target, Steps p.tables e below (B.U.setTop { g with pc := g.pc + 3, stack := v.toList ++ rest }) target → Steps p.tables e below (T.setTop g) target) ∨
    (∃ (q : Addr) (vm₁ : Vm) (B : Pt), s.WarmedH vm₁ ∧ Stand p l e R s m args below meth c B.U B.locs B.cells B.slots ∧ PostX ⟨T.setVm vm₁, locs, cells, slots⟩ (Value.ref b :: argsL).toArray q B ∧
      Steps p.tables e below (T.setTop g) ((B.U.setTop { g with stack := rest }).pushFrame (.throwing q))) := by
  obtain ⟨r0, r, hn, hrm, hstR, hsigR⟩ := hd0
  obtain ⟨cn, ck, r1, hcn, hck, hni, hf, hn1⟩ := Cond.sameMethod_found hsame
  cases hn.symm.trans hn1
  obtain ⟨mk, methM, hnamed, hmethM, -, habM⟩ := Cond.instanceMethod_spec hinst
  obtain ⟨c2, r2, m2, q1, q2, q3, q4, kP, hkP, hkPi⟩ := Cond.selects_spec hsel
  cases hcls.symm.trans q1
  cases hf.symm.trans q2
  cases hnamed.symm.trans q3
  have hselP : selectMethod e.platform s.vm cellB.cls r0 = .method mk := by rw [Launch.admits_selectMethod X.admits]; exact q4
  obtain ⟨vm₁, X₁, hstep₁⟩ := X.invokevirtualUp hexec hown hlink hsame howner hn hrm hstR (a := b) (cell := cellB) hcell
    (fun z h => by rw [h] at hobj; cases hobj) hselP hmethM habM hkP hkPi (g := g) hg (argsL := argsL) (rest := rest) (hlen _ hsigR) hstack hdg
  rcases hK m meth c ⟨T.setVm vm₁, locs, cells, slots⟩ { g with stack := rest } (.invokevirtual index) mk (Value.ref b :: argsL).toArray X₁ hg hsize hdg hW (X₁.named hnamed) (hpre vm₁ X₁.warmed) with ⟨v, B, X', hpost, hsteps⟩ | ⟨q, B, X', hpost, hsteps⟩
  · exact Or.inl ⟨v, vm₁, B, X₁.warmed, X', hpost, fun target h => hstep₁ _ fun acts => by rw [doInvoke_state]; exact hsteps.trans h⟩
  · exact Or.inr ⟨q, vm₁, B, X₁.warmed, X', hpost, hstep₁ _ fun acts => by rw [doInvoke_state]; exact hsteps⟩
theorem vx_runU {x y : MethodName} {bytes cc : ByteArray} {maxL nL mc ms n index : Nat} {ret : Option FieldType} {ws : List Cond} {rm : Room} {Pc : Array Value → State → Prop} {Qc : Array Value → State → Outcome → State → Prop} {XC : String → State → State → Prop} {free : Addr → Prop} {Ts : List Cond} {own C owner : String} {b : Addr} {As rest : List Value} {g : JFrame}
    (S : CallFix p m c cc nL s args Ts own) (hM : vx_Met l y ws rm Pc Qc XC mc ms free) (cw : va_CU R s args own C owner index x y bytes maxL ret ws rm mc ms n) (hp : PreV s H C b Pc As)
    (hg : g.method = m) (hn : As.length = n) (hsize : g.locals.size = nL) (hstack : g.stack = As.reverse ++ .ref b :: rest) (hW : 2 * g.monitorRoom + (rest.map fun v => v.category).sum ≤ 8) (hdg : decode cc g.pc = .ok (.invokevirtual index, 3)) (hf : cells + mc ≤ R.cells ∧ slots + ms ≤ R.slots) :
    vx_Run p l e R s m args below meth c H locs cells slots mc ms g rest (Qc (Value.ref b :: As).toArray) XC free := by
  obtain ⟨hrc, hrs, hfr, hlo, hws, hcw⟩ := cw.back
  have hini := cw.init
  have hK : vx_Back l R p e below s args y 3 8 (PreOf R mc ms Pc) (PostOf Qc mc ms free) (vx_Post XC mc ms free) := vx_back (bytes := bytes) (maxL := maxL) (ret := ret) hM hp.1 hrc hrs hfr hlo hws hcw (fun a' U hW => word_at hW (Or.inl (by first | rfl | simp [Cond.onTables, Cond.keeps, Cond.steady])) hini)
  obtain ⟨hx, hb, hml, ho, -⟩ := S
  obtain ⟨-, ⟨cellB, hcB, hoB, hclB⟩, hPc⟩ := hp
  intro T hT X
  rcases vx_callVU X hx (C := C) (owner := owner) (bytes := bytes) (maxL := maxL) (ret := ret) ho cw.link cw.same cw.decl cw.notMH cw.sel cw.inst cw.code hK (by rw [hT]; exact hcB) hoB hclB hg (hsize.trans hml.symm) (argsL := As) (rest := rest) (fun sig h => hn.trans (cw.len sig h)) hstack hW (by rw [hb]; exact hdg)
    (fun vm₁ hW₁ => ⟨hf.1, hf.2, hPc (T.setVm vm₁) hT hW₁⟩) with ⟨v, vm₁, ⟨U', l2, c2, s2⟩, hW₁, X', ⟨g', mk, t, L, e1, e2, hq, h1, hL, h2, h3⟩, st⟩ | ⟨q, vm₁, ⟨U', l2, c2, s2⟩, hW₁, X', ⟨g', mk, t, L, E, ce, e1, e2, hq, hce, hcv, hcl, h1, hL, h2, h3⟩, st⟩
  · dsimp only [Pt.U, Pt.locs, Pt.cells, Pt.slots] at X' e1 e2 h1 h2 h3 st
    subst h1; subst h2; subst h3
    exact Or.inl ⟨v, (T.setVm vm₁).calling g' mk (Value.ref b :: As).toArray, t, U', L, hT, X', hL, e1, e2, hq, st⟩
  · dsimp only [Pt.U, Pt.locs, Pt.cells, Pt.slots] at X' e1 e2 h1 h2 h3 st hcl
    subst h1; subst h2; subst h3
    exact Or.inr ⟨q, (T.setVm vm₁).calling g' mk (Value.ref b :: As).toArray, t, U', L, E, ce, hT, X', hL, e1, e2, hq, hce, hcv, vx_cls hW₁ hcl, st⟩
end
/-! ===== END ===== -/
/-! ===== BEGIN super.m(..) that may throw (follows va_callSU, va_runSU) ===== -/
section
variable {p : Program} {l : Launch} {e : Env} {R : Room} {s : State} {m : MethodId} {args : Array Value} {below : List Frame} {meth : Method} {c : Code} {H : Heap} {locs : List Loc} {cells slots : Nat}
theorem vx_callSU {T : State} {locs : List Loc} {cells slots : Nat} (X : Stand p l e R s m args below meth c T locs cells slots) (hexec : p.tables.exec = Jvm.exec) {own : String} {index : Nat} {y : MethodName} {bytes : ByteArray} {maxL : Nat} {ret : Option FieldType}
    (hown : s.vm.findClass own = some m.cls) (hlink : (Cond.methodLink own index y).before args s = true) (hsame : (Cond.sameMethod y.cls y.cls y.name y.desc).before args s = true) (hsup : (Cond.superclass own y.cls).before args s = true)
    (hinst : (Cond.instanceMethod y).before args s = true) (hcode : (Cond.code y bytes maxL ret).before args s = true) (hno : y.name ≠ "<init>")
    {W : Nat} {Pre : Pt → Array Value → Prop} {Post : Pt → Array Value → Option Value → Pt → Prop} {PostX : Pt → Array Value → Addr → Pt → Prop} (hK : vx_Back l R p e below s args y 3 W Pre Post PostX)
    {b : Addr} {cellB : Cell} {kB : Class} (hcell : T.heap[b]? = some cellB) (hobj : cellB.vm.isStatics = false) (hkB : s.vm.classes[cellB.cls]? = some kB)
    {g : JFrame} (hg : g.method = m) (hsize : g.locals.size = c.maxLocals) {argsL rest : List Value} (hlen : ∀ sig, parseMethodDescriptor y.desc = some sig → argsL.length = sig.parameters.length)
    (hstack : g.stack = argsL.reverse ++ .ref b :: rest) (hW : 2 * g.monitorRoom + (rest.map fun v => v.category).sum ≤ W) (hdg : decode c.code g.pc = .ok (.invokespecial index, 3))
    (hpre : ∀ vm₁, s.WarmedH vm₁ → Pre ⟨T.setVm vm₁, locs, cells, slots⟩ (Value.ref b :: argsL).toArray) :
    (∃ (v : Option Value) (vm₁ : Vm) (B : Pt), s.WarmedH vm₁ ∧ Stand p l e R s m args below meth c B.U B.locs B.cells B.slots ∧ Post ⟨T.setVm vm₁, locs, cells, slots⟩ (Value.ref b :: argsL).toArray v B ∧
      ∀ target, Steps p.tables e below (B.U.setTop { g with pc := g.pc + 3, stack := v.toList ++ rest }) target → Steps p.tables e below (T.setTop g) target) ∨
    (∃ (q : Addr) (vm₁ : Vm) (B : Pt), s.WarmedH vm₁ ∧ Stand p l e R s m args below meth c B.U B.locs B.cells B.slots ∧ PostX ⟨T.setVm vm₁, locs, cells, slots⟩ (Value.ref b :: argsL).toArray q B ∧
      Steps p.tables e below (T.setTop g) ((B.U.setTop { g with stack := rest }).pushFrame (.throwing q))) := by
  obtain ⟨mk, methM, hnamed, hmethM, hstM, habM⟩ := Cond.instanceMethod_spec hinst
  obtain ⟨methM', cM, hmethM', -, -, -, -, -, -, hsigM⟩ := Cond.code_spec hnamed hcode
  cases hmethM.symm.trans hmethM'
  obtain ⟨ps, dk, kp, hps, hdk, hkp, hsuper, -, -, hnid⟩ := Cond.superclass_spec hown hsup
  have hn : s.methodNamed? ⟨y.cls, y.name, y.desc⟩ = some mk := hnamed
  have hpm : ps = mk.cls := Option.some.inj (hps.symm.trans (findClass_of_methodNamed hnamed))
  have hsub : s.vm.isSubclass ps mk.cls = true := by rw [hpm]; simp [Vm.isSubclass, Vm.isSubclassAux]
  obtain ⟨vm₁, X₁, hstep₁⟩ := X.invokespecialUp hexec hown hlink hsame hn hmethM hstM habM hno hdk hnid hps hsuper hsub (a := b) (cell := cellB) hcell
    (fun z h => by rw [h] at hobj; cases hobj) hkB (g := g) hg (argsL := argsL) (rest := rest) (hlen _ hsigM) hstack hdg
  rcases hK m meth c ⟨T.setVm vm₁, locs, cells, slots⟩ { g with stack := rest } (.invokespecial index) mk (Value.ref b :: argsL).toArray X₁ hg hsize hdg hW (X₁.named hnamed) (hpre vm₁ X₁.warmed) with ⟨v, B, X', hpost, hsteps⟩ | ⟨q, B, X', hpost, hsteps⟩
  · exact Or.inl ⟨v, vm₁, B, X₁.warmed, X', hpost, fun target h => hstep₁ _ (by rw [doInvoke_state]; exact hsteps.trans h)⟩
  · exact Or.inr ⟨q, vm₁, B, X₁.warmed, X', hpost, hstep₁ _ (by rw [doInvoke_state]; exact hsteps)⟩
theorem vx_runSU {y : MethodName} {bytes cc : ByteArray} {maxL nL mc ms n index : Nat} {ret : Option FieldType} {ws : List Cond} {rm : Room} {Pc : Array Value → State → Prop} {Qc : Array Value → State → Outcome → State → Prop} {XC : String → State → State → Prop} {free : Addr → Prop} {Ts : List Cond} {own C : String} {cC : ClassId} {b : Addr} {As rest : List Value} {g : JFrame}
    (hat : ClassAt s C cC) (S : CallFix p m c cc nL s args Ts own) (hM : vx_Met l y ws rm Pc Qc XC mc ms free) (cw : va_CS R s args own index y bytes maxL ret ws rm mc ms n) (hp : PreV s H C b Pc As)
    (hg : g.method = m) (hn : As.length = n) (hsize : g.locals.size = nL) (hstack : g.stack = As.reverse ++ .ref b :: rest) (hW : 2 * g.monitorRoom + (rest.map fun v => v.category).sum ≤ 8) (hdg : decode cc g.pc = .ok (.invokespecial index, 3)) (hf : cells + mc ≤ R.cells ∧ slots + ms ≤ R.slots) :
    vx_Run p l e R s m args below meth c H locs cells slots mc ms g rest (Qc (Value.ref b :: As).toArray) XC free := by
  obtain ⟨⟨hrc, hrs, hfr, hlo, hws, hcw⟩, hl1, hl2, hl3, hl4, hini, hcode, hno, hlen⟩ := cw
  have hK : vx_Back l R p e below s args y 3 8 (PreOf R mc ms Pc) (PostOf Qc mc ms free) (vx_Post XC mc ms free) := vx_back (bytes := bytes) (maxL := maxL) (ret := ret) hM hp.1 hrc hrs hfr hlo hws hcw (fun a' U hW => word_at hW (Or.inl (by first | rfl | simp [Cond.onTables, Cond.keeps, Cond.steady])) hini)
  obtain ⟨hx, hb, hml, ho, -⟩ := S
  obtain ⟨-, ⟨cellB, hcB, hoB, hclB⟩, hPc⟩ := hp
  obtain ⟨hfc, kB, hkB, -⟩ := hat
  cases hfc.symm.trans hclB
  intro T hT X
  rcases vx_callSU X hx (bytes := bytes) (maxL := maxL) (ret := ret) ho hl1 hl2 hl3 hl4 hcode hno hK (by rw [hT]; exact hcB) hoB hkB hg (hsize.trans hml.symm) (argsL := As) (rest := rest) (fun sig h => hn.trans (hlen sig h)) hstack hW (by rw [hb]; exact hdg)
    (fun vm₁ hW₁ => ⟨hf.1, hf.2, hPc (T.setVm vm₁) hT hW₁⟩) with ⟨v, vm₁, ⟨U', l2, c2, s2⟩, hW₁, X', ⟨g', mk, t, L, e1, e2, hq, h1, hL, h2, h3⟩, st⟩ | ⟨q, vm₁, ⟨U', l2, c2, s2⟩, hW₁, X', ⟨g', mk, t, L, E, ce, e1, e2, hq, hce, hcv, hcl, h1, hL, h2, h3⟩, st⟩
  · dsimp only [Pt.U, Pt.locs, Pt.cells, Pt.slots] at X' e1 e2 h1 h2 h3 st
    subst h1; subst h2; subst h3
    exact Or.inl ⟨v, (T.setVm vm₁).calling g' mk (Value.ref b :: As).toArray, t, U', L, hT, X', hL, e1, e2, hq, st⟩
  · dsimp only [Pt.U, Pt.locs, Pt.cells, Pt.slots] at X' e1 e2 h1 h2 h3 st hcl
    subst h1; subst h2; subst h3
    exact Or.inr ⟨q, (T.setVm vm₁).calling g' mk (Value.ref b :: As).toArray, t, U', L, E, ce, hT, X', hL, e1, e2, hq, hce, hcv, vx_cls hW₁ hcl, st⟩
end
/-! ===== END ===== -/
/-! ===== BEGIN a private method of a nest mate that may throw (follows va_callVN, va_callSN, va_runVN, va_runSN) ===== -/
section
variable {p : Program} {l : Launch} {e : Env} {R : Room} {s : State} {m : MethodId} {args : Array Value} {below : List Frame} {meth : Method} {c : Code} {H : Heap} {locs : List Loc} {cells slots : Nat}
variable {T : State}
theorem vx_callVN (X : Stand p l e R s m args below meth c T locs cells slots) (hexec : p.tables.exec = Jvm.exec) {own C : String} {index : Nat} {host : String} {y : MethodName} {bytes : ByteArray} {maxL : Nat} {ret : Option FieldType}
    (hown : s.vm.findClass own = some m.cls) (hlink : (Cond.methodLinkNest own index y host).before args s = true) (hinst : (Cond.instanceMethod y).before args s = true) (hsel : (Cond.selects C y y).before args s = true)
    (hcode : (Cond.code y bytes maxL ret).before args s = true) (hy : y.cls ≠ "java/lang/invoke/MethodHandle" ∧ y.cls ≠ "java/lang/invoke/VarHandle")
    {W : Nat} {Pre : Pt → Array Value → Prop} {Post : Pt → Array Value → Option Value → Pt → Prop} {PostX : Pt → Array Value → Addr → Pt → Prop} (hK : vx_Back l R p e below s args y 3 W Pre Post PostX)
    {b : Addr} {cellB : Cell} (hcell : T.heap[b]? = some cellB) (hobj : cellB.vm.isStatics = false) (hcls : s.vm.findClass C = some cellB.cls)
    {g : JFrame} (hg : g.method = m) (hsize : g.locals.size = c.maxLocals) {argsL rest : List Value} (hlen : ∀ sig, parseMethodDescriptor y.desc = some sig → argsL.length = sig.parameters.length)
    (hstack : g.stack = argsL.reverse ++ .ref b :: rest) (hW : 2 * g.monitorRoom + (rest.map fun v => v.category).sum ≤ W) (hdg : decode c.code g.pc = .ok (.invokevirtual index, 3))
    (hpre : ∀ vm₁, s.WarmedH vm₁ → Pre ⟨T.setVm vm₁, locs, cells, slots⟩ (Value.ref b :: argsL).toArray) :
    (∃ (v : Option Value) (vm₁ : Vm) (B : Pt), s.WarmedH vm₁ ∧ Stand p l e R s m args below meth c B.U B.locs B.cells B.slots ∧ Post ⟨T.setVm vm₁, locs, cells, slots⟩ (Value.ref b :: argsL).toArray v B ∧
      ∀ target, Steps p.tables e below (B.U.setTop { g with pc := g.pc + 3, stack := v.toList ++ rest }) target → Steps p.tables e below (T.setTop g) target) ∨
    (∃ (q : Addr) (vm₁ : Vm) (B : Pt), s.WarmedH vm₁ ∧ Stand p l e R s m args below meth c B.U B.locs B.cells B.slots ∧ PostX ⟨T.setVm vm₁, locs, cells, slots⟩ (Value.ref b :: argsL).toArray q B ∧
      Steps p.tables e below (T.setTop g) ((B.U.setTop { g with stack := rest }).pushFrame (.throwing q))) := by
  obtain ⟨mk, methM, hnamed, hmethM, hstM, habM⟩ := Cond.instanceMethod_spec hinst
  obtain ⟨methM', cM, hmethM', -, -, -, -, -, -, hsigM⟩ := Cond.code_spec hnamed hcode
  cases hmethM.symm.trans hmethM'
  obtain ⟨c2, r2, m2, q1, q2, q3, q4, kP, hkP, hkPi⟩ := Cond.selects_spec hsel
  cases hcls.symm.trans q1
  cases (State.methodFound?_of_named hnamed hy).symm.trans q2
  cases hnamed.symm.trans q3
  have hselP : selectMethod e.platform s.vm cellB.cls mk = .method mk := by rw [Launch.admits_selectMethod X.admits]; exact q4
  obtain ⟨vm₁, X₁, hstep₁⟩ := X.invokevirtualNest hexec hown hlink hnamed hmethM hstM hkP hkPi hy (a := b) (cell := cellB) hcell
    (fun z h => by rw [h] at hobj; cases hobj) hselP hmethM habM hkP hkPi (g := g) hg (argsL := argsL) (rest := rest) (hlen _ hsigM) hstack hdg
  rcases hK m meth c ⟨T.setVm vm₁, locs, cells, slots⟩ { g with stack := rest } (.invokevirtual index) mk (Value.ref b :: argsL).toArray X₁ hg hsize hdg hW (X₁.named hnamed) (hpre vm₁ X₁.warmed) with ⟨v, B, X', hpost, hsteps⟩ | ⟨q, B, X', hpost, hsteps⟩
  · exact Or.inl ⟨v, vm₁, B, X₁.warmed, X', hpost, fun target h => hstep₁ _ fun acts => by rw [doInvoke_state]; exact hsteps.trans h⟩
  · exact Or.inr ⟨q, vm₁, B, X₁.warmed, X', hpost, hstep₁ _ fun acts => by rw [doInvoke_state]; exact hsteps⟩
theorem vx_callSN (X : Stand p l e R s m args below meth c T locs cells slots) (hexec : p.tables.exec = Jvm.exec) {own : String} {index : Nat} {host : String} {y : MethodName} {bytes : ByteArray} {maxL : Nat} {ret : Option FieldType}
    (hown : s.vm.findClass own = some m.cls) (hlink : (Cond.methodLinkNest own index y host).before args s = true) (hstat : (Cond.static y).before args s = true) (hinit : (Cond.initialized y.cls).before args s = true)
    (hcode : (Cond.code y bytes maxL ret).before args s = true) (hy : y.cls ≠ "java/lang/invoke/MethodHandle" ∧ y.cls ≠ "java/lang/invoke/VarHandle")
    {W : Nat} {Pre : Pt → Array Value → Prop} {Post : Pt → Array Value → Option Value → Pt → Prop} {PostX : Pt → Array Value → Addr → Pt → Prop} (hK : vx_Back l R p e below s args y 3 W Pre Post PostX)
    {g : JFrame} (hg : g.method = m) (hsize : g.locals.size = c.maxLocals) {argsL rest : List Value} (hlen : ∀ sig, parseMethodDescriptor y.desc = some sig → argsL.length = sig.parameters.length)
    (hstack : g.stack = argsL.reverse ++ rest) (hW : 2 * g.monitorRoom + (rest.map fun v => v.category).sum ≤ W) (hdg : decode c.code g.pc = .ok (.invokestatic index, 3))
    (hpre : ∀ vm₁, s.WarmedH vm₁ → Pre ⟨T.setVm vm₁, locs, cells, slots⟩ argsL.toArray) :
    (∃ (v : Option Value) (vm₁ : Vm) (B : Pt), s.WarmedH vm₁ ∧ Stand p l e R s m args below meth c B.U B.locs B.cells B.slots ∧ Post ⟨T.setVm vm₁, locs, cells, slots⟩ argsL.toArray v B ∧
      ∀ target, Steps p.tables e below (B.U.setTop { g with pc := g.pc + 3, stack := v.toList ++ rest }) target → Steps p.tables e below (T.setTop g) target) ∨
    (∃ (q : Addr) (vm₁ : Vm) (B : Pt), s.WarmedH vm₁ ∧ Stand p l e R s m args below meth c B.U B.locs B.cells B.slots ∧ PostX ⟨T.setVm vm₁, locs, cells, slots⟩ argsL.toArray q B ∧
      Steps p.tables e below (T.setTop g) ((B.U.setTop { g with stack := rest }).pushFrame (.throwing q))) := by
  obtain ⟨mk, hnamed⟩ := Cond.code_named hcode
  obtain ⟨methM, cM, hmethM, -, -, -, -, -, -, hsigM⟩ := Cond.code_spec hnamed hcode
  have hstatic : methM.isStatic = true := Cond.static_spec hnamed hmethM hstat
  obtain ⟨kP, hkP, -⟩ := className_of_methodNamed hnamed
  have hinitP : kP.init = .initialized := Cond.initialized_spec (findClass_of_methodNamed hnamed) hkP hinit
  obtain ⟨vm₁, X₁, hstep₁⟩ := X.invokestaticNest hexec hown hlink hnamed hmethM hstatic hkP hinitP hy (g := g) hg (argsL := argsL) (rest := rest) (hlen _ hsigM) hstack hdg
  rcases hK m meth c ⟨T.setVm vm₁, locs, cells, slots⟩ { g with stack := rest } (.invokestatic index) mk argsL.toArray X₁ hg hsize hdg hW (X₁.named hnamed) (hpre vm₁ X₁.warmed) with ⟨v, B, X', hpost, hsteps⟩ | ⟨q, B, X', hpost, hsteps⟩
  · exact Or.inl ⟨v, vm₁, B, X₁.warmed, X', hpost, fun target h => hstep₁ _ fun acts => by rw [doInvoke_state]; exact hsteps.trans h⟩
  · exact Or.inr ⟨q, vm₁, B, X₁.warmed, X', hpost, hstep₁ _ fun acts => by rw [doInvoke_state]; exact hsteps⟩
theorem vx_runVN {y : MethodName} {bytes cc : ByteArray} {maxL nL mc ms n index : Nat} {ret : Option FieldType} {ws : List Cond} {rm : Room} {Pc : Array Value → State → Prop} {Qc : Array Value → State → Outcome → State → Prop} {XC : String → State → State → Prop} {free : Addr → Prop} {Ts : List Cond} {own C host : String} {b : Addr} {As rest : List Value} {g : JFrame}
    (S : CallFix p m c cc nL s args Ts own) (hM : vx_Met l y ws rm Pc Qc XC mc ms free) (cw : va_CN R s args own index y host bytes maxL ret ws rm mc ms n ∧ (Cond.instanceMethod y).before args s = true ∧ (Cond.selects C y y).before args s = true) (hp : PreV s H C b Pc As)
    (hg : g.method = m) (hn : As.length = n) (hsize : g.locals.size = nL) (hstack : g.stack = As.reverse ++ .ref b :: rest) (hW : 2 * g.monitorRoom + (rest.map fun v => v.category).sum ≤ 8) (hdg : decode cc g.pc = .ok (.invokevirtual index, 3)) (hf : cells + mc ≤ R.cells ∧ slots + ms ≤ R.slots) :
    vx_Run p l e R s m args below meth c H locs cells slots mc ms g rest (Qc (Value.ref b :: As).toArray) XC free := by
  obtain ⟨⟨⟨hrc, hrs, hfr, hlo, hws, hcw⟩, hcode, hini, hy, hlen, hl⟩, hx1, hx2⟩ := cw
  have hK : vx_Back l R p e below s args y 3 8 (PreOf R mc ms Pc) (PostOf Qc mc ms free) (vx_Post XC mc ms free) := vx_back (bytes := bytes) (maxL := maxL) (ret := ret) hM hp.1 hrc hrs hfr hlo hws hcw (fun a' U hW => word_at hW (Or.inl (by first | rfl | simp [Cond.onTables, Cond.keeps, Cond.steady])) hini)
  obtain ⟨hx, hb, hml, ho, -⟩ := S
  obtain ⟨-, ⟨cellB, hcB, hoB, hclB⟩, hPc⟩ := hp
  intro T hT X
  rcases vx_callVN X hx (C := C) (bytes := bytes) (maxL := maxL) (ret := ret) ho hl hx1 hx2 hcode hy hK (by rw [hT]; exact hcB) hoB hclB hg (hsize.trans hml.symm) (argsL := As) (rest := rest) (fun sig h => hn.trans (hlen sig h)) hstack hW (by rw [hb]; exact hdg)
    (fun vm₁ hW₁ => ⟨hf.1, hf.2, hPc (T.setVm vm₁) hT hW₁⟩) with ⟨v, vm₁, ⟨U', l2, c2, s2⟩, hW₁, X', ⟨g', mk, t, L, e1, e2, hq, h1, hL, h2, h3⟩, st⟩ | ⟨q, vm₁, ⟨U', l2, c2, s2⟩, hW₁, X', ⟨g', mk, t, L, E, ce, e1, e2, hq, hce, hcv, hcl, h1, hL, h2, h3⟩, st⟩
  · dsimp only [Pt.U, Pt.locs, Pt.cells, Pt.slots] at X' e1 e2 h1 h2 h3 st
    subst h1; subst h2; subst h3
    exact Or.inl ⟨v, (T.setVm vm₁).calling g' mk (Value.ref b :: As).toArray, t, U', L, hT, X', hL, e1, e2, hq, st⟩
  · dsimp only [Pt.U, Pt.locs, Pt.cells, Pt.slots] at X' e1 e2 h1 h2 h3 st hcl
    subst h1; subst h2; subst h3
    exact Or.inr ⟨q, (T.setVm vm₁).calling g' mk (Value.ref b :: As).toArray, t, U', L, E, ce, hT, X', hL, e1, e2, hq, hce, hcv, vx_cls hW₁ hcl, st⟩
theorem vx_runSN {y : MethodName} {bytes cc : ByteArray} {maxL nL mc ms n index : Nat} {ret : Option FieldType} {ws : List Cond} {rm : Room} {Pc : Array Value → State → Prop} {Qc : Array Value → State → Outcome → State → Prop} {XC : String → State → State → Prop} {free : Addr → Prop} {Ts : List Cond} {own host : String} {As rest : List Value} {g : JFrame}
    (S : CallFix p m c cc nL s args Ts own) (hM : vx_Met l y ws rm Pc Qc XC mc ms free) (cw : va_CN R s args own index y host bytes maxL ret ws rm mc ms n ∧ (Cond.static y).before args s = true ∧ True) (hp : PreS s H Pc As)
    (hg : g.method = m) (hn : As.length = n) (hsize : g.locals.size = nL) (hstack : g.stack = As.reverse ++ rest) (hW : 2 * g.monitorRoom + (rest.map fun v => v.category).sum ≤ 8) (hdg : decode cc g.pc = .ok (.invokestatic index, 3)) (hf : cells + mc ≤ R.cells ∧ slots + ms ≤ R.slots) :
    vx_Run p l e R s m args below meth c H locs cells slots mc ms g rest (Qc As.toArray) XC free := by
  obtain ⟨⟨⟨hrc, hrs, hfr, hlo, hws, hcw⟩, hcode, hini, hy, hlen, hl⟩, hx1, hx2⟩ := cw
  have hK : vx_Back l R p e below s args y 3 8 (PreOf R mc ms Pc) (PostOf Qc mc ms free) (vx_Post XC mc ms free) := vx_back (bytes := bytes) (maxL := maxL) (ret := ret) hM hp.1 hrc hrs hfr hlo hws hcw (fun a' U hW => word_at hW (Or.inl (by first | rfl | simp [Cond.onTables, Cond.keeps, Cond.steady])) hini)
  obtain ⟨hx, hb, hml, ho, -⟩ := S
  have hPc := hp.2
  intro T hT X
  rcases vx_callSN X hx (bytes := bytes) (maxL := maxL) (ret := ret) ho hl hx1 hini hcode hy hK hg (hsize.trans hml.symm) (argsL := As) (rest := rest) (fun sig h => hn.trans (hlen sig h)) hstack hW (by rw [hb]; exact hdg)
    (fun vm₁ hW₁ => ⟨hf.1, hf.2, hPc (T.setVm vm₁) hT hW₁⟩) with ⟨v, vm₁, ⟨U', l2, c2, s2⟩, hW₁, X', ⟨g', mk, t, L, e1, e2, hq, h1, hL, h2, h3⟩, st⟩ | ⟨q, vm₁, ⟨U', l2, c2, s2⟩, hW₁, X', ⟨g', mk, t, L, E, ce, e1, e2, hq, hce, hcv, hcl, h1, hL, h2, h3⟩, st⟩
  · dsimp only [Pt.U, Pt.locs, Pt.cells, Pt.slots] at X' e1 e2 h1 h2 h3 st
    subst h1; subst h2; subst h3
    exact Or.inl ⟨v, (T.setVm vm₁).calling g' mk As.toArray, t, U', L, hT, X', hL, e1, e2, hq, st⟩
  · dsimp only [Pt.U, Pt.locs, Pt.cells, Pt.slots] at X' e1 e2 h1 h2 h3 st hcl
    subst h1; subst h2; subst h3
    exact Or.inr ⟨q, (T.setVm vm₁).calling g' mk As.toArray, t, U', L, E, ce, hT, X', hL, e1, e2, hq, hce, hcv, vx_cls hW₁ hcl, st⟩
end
/-! ===== END ===== -/
/-! ===== BEGIN calls by an interface of methods that may throw (vx_callIF, vx_runF follow va_callIF, va_runF of this kit) ===== -/
section
variable {p : Program} {l : Launch} {e : Env} {R : Room} {s : State} {m : MethodId} {args : Array Value} {below : List Frame} {meth : Method} {c : Code} {H : Heap} {locs : List Loc} {cells slots : Nat} {Q : State → Prop}
variable {mc ms : Nat} {free : Addr → Prop} {A0 A1 : Nat → Prop} {H0 : Heap} {a : Array Value} {pc : Nat} {ls : Array Slot} {st0 rest : List Value}
def vx_Run5 (p : Program) (l : Launch) (e : Env) (R : Room) (s : State) (m : MethodId) (args : Array Value) (below : List Frame) (meth : Method) (c : Code) (H : Heap) (locs : List Loc) (cells slots mc ms : Nat) (g : JFrame) (rest : List Value) (Qa : State → Outcome → State → Prop) (XC : String → State → State → Prop) (free : Addr → Prop) : Prop :=
  ∀ T : State, T.heap = H → Stand p l e R s m args below meth c T locs cells slots →
    (∃ (v : Option Value) (st₀ t T' : State) (L : List Loc), st₀.heap = H ∧ Stand p l e R s m args below meth c T' (locs ++ L) (cells + mc) (slots + ms) ∧ (∀ q ∈ L, free q.base) ∧ T'.heap = t.heap ∧ T'.vm = t.vm ∧ Qa st₀ (.returned v) t ∧
      Goes p e below T g T' { g with pc := g.pc + 5, stack := v.toList ++ rest }) ∨
    (∃ (q : Addr) (st₀ t T' : State) (L : List Loc) (E : String) (ce : Cell), st₀.heap = H ∧ Stand p l e R s m args below meth c T' (locs ++ L) (cells + mc) (slots + ms) ∧ (∀ z ∈ L, free z.base) ∧ T'.heap = t.heap ∧ T'.vm = t.vm ∧ XC E st₀ t ∧ t.heap[q]? = some ce ∧ ce.vm = .none ∧ s.vm.findClass E = some ce.cls ∧
      Steps p.tables e below (T.setTop g) ((T'.setTop { g with stack := rest }).pushFrame (.throwing q)))
theorem vx_callIF {T : State} (X : Stand p l e R s m args below meth c T locs cells slots) (hexec : p.tables.exec = Jvm.exec) {own C : String} {index count : Nat} {x y : MethodName} {bytes : ByteArray} {maxL : Nat} {ret : Option FieldType}
    (hown : s.vm.findClass own = some m.cls) (hlink : (Cond.methodLink own index x).before args s = true) (hdecl : (Cond.declares x).before args s = true) (hface : (Cond.interfaceMethod x.cls x.cls x.name x.desc).before args s = true)
    (hsel : (Cond.selects C x y).before args s = true) (hinst : (Cond.instanceMethod y).before args s = true) (hpub : (Cond.publicMethod y).before args s = true) (hunh : (Cond.unhidden C x.name x.desc).before args s = true)
    (hcast : (Cond.castable C x.cls).before args s = true) (hcode : (Cond.code y bytes maxL ret).before args s = true) (hx : x.cls ≠ "java/lang/invoke/MethodHandle" ∧ x.cls ≠ "java/lang/invoke/VarHandle")
    {W9 : Nat} {Pre : Pt → Array Value → Prop} {Post : Pt → Array Value → Option Value → Pt → Prop} {PostX : Pt → Array Value → Addr → Pt → Prop} (hK : vx_Back l R p e below s args y 5 W9 Pre Post PostX)
    {b : Addr} {cellB : Cell} {kB : Class} (hcell : T.heap[b]? = some cellB) (hobj : cellB.vm.isStatics = false) (hcls : s.vm.findClass C = some cellB.cls) (hkB : s.vm.classes[cellB.cls]? = some kB)
    {g : JFrame} (hg : g.method = m) (hsize : g.locals.size = c.maxLocals) {argsL rest : List Value} (hlen : ∀ sig, parseMethodDescriptor x.desc = some sig → argsL.length = sig.parameters.length)
    (hstack : g.stack = argsL.reverse ++ .ref b :: rest) (hW : 2 * g.monitorRoom + (rest.map fun v => v.category).sum ≤ W9) (hdg : decode c.code g.pc = .ok (.invokeinterface index count, 5))
    (hpre : ∀ vm₁, s.WarmedH vm₁ → Pre ⟨T.setVm vm₁, locs, cells, slots⟩ (Value.ref b :: argsL).toArray) :
    (∃ (v : Option Value) (vm₁ : Vm) (B : Pt), s.WarmedH vm₁ ∧ Stand p l e R s m args below meth c B.U B.locs B.cells B.slots ∧ Post ⟨T.setVm vm₁, locs, cells, slots⟩ (Value.ref b :: argsL).toArray v B ∧
      ∀ target, Steps p.tables e below (B.U.setTop { g with pc := g.pc + 5, stack := v.toList ++ rest }) target → Steps p.tables e below (T.setTop g) target) ∨
    (∃ (q : Addr) (vm₁ : Vm) (B : Pt), s.WarmedH vm₁ ∧ Stand p l e R s m args below meth c B.U B.locs B.cells B.slots ∧ PostX ⟨T.setVm vm₁, locs, cells, slots⟩ (Value.ref b :: argsL).toArray q B ∧
      Steps p.tables e below (T.setTop g) ((B.U.setTop { g with stack := rest }).pushFrame (.throwing q))) := by
  obtain ⟨r0, r, hn, hrm, hstR, hsigR⟩ := Cond.declares_spec hdecl
  obtain ⟨cL, kL, r1, hcL, hkL, hiL, hfoundL, hn1⟩ := Cond.interfaceMethod_spec hface
  cases hn.symm.trans hn1
  have hr0cls : r0.cls = cL := Option.some.inj ((findClass_of_methodNamed hn).symm.trans hcL)
  obtain ⟨hnameR, hdescR⟩ := name_of_methodNamed hn hrm
  obtain ⟨mk, methM, hnamed, hmethM, -, habM⟩ := Cond.instanceMethod_spec hinst
  obtain ⟨c2, r2, m2, q1, q2, q3, q4, -⟩ := Cond.selects_spec hsel
  cases hcls.symm.trans q1
  cases hfoundL.symm.trans q2
  cases hnamed.symm.trans q3
  have hselP : selectMethod e.platform s.vm cellB.cls r0 = .method mk := by rw [Launch.admits_selectMethod X.admits]; exact q4
  have hpubM : hasFlag methM.accessFlags Acc.public_ = true := Cond.publicMethod_spec hnamed hmethM hpub
  have hway : ((cellB.cls :: s.vm.superclasses cellB.cls).any fun k => (declaredIn s.vm r.name r.desc k).any fun (_, z) => z.isPrivate || z.isStatic) = false := by
    rw [hnameR, hdescR]; exact Cond.unhidden_spec hcls hunh
  obtain ⟨c3, t3, w1, w2, w3⟩ := Cond.castable_spec hcast
  cases hcls.symm.trans w1
  cases hcL.symm.trans w2
  obtain ⟨vm₁, X₁, hstep₁⟩ := X.invokeinterface hexec hown hlink hn hrm hstR (by rw [hr0cls]; exact hkL) hiL hx (a := b) (cell := cellB) (kcell := kB) hcell
    (fun z h => by rw [h] at hobj; cases hobj) hkB (by rw [hr0cls]; exact w3) hselP hmethM hway hpubM habM (g := g) hg (argsL := argsL) (rest := rest) (hlen _ hsigR) hstack hdg
  rcases hK m meth c ⟨T.setVm vm₁, locs, cells, slots⟩ { g with stack := rest } (.invokeinterface index count) mk (Value.ref b :: argsL).toArray X₁ hg hsize hdg hW (X₁.named hnamed) (hpre vm₁ X₁.warmed) with ⟨v, B, X', hpost, hsteps⟩ | ⟨q, B, X', hpost, hsteps⟩
  · exact Or.inl ⟨v, vm₁, B, X₁.warmed, X', hpost, fun target h => hstep₁ _ fun acts => by rw [doInvoke_state]; exact hsteps.trans h⟩
  · exact Or.inr ⟨q, vm₁, B, X₁.warmed, X', hpost, hstep₁ _ fun acts => by rw [doInvoke_state]; exact hsteps⟩
theorem vx_runF {x y : MethodName} {bytes cc : ByteArray} {maxL nL mc ms n index count : Nat} {ret : Option FieldType} {ws : List Cond} {rm : Room} {Pc : Array Value → State → Prop} {Qc : Array Value → State → Outcome → State → Prop} {XC : String → State → State → Prop} {free : Addr → Prop} {Ts : List Cond} {own C : String} {cC : ClassId} {b : Addr} {As rest : List Value} {g : JFrame}
    (hat : ClassAt s C cC) (S : CallFix p m c cc nL s args Ts own) (hM : vx_Met l y ws rm Pc Qc XC mc ms free) (cw : va_CI R s args own C index x y bytes maxL ret ws rm mc ms n) (hp : PreV s H C b Pc As)
    (hg : g.method = m) (hn : As.length = n) (hsize : g.locals.size = nL) (hstack : g.stack = As.reverse ++ .ref b :: rest) (hW : 2 * g.monitorRoom + (rest.map fun v => v.category).sum ≤ 8) (hdg : decode cc g.pc = .ok (.invokeinterface index count, 5)) (hf : cells + mc ≤ R.cells ∧ slots + ms ≤ R.slots) :
    vx_Run5 p l e R s m args below meth c H locs cells slots mc ms g rest (Qc (Value.ref b :: As).toArray) XC free := by
  obtain ⟨hrc, hrs, hfr, hlo, hws, hcw⟩ := cw.back
  have hini := cw.init
  have hK : vx_Back l R p e below s args y 5 8 (PreOf R mc ms Pc) (PostOf Qc mc ms free) (vx_Post XC mc ms free) := vx_back (bytes := bytes) (maxL := maxL) (ret := ret) hM hp.1 hrc hrs hfr hlo hws hcw (fun a' U hW => word_at hW (Or.inl (by first | rfl | simp [Cond.onTables, Cond.keeps, Cond.steady])) hini)
  obtain ⟨hx, hb, hml, ho, -⟩ := S
  obtain ⟨-, ⟨cellB, hcB, hoB, hclB⟩, hPc⟩ := hp
  obtain ⟨hfc, kB, hkB, -⟩ := hat
  cases hfc.symm.trans hclB
  intro T hT X
  rcases vx_callIF X hx (C := C) (bytes := bytes) (maxL := maxL) (ret := ret) ho cw.link cw.decl cw.face cw.sel cw.inst cw.pub cw.unh cw.cast cw.code cw.notMH hK (by rw [hT]; exact hcB) hoB hclB hkB hg (hsize.trans hml.symm) (argsL := As) (rest := rest) (fun sig h => hn.trans (cw.len sig h)) hstack hW (by rw [hb]; exact hdg)
    (fun vm₁ hW₁ => ⟨hf.1, hf.2, hPc (T.setVm vm₁) hT hW₁⟩) with ⟨v, vm₁, ⟨U', l2, c2, s2⟩, hW₁, X', ⟨g', mk, t, L, e1, e2, hq, h1, hL, h2, h3⟩, st⟩ | ⟨q, vm₁, ⟨U', l2, c2, s2⟩, hW₁, X', ⟨g', mk, t, L, E, ce, e1, e2, hq, hce, hcv, hcl, h1, hL, h2, h3⟩, st⟩
  · dsimp only [Pt.U, Pt.locs, Pt.cells, Pt.slots] at X' e1 e2 h1 h2 h3 st
    subst h1; subst h2; subst h3
    exact Or.inl ⟨v, (T.setVm vm₁).calling g' mk (Value.ref b :: As).toArray, t, U', L, hT, X', hL, e1, e2, hq, st⟩
  · dsimp only [Pt.U, Pt.locs, Pt.cells, Pt.slots] at X' e1 e2 h1 h2 h3 st hcl
    subst h1; subst h2; subst h3
    exact Or.inr ⟨q, (T.setVm vm₁).calling g' mk (Value.ref b :: As).toArray, t, U', L, E, ce, hT, X', hL, e1, e2, hq, hce, hcv, vx_cls hW₁ hcl, st⟩
theorem vx_callFv {S SX : Type} {post : S → Prop} {px : SX → Prop} {B : S → State → Prop} {BX : String → SX → State → Prop} {AX : Nat → Prop} (hr : vx_Run5 p l e R s m args below meth c H locs cells slots mc ms (F0 m pc ls st0) rest (va_Qv post B A1 a) (vx_X px BX AX) free) (hS : va_S A0 H0 H locs) (hA : ∀ q, q < H.size → A1 q → A0 q) (hf : ∀ q, free q → A0 q) (hAX : ∀ q, q < H.size → AX q → A0 q)
    (kx : ∀ (E : String) (ce : Cell) (q9 : Addr) (u : SX) (t : State) (H1 : Heap) (locs1 : List Loc), t.heap = H1 → s.vm.Alike t.vm → px u → BX E u t → H.size ≤ H1.size → (∀ q : Nat, q < H.size → ¬ AX q → H1[q]? = H[q]?) → va_S A0 H0 H1 locs1 → H1[q9]? = some ce → ce.vm = .none → s.vm.findClass E = some ce.cls → vx_W p l e R s m args below meth c H1 locs1 (cells + mc) (slots + ms) Q (F0 m pc ls rest) q9)
    (kk : ∀ (u : S) (t : State) (H1 : Heap) (locs1 : List Loc), t.heap = H1 → s.vm.Alike t.vm → post u → B u t → H.size ≤ H1.size → (∀ q : Nat, q < H.size → ¬ A1 q → H1[q]? = H[q]?) → va_S A0 H0 H1 locs1 → W p l e R s m args below meth c H1 locs1 (cells + mc) (slots + ms) Q (F0 m (pc + 5) ls (rest))) : W p l e R s m args below meth c H locs cells slots Q (F0 m pc ls st0) := by
  intro T hT X
  rcases hr T hT X with ⟨v, st₀, t, T', L, h0, X', hL, e1, e2, ⟨⟨u, hv, hp, hb⟩, hF⟩, st⟩ | ⟨q, st₀, t, T', L, E, ce, h0, X', hL, e1, e2, ⟨u, hp, hb, hF⟩, hce, hcv, hcl, st⟩
  · cases hv
    obtain ⟨k1, k2, k3⟩ := vx_keep h0 e1 hS hA hf hL hF
    obtain ⟨t2, a1, b1⟩ := kk u t T'.heap (locs ++ L) e1.symm (by rw [← e2]; exact X'.warmed.alike) hp hb k1 k2 k3 T' rfl X'
    exact ⟨t2, st t2 a1, b1⟩
  · obtain ⟨k1, k2, k3⟩ := vx_keep h0 e1 hS hAX hf hL hF
    obtain ⟨t2, a1, b1⟩ := kx E ce q u t T'.heap (locs ++ L) e1.symm (by rw [← e2]; exact X'.warmed.alike) hp hb k1 k2 k3 (by rw [e1]; exact hce) hcv hcl T' rfl X'
    exact ⟨t2, st.trans a1, b1⟩
theorem vx_callFi {S SX : Type} {post : Int32 → S → Prop} {px : SX → Prop} {B : S → State → Prop} {BX : String → SX → State → Prop} {AX : Nat → Prop} (hr : vx_Run5 p l e R s m args below meth c H locs cells slots mc ms (F0 m pc ls st0) rest (va_Qi post B A1 a) (vx_X px BX AX) free) (hS : va_S A0 H0 H locs) (hA : ∀ q, q < H.size → A1 q → A0 q) (hf : ∀ q, free q → A0 q) (hAX : ∀ q, q < H.size → AX q → A0 q)
    (kx : ∀ (E : String) (ce : Cell) (q9 : Addr) (u : SX) (t : State) (H1 : Heap) (locs1 : List Loc), t.heap = H1 → s.vm.Alike t.vm → px u → BX E u t → H.size ≤ H1.size → (∀ q : Nat, q < H.size → ¬ AX q → H1[q]? = H[q]?) → va_S A0 H0 H1 locs1 → H1[q9]? = some ce → ce.vm = .none → s.vm.findClass E = some ce.cls → vx_W p l e R s m args below meth c H1 locs1 (cells + mc) (slots + ms) Q (F0 m pc ls rest) q9)
    (kk : ∀ (r : Int32) (u : S) (t : State) (H1 : Heap) (locs1 : List Loc), t.heap = H1 → s.vm.Alike t.vm → post r u → B u t → H.size ≤ H1.size → (∀ q : Nat, q < H.size → ¬ A1 q → H1[q]? = H[q]?) → va_S A0 H0 H1 locs1 → W p l e R s m args below meth c H1 locs1 (cells + mc) (slots + ms) Q (F0 m (pc + 5) ls (.int r :: rest))) : W p l e R s m args below meth c H locs cells slots Q (F0 m pc ls st0) := by
  intro T hT X
  rcases hr T hT X with ⟨v, st₀, t, T', L, h0, X', hL, e1, e2, ⟨⟨r, u, hv, hp, hb⟩, hF⟩, st⟩ | ⟨q, st₀, t, T', L, E, ce, h0, X', hL, e1, e2, ⟨u, hp, hb, hF⟩, hce, hcv, hcl, st⟩
  · cases hv
    obtain ⟨k1, k2, k3⟩ := vx_keep h0 e1 hS hA hf hL hF
    obtain ⟨t2, a1, b1⟩ := kk r u t T'.heap (locs ++ L) e1.symm (by rw [← e2]; exact X'.warmed.alike) hp hb k1 k2 k3 T' rfl X'
    exact ⟨t2, st t2 a1, b1⟩
  · obtain ⟨k1, k2, k3⟩ := vx_keep h0 e1 hS hAX hf hL hF
    obtain ⟨t2, a1, b1⟩ := kx E ce q u t T'.heap (locs ++ L) e1.symm (by rw [← e2]; exact X'.warmed.alike) hp hb k1 k2 k3 (by rw [e1]; exact hce) hcv hcl T' rfl X'
    exact ⟨t2, st.trans a1, b1⟩
theorem vx_callFl {S SX : Type} {post : Int64 → S → Prop} {px : SX → Prop} {B : S → State → Prop} {BX : String → SX → State → Prop} {AX : Nat → Prop} (hr : vx_Run5 p l e R s m args below meth c H locs cells slots mc ms (F0 m pc ls st0) rest (va_Ql post B A1 a) (vx_X px BX AX) free) (hS : va_S A0 H0 H locs) (hA : ∀ q, q < H.size → A1 q → A0 q) (hf : ∀ q, free q → A0 q) (hAX : ∀ q, q < H.size → AX q → A0 q)
    (kx : ∀ (E : String) (ce : Cell) (q9 : Addr) (u : SX) (t : State) (H1 : Heap) (locs1 : List Loc), t.heap = H1 → s.vm.Alike t.vm → px u → BX E u t → H.size ≤ H1.size → (∀ q : Nat, q < H.size → ¬ AX q → H1[q]? = H[q]?) → va_S A0 H0 H1 locs1 → H1[q9]? = some ce → ce.vm = .none → s.vm.findClass E = some ce.cls → vx_W p l e R s m args below meth c H1 locs1 (cells + mc) (slots + ms) Q (F0 m pc ls rest) q9)
    (kk : ∀ (r : Int64) (u : S) (t : State) (H1 : Heap) (locs1 : List Loc), t.heap = H1 → s.vm.Alike t.vm → post r u → B u t → H.size ≤ H1.size → (∀ q : Nat, q < H.size → ¬ A1 q → H1[q]? = H[q]?) → va_S A0 H0 H1 locs1 → W p l e R s m args below meth c H1 locs1 (cells + mc) (slots + ms) Q (F0 m (pc + 5) ls (.long r :: rest))) : W p l e R s m args below meth c H locs cells slots Q (F0 m pc ls st0) := by
  intro T hT X
  rcases hr T hT X with ⟨v, st₀, t, T', L, h0, X', hL, e1, e2, ⟨⟨r, u, hv, hp, hb⟩, hF⟩, st⟩ | ⟨q, st₀, t, T', L, E, ce, h0, X', hL, e1, e2, ⟨u, hp, hb, hF⟩, hce, hcv, hcl, st⟩
  · cases hv
    obtain ⟨k1, k2, k3⟩ := vx_keep h0 e1 hS hA hf hL hF
    obtain ⟨t2, a1, b1⟩ := kk r u t T'.heap (locs ++ L) e1.symm (by rw [← e2]; exact X'.warmed.alike) hp hb k1 k2 k3 T' rfl X'
    exact ⟨t2, st t2 a1, b1⟩
  · obtain ⟨k1, k2, k3⟩ := vx_keep h0 e1 hS hAX hf hL hF
    obtain ⟨t2, a1, b1⟩ := kx E ce q u t T'.heap (locs ++ L) e1.symm (by rw [← e2]; exact X'.warmed.alike) hp hb k1 k2 k3 (by rw [e1]; exact hce) hcv hcl T' rfl X'
    exact ⟨t2, st.trans a1, b1⟩
theorem vx_callFf {S SX : Type} {post : UInt32 → S → Prop} {px : SX → Prop} {B : S → State → Prop} {BX : String → SX → State → Prop} {AX : Nat → Prop} (hr : vx_Run5 p l e R s m args below meth c H locs cells slots mc ms (F0 m pc ls st0) rest (va_Qf post B A1 a) (vx_X px BX AX) free) (hS : va_S A0 H0 H locs) (hA : ∀ q, q < H.size → A1 q → A0 q) (hf : ∀ q, free q → A0 q) (hAX : ∀ q, q < H.size → AX q → A0 q)
    (kx : ∀ (E : String) (ce : Cell) (q9 : Addr) (u : SX) (t : State) (H1 : Heap) (locs1 : List Loc), t.heap = H1 → s.vm.Alike t.vm → px u → BX E u t → H.size ≤ H1.size → (∀ q : Nat, q < H.size → ¬ AX q → H1[q]? = H[q]?) → va_S A0 H0 H1 locs1 → H1[q9]? = some ce → ce.vm = .none → s.vm.findClass E = some ce.cls → vx_W p l e R s m args below meth c H1 locs1 (cells + mc) (slots + ms) Q (F0 m pc ls rest) q9)
    (kk : ∀ (r : UInt32) (u : S) (t : State) (H1 : Heap) (locs1 : List Loc), t.heap = H1 → s.vm.Alike t.vm → post r u → B u t → H.size ≤ H1.size → (∀ q : Nat, q < H.size → ¬ A1 q → H1[q]? = H[q]?) → va_S A0 H0 H1 locs1 → W p l e R s m args below meth c H1 locs1 (cells + mc) (slots + ms) Q (F0 m (pc + 5) ls (.float r :: rest))) : W p l e R s m args below meth c H locs cells slots Q (F0 m pc ls st0) := by
  intro T hT X
  rcases hr T hT X with ⟨v, st₀, t, T', L, h0, X', hL, e1, e2, ⟨⟨r, u, hv, hp, hb⟩, hF⟩, st⟩ | ⟨q, st₀, t, T', L, E, ce, h0, X', hL, e1, e2, ⟨u, hp, hb, hF⟩, hce, hcv, hcl, st⟩
  · cases hv
    obtain ⟨k1, k2, k3⟩ := vx_keep h0 e1 hS hA hf hL hF
    obtain ⟨t2, a1, b1⟩ := kk r u t T'.heap (locs ++ L) e1.symm (by rw [← e2]; exact X'.warmed.alike) hp hb k1 k2 k3 T' rfl X'
    exact ⟨t2, st t2 a1, b1⟩
  · obtain ⟨k1, k2, k3⟩ := vx_keep h0 e1 hS hAX hf hL hF
    obtain ⟨t2, a1, b1⟩ := kx E ce q u t T'.heap (locs ++ L) e1.symm (by rw [← e2]; exact X'.warmed.alike) hp hb k1 k2 k3 (by rw [e1]; exact hce) hcv hcl T' rfl X'
    exact ⟨t2, st.trans a1, b1⟩
theorem vx_callFd {S SX : Type} {post : UInt64 → S → Prop} {px : SX → Prop} {B : S → State → Prop} {BX : String → SX → State → Prop} {AX : Nat → Prop} (hr : vx_Run5 p l e R s m args below meth c H locs cells slots mc ms (F0 m pc ls st0) rest (va_Qd post B A1 a) (vx_X px BX AX) free) (hS : va_S A0 H0 H locs) (hA : ∀ q, q < H.size → A1 q → A0 q) (hf : ∀ q, free q → A0 q) (hAX : ∀ q, q < H.size → AX q → A0 q)
    (kx : ∀ (E : String) (ce : Cell) (q9 : Addr) (u : SX) (t : State) (H1 : Heap) (locs1 : List Loc), t.heap = H1 → s.vm.Alike t.vm → px u → BX E u t → H.size ≤ H1.size → (∀ q : Nat, q < H.size → ¬ AX q → H1[q]? = H[q]?) → va_S A0 H0 H1 locs1 → H1[q9]? = some ce → ce.vm = .none → s.vm.findClass E = some ce.cls → vx_W p l e R s m args below meth c H1 locs1 (cells + mc) (slots + ms) Q (F0 m pc ls rest) q9)
    (kk : ∀ (r : UInt64) (u : S) (t : State) (H1 : Heap) (locs1 : List Loc), t.heap = H1 → s.vm.Alike t.vm → post r u → B u t → H.size ≤ H1.size → (∀ q : Nat, q < H.size → ¬ A1 q → H1[q]? = H[q]?) → va_S A0 H0 H1 locs1 → W p l e R s m args below meth c H1 locs1 (cells + mc) (slots + ms) Q (F0 m (pc + 5) ls (.double r :: rest))) : W p l e R s m args below meth c H locs cells slots Q (F0 m pc ls st0) := by
  intro T hT X
  rcases hr T hT X with ⟨v, st₀, t, T', L, h0, X', hL, e1, e2, ⟨⟨r, u, hv, hp, hb⟩, hF⟩, st⟩ | ⟨q, st₀, t, T', L, E, ce, h0, X', hL, e1, e2, ⟨u, hp, hb, hF⟩, hce, hcv, hcl, st⟩
  · cases hv
    obtain ⟨k1, k2, k3⟩ := vx_keep h0 e1 hS hA hf hL hF
    obtain ⟨t2, a1, b1⟩ := kk r u t T'.heap (locs ++ L) e1.symm (by rw [← e2]; exact X'.warmed.alike) hp hb k1 k2 k3 T' rfl X'
    exact ⟨t2, st t2 a1, b1⟩
  · obtain ⟨k1, k2, k3⟩ := vx_keep h0 e1 hS hAX hf hL hF
    obtain ⟨t2, a1, b1⟩ := kx E ce q u t T'.heap (locs ++ L) e1.symm (by rw [← e2]; exact X'.warmed.alike) hp hb k1 k2 k3 (by rw [e1]; exact hce) hcv hcl T' rfl X'
    exact ⟨t2, st.trans a1, b1⟩
end
/-! ===== END ===== -/
/-! ===== BEGIN by an interface, a method with a table of its own that may throw (follows va_callIFW, va_runFW) ===== -/
section
variable {p : Program} {l : Launch} {e : Env} {R : Room} {s : State} {m : MethodId} {args : Array Value} {below : List Frame} {meth : Method} {c : Code} {H : Heap} {locs : List Loc} {cells slots : Nat}
theorem vx_callIFW {T : State} (X : Stand p l e R s m args below meth c T locs cells slots) (hexec : p.tables.exec = Jvm.exec) {own C : String} {index count : Nat} {x y : MethodName} {bytes : ByteArray} {maxL : Nat} {ret : Option FieldType} {hh : List (Nat × Nat × Nat × Nat)}
    (hown : s.vm.findClass own = some m.cls) (hlink : (Cond.methodLink own index x).before args s = true) (hdecl : (Cond.declares x).before args s = true) (hface : (Cond.interfaceMethod x.cls x.cls x.name x.desc).before args s = true)
    (hsel : (Cond.selects C x y).before args s = true) (hinst : (Cond.instanceMethod y).before args s = true) (hpub : (Cond.publicMethod y).before args s = true) (hunh : (Cond.unhidden C x.name x.desc).before args s = true)
    (hcast : (Cond.castable C x.cls).before args s = true) (hcode : (Cond.codeWith y bytes maxL ret hh).before args s = true) (hx : x.cls ≠ "java/lang/invoke/MethodHandle" ∧ x.cls ≠ "java/lang/invoke/VarHandle")
    {W : Nat} {Pre : Pt → Array Value → Prop} {Post : Pt → Array Value → Option Value → Pt → Prop} {PostX : Pt → Array Value → Addr → Pt → Prop} (hK : vx_Back l R p e below s args y 5 W Pre Post PostX)
    {b : Addr} {cellB : Cell} {kB : Class} (hcell : T.heap[b]? = some cellB) (hobj : cellB.vm.isStatics = false) (hcls : s.vm.findClass C = some cellB.cls) (hkB : s.vm.classes[cellB.cls]? = some kB)
    {g : JFrame} (hg : g.method = m) (hsize : g.locals.size = c.maxLocals) {argsL rest : List Value} (hlen : ∀ sig, parseMethodDescriptor x.desc = some sig → argsL.length = sig.parameters.length)
    (hstack : g.stack = argsL.reverse ++ .ref b :: rest) (hW : 2 * g.monitorRoom + (rest.map fun v => v.category).sum ≤ W) (hdg : decode c.code g.pc = .ok (.invokeinterface index count, 5))
    (hpre : ∀ vm₁, s.WarmedH vm₁ → Pre ⟨T.setVm vm₁, locs, cells, slots⟩ (Value.ref b :: argsL).toArray) :
    (∃ (v : Option Value) (vm₁ : Vm) (B : Pt), s.WarmedH vm₁ ∧ Stand p l e R s m args below meth c B.U B.locs B.cells B.slots ∧ Post ⟨T.setVm vm₁, locs, cells, slots⟩ (Value.ref b :: argsL).toArray v B ∧
      ∀ target, Steps p.tables e below (B.U.setTop { g with pc := g.pc + 5, stack := v.toList ++ rest }) target → Steps p.tables e below (T.setTop g) target) ∨
    (∃ (q : Addr) (vm₁ : Vm) (B : Pt), s.WarmedH vm₁ ∧ Stand p l e R s m args below meth c B.U B.locs B.cells B.slots ∧ PostX ⟨T.setVm vm₁, locs, cells, slots⟩ (Value.ref b :: argsL).toArray q B ∧
      Steps p.tables e below (T.setTop g) ((B.U.setTop { g with stack := rest }).pushFrame (.throwing q))) := by
  obtain ⟨r0, r, hn, hrm, hstR, hsigR⟩ := Cond.declares_spec hdecl
  obtain ⟨cL, kL, r1, hcL, hkL, hiL, hfoundL, hn1⟩ := Cond.interfaceMethod_spec hface
  cases hn.symm.trans hn1
  have hr0cls : r0.cls = cL := Option.some.inj ((findClass_of_methodNamed hn).symm.trans hcL)
  obtain ⟨hnameR, hdescR⟩ := name_of_methodNamed hn hrm
  obtain ⟨mk, methM, hnamed, hmethM, -, habM⟩ := Cond.instanceMethod_spec hinst
  obtain ⟨c2, r2, m2, q1, q2, q3, q4, -⟩ := Cond.selects_spec hsel
  cases hcls.symm.trans q1
  cases hfoundL.symm.trans q2
  cases hnamed.symm.trans q3
  have hselP : selectMethod e.platform s.vm cellB.cls r0 = .method mk := by rw [Launch.admits_selectMethod X.admits]; exact q4
  have hpubM : hasFlag methM.accessFlags Acc.public_ = true := Cond.publicMethod_spec hnamed hmethM hpub
  have hway : ((cellB.cls :: s.vm.superclasses cellB.cls).any fun k => (declaredIn s.vm r.name r.desc k).any fun (_, z) => z.isPrivate || z.isStatic) = false := by
    rw [hnameR, hdescR]; exact Cond.unhidden_spec hcls hunh
  obtain ⟨c3, t3, w1, w2, w3⟩ := Cond.castable_spec hcast
  cases hcls.symm.trans w1
  cases hcL.symm.trans w2
  obtain ⟨vm₁, X₁, hstep₁⟩ := X.invokeinterface hexec hown hlink hn hrm hstR (by rw [hr0cls]; exact hkL) hiL hx (a := b) (cell := cellB) (kcell := kB) hcell
    (fun z h => by rw [h] at hobj; cases hobj) hkB (by rw [hr0cls]; exact w3) hselP hmethM hway hpubM habM (g := g) hg (argsL := argsL) (rest := rest) (hlen _ hsigR) hstack hdg
  rcases hK m meth c ⟨T.setVm vm₁, locs, cells, slots⟩ { g with stack := rest } (.invokeinterface index count) mk (Value.ref b :: argsL).toArray X₁ hg hsize hdg hW (X₁.named hnamed) (hpre vm₁ X₁.warmed) with ⟨v, B, X', hpost, hsteps⟩ | ⟨q, B, X', hpost, hsteps⟩
  · exact Or.inl ⟨v, vm₁, B, X₁.warmed, X', hpost, fun target h => hstep₁ _ fun acts => by rw [doInvoke_state]; exact hsteps.trans h⟩
  · exact Or.inr ⟨q, vm₁, B, X₁.warmed, X', hpost, hstep₁ _ fun acts => by rw [doInvoke_state]; exact hsteps⟩
theorem vx_runFW {x y : MethodName} {bytes cc : ByteArray} {maxL nL mc ms n index count : Nat} {ret : Option FieldType} {hh : List (Nat × Nat × Nat × Nat)} {ws : List Cond} {rm : Room} {Pc : Array Value → State → Prop} {Qc : Array Value → State → Outcome → State → Prop} {XC : String → State → State → Prop} {free : Addr → Prop} {Ts : List Cond} {own C : String} {cC : ClassId} {b : Addr} {As rest : List Value} {g : JFrame}
    (hat : ClassAt s C cC) (S : CallFix p m c cc nL s args Ts own) (hM : vx_Met l y ws rm Pc Qc XC mc ms free) (cw : va_CIW R s args own C index x y bytes maxL ret hh ws rm mc ms n) (hp : PreV s H C b Pc As)
    (hg : g.method = m) (hn : As.length = n) (hsize : g.locals.size = nL) (hstack : g.stack = As.reverse ++ .ref b :: rest) (hW : 2 * g.monitorRoom + (rest.map fun v => v.category).sum ≤ 8) (hdg : decode cc g.pc = .ok (.invokeinterface index count, 5)) (hf : cells + mc ≤ R.cells ∧ slots + ms ≤ R.slots) :
    vx_Run5 p l e R s m args below meth c H locs cells slots mc ms g rest (Qc (Value.ref b :: As).toArray) XC free := by
  obtain ⟨hrc, hrs, hfr, hlo, hws, hcw⟩ := cw.back
  have hini := cw.init
  have hK : vx_Back l R p e below s args y 5 8 (PreOf R mc ms Pc) (PostOf Qc mc ms free) (vx_Post XC mc ms free) := vx_backW (hh := hh) (bytes := bytes) (maxL := maxL) (ret := ret) hM hp.1 hrc hrs hfr hlo hws hcw (fun a' U hW => word_at hW (Or.inl (by first | rfl | simp [Cond.onTables, Cond.keeps, Cond.steady])) hini)
  obtain ⟨hx, hb, hml, ho, -⟩ := S
  obtain ⟨-, ⟨cellB, hcB, hoB, hclB⟩, hPc⟩ := hp
  obtain ⟨hfc, kB, hkB, -⟩ := hat
  cases hfc.symm.trans hclB
  intro T hT X
  rcases vx_callIFW X hx (C := C) (hh := hh) (bytes := bytes) (maxL := maxL) (ret := ret) ho cw.link cw.decl cw.face cw.sel cw.inst cw.pub cw.unh cw.cast cw.code cw.notMH hK (by rw [hT]; exact hcB) hoB hclB hkB hg (hsize.trans hml.symm) (argsL := As) (rest := rest) (fun sig h => hn.trans (cw.len sig h)) hstack hW (by rw [hb]; exact hdg)
    (fun vm₁ hW₁ => ⟨hf.1, hf.2, hPc (T.setVm vm₁) hT hW₁⟩) with ⟨v, vm₁, ⟨U', l2, c2, s2⟩, hW₁, X', ⟨g', mk, t, L, e1, e2, hq, h1, hL, h2, h3⟩, st⟩ | ⟨q, vm₁, ⟨U', l2, c2, s2⟩, hW₁, X', ⟨g', mk, t, L, E, ce, e1, e2, hq, hce, hcv, hcl, h1, hL, h2, h3⟩, st⟩
  · dsimp only [Pt.U, Pt.locs, Pt.cells, Pt.slots] at X' e1 e2 h1 h2 h3 st
    subst h1; subst h2; subst h3
    exact Or.inl ⟨v, (T.setVm vm₁).calling g' mk (Value.ref b :: As).toArray, t, U', L, hT, X', hL, e1, e2, hq, st⟩
  · dsimp only [Pt.U, Pt.locs, Pt.cells, Pt.slots] at X' e1 e2 h1 h2 h3 st hcl
    subst h1; subst h2; subst h3
    exact Or.inr ⟨q, (T.setVm vm₁).calling g' mk (Value.ref b :: As).toArray, t, U', L, E, ce, hT, X', hL, e1, e2, hq, hce, hcv, vx_cls hW₁ hcl, st⟩
end
/-! ===== END ===== -/
/-! ===== BEGIN .. of methods that hand back an object of the pool ===== -/
section
variable {p : Program} {l : Launch} {e : Env} {R : Room} {s : State} {m : MethodId} {args : Array Value} {below : List Frame} {meth : Method} {c : Code} {H : Heap} {locs : List Loc} {cells slots : Nat} {Q : State → Prop}
variable {mc ms : Nat} {free : Addr → Prop} {A0 A1 : Nat → Prop} {H0 : Heap} {a : Array Value} {pc : Nat} {ls : Array Slot} {st0 rest : List Value}
theorem vx_callq {S SX : Type} {post : Option Nat → S → Prop} {px : SX → Prop} {B : S → State → Prop} {BX : String → SX → State → Prop} {AX : Nat → Prop} (hr : vx_Run p l e R s m args below meth c H locs cells slots mc ms (F0 m pc ls st0) rest (va_Qq post B A1 a) (vx_X px BX AX) free) (hS : va_S A0 H0 H locs) (hA : ∀ q, q < H.size → A1 q → A0 q) (hf : ∀ q, free q → A0 q) (hAX : ∀ q, q < H.size → AX q → A0 q)
    (kx : ∀ (E : String) (ce : Cell) (q9 : Addr) (u : SX) (t : State) (H1 : Heap) (locs1 : List Loc), t.heap = H1 → s.vm.Alike t.vm → px u → BX E u t → H.size ≤ H1.size → (∀ q : Nat, q < H.size → ¬ AX q → H1[q]? = H[q]?) → va_S A0 H0 H1 locs1 → H1[q9]? = some ce → ce.vm = .none → s.vm.findClass E = some ce.cls → vx_W p l e R s m args below meth c H1 locs1 (cells + mc) (slots + ms) Q (F0 m pc ls rest) q9)
    (kk : ∀ (r : Option Nat) (u : S) (t : State) (H1 : Heap) (locs1 : List Loc), t.heap = H1 → s.vm.Alike t.vm → post r u → B u t → H.size ≤ H1.size → (∀ q : Nat, q < H.size → ¬ A1 q → H1[q]? = H[q]?) → va_S A0 H0 H1 locs1 → W p l e R s m args below meth c H1 locs1 (cells + mc) (slots + ms) Q (F0 m (pc + 3) ls (va_rf r :: rest))) : W p l e R s m args below meth c H locs cells slots Q (F0 m pc ls st0) := by
  intro T hT X
  rcases hr T hT X with ⟨v, st₀, t, T', L, h0, X', hL, e1, e2, ⟨⟨r, u, hv, hp, hb⟩, hF⟩, st⟩ | ⟨q, st₀, t, T', L, E, ce, h0, X', hL, e1, e2, ⟨u, hp, hb, hF⟩, hce, hcv, hcl, st⟩
  · cases hv
    obtain ⟨k1, k2, k3⟩ := vx_keep h0 e1 hS hA hf hL hF
    obtain ⟨t2, a1, b1⟩ := kk r u t T'.heap (locs ++ L) e1.symm (by rw [← e2]; exact X'.warmed.alike) hp hb k1 k2 k3 T' rfl X'
    exact ⟨t2, st t2 a1, b1⟩
  · obtain ⟨k1, k2, k3⟩ := vx_keep h0 e1 hS hAX hf hL hF
    obtain ⟨t2, a1, b1⟩ := kx E ce q u t T'.heap (locs ++ L) e1.symm (by rw [← e2]; exact X'.warmed.alike) hp hb k1 k2 k3 (by rw [e1]; exact hce) hcv hcl T' rfl X'
    exact ⟨t2, st.trans a1, b1⟩
end
/-! ===== END ===== -/
/-! ===== BEGIN .. a constant ===== -/
section
variable {p : Program} {l : Launch} {e : Env} {R : Room} {s : State} {m : MethodId} {args : Array Value} {below : List Frame} {meth : Method} {c : Code} {H : Heap} {locs : List Loc} {cells slots : Nat} {Q : State → Prop}
variable {mc ms : Nat} {free : Addr → Prop} {A0 A1 : Nat → Prop} {H0 : Heap} {a : Array Value} {pc : Nat} {ls : Array Slot} {st0 rest : List Value}
theorem vx_calle {ad : Nat → Nat} {S SX : Type} {post : Option Nat → S → Prop} {px : SX → Prop} {B : S → State → Prop} {BX : String → SX → State → Prop} {AX : Nat → Prop} (hr : vx_Run p l e R s m args below meth c H locs cells slots mc ms (F0 m pc ls st0) rest (va_Qe ad post B A1 a) (vx_X px BX AX) free) (hS : va_S A0 H0 H locs) (hA : ∀ q, q < H.size → A1 q → A0 q) (hf : ∀ q, free q → A0 q) (hAX : ∀ q, q < H.size → AX q → A0 q)
    (kx : ∀ (E : String) (ce : Cell) (q9 : Addr) (u : SX) (t : State) (H1 : Heap) (locs1 : List Loc), t.heap = H1 → s.vm.Alike t.vm → px u → BX E u t → H.size ≤ H1.size → (∀ q : Nat, q < H.size → ¬ AX q → H1[q]? = H[q]?) → va_S A0 H0 H1 locs1 → H1[q9]? = some ce → ce.vm = .none → s.vm.findClass E = some ce.cls → vx_W p l e R s m args below meth c H1 locs1 (cells + mc) (slots + ms) Q (F0 m pc ls rest) q9)
    (kk : ∀ (r : Option Nat) (u : S) (t : State) (H1 : Heap) (locs1 : List Loc), t.heap = H1 → s.vm.Alike t.vm → post r u → B u t → H.size ≤ H1.size → (∀ q : Nat, q < H.size → ¬ A1 q → H1[q]? = H[q]?) → va_S A0 H0 H1 locs1 → W p l e R s m args below meth c H1 locs1 (cells + mc) (slots + ms) Q (F0 m (pc + 3) ls (va_re ad r :: rest))) : W p l e R s m args below meth c H locs cells slots Q (F0 m pc ls st0) := by
  intro T hT X
  rcases hr T hT X with ⟨v, st₀, t, T', L, h0, X', hL, e1, e2, ⟨⟨r, u, hv, hp, hb⟩, hF⟩, st⟩ | ⟨q, st₀, t, T', L, E, ce, h0, X', hL, e1, e2, ⟨u, hp, hb, hF⟩, hce, hcv, hcl, st⟩
  · cases hv
    obtain ⟨k1, k2, k3⟩ := vx_keep h0 e1 hS hA hf hL hF
    obtain ⟨t2, a1, b1⟩ := kk r u t T'.heap (locs ++ L) e1.symm (by rw [← e2]; exact X'.warmed.alike) hp hb k1 k2 k3 T' rfl X'
    exact ⟨t2, st t2 a1, b1⟩
  · obtain ⟨k1, k2, k3⟩ := vx_keep h0 e1 hS hAX hf hL hF
    obtain ⟨t2, a1, b1⟩ := kx E ce q u t T'.heap (locs ++ L) e1.symm (by rw [← e2]; exact X'.warmed.alike) hp hb k1 k2 k3 (by rw [e1]; exact hce) hcv hcl T' rfl X'
    exact ⟨t2, st.trans a1, b1⟩
end
/-! ===== END ===== -/
/-! ===== BEGIN .. by an interface, an object ===== -/
section
variable {p : Program} {l : Launch} {e : Env} {R : Room} {s : State} {m : MethodId} {args : Array Value} {below : List Frame} {meth : Method} {c : Code} {H : Heap} {locs : List Loc} {cells slots : Nat} {Q : State → Prop}
variable {mc ms : Nat} {free : Addr → Prop} {A0 A1 : Nat → Prop} {H0 : Heap} {a : Array Value} {pc : Nat} {ls : Array Slot} {st0 rest : List Value}
theorem vx_callFq {S SX : Type} {post : Option Nat → S → Prop} {px : SX → Prop} {B : S → State → Prop} {BX : String → SX → State → Prop} {AX : Nat → Prop} (hr : vx_Run5 p l e R s m args below meth c H locs cells slots mc ms (F0 m pc ls st0) rest (va_Qq post B A1 a) (vx_X px BX AX) free) (hS : va_S A0 H0 H locs) (hA : ∀ q, q < H.size → A1 q → A0 q) (hf : ∀ q, free q → A0 q) (hAX : ∀ q, q < H.size → AX q → A0 q)
    (kx : ∀ (E : String) (ce : Cell) (q9 : Addr) (u : SX) (t : State) (H1 : Heap) (locs1 : List Loc), t.heap = H1 → s.vm.Alike t.vm → px u → BX E u t → H.size ≤ H1.size → (∀ q : Nat, q < H.size → ¬ AX q → H1[q]? = H[q]?) → va_S A0 H0 H1 locs1 → H1[q9]? = some ce → ce.vm = .none → s.vm.findClass E = some ce.cls → vx_W p l e R s m args below meth c H1 locs1 (cells + mc) (slots + ms) Q (F0 m pc ls rest) q9)
    (kk : ∀ (r : Option Nat) (u : S) (t : State) (H1 : Heap) (locs1 : List Loc), t.heap = H1 → s.vm.Alike t.vm → post r u → B u t → H.size ≤ H1.size → (∀ q : Nat, q < H.size → ¬ A1 q → H1[q]? = H[q]?) → va_S A0 H0 H1 locs1 → W p l e R s m args below meth c H1 locs1 (cells + mc) (slots + ms) Q (F0 m (pc + 5) ls (va_rf r :: rest))) : W p l e R s m args below meth c H locs cells slots Q (F0 m pc ls st0) := by
  intro T hT X
  rcases hr T hT X with ⟨v, st₀, t, T', L, h0, X', hL, e1, e2, ⟨⟨r, u, hv, hp, hb⟩, hF⟩, st⟩ | ⟨q, st₀, t, T', L, E, ce, h0, X', hL, e1, e2, ⟨u, hp, hb, hF⟩, hce, hcv, hcl, st⟩
  · cases hv
    obtain ⟨k1, k2, k3⟩ := vx_keep h0 e1 hS hA hf hL hF
    obtain ⟨t2, a1, b1⟩ := kk r u t T'.heap (locs ++ L) e1.symm (by rw [← e2]; exact X'.warmed.alike) hp hb k1 k2 k3 T' rfl X'
    exact ⟨t2, st t2 a1, b1⟩
  · obtain ⟨k1, k2, k3⟩ := vx_keep h0 e1 hS hAX hf hL hF
    obtain ⟨t2, a1, b1⟩ := kx E ce q u t T'.heap (locs ++ L) e1.symm (by rw [← e2]; exact X'.warmed.alike) hp hb k1 k2 k3 (by rw [e1]; exact hce) hcv hcl T' rfl X'
    exact ⟨t2, st.trans a1, b1⟩
end
/-! ===== END ===== -/
/-! ===== BEGIN .. by an interface, a constant ===== -/
section
variable {p : Program} {l : Launch} {e : Env} {R : Room} {s : State} {m : MethodId} {args : Array Value} {below : List Frame} {meth : Method} {c : Code} {H : Heap} {locs : List Loc} {cells slots : Nat} {Q : State → Prop}
variable {mc ms : Nat} {free : Addr → Prop} {A0 A1 : Nat → Prop} {H0 : Heap} {a : Array Value} {pc : Nat} {ls : Array Slot} {st0 rest : List Value}
theorem vx_callFe {ad : Nat → Nat} {S SX : Type} {post : Option Nat → S → Prop} {px : SX → Prop} {B : S → State → Prop} {BX : String → SX → State → Prop} {AX : Nat → Prop} (hr : vx_Run5 p l e R s m args below meth c H locs cells slots mc ms (F0 m pc ls st0) rest (va_Qe ad post B A1 a) (vx_X px BX AX) free) (hS : va_S A0 H0 H locs) (hA : ∀ q, q < H.size → A1 q → A0 q) (hf : ∀ q, free q → A0 q) (hAX : ∀ q, q < H.size → AX q → A0 q)
    (kx : ∀ (E : String) (ce : Cell) (q9 : Addr) (u : SX) (t : State) (H1 : Heap) (locs1 : List Loc), t.heap = H1 → s.vm.Alike t.vm → px u → BX E u t → H.size ≤ H1.size → (∀ q : Nat, q < H.size → ¬ AX q → H1[q]? = H[q]?) → va_S A0 H0 H1 locs1 → H1[q9]? = some ce → ce.vm = .none → s.vm.findClass E = some ce.cls → vx_W p l e R s m args below meth c H1 locs1 (cells + mc) (slots + ms) Q (F0 m pc ls rest) q9)
    (kk : ∀ (r : Option Nat) (u : S) (t : State) (H1 : Heap) (locs1 : List Loc), t.heap = H1 → s.vm.Alike t.vm → post r u → B u t → H.size ≤ H1.size → (∀ q : Nat, q < H.size → ¬ A1 q → H1[q]? = H[q]?) → va_S A0 H0 H1 locs1 → W p l e R s m args below meth c H1 locs1 (cells + mc) (slots + ms) Q (F0 m (pc + 5) ls (va_re ad r :: rest))) : W p l e R s m args below meth c H locs cells slots Q (F0 m pc ls st0) := by
  intro T hT X
  rcases hr T hT X with ⟨v, st₀, t, T', L, h0, X', hL, e1, e2, ⟨⟨r, u, hv, hp, hb⟩, hF⟩, st⟩ | ⟨q, st₀, t, T', L, E, ce, h0, X', hL, e1, e2, ⟨u, hp, hb, hF⟩, hce, hcv, hcl, st⟩
  · cases hv
    obtain ⟨k1, k2, k3⟩ := vx_keep h0 e1 hS hA hf hL hF
    obtain ⟨t2, a1, b1⟩ := kk r u t T'.heap (locs ++ L) e1.symm (by rw [← e2]; exact X'.warmed.alike) hp hb k1 k2 k3 T' rfl X'
    exact ⟨t2, st t2 a1, b1⟩
  · obtain ⟨k1, k2, k3⟩ := vx_keep h0 e1 hS hAX hf hL hF
    obtain ⟨t2, a1, b1⟩ := kx E ce q u t T'.heap (locs ++ L) e1.symm (by rw [← e2]; exact X'.warmed.alike) hp hb k1 k2 k3 (by rw [e1]; exact hce) hcv hcl T' rfl X'
    exact ⟨t2, st.trans a1, b1⟩
end
/-! ===== END ===== -/
/-! ===== BEGIN what the machine throws by itself: null at a field, at athrow ===== -/
section VXM2
variable {p : Program} {l : Launch} {e : Env} {R : Room} {s : State} {m : MethodId} {args : Array Value} {below : List Frame} {meth : Method} {c : Code} {H : Heap} {locs : List Loc} {cells slots : Nat}
variable {Q : State → Prop} {cc : ByteArray} {pc : Nat} {ls : Array Slot} {rest : List Value}
theorem vx_getfN {D cl tys} {own ref C : String} {T : u_T} {N ci index : Nat} {Ts : List Cond} (hexec : p.tables.exec = Jvm.exec) (hb : c.code = cc) (hts : ∀ w ∈ Ts, w.before args s = true) (hin : ∀ w ∈ u_ws C T N, w ∈ Ts) (hown : s.vm.findClass own = some m.cls) (hK : va_K D cl tys s) (hc : cl[ci]? = some (C, T, N)) (k : Nat) (hk : k < N) (hlink : (Cond.fieldLink own index ref (T k).2.1 (T k).2.2.1).before args s = true) (hsame : ∀ x, s.fieldFound? (T k).1 (T k).2.1 (T k).2.2.1 = some x → s.fieldFound? ref (T k).2.1 (T k).2.2.1 = some x) (hdg : decode cc pc = .ok (.getfield index, 3)) (kk : vx_NoteN p l e R s m args below meth c H locs cells slots Q (F0 m pc ls rest)) : W p l e R s m args below meth c H locs cells slots Q (F0 m pc ls (.null :: rest)) := by
  obtain ⟨hS, hfc, kC, hkC, -⟩ := hK.1 ci _ hc
  obtain ⟨cf, kf, fi, f, hi, -⟩ := hS k hk
  intro U hU X
  obtain ⟨vm', X1, st1⟩ := X.getfieldNull hexec hown hlink (hsame _ hi) (u_facts hfc hkC (u_lays hts hin hk) hi).1 (g := F0 m pc ls (.null :: rest)) rfl (rest := rest) rfl (by rw [hb]; exact hdg)
  obtain ⟨t, st, q⟩ := kk (U.setVm vm') hU X1
  exact ⟨t, st1 t st, q⟩
theorem vx_getfNN {D cl tys} {own ref C host : String} {T : u_T} {N ci index : Nat} {Ts : List Cond} (hexec : p.tables.exec = Jvm.exec) (hb : c.code = cc) (hts : ∀ w ∈ Ts, w.before args s = true) (hin : ∀ w ∈ u_ws C T N, w ∈ Ts) (hown : s.vm.findClass own = some m.cls) (hK : va_K D cl tys s) (hc : cl[ci]? = some (C, T, N)) (k : Nat) (hk : k < N) (hlink : (Cond.fieldLinkNest own index ref (T k).2.1 (T k).2.2.1 host).before args s = true) (hsame : ∀ x, s.fieldFound? (T k).1 (T k).2.1 (T k).2.2.1 = some x → s.fieldFound? ref (T k).2.1 (T k).2.2.1 = some x) (hdg : decode cc pc = .ok (.getfield index, 3)) (kk : vx_NoteN p l e R s m args below meth c H locs cells slots Q (F0 m pc ls rest)) : W p l e R s m args below meth c H locs cells slots Q (F0 m pc ls (.null :: rest)) := by
  obtain ⟨hS, hfc, kC, hkC, -⟩ := hK.1 ci _ hc
  obtain ⟨cf, kf, fi, f, hi, -⟩ := hS k hk
  intro U hU X
  obtain ⟨vm', X1, st1⟩ := X.getfieldNullNest hexec hown hlink (hsame _ hi) (u_facts hfc hkC (u_lays hts hin hk) hi).1 (g := F0 m pc ls (.null :: rest)) rfl (rest := rest) rfl (by rw [hb]; exact hdg)
  obtain ⟨t, st, q⟩ := kk (U.setVm vm') hU X1
  exact ⟨t, st1 t st, q⟩
theorem vx_putfN {D cl tys} {own ref C : String} {T : u_T} {N ci index : Nat} {Ts : List Cond} (hexec : p.tables.exec = Jvm.exec) (hb : c.code = cc) (hts : ∀ w ∈ Ts, w.before args s = true) (hin : ∀ w ∈ u_ws C T N, w ∈ Ts) (hown : s.vm.findClass own = some m.cls) (hK : va_K D cl tys s) (hc : cl[ci]? = some (C, T, N)) (k : Nat) (hk : k < N) (hlink : (Cond.fieldLink own index ref (T k).2.1 (T k).2.2.1).before args s = true) (hsame : ∀ x, s.fieldFound? (T k).1 (T k).2.1 (T k).2.2.1 = some x → s.fieldFound? ref (T k).2.1 (T k).2.2.1 = some x) (hfin : (T k).2.2.2 = false) {v : Value} (hdg : decode cc pc = .ok (.putfield index, 3)) (kk : vx_NoteN p l e R s m args below meth c H locs cells slots Q (F0 m pc ls rest)) : W p l e R s m args below meth c H locs cells slots Q (F0 m pc ls (v :: .null :: rest)) := by
  obtain ⟨hS, hfc, kC, hkC, -⟩ := hK.1 ci _ hc
  obtain ⟨cf, kf, fi, f, hi, -⟩ := hS k hk
  have hlay := hts _ (hin _ (u_in_lay hk))
  unfold u_lay at hlay
  rw [if_neg (by rw [hfin]; decide)] at hlay
  obtain ⟨c9, k9, cf9, kf9, fi9, f9, -, -, hi9, hst9, hnf9, -⟩ := Cond.lays_spec hlay
  cases hi.symm.trans hi9
  intro U hU X
  obtain ⟨vm', X1, st1⟩ := X.putfieldNull hexec hown hlink (hsame _ hi) hst9 hnf9 (g := F0 m pc ls (v :: .null :: rest)) rfl (v := v) (rest := rest) rfl (by rw [hb]; exact hdg)
  obtain ⟨t, st, q⟩ := kk (U.setVm vm') hU X1
  exact ⟨t, st1 t st, q⟩
theorem vx_putfNN {D cl tys} {own ref C host : String} {T : u_T} {N ci index : Nat} {Ts : List Cond} (hexec : p.tables.exec = Jvm.exec) (hb : c.code = cc) (hts : ∀ w ∈ Ts, w.before args s = true) (hin : ∀ w ∈ u_ws C T N, w ∈ Ts) (hown : s.vm.findClass own = some m.cls) (hK : va_K D cl tys s) (hc : cl[ci]? = some (C, T, N)) (k : Nat) (hk : k < N) (hlink : (Cond.fieldLinkNest own index ref (T k).2.1 (T k).2.2.1 host).before args s = true) (hsame : ∀ x, s.fieldFound? (T k).1 (T k).2.1 (T k).2.2.1 = some x → s.fieldFound? ref (T k).2.1 (T k).2.2.1 = some x) (hfin : (T k).2.2.2 = false) {v : Value} (hdg : decode cc pc = .ok (.putfield index, 3)) (kk : vx_NoteN p l e R s m args below meth c H locs cells slots Q (F0 m pc ls rest)) : W p l e R s m args below meth c H locs cells slots Q (F0 m pc ls (v :: .null :: rest)) := by
  obtain ⟨hS, hfc, kC, hkC, -⟩ := hK.1 ci _ hc
  obtain ⟨cf, kf, fi, f, hi, -⟩ := hS k hk
  have hlay := hts _ (hin _ (u_in_lay hk))
  unfold u_lay at hlay
  rw [if_neg (by rw [hfin]; decide)] at hlay
  obtain ⟨c9, k9, cf9, kf9, fi9, f9, -, -, hi9, hst9, hnf9, -⟩ := Cond.lays_spec hlay
  cases hi.symm.trans hi9
  intro U hU X
  obtain ⟨vm', X1, st1⟩ := X.putfieldNullNest hexec hown hlink (hsame _ hi) hst9 hnf9 (g := F0 m pc ls (v :: .null :: rest)) rfl (v := v) (rest := rest) rfl (by rw [hb]; exact hdg)
  obtain ⟨t, st, q⟩ := kk (U.setVm vm') hU X1
  exact ⟨t, st1 t st, q⟩
theorem vx_athrowN (hexec : p.tables.exec = Jvm.exec) (hb : c.code = cc) (hdg : decode cc pc = .ok (.athrow, 1)) (k : vx_NoteN p l e R s m args below meth c H locs cells slots Q (F0 m pc ls rest)) : W p l e R s m args below meth c H locs cells slots Q (F0 m pc ls (.null :: rest)) := by
  intro T hT X
  obtain ⟨t, st, q⟩ := k T hT X
  exact ⟨t, X.athrowNull hexec (g := F0 m pc ls (.null :: rest)) rfl (rest := rest) rfl (by rw [hb]; exact hdg) t st, q⟩
end VXM2
/-! ===== END ===== -/
end
section
/-! ===== THE MACHINE OF THIS WORK: values, cells and heaps by region and offset; what they are of the real heap ===== -/
abbrev AV : Type := Value ⊕ (Nat × Nat) ⊕ Nat
abbrev vI (x : Int32) : AV := .inl (.int x)
abbrev vL (x : Int64) : AV := .inl (.long x)
abbrev vF (x : UInt32) : AV := .inl (.float x)
abbrev vD (x : UInt64) : AV := .inl (.double x)
abbrev vN : AV := .inl .null
abbrev vR (r o : Nat) : AV := .inr (.inl (r, o))
abbrev vK (k : Nat) : AV := .inr (.inr k)
abbrev AArr : Type := (Nat → Int32) ⊕ (Nat → Int64) ⊕ (Nat → UInt64) ⊕ (Nat → AV)
/-- an array (its type, length, contents), an object (its class in vwCl, its fields), a StringBuilder (its length, capacity, text) -/
abbrev ACell : Type := (FieldType × Nat × AArr) ⊕ (Nat × List AV) ⊕ (Nat × Nat × (Nat → Nat))
abbrev AHp : Type := List (List ACell)
abbrev aI (n : Nat) (f : Nat → Int32) : ACell := .inl (.int, n, .inl f)
abbrev aO (ci : Nat) (fs : List AV) : ACell := .inr (.inl (ci, fs))
abbrev aB (n m : Nat) (t : Nat → Nat) : ACell := .inr (.inr (n, m, t))
def tr (σ : Nat → Nat → Nat) (κ : Nat → Nat) : AV → Value
  | .inl v => v
  | .inr (.inl q) => .ref (σ q.1 q.2)
  | .inr (.inr k) => .ref (κ k)
def ael (σ : Nat → Nat → Nat) (κ : Nat → Nat) : AArr → Nat → Value
  | .inl f, j => .int (f j)
  | .inr (.inl f), j => .long (f j)
  | .inr (.inr (.inl f)), j => .double (f j)
  | .inr (.inr (.inr f)), j => tr σ κ (f j)
/-- where a cell stands -/
def hnth {α : Type} : List α → Nat → Option α
  | [], _ => none
  | x :: _, 0 => some x
  | _ :: l, n + 1 => hnth l n
def hput {α : Type} : List α → Nat → α → List α
  | [], _, _ => []
  | _ :: l, 0, y => y :: l
  | x :: l, n + 1, y => x :: hput l n y
def hget (h : AHp) (r o : Nat) : Option ACell := (hnth h r).bind (fun g => hnth g o)
def hset (h : AHp) (r o : Nat) (c : ACell) : AHp := match hnth h r with
  | none => h
  | some g => hput h r (hput g o c)
theorem hnth_put_self {α : Type} : ∀ (l : List α) (n : Nat) (x y : α), hnth l n = some x → hnth (hput l n y) n = some y
  | [], _, _, _, h => by cases h
  | _ :: _, 0, _, _, _ => rfl
  | _ :: l, n + 1, x, y, h => hnth_put_self l n x y h
theorem hnth_put_ne {α : Type} : ∀ (l : List α) (n m : Nat) (y : α), n ≠ m → hnth (hput l n y) m = hnth l m
  | [], _, _, _, _ => rfl
  | _ :: _, 0, 0, _, h => absurd rfl h
  | _ :: _, 0, _ + 1, _, _ => rfl
  | _ :: _, _ + 1, 0, _, _ => rfl
  | _ :: l, n + 1, m + 1, y, h => hnth_put_ne l n m y (fun e => h (by rw [e]))
theorem hnth_eq {α : Type} : ∀ (l : List α) (n : Nat), hnth l n = l[n]?
  | [], n => by simp [hnth]
  | x :: l, 0 => by simp [hnth]
  | x :: l, n + 1 => by simp [hnth, hnth_eq l n]
theorem hput_eq {α : Type} : ∀ (l : List α) (n : Nat) (x : α), hput l n x = l.set n x
  | [], n, _ => by simp [hput]
  | _ :: l, 0, _ => by simp [hput]
  | _ :: l, n + 1, x => by simp [hput, hput_eq l n x]
theorem hput_length {α : Type} (l : List α) (n : Nat) (x : α) : (hput l n x).length = l.length := by rw [hput_eq]; simp
theorem hset_length (h : AHp) (r o : Nat) (c : ACell) : (hset h r o c).length = h.length := by
  unfold hset
  cases hnth h r with
  | none => rfl
  | some g => exact hput_length _ _ _
theorem hget_set {h : AHp} {r o : Nat} {c0 c : ACell} (hg : hget h r o = some c0) (r2 o2 : Nat) : hget (hset h r o c) r2 o2 = if r2 = r ∧ o2 = o then some c else hget h r2 o2 := by
  unfold hget at hg
  unfold hset
  cases hr : hnth h r with
  | none => rw [hr] at hg; cases hg
  | some g =>
    rw [hr] at hg
    have hg : hnth g o = some c0 := hg
    dsimp only
    unfold hget
    by_cases e : r2 = r
    · subst e
      rw [hnth_put_self h r2 g _ hr, hr]
      show hnth (hput g o c) o2 = _
      by_cases e2 : o2 = o
      · subst e2
        rw [hnth_put_self g o2 c0 c hg]; simp
      · rw [hnth_put_ne g o o2 c (Ne.symm e2)]; simp [e2]
    · rw [hnth_put_ne h r r2 _ (Ne.symm e)]; simp [e]
/-- the cell of the real heap -/
def atC (D : va_G) (σ η : Nat → Nat → Nat) (κ : Nat → Nat) (U : State) (H : Heap) (r o : Nat) : ACell → Prop
  | .inl (ty, n, x) => ∃ cA, H[σ r o]? = some (arrV cA n (ael σ κ x)) ∧ ArrOfT U cA ty ∧ va_RA U cA ty
  | .inr (.inl (ci, fs)) => ∃ q : vw_C, vwCl[ci]? = some q ∧ t_OB (σ r o) (D.1 ci) q.2.2 (D.2 ci) H (vp_V (fs.map (tr σ κ)))
  | .inr (.inr (n, m, t)) => (∃ ml : Int32, t_OB (σ r o) (D.1 1) 4 (D.2 1) H (vp_V [.ref (η r o), .int 0, .int ml, .int (nI n)])) ∧ (∃ (cA : ClassId) (a : Nat → Int32), H[η r o]? = some (arrV cA m (fun j => .int (a j))) ∧ ArrOfT U cA .byte ∧ va_RA U cA .byte ∧ sb_Lat t n a ∧ sb_Fit a) ∧ n ≤ m ∧ m ≤ 65536
def isSb : ACell → Bool
  | .inr (.inr _) => true
  | _ => false
abbrev Pl : Type := Nat × Nat × Bool
def pad (σ η : Nat → Nat → Nat) (p : Pl) : Nat := match p.2.2 with
  | true => η p.1 p.2.1
  | false => σ p.1 p.2.1
def pdom (h : AHp) (p : Pl) : Prop := ∃ c, hget h p.1 p.2.1 = some c ∧ (p.2.2 = true → isSb c = true)
def Rep (D : va_G) (σ η : Nat → Nat → Nat) (κ : Nat → Nat) (h : AHp) (U : State) (H : Heap) (A : Nat → Prop) : Prop :=
  (∀ r o c, hget h r o = some c → atC D σ η κ U H r o c) ∧ (∀ p q, pdom h p → pdom h q → pad σ η p = pad σ η q → p = q) ∧ ∀ p, pdom h p → A (pad σ η p)
theorem atC.kept {D : va_G} {σ η : Nat → Nat → Nat} {κ : Nat → Nat} {U : State} {H H1 : Heap} {r o : Nat} {c : ACell} (h : atC D σ η κ U H r o c) (h1 : H1[σ r o]? = H[σ r o]?) (h2 : isSb c = true → H1[η r o]? = H[η r o]?) : atC D σ η κ U H1 r o c := by
  rcases c with ⟨ty, n, x⟩ | ⟨ci, fs⟩ | ⟨n, m, t⟩
  · obtain ⟨cA, q1, q2⟩ := h
    exact ⟨cA, h1.trans q1, q2⟩
  · obtain ⟨q, q1, q2⟩ := h
    exact ⟨q, q1, q2.kept h1⟩
  · obtain ⟨⟨ml, q1⟩, ⟨cA, a, q2, q3⟩, q4⟩ := h
    exact ⟨⟨ml, q1.kept h1⟩, ⟨cA, a, (h2 rfl).trans q2, q3⟩, q4⟩
theorem atC.moved {D : va_G} {σ η : Nat → Nat → Nat} {κ : Nat → Nat} {u U : State} {H : Heap} {r o : Nat} {c : ACell} (hvm : u.vm.Alike U.vm) (h : atC D σ η κ u H r o c) : atC D σ η κ U H r o c := by
  rcases c with ⟨ty, n, x⟩ | ⟨ci, fs⟩ | ⟨n, m, t⟩
  · obtain ⟨cA, q1, q2, q3⟩ := h
    exact ⟨cA, q1, arrOfT_moved hvm q2, q3.moved hvm⟩
  · exact h
  · obtain ⟨q1, ⟨cA, a, q2, q3, q4, q5⟩, q6⟩ := h
    exact ⟨q1, ⟨cA, a, q2, arrOfT_moved hvm q3, q4.moved hvm, q5⟩, q6⟩
theorem Rep.moved {D : va_G} {σ η : Nat → Nat → Nat} {κ : Nat → Nat} {h : AHp} {u U : State} {H : Heap} {A : Nat → Prop} (hvm : u.vm.Alike U.vm) (R : Rep D σ η κ h u H A) : Rep D σ η κ h U H A := ⟨fun r o c hc => (R.1 r o c hc).moved hvm, R.2⟩
theorem Rep.weaken {D : va_G} {σ η : Nat → Nat → Nat} {κ : Nat → Nat} {h : AHp} {U : State} {H : Heap} {A B : Nat → Prop} (R : Rep D σ η κ h U H A) (hAB : ∀ p, pdom h p → A (pad σ η p) → B (pad σ η p)) : Rep D σ η κ h U H B := ⟨R.1, R.2.1, fun p hp => hAB p hp (R.2.2 p hp)⟩
theorem Rep.size {D : va_G} {σ η : Nat → Nat → Nat} {κ : Nat → Nat} {h : AHp} {U : State} {H : Heap} {A : Nat → Prop} (R : Rep D σ η κ h U H A) {p : Pl} (hp : pdom h p) : pad σ η p < H.size := by
  obtain ⟨r, o, b⟩ := p
  obtain ⟨c, hc, hb⟩ := hp
  have := R.1 r o c hc
  rcases c with ⟨ty, n, x⟩ | ⟨ci, fs⟩ | ⟨n, m, t⟩
  · cases b with
    | true => cases hb rfl
    | false =>
      obtain ⟨cA, q1, -⟩ := this
      exact (Array.getElem?_eq_some_iff.mp q1).1
  · cases b with
    | true => cases hb rfl
    | false =>
      obtain ⟨q, -, cell, q2, -⟩ := this
      exact (Array.getElem?_eq_some_iff.mp q2).1
  · obtain ⟨⟨ml, cell, q1, -⟩, ⟨cA, a, q2, -⟩, -⟩ := this
    cases b with
    | true => exact (Array.getElem?_eq_some_iff.mp q2).1
    | false => exact (Array.getElem?_eq_some_iff.mp q1).1
/-- one cell written, all others as they were -/
theorem Rep.set {D : va_G} {σ η : Nat → Nat → Nat} {κ : Nat → Nat} {h : AHp} {U : State} {H H1 : Heap} {A : Nat → Prop} {r o : Nat} {c0 c : ACell} (R : Rep D σ η κ h U H A) (hg : hget h r o = some c0) (h0 : isSb c0 = false) (h1 : isSb c = false)
    (hc : atC D σ η κ U H1 r o c) (oq : ∀ q : Nat, q ≠ σ r o → H1[q]? = H[q]?) : Rep D σ η κ (hset h r o c) U H1 A := by
  have key : ∀ p, pdom (hset h r o c) p → pdom h p := by
    rintro ⟨r2, o2, b⟩ ⟨c2, q1, q2⟩
    rw [hget_set hg] at q1
    by_cases e : r2 = r ∧ o2 = o
    · obtain ⟨rfl, rfl⟩ := e
      rw [if_pos ⟨rfl, rfl⟩] at q1
      cases q1
      cases b with
      | true => exact absurd (q2 rfl) (by rw [h1]; decide)
      | false => exact ⟨c0, hg, fun z => by cases z⟩
    · rw [if_neg e] at q1
      exact ⟨c2, q1, q2⟩
  refine ⟨fun r2 o2 c2 q1 => ?_, fun p q hp hq => R.2.1 p q (key p hp) (key q hq), fun p hp => R.2.2 p (key p hp)⟩
  rw [hget_set hg] at q1
  by_cases e : r2 = r ∧ o2 = o
  · obtain ⟨rfl, rfl⟩ := e
    rw [if_pos ⟨rfl, rfl⟩] at q1
    cases q1
    exact hc
  · rw [if_neg e] at q1
    have hne : ∀ b, pdom h (r2, o2, b) → pad σ η (r2, o2, b) ≠ σ r o := fun b hb he => e (by
      have := R.2.1 (r2, o2, b) (r, o, false) hb ⟨c0, hg, fun z => by cases z⟩ he
      cases this
      exact ⟨rfl, rfl⟩)
    exact (R.1 r2 o2 c2 q1).kept (oq _ (hne false ⟨c2, q1, fun z => by cases z⟩)) (fun hs => oq _ (hne true ⟨c2, q1, fun _ => hs⟩))
end
section
/-! ===== THE TABLES: good words, class numbers, field links, classes (by program) ===== -/
def GT : List Cond := lw_tbl.filter goodWord
theorem mT {w : Cond} (i : Nat) (h : tables_1[i]? = some w) (g : goodWord w = true) : w ∈ GT := List.mem_filter.mpr ⟨List.mem_append_right _ (List.mem_of_getElem? h), g⟩
theorem GT_in {y : MethodName} {b : ByteArray} {n : Nat} {r : Option FieldType} (h : Cond.code y b n r ∈ GT) : GoodIn GT (Cond.code y b n r :: GT) := fun w hw => by
  have hg : ∀ w ∈ GT, w ∈ GT ∧ ((w.onTables && w.keeps) = true ∨ ∃ ty, w = .arrayClass ty) := fun w hw => ⟨hw, good_of_word (List.mem_filter.mp hw).2⟩
  rcases List.mem_cons.mp hw with rfl | hw
  · exact hg _ h
  · exact hg _ hw
def cn : Nat → String := fun k => match k with
  | 0 => RJ0
  | 1 => RJ4
  | 2 => RJx00060
  | 3 => RJx7c733
  | 4 => RX1
  | 5 => RX2
  | 6 => RX4
  | 7 => RX5
  | 8 => RX7
  | 9 => RX8
  | 10 => RX9
  | 11 => RX10
  | 12 => RX11
  | 13 => RX0
  | 14 => RX3
  | 15 => RX6
  | 16 => RJx145de
  | 17 => RJ5
  | 18 => RJx2cfe8
  | 19 => RJx9f9b0
  | 20 => RJx8e188
  | 21 => RJxb160c
  | 22 => RJx29ce0
  | 23 => RJ6
  | 24 => RJ9
  | 25 => RJxd2413
  | 26 => RJ1
  | 27 => RJ2
  | 28 => RJ10
  | 29 => RJxfd54e
  | 30 => RJx3cf43
  | 31 => RJ7
  | 32 => RJ8
  | 33 => RJ3
  | 34 => RL
  | _ => ""
abbrev FLok (q : Nat × Nat × Nat × Nat) : Prop := ∃ (C : String) (T : u_T) (N : Nat), vwCl[q.2.2.1]? = some (C, T, N) ∧ q.2.2.2 < N ∧ Cond.fieldLink (cn q.1) q.2.1 (T q.2.2.2).1 (T q.2.2.2).2.1 (T q.2.2.2).2.2.1 ∈ GT
def FL_0 : List (Nat × Nat × Nat × Nat) := [(7, 31, 7, 0), (9, 70, 7, 0), (5, 29, 7, 0), (11, 201, 7, 0), (7, 9, 7, 1), (5, 38, 7, 1), (11, 206, 7, 1), (9, 152, 7, 1), (7, 15, 7, 2), (11, 209, 7, 2), (7, 18, 7, 3), (9, 138, 7, 3), (11, 212, 7, 3), (7, 21, 7, 4), (11, 109, 7, 4), (9, 126, 7, 4), (7, 24, 7, 5), (11, 113, 7, 5), (7, 27, 7, 6), (4, 21, 4, 0), (9, 86, 4, 0), (5, 56, 4, 0), (11, 235, 4, 0), (4, 25, 4, 1), (4, 9, 4, 2), (5, 69, 4, 2), (11, 241, 4, 2), (4, 15, 4, 3), (5, 66, 4, 3), (9, 155, 4, 3), (11, 244, 4, 3), (4, 18, 4, 4), (5, 63, 4, 4), (9, 98, 4, 4), (11, 250, 4, 4), (10, 21, 10, 0), (9, 106, 10, 0), (11, 183, 10, 0), (10, 9, 10, 1), (11, 302, 10, 1)]
theorem FL_0_ok : ∀ q ∈ FL_0, FLok q := List.forall_mem_cons.mpr ⟨⟨_, _, _, rfl, by decide, mT 56 (by decide +kernel) rfl⟩, List.forall_mem_cons.mpr ⟨⟨_, _, _, rfl, by decide, mT 57 (by decide +kernel) rfl⟩, List.forall_mem_cons.mpr ⟨⟨_, _, _, rfl, by decide, mT 58 (by decide +kernel) rfl⟩, List.forall_mem_cons.mpr ⟨⟨_, _, _, rfl, by decide, mT 59 (by decide +kernel) rfl⟩, List.forall_mem_cons.mpr ⟨⟨_, _, _, rfl, by decide, mT 60 (by decide +kernel) rfl⟩, List.forall_mem_cons.mpr ⟨⟨_, _, _, rfl, by decide, mT 61 (by decide +kernel) rfl⟩, List.forall_mem_cons.mpr ⟨⟨_, _, _, rfl, by decide, mT 62 (by decide +kernel) rfl⟩, List.forall_mem_cons.mpr ⟨⟨_, _, _, rfl, by decide, mT 63 (by decide +kernel) rfl⟩, List.forall_mem_cons.mpr ⟨⟨_, _, _, rfl, by decide, mT 64 (by decide +kernel) rfl⟩, List.forall_mem_cons.mpr ⟨⟨_, _, _, rfl, by decide, mT 65 (by decide +kernel) rfl⟩, List.forall_mem_cons.mpr ⟨⟨_, _, _, rfl, by decide, mT 66 (by decide +kernel) rfl⟩, List.forall_mem_cons.mpr ⟨⟨_, _, _, rfl, by decide, mT 67 (by decide +kernel) rfl⟩, List.forall_mem_cons.mpr ⟨⟨_, _, _, rfl, by decide, mT 68 (by decide +kernel) rfl⟩, List.forall_mem_cons.mpr ⟨⟨_, _, _, rfl, by decide, mT 69 (by decide +kernel) rfl⟩, List.forall_mem_cons.mpr ⟨⟨_, _, _, rfl, by decide, mT 70 (by decide +kernel) rfl⟩, List.forall_mem_cons.mpr ⟨⟨_, _, _, rfl, by decide, mT 71 (by decide +kernel) rfl⟩, List.forall_mem_cons.mpr ⟨⟨_, _, _, rfl, by decide, mT 72 (by decide +kernel) rfl⟩, List.forall_mem_cons.mpr ⟨⟨_, _, _, rfl, by decide, mT 73 (by decide +kernel) rfl⟩, List.forall_mem_cons.mpr ⟨⟨_, _, _, rfl, by decide, mT 74 (by decide +kernel) rfl⟩, List.forall_mem_cons.mpr ⟨⟨_, _, _, rfl, by decide, mT 98 (by decide +kernel) rfl⟩, List.forall_mem_cons.mpr ⟨⟨_, _, _, rfl, by decide, mT 99 (by decide +kernel) rfl⟩, List.forall_mem_cons.mpr ⟨⟨_, _, _, rfl, by decide, mT 100 (by decide +kernel) rfl⟩, List.forall_mem_cons.mpr ⟨⟨_, _, _, rfl, by decide, mT 101 (by decide +kernel) rfl⟩, List.forall_mem_cons.mpr ⟨⟨_, _, _, rfl, by decide, mT 102 (by decide +kernel) rfl⟩, List.forall_mem_cons.mpr ⟨⟨_, _, _, rfl, by decide, mT 103 (by decide +kernel) rfl⟩, List.forall_mem_cons.mpr ⟨⟨_, _, _, rfl, by decide, mT 104 (by decide +kernel) rfl⟩, List.forall_mem_cons.mpr ⟨⟨_, _, _, rfl, by decide, mT 105 (by decide +kernel) rfl⟩, List.forall_mem_cons.mpr ⟨⟨_, _, _, rfl, by decide, mT 106 (by decide +kernel) rfl⟩, List.forall_mem_cons.mpr ⟨⟨_, _, _, rfl, by decide, mT 107 (by decide +kernel) rfl⟩, List.forall_mem_cons.mpr ⟨⟨_, _, _, rfl, by decide, mT 108 (by decide +kernel) rfl⟩, List.forall_mem_cons.mpr ⟨⟨_, _, _, rfl, by decide, mT 109 (by decide +kernel) rfl⟩, List.forall_mem_cons.mpr ⟨⟨_, _, _, rfl, by decide, mT 110 (by decide +kernel) rfl⟩, List.forall_mem_cons.mpr ⟨⟨_, _, _, rfl, by decide, mT 111 (by decide +kernel) rfl⟩, List.forall_mem_cons.mpr ⟨⟨_, _, _, rfl, by decide, mT 112 (by decide +kernel) rfl⟩, List.forall_mem_cons.mpr ⟨⟨_, _, _, rfl, by decide, mT 113 (by decide +kernel) rfl⟩, List.forall_mem_cons.mpr ⟨⟨_, _, _, rfl, by decide, mT 131 (by decide +kernel) rfl⟩, List.forall_mem_cons.mpr ⟨⟨_, _, _, rfl, by decide, mT 132 (by decide +kernel) rfl⟩, List.forall_mem_cons.mpr ⟨⟨_, _, _, rfl, by decide, mT 133 (by decide +kernel) rfl⟩, List.forall_mem_cons.mpr ⟨⟨_, _, _, rfl, by decide, mT 134 (by decide +kernel) rfl⟩, List.forall_mem_cons.mpr ⟨⟨_, _, _, rfl, by decide, mT 135 (by decide +kernel) rfl⟩, fun _ h => absurd h List.not_mem_nil⟩⟩⟩⟩⟩⟩⟩⟩⟩⟩⟩⟩⟩⟩⟩⟩⟩⟩⟩⟩⟩⟩⟩⟩⟩⟩⟩⟩⟩⟩⟩⟩⟩⟩⟩⟩⟩⟩⟩⟩
def FL_1 : List (Nat × Nat × Nat × Nat) := [(10, 15, 10, 2), (11, 305, 10, 2), (10, 31, 10, 3), (11, 308, 10, 3), (10, 18, 10, 4), (11, 313, 10, 4), (9, 12, 9, 0), (11, 70, 9, 0), (5, 59, 9, 0), (9, 21, 9, 1), (11, 83, 9, 1), (5, 52, 9, 1), (9, 28, 9, 2), (11, 174, 9, 2), (9, 49, 9, 3), (11, 198, 9, 3), (9, 32, 9, 4), (11, 156, 9, 4), (9, 36, 9, 5), (11, 168, 9, 5), (9, 52, 9, 6), (11, 270, 9, 6), (9, 56, 9, 7), (11, 316, 9, 7), (6, 11, 6, 0), (6, 18, 6, 1), (6, 26, 6, 2), (11, 424, 6, 2), (5, 7, 5, 0), (11, 473, 5, 0), (5, 23, 5, 1), (11, 146, 5, 1), (5, 26, 5, 2), (11, 150, 5, 2), (5, 19, 5, 3), (11, 277, 5, 3), (17, 15, 1, 0), (17, 22, 1, 1), (17, 73, 1, 2), (0, 1048, 1, 2)]
theorem FL_1_ok : ∀ q ∈ FL_1, FLok q := List.forall_mem_cons.mpr ⟨⟨_, _, _, rfl, by decide, mT 136 (by decide +kernel) rfl⟩, List.forall_mem_cons.mpr ⟨⟨_, _, _, rfl, by decide, mT 137 (by decide +kernel) rfl⟩, List.forall_mem_cons.mpr ⟨⟨_, _, _, rfl, by decide, mT 138 (by decide +kernel) rfl⟩, List.forall_mem_cons.mpr ⟨⟨_, _, _, rfl, by decide, mT 139 (by decide +kernel) rfl⟩, List.forall_mem_cons.mpr ⟨⟨_, _, _, rfl, by decide, mT 140 (by decide +kernel) rfl⟩, List.forall_mem_cons.mpr ⟨⟨_, _, _, rfl, by decide, mT 141 (by decide +kernel) rfl⟩, List.forall_mem_cons.mpr ⟨⟨_, _, _, rfl, by decide, mT 153 (by decide +kernel) rfl⟩, List.forall_mem_cons.mpr ⟨⟨_, _, _, rfl, by decide, mT 154 (by decide +kernel) rfl⟩, List.forall_mem_cons.mpr ⟨⟨_, _, _, rfl, by decide, mT 155 (by decide +kernel) rfl⟩, List.forall_mem_cons.mpr ⟨⟨_, _, _, rfl, by decide, mT 156 (by decide +kernel) rfl⟩, List.forall_mem_cons.mpr ⟨⟨_, _, _, rfl, by decide, mT 157 (by decide +kernel) rfl⟩, List.forall_mem_cons.mpr ⟨⟨_, _, _, rfl, by decide, mT 158 (by decide +kernel) rfl⟩, List.forall_mem_cons.mpr ⟨⟨_, _, _, rfl, by decide, mT 159 (by decide +kernel) rfl⟩, List.forall_mem_cons.mpr ⟨⟨_, _, _, rfl, by decide, mT 160 (by decide +kernel) rfl⟩, List.forall_mem_cons.mpr ⟨⟨_, _, _, rfl, by decide, mT 161 (by decide +kernel) rfl⟩, List.forall_mem_cons.mpr ⟨⟨_, _, _, rfl, by decide, mT 162 (by decide +kernel) rfl⟩, List.forall_mem_cons.mpr ⟨⟨_, _, _, rfl, by decide, mT 163 (by decide +kernel) rfl⟩, List.forall_mem_cons.mpr ⟨⟨_, _, _, rfl, by decide, mT 164 (by decide +kernel) rfl⟩, List.forall_mem_cons.mpr ⟨⟨_, _, _, rfl, by decide, mT 165 (by decide +kernel) rfl⟩, List.forall_mem_cons.mpr ⟨⟨_, _, _, rfl, by decide, mT 166 (by decide +kernel) rfl⟩, List.forall_mem_cons.mpr ⟨⟨_, _, _, rfl, by decide, mT 167 (by decide +kernel) rfl⟩, List.forall_mem_cons.mpr ⟨⟨_, _, _, rfl, by decide, mT 168 (by decide +kernel) rfl⟩, List.forall_mem_cons.mpr ⟨⟨_, _, _, rfl, by decide, mT 169 (by decide +kernel) rfl⟩, List.forall_mem_cons.mpr ⟨⟨_, _, _, rfl, by decide, mT 170 (by decide +kernel) rfl⟩, List.forall_mem_cons.mpr ⟨⟨_, _, _, rfl, by decide, mT 197 (by decide +kernel) rfl⟩, List.forall_mem_cons.mpr ⟨⟨_, _, _, rfl, by decide, mT 198 (by decide +kernel) rfl⟩, List.forall_mem_cons.mpr ⟨⟨_, _, _, rfl, by decide, mT 199 (by decide +kernel) rfl⟩, List.forall_mem_cons.mpr ⟨⟨_, _, _, rfl, by decide, mT 200 (by decide +kernel) rfl⟩, List.forall_mem_cons.mpr ⟨⟨_, _, _, rfl, by decide, mT 214 (by decide +kernel) rfl⟩, List.forall_mem_cons.mpr ⟨⟨_, _, _, rfl, by decide, mT 215 (by decide +kernel) rfl⟩, List.forall_mem_cons.mpr ⟨⟨_, _, _, rfl, by decide, mT 216 (by decide +kernel) rfl⟩, List.forall_mem_cons.mpr ⟨⟨_, _, _, rfl, by decide, mT 217 (by decide +kernel) rfl⟩, List.forall_mem_cons.mpr ⟨⟨_, _, _, rfl, by decide, mT 218 (by decide +kernel) rfl⟩, List.forall_mem_cons.mpr ⟨⟨_, _, _, rfl, by decide, mT 219 (by decide +kernel) rfl⟩, List.forall_mem_cons.mpr ⟨⟨_, _, _, rfl, by decide, mT 220 (by decide +kernel) rfl⟩, List.forall_mem_cons.mpr ⟨⟨_, _, _, rfl, by decide, mT 221 (by decide +kernel) rfl⟩, List.forall_mem_cons.mpr ⟨⟨_, _, _, rfl, by decide, mT 249 (by decide +kernel) rfl⟩, List.forall_mem_cons.mpr ⟨⟨_, _, _, rfl, by decide, mT 250 (by decide +kernel) rfl⟩, List.forall_mem_cons.mpr ⟨⟨_, _, _, rfl, by decide, mT 251 (by decide +kernel) rfl⟩, List.forall_mem_cons.mpr ⟨⟨_, _, _, rfl, by decide, mT 252 (by decide +kernel) rfl⟩, fun _ h => absurd h List.not_mem_nil⟩⟩⟩⟩⟩⟩⟩⟩⟩⟩⟩⟩⟩⟩⟩⟩⟩⟩⟩⟩⟩⟩⟩⟩⟩⟩⟩⟩⟩⟩⟩⟩⟩⟩⟩⟩⟩⟩⟩⟩
def FL_2 : List (Nat × Nat × Nat × Nat) := [(17, 79, 1, 3), (8, 22, 8, 0), (8, 11, 8, 1), (11, 394, 8, 1), (8, 19, 8, 2), (11, 390, 8, 2), (8, 34, 8, 3), (11, 389, 8, 3), (8, 30, 8, 4), (11, 381, 8, 4), (8, 89, 8, 5), (11, 10, 11, 0), (11, 16, 11, 1), (11, 19, 11, 2), (11, 22, 11, 3), (11, 431, 11, 4), (11, 28, 11, 5), (11, 35, 11, 6), (11, 42, 11, 7), (11, 46, 11, 8), (11, 54, 11, 9), (11, 378, 11, 10), (11, 384, 11, 11), (11, 408, 11, 12), (11, 411, 11, 13), (0, 9, 0, 0), (0, 15, 0, 1), (12, 30, 12, 0), (12, 9, 12, 1), (12, 37, 12, 2), (12, 250, 12, 3), (12, 40, 12, 4), (12, 13, 12, 5), (12, 196, 12, 6), (12, 17, 12, 7), (12, 208, 12, 8), (12, 211, 12, 9), (12, 214, 12, 10), (12, 20, 12, 11), (12, 24, 12, 12)]
theorem FL_2_ok : ∀ q ∈ FL_2, FLok q := List.forall_mem_cons.mpr ⟨⟨_, _, _, rfl, by decide, mT 253 (by decide +kernel) rfl⟩, List.forall_mem_cons.mpr ⟨⟨_, _, _, rfl, by decide, mT 276 (by decide +kernel) rfl⟩, List.forall_mem_cons.mpr ⟨⟨_, _, _, rfl, by decide, mT 277 (by decide +kernel) rfl⟩, List.forall_mem_cons.mpr ⟨⟨_, _, _, rfl, by decide, mT 278 (by decide +kernel) rfl⟩, List.forall_mem_cons.mpr ⟨⟨_, _, _, rfl, by decide, mT 279 (by decide +kernel) rfl⟩, List.forall_mem_cons.mpr ⟨⟨_, _, _, rfl, by decide, mT 280 (by decide +kernel) rfl⟩, List.forall_mem_cons.mpr ⟨⟨_, _, _, rfl, by decide, mT 281 (by decide +kernel) rfl⟩, List.forall_mem_cons.mpr ⟨⟨_, _, _, rfl, by decide, mT 282 (by decide +kernel) rfl⟩, List.forall_mem_cons.mpr ⟨⟨_, _, _, rfl, by decide, mT 283 (by decide +kernel) rfl⟩, List.forall_mem_cons.mpr ⟨⟨_, _, _, rfl, by decide, mT 284 (by decide +kernel) rfl⟩, List.forall_mem_cons.mpr ⟨⟨_, _, _, rfl, by decide, mT 285 (by decide +kernel) rfl⟩, List.forall_mem_cons.mpr ⟨⟨_, _, _, rfl, by decide, mT 299 (by decide +kernel) rfl⟩, List.forall_mem_cons.mpr ⟨⟨_, _, _, rfl, by decide, mT 300 (by decide +kernel) rfl⟩, List.forall_mem_cons.mpr ⟨⟨_, _, _, rfl, by decide, mT 301 (by decide +kernel) rfl⟩, List.forall_mem_cons.mpr ⟨⟨_, _, _, rfl, by decide, mT 302 (by decide +kernel) rfl⟩, List.forall_mem_cons.mpr ⟨⟨_, _, _, rfl, by decide, mT 303 (by decide +kernel) rfl⟩, List.forall_mem_cons.mpr ⟨⟨_, _, _, rfl, by decide, mT 304 (by decide +kernel) rfl⟩, List.forall_mem_cons.mpr ⟨⟨_, _, _, rfl, by decide, mT 305 (by decide +kernel) rfl⟩, List.forall_mem_cons.mpr ⟨⟨_, _, _, rfl, by decide, mT 306 (by decide +kernel) rfl⟩, List.forall_mem_cons.mpr ⟨⟨_, _, _, rfl, by decide, mT 307 (by decide +kernel) rfl⟩, List.forall_mem_cons.mpr ⟨⟨_, _, _, rfl, by decide, mT 308 (by decide +kernel) rfl⟩, List.forall_mem_cons.mpr ⟨⟨_, _, _, rfl, by decide, mT 309 (by decide +kernel) rfl⟩, List.forall_mem_cons.mpr ⟨⟨_, _, _, rfl, by decide, mT 310 (by decide +kernel) rfl⟩, List.forall_mem_cons.mpr ⟨⟨_, _, _, rfl, by decide, mT 311 (by decide +kernel) rfl⟩, List.forall_mem_cons.mpr ⟨⟨_, _, _, rfl, by decide, mT 312 (by decide +kernel) rfl⟩, List.forall_mem_cons.mpr ⟨⟨_, _, _, rfl, by decide, mT 770 (by decide +kernel) rfl⟩, List.forall_mem_cons.mpr ⟨⟨_, _, _, rfl, by decide, mT 771 (by decide +kernel) rfl⟩, List.forall_mem_cons.mpr ⟨⟨_, _, _, rfl, by decide, mT 1599 (by decide +kernel) rfl⟩, List.forall_mem_cons.mpr ⟨⟨_, _, _, rfl, by decide, mT 1600 (by decide +kernel) rfl⟩, List.forall_mem_cons.mpr ⟨⟨_, _, _, rfl, by decide, mT 1601 (by decide +kernel) rfl⟩, List.forall_mem_cons.mpr ⟨⟨_, _, _, rfl, by decide, mT 1602 (by decide +kernel) rfl⟩, List.forall_mem_cons.mpr ⟨⟨_, _, _, rfl, by decide, mT 1603 (by decide +kernel) rfl⟩, List.forall_mem_cons.mpr ⟨⟨_, _, _, rfl, by decide, mT 1604 (by decide +kernel) rfl⟩, List.forall_mem_cons.mpr ⟨⟨_, _, _, rfl, by decide, mT 1605 (by decide +kernel) rfl⟩, List.forall_mem_cons.mpr ⟨⟨_, _, _, rfl, by decide, mT 1606 (by decide +kernel) rfl⟩, List.forall_mem_cons.mpr ⟨⟨_, _, _, rfl, by decide, mT 1607 (by decide +kernel) rfl⟩, List.forall_mem_cons.mpr ⟨⟨_, _, _, rfl, by decide, mT 1608 (by decide +kernel) rfl⟩, List.forall_mem_cons.mpr ⟨⟨_, _, _, rfl, by decide, mT 1609 (by decide +kernel) rfl⟩, List.forall_mem_cons.mpr ⟨⟨_, _, _, rfl, by decide, mT 1610 (by decide +kernel) rfl⟩, List.forall_mem_cons.mpr ⟨⟨_, _, _, rfl, by decide, mT 1611 (by decide +kernel) rfl⟩, fun _ h => absurd h List.not_mem_nil⟩⟩⟩⟩⟩⟩⟩⟩⟩⟩⟩⟩⟩⟩⟩⟩⟩⟩⟩⟩⟩⟩⟩⟩⟩⟩⟩⟩⟩⟩⟩⟩⟩⟩⟩⟩⟩⟩⟩⟩
def FL_3 : List (Nat × Nat × Nat × Nat) := [(12, 27, 12, 13), (12, 229, 12, 14)]
theorem FL_3_ok : ∀ q ∈ FL_3, FLok q := List.forall_mem_cons.mpr ⟨⟨_, _, _, rfl, by decide, mT 1612 (by decide +kernel) rfl⟩, List.forall_mem_cons.mpr ⟨⟨_, _, _, rfl, by decide, mT 1613 (by decide +kernel) rfl⟩, fun _ h => absurd h List.not_mem_nil⟩⟩
def FLq : List (Nat × Nat × Nat × Nat) := FL_0 ++ FL_1 ++ FL_2 ++ FL_3
theorem FLq_ok : ∀ q ∈ FLq, FLok q := fun q h => by
  simp only [FLq, List.mem_append] at h
  rcases h with (((h | h) | h) | h)
  · exact FL_0_ok q h
  · exact FL_1_ok q h
  · exact FL_2_ok q h
  · exact FL_3_ok q h
def tyOf : Nat → Nat → FieldType := fun ci => match ci with
  | 0 => tyJ0
  | 1 => tyJ4
  | 2 => tyJx00060
  | 3 => tyJx7c733
  | 4 => tyX1
  | 5 => tyX2
  | 6 => tyX4
  | 7 => tyX5
  | 8 => tyX7
  | 9 => tyX8
  | 10 => tyX9
  | 11 => tyX10
  | 12 => tyX11
  | _ => fun _ => .int
abbrev CLok (ci : Nat) (C : String) (T : u_T) (N : Nat) : Prop := (∀ w ∈ u_ws C T N, w ∈ GT) ∧ (∀ k, k < N → parseFieldDescriptor (T k).2.2.1 = some (tyOf ci k)) ∧ ∀ a, a < N → ∀ b, b < N → a ≠ b → (T a).2.1 ≠ (T b).2.1
theorem CL_0 : CLok 0 RJ0 TJ0 4 := ⟨List.forall_mem_cons.mpr ⟨mT 772 (by decide +kernel) rfl, List.forall_mem_cons.mpr ⟨mT 774 (by decide +kernel) rfl, List.forall_mem_cons.mpr ⟨mT 776 (by decide +kernel) rfl, List.forall_mem_cons.mpr ⟨mT 778 (by decide +kernel) rfl, fun _ h => absurd h List.not_mem_nil⟩⟩⟩⟩, tyJ0_ok, nmJ0⟩
theorem CL_1 : CLok 1 RJ4 TJ4 4 := ⟨List.forall_mem_cons.mpr ⟨mT 254 (by decide +kernel) rfl, List.forall_mem_cons.mpr ⟨mT 256 (by decide +kernel) rfl, List.forall_mem_cons.mpr ⟨mT 258 (by decide +kernel) rfl, List.forall_mem_cons.mpr ⟨mT 260 (by decide +kernel) rfl, fun _ h => absurd h List.not_mem_nil⟩⟩⟩⟩, tyJ4_ok, nmJ4⟩
theorem CL_2 : CLok 2 RJx00060 TJx00060 6 := ⟨List.forall_mem_cons.mpr ⟨mT 810 (by decide +kernel) rfl, List.forall_mem_cons.mpr ⟨mT 811 (by decide +kernel) rfl, List.forall_mem_cons.mpr ⟨mT 812 (by decide +kernel) rfl, List.forall_mem_cons.mpr ⟨mT 813 (by decide +kernel) rfl, List.forall_mem_cons.mpr ⟨mT 814 (by decide +kernel) rfl, List.forall_mem_cons.mpr ⟨mT 825 (by decide +kernel) rfl, fun _ h => absurd h List.not_mem_nil⟩⟩⟩⟩⟩⟩, tyJx00060_ok, nmJx00060⟩
theorem CL_3 : CLok 3 RJx7c733 TJx7c733 6 := ⟨List.forall_mem_cons.mpr ⟨mT 785 (by decide +kernel) rfl, List.forall_mem_cons.mpr ⟨mT 786 (by decide +kernel) rfl, List.forall_mem_cons.mpr ⟨mT 787 (by decide +kernel) rfl, List.forall_mem_cons.mpr ⟨mT 788 (by decide +kernel) rfl, List.forall_mem_cons.mpr ⟨mT 789 (by decide +kernel) rfl, List.forall_mem_cons.mpr ⟨mT 790 (by decide +kernel) rfl, fun _ h => absurd h List.not_mem_nil⟩⟩⟩⟩⟩⟩, tyJx7c733_ok, nmJx7c733⟩
theorem CL_4 : CLok 4 RX1 TX1 5 := ⟨List.forall_mem_cons.mpr ⟨mT 114 (by decide +kernel) rfl, List.forall_mem_cons.mpr ⟨mT 116 (by decide +kernel) rfl, List.forall_mem_cons.mpr ⟨mT 118 (by decide +kernel) rfl, List.forall_mem_cons.mpr ⟨mT 120 (by decide +kernel) rfl, List.forall_mem_cons.mpr ⟨mT 122 (by decide +kernel) rfl, fun _ h => absurd h List.not_mem_nil⟩⟩⟩⟩⟩, tyX1_ok, nmX1⟩
theorem CL_5 : CLok 5 RX2 TX2 4 := ⟨List.forall_mem_cons.mpr ⟨mT 222 (by decide +kernel) rfl, List.forall_mem_cons.mpr ⟨mT 224 (by decide +kernel) rfl, List.forall_mem_cons.mpr ⟨mT 226 (by decide +kernel) rfl, List.forall_mem_cons.mpr ⟨mT 228 (by decide +kernel) rfl, fun _ h => absurd h List.not_mem_nil⟩⟩⟩⟩, tyX2_ok, nmX2⟩
theorem CL_6 : CLok 6 RX4 TX4 3 := ⟨List.forall_mem_cons.mpr ⟨mT 201 (by decide +kernel) rfl, List.forall_mem_cons.mpr ⟨mT 203 (by decide +kernel) rfl, List.forall_mem_cons.mpr ⟨mT 205 (by decide +kernel) rfl, fun _ h => absurd h List.not_mem_nil⟩⟩⟩, tyX4_ok, nmX4⟩
theorem CL_7 : CLok 7 RX5 TX5 7 := ⟨List.forall_mem_cons.mpr ⟨mT 75 (by decide +kernel) rfl, List.forall_mem_cons.mpr ⟨mT 77 (by decide +kernel) rfl, List.forall_mem_cons.mpr ⟨mT 79 (by decide +kernel) rfl, List.forall_mem_cons.mpr ⟨mT 81 (by decide +kernel) rfl, List.forall_mem_cons.mpr ⟨mT 83 (by decide +kernel) rfl, List.forall_mem_cons.mpr ⟨mT 85 (by decide +kernel) rfl, List.forall_mem_cons.mpr ⟨mT 87 (by decide +kernel) rfl, fun _ h => absurd h List.not_mem_nil⟩⟩⟩⟩⟩⟩⟩, tyX5_ok, nmX5⟩
theorem CL_8 : CLok 8 RX7 TX7 6 := ⟨List.forall_mem_cons.mpr ⟨mT 286 (by decide +kernel) rfl, List.forall_mem_cons.mpr ⟨mT 288 (by decide +kernel) rfl, List.forall_mem_cons.mpr ⟨mT 290 (by decide +kernel) rfl, List.forall_mem_cons.mpr ⟨mT 292 (by decide +kernel) rfl, List.forall_mem_cons.mpr ⟨mT 294 (by decide +kernel) rfl, List.forall_mem_cons.mpr ⟨mT 296 (by decide +kernel) rfl, fun _ h => absurd h List.not_mem_nil⟩⟩⟩⟩⟩⟩, tyX7_ok, nmX7⟩
theorem CL_9 : CLok 9 RX8 TX8 8 := ⟨List.forall_mem_cons.mpr ⟨mT 171 (by decide +kernel) rfl, List.forall_mem_cons.mpr ⟨mT 173 (by decide +kernel) rfl, List.forall_mem_cons.mpr ⟨mT 175 (by decide +kernel) rfl, List.forall_mem_cons.mpr ⟨mT 177 (by decide +kernel) rfl, List.forall_mem_cons.mpr ⟨mT 179 (by decide +kernel) rfl, List.forall_mem_cons.mpr ⟨mT 181 (by decide +kernel) rfl, List.forall_mem_cons.mpr ⟨mT 183 (by decide +kernel) rfl, List.forall_mem_cons.mpr ⟨mT 185 (by decide +kernel) rfl, fun _ h => absurd h List.not_mem_nil⟩⟩⟩⟩⟩⟩⟩⟩, tyX8_ok, nmX8⟩
theorem CL_10 : CLok 10 RX9 TX9 5 := ⟨List.forall_mem_cons.mpr ⟨mT 142 (by decide +kernel) rfl, List.forall_mem_cons.mpr ⟨mT 144 (by decide +kernel) rfl, List.forall_mem_cons.mpr ⟨mT 146 (by decide +kernel) rfl, List.forall_mem_cons.mpr ⟨mT 148 (by decide +kernel) rfl, List.forall_mem_cons.mpr ⟨mT 150 (by decide +kernel) rfl, fun _ h => absurd h List.not_mem_nil⟩⟩⟩⟩⟩, tyX9_ok, nmX9⟩
theorem CL_11 : CLok 11 RX10 TX10 14 := ⟨List.forall_mem_cons.mpr ⟨mT 313 (by decide +kernel) rfl, List.forall_mem_cons.mpr ⟨mT 315 (by decide +kernel) rfl, List.forall_mem_cons.mpr ⟨mT 317 (by decide +kernel) rfl, List.forall_mem_cons.mpr ⟨mT 319 (by decide +kernel) rfl, List.forall_mem_cons.mpr ⟨mT 321 (by decide +kernel) rfl, List.forall_mem_cons.mpr ⟨mT 323 (by decide +kernel) rfl, List.forall_mem_cons.mpr ⟨mT 325 (by decide +kernel) rfl, List.forall_mem_cons.mpr ⟨mT 327 (by decide +kernel) rfl, List.forall_mem_cons.mpr ⟨mT 329 (by decide +kernel) rfl, List.forall_mem_cons.mpr ⟨mT 331 (by decide +kernel) rfl, List.forall_mem_cons.mpr ⟨mT 333 (by decide +kernel) rfl, List.forall_mem_cons.mpr ⟨mT 335 (by decide +kernel) rfl, List.forall_mem_cons.mpr ⟨mT 337 (by decide +kernel) rfl, List.forall_mem_cons.mpr ⟨mT 339 (by decide +kernel) rfl, fun _ h => absurd h List.not_mem_nil⟩⟩⟩⟩⟩⟩⟩⟩⟩⟩⟩⟩⟩⟩, tyX10_ok, nmX10⟩
theorem CL_12 : CLok 12 RX11 TX11 15 := ⟨List.forall_mem_cons.mpr ⟨mT 1614 (by decide +kernel) rfl, List.forall_mem_cons.mpr ⟨mT 1616 (by decide +kernel) rfl, List.forall_mem_cons.mpr ⟨mT 1618 (by decide +kernel) rfl, List.forall_mem_cons.mpr ⟨mT 1620 (by decide +kernel) rfl, List.forall_mem_cons.mpr ⟨mT 1622 (by decide +kernel) rfl, List.forall_mem_cons.mpr ⟨mT 1624 (by decide +kernel) rfl, List.forall_mem_cons.mpr ⟨mT 1626 (by decide +kernel) rfl, List.forall_mem_cons.mpr ⟨mT 1628 (by decide +kernel) rfl, List.forall_mem_cons.mpr ⟨mT 1630 (by decide +kernel) rfl, List.forall_mem_cons.mpr ⟨mT 1632 (by decide +kernel) rfl, List.forall_mem_cons.mpr ⟨mT 1634 (by decide +kernel) rfl, List.forall_mem_cons.mpr ⟨mT 1636 (by decide +kernel) rfl, List.forall_mem_cons.mpr ⟨mT 1638 (by decide +kernel) rfl, List.forall_mem_cons.mpr ⟨mT 1640 (by decide +kernel) rfl, List.forall_mem_cons.mpr ⟨mT 1642 (by decide +kernel) rfl, fun _ h => absurd h List.not_mem_nil⟩⟩⟩⟩⟩⟩⟩⟩⟩⟩⟩⟩⟩⟩⟩, tyX11_ok, nmX11⟩
theorem CL_ok : ∀ (ci : Nat) (C : String) (T : u_T) (N : Nat), vwCl[ci]? = some (C, T, N) → CLok ci C T N := fun ci C T N h => by
  match ci, h with
  | 0, h => cases h; exact CL_0
  | 1, h => cases h; exact CL_1
  | 2, h => cases h; exact CL_2
  | 3, h => cases h; exact CL_3
  | 4, h => cases h; exact CL_4
  | 5, h => cases h; exact CL_5
  | 6, h => cases h; exact CL_6
  | 7, h => cases h; exact CL_7
  | 8, h => cases h; exact CL_8
  | 9, h => cases h; exact CL_9
  | 10, h => cases h; exact CL_10
  | 11, h => cases h; exact CL_11
  | 12, h => cases h; exact CL_12
  | k + 13, h => simp [vwCl] at h
theorem cd_X10_init : Cond.code yX10_init cX10_init 1 none ∈ GT := mT 40 (by decide +kernel) rfl
theorem cd_X8_init : Cond.code yX8_init cX8_init 1 none ∈ GT := mT 48 (by decide +kernel) rfl
theorem cd_X5_init : Cond.code yX5_init cX5_init 1 none ∈ GT := mT 54 (by decide +kernel) rfl
theorem cd_X1_init : Cond.code yX1_init cX1_init 1 none ∈ GT := mT 96 (by decide +kernel) rfl
theorem cd_X9_init : Cond.code yX9_init cX9_init 1 none ∈ GT := mT 129 (by decide +kernel) rfl
theorem cd_X4_init : Cond.code yX4_init cX4_init 2 none ∈ GT := mT 192 (by decide +kernel) rfl
theorem cd_X2_init : Cond.code yX2_init cX2_init 1 none ∈ GT := mT 212 (by decide +kernel) rfl
theorem cd_J4_init_da8c8 : Cond.code yJ4_init_da8c8 cJ4_init_da8c8 1 none ∈ GT := mT 235 (by decide +kernel) rfl
theorem cd_J5_init_d00df : Cond.code yJ5_init_d00df cJ5_init_d00df 2 none ∈ GT := mT 238 (by decide +kernel) rfl
theorem cd_J2_newBytesFor_77867 : Cond.code yJ2_newBytesFor_77867 cJ2_newBytesFor_77867 1 (some ((.array .byte))) ∈ GT := mT 244 (by decide +kernel) rfl
theorem cd_J2_newBytesLength_0f7a4 : Cond.code yJ2_newBytesLength_0f7a4 cJ2_newBytesLength_0f7a4 1 (some (.int)) ∈ GT := mT 247 (by decide +kernel) rfl
theorem cd_X7_init : Cond.code yX7_init cX7_init 3 none ∈ GT := mT 268 (by decide +kernel) rfl
theorem cd_X10_minute : Cond.code yX10_minute cX10_minute 1 (some (.int)) ∈ GT := mT 345 (by decide +kernel) rfl
theorem cd_X10_compartmentCount : Cond.code yX10_compartmentCount cX10_compartmentCount 1 (some (.int)) ∈ GT := mT 349 (by decide +kernel) rfl
theorem cd_X10_pieceCount : Cond.code yX10_pieceCount cX10_pieceCount 1 (some (.int)) ∈ GT := mT 353 (by decide +kernel) rfl
theorem cd_X10_weight : Cond.code yX10_weight cX10_weight 1 (some (.int)) ∈ GT := mT 357 (by decide +kernel) rfl
theorem cd_X8_totalWeight : Cond.code yX8_totalWeight cX8_totalWeight 3 (some (.int)) ∈ GT := mT 361 (by decide +kernel) rfl
theorem cd_X8_loadIn : Cond.code yX8_loadIn cX8_loadIn 2 (some (.int)) ∈ GT := mT 365 (by decide +kernel) rfl
theorem cd_X1_weightIn : Cond.code yX1_weightIn cX1_weightIn 4 (some (.int)) ∈ GT := mT 369 (by decide +kernel) rfl
theorem cd_X10_weightByParts : Cond.code yX10_weightByParts cX10_weightByParts 1 (some (.int)) ∈ GT := mT 373 (by decide +kernel) rfl
theorem cd_X8_weightOfParts : Cond.code yX8_weightOfParts cX8_weightOfParts 1 (some (.int)) ∈ GT := mT 377 (by decide +kernel) rfl
theorem cd_X5_totalWater : Cond.code yX5_totalWater cX5_totalWater 3 (some (.int)) ∈ GT := mT 381 (by decide +kernel) rfl
theorem cd_X1_totalWeight : Cond.code yX1_totalWeight cX1_totalWeight 3 (some (.int)) ∈ GT := mT 385 (by decide +kernel) rfl
theorem cd_X10_moment : Cond.code yX10_moment cX10_moment 1 (some (.int)) ∈ GT := mT 389 (by decide +kernel) rfl
theorem cd_X8_totalMoment : Cond.code yX8_totalMoment cX8_totalMoment 3 (some (.int)) ∈ GT := mT 393 (by decide +kernel) rfl
theorem cd_X10_momentByParts : Cond.code yX10_momentByParts cX10_momentByParts 1 (some (.int)) ∈ GT := mT 397 (by decide +kernel) rfl
theorem cd_X8_momentOfParts : Cond.code yX8_momentOfParts cX8_momentOfParts 3 (some (.int)) ∈ GT := mT 401 (by decide +kernel) rfl
theorem cd_X10_trim : Cond.code yX10_trim cX10_trim 1 (some (.int)) ∈ GT := mT 405 (by decide +kernel) rfl
theorem cd_X10_trimFor : Cond.code yX10_trimFor cX10_trimFor 3 (some (.int)) ∈ GT := mT 408 (by decide +kernel) rfl
theorem cd_X10_isBalanced : Cond.code yX10_isBalanced cX10_isBalanced 1 (some (.boolean)) ∈ GT := mT 412 (by decide +kernel) rfl
theorem cd_X8_isWithinLimit : Cond.code yX8_isWithinLimit cX8_isWithinLimit 3 (some (.boolean)) ∈ GT := mT 416 (by decide +kernel) rfl
theorem cd_J9_abs_0f7a4 : Cond.code yJ9_abs_0f7a4 cJ9_abs_0f7a4 1 (some (.int)) ∈ GT := mT 420 (by decide +kernel) rfl
theorem cd_X10_isAfloat : Cond.code yX10_isAfloat cX10_isAfloat 1 (some (.boolean)) ∈ GT := mT 424 (by decide +kernel) rfl
theorem cd_X10_stormCount : Cond.code yX10_stormCount cX10_stormCount 1 (some (.int)) ∈ GT := mT 428 (by decide +kernel) rfl
theorem cd_X10_pumpedTotal : Cond.code yX10_pumpedTotal cX10_pumpedTotal 1 (some (.long)) ∈ GT := mT 432 (by decide +kernel) rfl
theorem cd_X10_isConsistent : Cond.code yX10_isConsistent cX10_isConsistent 1 (some (.boolean)) ∈ GT := mT 436 (by decide +kernel) rfl
theorem cd_X10_adviceHolds : Cond.code yX10_adviceHolds cX10_adviceHolds 3 (some (.boolean)) ∈ GT := mT 440 (by decide +kernel) rfl
theorem cd_X2_searchTransfers : Cond.code yX2_searchTransfers cX2_searchTransfers 6 none ∈ GT := mT 444 (by decide +kernel) rfl
theorem cd_X5_canMove : Cond.code yX5_canMove cX5_canMove 4 (some (.boolean)) ∈ GT := mT 448 (by decide +kernel) rfl
theorem cd_X2_offer : Cond.code yX2_offer cX2_offer 4 none ∈ GT := mT 452 (by decide +kernel) rfl
theorem cd_X8_copyFrom : Cond.code yX8_copyFrom cX8_copyFrom 2 none ∈ GT := mT 457 (by decide +kernel) rfl
theorem cd_X5_copyFrom : Cond.code yX5_copyFrom cX5_copyFrom 2 none ∈ GT := mT 461 (by decide +kernel) rfl
theorem cd_X1_copyFrom : Cond.code yX1_copyFrom cX1_copyFrom 2 none ∈ GT := mT 468 (by decide +kernel) rfl
theorem cd_X9_copyFrom : Cond.code yX9_copyFrom cX9_copyFrom 2 none ∈ GT := mT 473 (by decide +kernel) rfl
theorem cd_X5_move : Cond.code yX5_move cX5_move 4 none ∈ GT := mT 478 (by decide +kernel) rfl
theorem cd_X5_overflows : Cond.code yX5_overflows cX5_overflows 2 (some (.boolean)) ∈ GT := mT 482 (by decide +kernel) rfl
theorem cd_X10_formatStorms : Cond.code yX10_formatStorms cX10_formatStorms 3 (some (.int)) ∈ GT := mT 486 (by decide +kernel) rfl
theorem cd_J4_setLength_d00df : Cond.code yJ4_setLength_d00df cJ4_setLength_d00df 2 none ∈ GT := mT 490 (by decide +kernel) rfl
theorem cd_J5_setLength_d00df : Cond.code yJ5_setLength_d00df cJ5_setLength_d00df 2 none ∈ GT := mT 493 (by decide +kernel) rfl
theorem cd_Jx7c733_init_d00df : Cond.code yJx7c733_init_d00df cJx7c733_init_d00df 2 none ∈ GT := mT 498 (by decide +kernel) rfl
theorem cd_J4_append_15ec4 : Cond.code yJ4_append_15ec4 cJ4_append_15ec4 2 (some ((.object "java/lang/StringBuilder"))) ∈ GT := mT 505 (by decide +kernel) rfl
theorem cd_J5_append_cf1ce : Cond.code yJ5_append_cf1ce cJ5_append_cf1ce 3 (some ((.object "java/lang/AbstractStringBuilder"))) ∈ GT := mT 508 (by decide +kernel) rfl
theorem cd_J5_appendNull_278bc : Cond.code yJ5_appendNull_278bc cJ5_appendNull_278bc 3 (some ((.object "java/lang/AbstractStringBuilder"))) ∈ GT := mT 512 (by decide +kernel) rfl
theorem cd_J5_ensureCapacityInternal_d00df : Cond.code yJ5_ensureCapacityInternal_d00df cJ5_ensureCapacityInternal_d00df 3 none ∈ GT := mT 516 (by decide +kernel) rfl
theorem cd_J5_newCapacity_0f7a4 : Cond.code yJ5_newCapacity_0f7a4 cJ5_newCapacity_0f7a4 6 (some (.int)) ∈ GT := mT 520 (by decide +kernel) rfl
theorem cd_J8_newLength_cabcc : Cond.code yJ8_newLength_cabcc cJ8_newLength_cabcc 4 (some (.int)) ∈ GT := mT 523 (by decide +kernel) rfl
theorem cd_J9_max_7cf53 : Cond.code yJ9_max_7cf53 cJ9_max_7cf53 2 (some (.int)) ∈ GT := mT 526 (by decide +kernel) rfl
theorem cd_J8_hugeLength_7cf53 : Cond.code yJ8_hugeLength_7cf53 cJ8_hugeLength_7cf53 3 (some (.int)) ∈ GT := mT 530 (by decide +kernel) rfl
theorem cd_J7_copyOf_9075b : Cond.code yJ7_copyOf_9075b cJ7_copyOf_9075b 3 (some ((.array .byte))) ∈ GT := mT 534 (by decide +kernel) rfl
theorem cd_J9_min_7cf53 : Cond.code yJ9_min_7cf53 cJ9_min_7cf53 2 (some (.int)) ∈ GT := mT 544 (by decide +kernel) rfl
theorem cd_J5_isLatin1_aae02 : Cond.code yJ5_isLatin1_aae02 cJ5_isLatin1_aae02 1 (some (.boolean)) ∈ GT := mT 550 (by decide +kernel) rfl
theorem cd_J2_putCharsAt_cd4e5 : Cond.code yJ2_putCharsAt_cd4e5 cJ2_putCharsAt_cd4e5 7 (some (.int)) ∈ GT := mT 553 (by decide +kernel) rfl
theorem cd_J2_checkBoundsBeginEnd_d044e : Cond.code yJ2_checkBoundsBeginEnd_d044e cJ2_checkBoundsBeginEnd_d044e 3 none ∈ GT := mT 556 (by decide +kernel) rfl
theorem cd_J2_length_9d52b : Cond.code yJ2_length_9d52b cJ2_length_9d52b 1 (some (.int)) ∈ GT := mT 559 (by decide +kernel) rfl
theorem cd_J0_checkBoundsBeginEnd_23922 : Cond.code yJ0_checkBoundsBeginEnd_23922 cJ0_checkBoundsBeginEnd_23922 3 none ∈ GT := mT 562 (by decide +kernel) rfl
theorem cd_J3_checkFromToIndex_8c36e : Cond.code yJ3_checkFromToIndex_8c36e cJ3_checkFromToIndex_8c36e 4 (some (.int)) ∈ GT := mT 567 (by decide +kernel) rfl
theorem cd_J2_putChar_b72d1 : Cond.code yJ2_putChar_b72d1 cJ2_putChar_b72d1 3 none ∈ GT := mT 570 (by decide +kernel) rfl
theorem cd_J0_length_8abf5 : Cond.code yJ0_length_8abf5 cJ0_length_8abf5 1 (some (.int)) ∈ GT := mT 580 (by decide +kernel) rfl
theorem cd_J0_coder_7d493 : Cond.code yJ0_coder_7d493 cJ0_coder_7d493 1 (some (.byte)) ∈ GT := mT 584 (by decide +kernel) rfl
theorem cd_J5_putStringAt_47b60 : Cond.code yJ5_putStringAt_47b60 cJ5_putStringAt_47b60 3 none ∈ GT := mT 589 (by decide +kernel) rfl
theorem cd_J5_inflateIfNeededFor_a7421 : Cond.code yJ5_inflateIfNeededFor_a7421 cJ5_inflateIfNeededFor_a7421 2 none ∈ GT := mT 593 (by decide +kernel) rfl
theorem cd_J5_inflate_da8c8 : Cond.code yJ5_inflate_da8c8 cJ5_inflate_da8c8 2 none ∈ GT := mT 598 (by decide +kernel) rfl
theorem cd_J1_inflate_0e8fd : Cond.code yJ1_inflate_0e8fd cJ1_inflate_0e8fd 5 none ∈ GT := mT 601 (by decide +kernel) rfl
theorem cd_J2_inflate_0e8fd : Cond.code yJ2_inflate_0e8fd cJ2_inflate_0e8fd 6 none ∈ GT := mT 604 (by decide +kernel) rfl
theorem cd_J2_checkBoundsOffCount_d044e : Cond.code yJ2_checkBoundsOffCount_d044e cJ2_checkBoundsOffCount_d044e 3 none ∈ GT := mT 607 (by decide +kernel) rfl
theorem cd_J0_checkBoundsOffCount_cabcc : Cond.code yJ0_checkBoundsOffCount_cabcc cJ0_checkBoundsOffCount_cabcc 3 (some (.int)) ∈ GT := mT 610 (by decide +kernel) rfl
theorem cd_J3_checkFromIndexSize_8c36e : Cond.code yJ3_checkFromIndexSize_8c36e cJ3_checkFromIndexSize_8c36e 4 (some (.int)) ∈ GT := mT 613 (by decide +kernel) rfl
theorem cd_J0_getBytes_840e7 : Cond.code yJ0_getBytes_840e7 cJ0_getBytes_840e7 4 none ∈ GT := mT 617 (by decide +kernel) rfl
theorem cd_J4_append_bf812 : Cond.code yJ4_append_bf812 cJ4_append_bf812 2 (some ((.object "java/lang/StringBuilder"))) ∈ GT := mT 623 (by decide +kernel) rfl
theorem cd_J5_append_c97b9 : Cond.code yJ5_append_c97b9 cJ5_append_c97b9 4 (some ((.object "java/lang/AbstractStringBuilder"))) ∈ GT := mT 626 (by decide +kernel) rfl
theorem cd_J6_stringSize_0f7a4 : Cond.code yJ6_stringSize_0f7a4 cJ6_stringSize_0f7a4 4 (some (.int)) ∈ GT := mT 629 (by decide +kernel) rfl
theorem cd_J6_getChars_ba4f3 : Cond.code yJ6_getChars_ba4f3 cJ6_getChars_ba4f3 7 (some (.int)) ∈ GT := mT 632 (by decide +kernel) rfl
theorem cd_J2_getChars_46870 : Cond.code yJ2_getChars_46870 cJ2_getChars_46870 5 (some (.int)) ∈ GT := mT 639 (by decide +kernel) rfl
theorem cd_J2_getChars_ba4f3 : Cond.code yJ2_getChars_ba4f3 cJ2_getChars_ba4f3 7 (some (.int)) ∈ GT := mT 642 (by decide +kernel) rfl
theorem cd_J4_toString_0e30d : Cond.code yJ4_toString_0e30d cJ4_toString_0e30d 1 (some ((.object "java/lang/String"))) ∈ GT := mT 648 (by decide +kernel) rfl
theorem cd_J0_init_81219 : Cond.code yJ0_init_81219 cJ0_init_81219 2 none ∈ GT := mT 653 (by decide +kernel) rfl
theorem cd_J0_init_db425 : Cond.code yJ0_init_db425 cJ0_init_db425 5 none ∈ GT := mT 656 (by decide +kernel) rfl
theorem cd_J5_getValue_6d5f1 : Cond.code yJ5_getValue_6d5f1 cJ5_getValue_6d5f1 1 (some ((.array .byte))) ∈ GT := mT 662 (by decide +kernel) rfl
theorem cd_J4_length_8abf5 : Cond.code yJ4_length_8abf5 cJ4_length_8abf5 1 (some (.int)) ∈ GT := mT 668 (by decide +kernel) rfl
theorem cd_J5_length_8abf5 : Cond.code yJ5_length_8abf5 cJ5_length_8abf5 1 (some (.int)) ∈ GT := mT 670 (by decide +kernel) rfl
theorem cd_J7_copyOfRange_39247 : Cond.code yJ7_copyOfRange_39247 cJ7_copyOfRange_39247 3 (some ((.array .byte))) ∈ GT := mT 674 (by decide +kernel) rfl
theorem cd_J7_copyOfRangeByte_39247 : Cond.code yJ7_copyOfRangeByte_39247 cJ7_copyOfRangeByte_39247 5 (some ((.array .byte))) ∈ GT := mT 677 (by decide +kernel) rfl
theorem cd_J7_checkLength_df160 : Cond.code yJ7_checkLength_df160 cJ7_checkLength_df160 2 none ∈ GT := mT 680 (by decide +kernel) rfl
theorem cd_J2_compress_39247 : Cond.code yJ2_compress_39247 cJ2_compress_39247 6 (some ((.array .byte))) ∈ GT := mT 759 (by decide +kernel) rfl
theorem cd_J2_compress_5af95 : Cond.code yJ2_compress_5af95 cJ2_compress_5af95 7 (some (.int)) ∈ GT := mT 762 (by decide +kernel) rfl
theorem cd_J2_getChar_3b067 : Cond.code yJ2_getChar_3b067 cJ2_getChar_3b067 2 (some (.char)) ∈ GT := mT 765 (by decide +kernel) rfl
theorem cd_J2_coderFromArrayLen_85cad : Cond.code yJ2_coderFromArrayLen_85cad cJ2_coderFromArrayLen_85cad 2 (some (.byte)) ∈ GT := mT 769 (by decide +kernel) rfl
theorem cd_J1_fillNull_b72d1 : Cond.code yJ1_fillNull_b72d1 cJ1_fillNull_b72d1 3 none ∈ GT := mT 794 (by decide +kernel) rfl
theorem cd_J7_fill_eb02e : Cond.code yJ7_fill_eb02e cJ7_fill_eb02e 5 none ∈ GT := mT 797 (by decide +kernel) rfl
theorem cd_J7_rangeCheck_23922 : Cond.code yJ7_rangeCheck_23922 cJ7_rangeCheck_23922 3 none ∈ GT := mT 800 (by decide +kernel) rfl
theorem cd_Jx00060_init_d00df : Cond.code yJx00060_init_d00df cJx00060_init_d00df 2 none ∈ GT := mT 817 (by decide +kernel) rfl
theorem cd_J2_fillNull_b72d1 : Cond.code yJ2_fillNull_b72d1 cJ2_fillNull_b72d1 3 none ∈ GT := mT 829 (by decide +kernel) rfl
theorem cd_X10_separate : Cond.code yX10_separate cX10_separate 2 none ∈ GT := mT 834 (by decide +kernel) rfl
theorem cd_J4_append_cf468 : Cond.code yJ4_append_cf468 cJ4_append_cf468 2 (some ((.object "java/lang/StringBuilder"))) ∈ GT := mT 839 (by decide +kernel) rfl
theorem cd_J5_append_3fe6f : Cond.code yJ5_append_3fe6f cJ5_append_3fe6f 2 (some ((.object "java/lang/AbstractStringBuilder"))) ∈ GT := mT 842 (by decide +kernel) rfl
theorem cd_J1_canEncode_fc78d : Cond.code yJ1_canEncode_fc78d cJ1_canEncode_fc78d 1 (some (.boolean)) ∈ GT := mT 845 (by decide +kernel) rfl
theorem cd_J2_putCharSB_b72d1 : Cond.code yJ2_putCharSB_b72d1 cJ2_putCharSB_b72d1 3 none ∈ GT := mT 848 (by decide +kernel) rfl
theorem cd_J2_checkIndex_2214a : Cond.code yJ2_checkIndex_2214a cJ2_checkIndex_2214a 2 none ∈ GT := mT 851 (by decide +kernel) rfl
theorem cd_J0_checkIndex_df160 : Cond.code yJ0_checkIndex_df160 cJ0_checkIndex_df160 2 none ∈ GT := mT 854 (by decide +kernel) rfl
theorem cd_J3_checkIndex_8e157 : Cond.code yJ3_checkIndex_8e157 cJ3_checkIndex_8e157 3 (some (.int)) ∈ GT := mT 857 (by decide +kernel) rfl
theorem cd_X10_undoableCount : Cond.code yX10_undoableCount cX10_undoableCount 1 (some (.int)) ∈ GT := mT 862 (by decide +kernel) rfl
theorem cd_X10_save : Cond.code yX10_save cX10_save 1 (some (.int)) ∈ GT := mT 866 (by decide +kernel) rfl
theorem cd_X10_addCompartment : Cond.code yX10_addCompartment cX10_addCompartment 3 (some (.int)) ∈ GT := mT 875 (by decide +kernel) rfl
theorem cd_X8_faultOfAdding : Cond.code yX8_faultOfAdding cX8_faultOfAdding 3 (some ((.object "BallastControl$Fault"))) ∈ GT := mT 879 (by decide +kernel) rfl
theorem cd_X10_isWithin : Cond.code yX10_isWithin cX10_isWithin 3 (some (.boolean)) ∈ GT := mT 882 (by decide +kernel) rfl
theorem cd_X10_refuse : Cond.code yX10_refuse cX10_refuse 1 none ∈ GT := mT 891 (by decide +kernel) rfl
theorem cd_X4_keep : Cond.code yX4_keep cX4_keep 2 none ∈ GT := mT 949 (by decide +kernel) rfl
theorem cd_X5_add : Cond.code yX5_add cX5_add 4 (some (.int)) ∈ GT := mT 955 (by decide +kernel) rfl
theorem cd_Jx00060_init_a7421 : Cond.code yJx00060_init_a7421 cJx00060_init_a7421 2 none ∈ GT := mT 961 (by decide +kernel) rfl
theorem cd_X10_load : Cond.code yX10_load cX10_load 3 (some (.int)) ∈ GT := mT 965 (by decide +kernel) rfl
theorem cd_X8_faultOfLoading : Cond.code yX8_faultOfLoading cX8_faultOfLoading 4 (some ((.object "BallastControl$Fault"))) ∈ GT := mT 969 (by decide +kernel) rfl
theorem cd_X5_has : Cond.code yX5_has cX5_has 2 (some (.boolean)) ∈ GT := mT 973 (by decide +kernel) rfl
theorem cd_X1_put : Cond.code yX1_put cX1_put 3 (some (.int)) ∈ GT := mT 979 (by decide +kernel) rfl
theorem cd_X10_unload : Cond.code yX10_unload cX10_unload 2 (some (.int)) ∈ GT := mT 987 (by decide +kernel) rfl
theorem cd_X8_faultOfUnloading : Cond.code yX8_faultOfUnloading cX8_faultOfUnloading 2 (some ((.object "BallastControl$Fault"))) ∈ GT := mT 991 (by decide +kernel) rfl
theorem cd_X1_find : Cond.code yX1_find cX1_find 3 (some (.int)) ∈ GT := mT 995 (by decide +kernel) rfl
theorem cd_X1_remove : Cond.code yX1_remove cX1_remove 5 (some (.int)) ∈ GT := mT 1000 (by decide +kernel) rfl
theorem cd_X10_shift : Cond.code yX10_shift cX10_shift 3 (some (.int)) ∈ GT := mT 1008 (by decide +kernel) rfl
theorem cd_X8_faultOfShifting : Cond.code yX8_faultOfShifting cX8_faultOfShifting 4 (some ((.object "BallastControl$Fault"))) ∈ GT := mT 1012 (by decide +kernel) rfl
theorem cd_X1_carry : Cond.code yX1_carry cX1_carry 5 (some (.int)) ∈ GT := mT 1016 (by decide +kernel) rfl
theorem cd_X10_setLeak : Cond.code yX10_setLeak cX10_setLeak 4 (some (.int)) ∈ GT := mT 1023 (by decide +kernel) rfl
theorem cd_X8_faultOfRate : Cond.code yX8_faultOfRate cX8_faultOfRate 3 (some ((.object "BallastControl$Fault"))) ∈ GT := mT 1027 (by decide +kernel) rfl
theorem cd_X10_setPump : Cond.code yX10_setPump cX10_setPump 4 (some (.int)) ∈ GT := mT 1034 (by decide +kernel) rfl
theorem cd_X10_transfer : Cond.code yX10_transfer cX10_transfer 4 (some (.int)) ∈ GT := mT 1041 (by decide +kernel) rfl
theorem cd_X8_faultOfMoving : Cond.code yX8_faultOfMoving cX8_faultOfMoving 4 (some ((.object "BallastControl$Fault"))) ∈ GT := mT 1045 (by decide +kernel) rfl
theorem cd_X10_balance : Cond.code yX10_balance cX10_balance 3 (some (.int)) ∈ GT := mT 1053 (by decide +kernel) rfl
theorem cd_X10_faultOfAmount : Cond.code yX10_faultOfAmount cX10_faultOfAmount 1 (some ((.object "BallastControl$Fault"))) ∈ GT := mT 1056 (by decide +kernel) rfl
theorem cd_X2_improves : Cond.code yX2_improves cX2_improves 2 (some (.boolean)) ∈ GT := mT 1062 (by decide +kernel) rfl
theorem cd_X10_setPower : Cond.code yX10_setPower cX10_setPower 3 (some (.int)) ∈ GT := mT 1070 (by decide +kernel) rfl
theorem cd_X8_faultOfPower : Cond.code yX8_faultOfPower cX8_faultOfPower 2 (some ((.object "BallastControl$Fault"))) ∈ GT := mT 1074 (by decide +kernel) rfl
theorem cd_X10_setLimit : Cond.code yX10_setLimit cX10_setLimit 3 (some (.int)) ∈ GT := mT 1081 (by decide +kernel) rfl
theorem cd_X10_schedule : Cond.code yX10_schedule cX10_schedule 3 (some (.int)) ∈ GT := mT 1089 (by decide +kernel) rfl
theorem cd_X8_faultOfScheduling : Cond.code yX8_faultOfScheduling cX8_faultOfScheduling 4 (some ((.object "BallastControl$Fault"))) ∈ GT := mT 1093 (by decide +kernel) rfl
theorem cd_X9_find : Cond.code yX9_find cX9_find 3 (some (.int)) ∈ GT := mT 1097 (by decide +kernel) rfl
theorem cd_X9_add : Cond.code yX9_add cX9_add 4 none ∈ GT := mT 1101 (by decide +kernel) rfl
theorem cd_X10_cancelStorm : Cond.code yX10_cancelStorm cX10_cancelStorm 3 (some (.int)) ∈ GT := mT 1108 (by decide +kernel) rfl
theorem cd_X10_positionOfStorm : Cond.code yX10_positionOfStorm cX10_positionOfStorm 3 (some (.int)) ∈ GT := mT 1112 (by decide +kernel) rfl
theorem cd_X9_removeAt : Cond.code yX9_removeAt cX9_removeAt 4 (some (.int)) ∈ GT := mT 1118 (by decide +kernel) rfl
theorem cd_X10_pass : Cond.code yX10_pass cX10_pass 2 (some (.int)) ∈ GT := mT 1125 (by decide +kernel) rfl
theorem cd_X8_faultOfPassing : Cond.code yX8_faultOfPassing cX8_faultOfPassing 2 (some ((.object "BallastControl$Fault"))) ∈ GT := mT 1129 (by decide +kernel) rfl
theorem cd_X8_letPass : Cond.code yX8_letPass cX8_letPass 3 (some (.int)) ∈ GT := mT 1133 (by decide +kernel) rfl
theorem cd_X8_strikeIfScheduled : Cond.code yX8_strikeIfScheduled cX8_strikeIfScheduled 4 none ∈ GT := mT 1137 (by decide +kernel) rfl
theorem cd_X9_enterIntoLog : Cond.code yX9_enterIntoLog cX9_enterIntoLog 3 none ∈ GT := mT 1142 (by decide +kernel) rfl
theorem cd_X8_fullestCompartment : Cond.code yX8_fullestCompartment cX8_fullestCompartment 3 (some (.int)) ∈ GT := mT 1147 (by decide +kernel) rfl
theorem cd_X5_takeInLeaks : Cond.code yX5_takeInLeaks cX5_takeInLeaks 2 none ∈ GT := mT 1152 (by decide +kernel) rfl
theorem cd_X5_pumpOut : Cond.code yX5_pumpOut cX5_pumpOut 5 (some (.int)) ∈ GT := mT 1157 (by decide +kernel) rfl
theorem cd_X5_hasPower : Cond.code yX5_hasPower cX5_hasPower 3 (some (.boolean)) ∈ GT := mT 1161 (by decide +kernel) rfl
theorem cd_X5_canPump : Cond.code yX5_canPump cX5_canPump 2 (some (.boolean)) ∈ GT := mT 1165 (by decide +kernel) rfl
theorem cd_X5_pumpRank : Cond.code yX5_pumpRank cX5_pumpRank 4 (some (.int)) ∈ GT := mT 1169 (by decide +kernel) rfl
theorem cd_X5_pumpsBefore : Cond.code yX5_pumpsBefore cX5_pumpsBefore 3 (some (.boolean)) ∈ GT := mT 1173 (by decide +kernel) rfl
theorem cd_X10_arm : Cond.code yX10_arm cX10_arm 2 (some (.int)) ∈ GT := mT 1180 (by decide +kernel) rfl
theorem cd_X10_checkCompartment : Cond.code yX10_checkCompartment cX10_checkCompartment 2 none ∈ GT := mT 1184 (by decide +kernel) rfl
theorem cd_X10_capacity : Cond.code yX10_capacity cX10_capacity 2 (some (.int)) ∈ GT := mT 1192 (by decide +kernel) rfl
theorem cd_X10_water : Cond.code yX10_water cX10_water 2 (some (.int)) ∈ GT := mT 1199 (by decide +kernel) rfl
theorem cd_X10_leak : Cond.code yX10_leak cX10_leak 2 (some (.int)) ∈ GT := mT 1206 (by decide +kernel) rfl
theorem cd_X10_loadOf : Cond.code yX10_loadOf cX10_loadOf 2 (some (.int)) ∈ GT := mT 1213 (by decide +kernel) rfl
theorem cd_X10_wouldPump : Cond.code yX10_wouldPump cX10_wouldPump 2 (some (.boolean)) ∈ GT := mT 1221 (by decide +kernel) rfl
theorem cd_X10_pumpAt : Cond.code yX10_pumpAt cX10_pumpAt 3 (some (.int)) ∈ GT := mT 1229 (by decide +kernel) rfl
theorem cd_X10_minutesUntilFull : Cond.code yX10_minutesUntilFull cX10_minutesUntilFull 4 (some (.int)) ∈ GT := mT 1239 (by decide +kernel) rfl
theorem cd_X10_idAt : Cond.code yX10_idAt cX10_idAt 2 (some (.int)) ∈ GT := mT 1247 (by decide +kernel) rfl
theorem cd_X10_weightOf : Cond.code yX10_weightOf cX10_weightOf 2 (some (.int)) ∈ GT := mT 1255 (by decide +kernel) rfl
theorem cd_X10_positionOfPiece : Cond.code yX10_positionOfPiece cX10_positionOfPiece 3 (some (.int)) ∈ GT := mT 1259 (by decide +kernel) rfl
theorem cd_X10_compartmentOf : Cond.code yX10_compartmentOf cX10_compartmentOf 2 (some (.int)) ∈ GT := mT 1267 (by decide +kernel) rfl
theorem cd_X10_heaviestPiece : Cond.code yX10_heaviestPiece cX10_heaviestPiece 4 (some (.int)) ∈ GT := mT 1274 (by decide +kernel) rfl
theorem cd_X10_bestSource : Cond.code yX10_bestSource cX10_bestSource 2 (some (.int)) ∈ GT := mT 1282 (by decide +kernel) rfl
theorem cd_X10_findBestTransfer : Cond.code yX10_findBestTransfer cX10_findBestTransfer 2 none ∈ GT := mT 1286 (by decide +kernel) rfl
theorem cd_X10_bestTarget : Cond.code yX10_bestTarget cX10_bestTarget 2 (some (.int)) ∈ GT := mT 1294 (by decide +kernel) rfl
theorem cd_X10_bestMoment : Cond.code yX10_bestMoment cX10_bestMoment 2 (some (.int)) ∈ GT := mT 1301 (by decide +kernel) rfl
theorem cd_X10_transfersToBalance : Cond.code yX10_transfersToBalance cX10_transfersToBalance 6 (some (.int)) ∈ GT := mT 1308 (by decide +kernel) rfl
theorem cd_X10_bestShiftPiece : Cond.code yX10_bestShiftPiece cX10_bestShiftPiece 1 (some (.int)) ∈ GT := mT 1317 (by decide +kernel) rfl
theorem cd_X10_findBestShift : Cond.code yX10_findBestShift cX10_findBestShift 1 none ∈ GT := mT 1321 (by decide +kernel) rfl
theorem cd_X2_searchShifts : Cond.code yX2_searchShifts cX2_searchShifts 7 none ∈ GT := mT 1325 (by decide +kernel) rfl
theorem cd_X10_bestShiftCompartment : Cond.code yX10_bestShiftCompartment cX10_bestShiftCompartment 1 (some (.int)) ∈ GT := mT 1334 (by decide +kernel) rfl
theorem cd_X10_momentAfter : Cond.code yX10_momentAfter cX10_momentAfter 2 (some (.int)) ∈ GT := mT 1341 (by decide +kernel) rfl
theorem cd_X10_minutesUntilSunk : Cond.code yX10_minutesUntilSunk cX10_minutesUntilSunk 2 (some (.int)) ∈ GT := mT 1349 (by decide +kernel) rfl
theorem cd_X10_compartmentByLoad : Cond.code yX10_compartmentByLoad cX10_compartmentByLoad 3 (some (.int)) ∈ GT := mT 1357 (by decide +kernel) rfl
theorem cd_X8_loadRank : Cond.code yX8_loadRank cX8_loadRank 4 (some (.int)) ∈ GT := mT 1361 (by decide +kernel) rfl
theorem cd_X8_isLoadedBefore : Cond.code yX8_isLoadedBefore cX8_isLoadedBefore 4 (some (.boolean)) ∈ GT := mT 1365 (by decide +kernel) rfl
theorem cd_X10_nextStorm : Cond.code yX10_nextStorm cX10_nextStorm 1 (some (.int)) ∈ GT := mT 1372 (by decide +kernel) rfl
theorem cd_X10_strengthAt : Cond.code yX10_strengthAt cX10_strengthAt 2 (some (.int)) ∈ GT := mT 1380 (by decide +kernel) rfl
theorem cd_X10_loggedMinute : Cond.code yX10_loggedMinute cX10_loggedMinute 2 (some (.int)) ∈ GT := mT 1387 (by decide +kernel) rfl
theorem cd_X10_meanWater : Cond.code yX10_meanWater cX10_meanWater 1 (some (.double)) ∈ GT := mT 1409 (by decide +kernel) rfl
theorem cd_X10_checkForMean : Cond.code yX10_checkForMean cX10_checkForMean 1 none ∈ GT := mT 1413 (by decide +kernel) rfl
theorem cd_X10_fillShare : Cond.code yX10_fillShare cX10_fillShare 1 (some (.float)) ∈ GT := mT 1424 (by decide +kernel) rfl
theorem cd_X5_totalCapacity : Cond.code yX5_totalCapacity cX5_totalCapacity 3 (some (.int)) ∈ GT := mT 1428 (by decide +kernel) rfl
theorem cd_X10_formatCompartment : Cond.code yX10_formatCompartment cX10_formatCompartment 3 (some (.int)) ∈ GT := mT 1435 (by decide +kernel) rfl
theorem cd_X10_formatCargo : Cond.code yX10_formatCargo cX10_formatCargo 4 (some (.int)) ∈ GT := mT 1447 (by decide +kernel) rfl
theorem cd_X10_lineChar : Cond.code yX10_lineChar cX10_lineChar 2 (some (.char)) ∈ GT := mT 1454 (by decide +kernel) rfl
theorem cd_J4_charAt_5068e : Cond.code yJ4_charAt_5068e cJ4_charAt_5068e 2 (some (.char)) ∈ GT := mT 1459 (by decide +kernel) rfl
theorem cd_J5_charAt_5068e : Cond.code yJ5_charAt_5068e cJ5_charAt_5068e 5 (some (.char)) ∈ GT := mT 1462 (by decide +kernel) rfl
theorem cd_X10_append : Cond.code yX10_append cX10_append 2 (some (.int)) ∈ GT := mT 1472 (by decide +kernel) rfl
theorem cd_X10_run : Cond.code yX10_run cX10_run 4 (some (.int)) ∈ GT := mT 1481 (by decide +kernel) rfl
theorem cd_X7_parse : Cond.code yX7_parse cX7_parse 3 (some (.boolean)) ∈ GT := mT 1485 (by decide +kernel) rfl
theorem cd_X7_readKeyword : Cond.code yX7_readKeyword cX7_readKeyword 7 (some ((.object "BallastControl$Keyword"))) ∈ GT := mT 1489 (by decide +kernel) rfl
theorem cd_X7_countMatching : Cond.code yX7_countMatching cX7_countMatching 3 (some (.int)) ∈ GT := mT 1495 (by decide +kernel) rfl
theorem cd_J0_charAt_5068e : Cond.code yJ0_charAt_5068e cJ0_charAt_5068e 2 (some (.char)) ∈ GT := mT 1500 (by decide +kernel) rfl
theorem cd_J0_isLatin1_aae02 : Cond.code yJ0_isLatin1_aae02 cJ0_isLatin1_aae02 1 (some (.boolean)) ∈ GT := mT 1504 (by decide +kernel) rfl
theorem cd_J1_charAt_3b067 : Cond.code yJ1_charAt_3b067 cJ1_charAt_3b067 2 (some (.char)) ∈ GT := mT 1507 (by decide +kernel) rfl
theorem cd_J2_charAt_3b067 : Cond.code yJ2_charAt_3b067 cJ2_charAt_3b067 2 (some (.char)) ∈ GT := mT 1511 (by decide +kernel) rfl
theorem cd_X7_isAt : Cond.code yX7_isAt cX7_isAt 3 (some (.boolean)) ∈ GT := mT 1515 (by decide +kernel) rfl
theorem cd_X7_readArguments : Cond.code yX7_readArguments cX7_readArguments 6 (some (.boolean)) ∈ GT := mT 1522 (by decide +kernel) rfl
theorem cd_X7_take : Cond.code yX7_take cX7_take 3 (some (.boolean)) ∈ GT := mT 1526 (by decide +kernel) rfl
theorem cd_X7_readValue : Cond.code yX7_readValue cX7_readValue 5 (some (.boolean)) ∈ GT := mT 1530 (by decide +kernel) rfl
theorem cd_X7_isDigitAt : Cond.code yX7_isDigitAt cX7_isDigitAt 2 (some (.boolean)) ∈ GT := mT 1534 (by decide +kernel) rfl
theorem cd_X10_faultOf : Cond.code yX10_faultOf cX10_faultOf 5 (some ((.object "BallastControl$Fault"))) ∈ GT := mT 1539 (by decide +kernel) rfl
theorem cd_Jx29ce0_ordinal_8abf5 : Cond.code yJx29ce0_ordinal_8abf5 cJx29ce0_ordinal_8abf5 1 (some (.int)) ∈ GT := mT 1547 (by decide +kernel) rfl
theorem cd_X10_carryOut : Cond.code yX10_carryOut cX10_carryOut 5 none ∈ GT := mT 1552 (by decide +kernel) rfl
theorem cd_X10_errorPosition : Cond.code yX10_errorPosition cX10_errorPosition 1 (some (.int)) ∈ GT := mT 1559 (by decide +kernel) rfl
theorem cd_X10_failedCommand : Cond.code yX10_failedCommand cX10_failedCommand 1 (some (.int)) ∈ GT := mT 1567 (by decide +kernel) rfl
theorem cd_X10_undo : Cond.code yX10_undo cX10_undo 1 (some (.int)) ∈ GT := mT 1575 (by decide +kernel) rfl
theorem cd_X4_takeLatest : Cond.code yX4_takeLatest cX4_takeLatest 1 (some ((.object "BallastControl$Ship"))) ∈ GT := mT 1580 (by decide +kernel) rfl
theorem cd_X10_restore : Cond.code yX10_restore cX10_restore 1 (some (.int)) ∈ GT := mT 1587 (by decide +kernel) rfl
theorem cd_X4_clear : Cond.code yX4_clear cX4_clear 1 none ∈ GT := mT 1592 (by decide +kernel) rfl
theorem cd_X11_init : Cond.code yX11_init cX11_init 1 none ∈ GT := mT 1597 (by decide +kernel) rfl
theorem cd_X11_thrown : Cond.code yX11_thrown cX11_thrown 1 (some (.int)) ∈ GT := mT 1649 (by decide +kernel) rfl
theorem cd_X11_addCompartment : Cond.code yX11_addCompartment cX11_addCompartment 3 (some (.int)) ∈ GT := mT 1653 (by decide +kernel) rfl
theorem cd_X11_begins : Cond.code yX11_begins cX11_begins 1 none ∈ GT := mT 1657 (by decide +kernel) rfl
theorem cd_X11_copies : Cond.code yX11_copies cX11_copies 4 none ∈ GT := mT 1661 (by decide +kernel) rfl
theorem cd_X11_adds : Cond.code yX11_adds cX11_adds 4 (some (.int)) ∈ GT := mT 1665 (by decide +kernel) rfl
theorem cd_X11_in : Cond.code yX11_in cX11_in 3 (some (.boolean)) ∈ GT := mT 1668 (by decide +kernel) rfl
theorem cd_X11_set : Cond.code yX11_set cX11_set 4 none ∈ GT := mT 1672 (by decide +kernel) rfl
theorem cd_X11_ends : Cond.code yX11_ends cX11_ends 7 (some (.int)) ∈ GT := mT 1676 (by decide +kernel) rfl
theorem cd_X11_load : Cond.code yX11_load cX11_load 3 (some (.int)) ∈ GT := mT 1680 (by decide +kernel) rfl
theorem cd_X11_loads : Cond.code yX11_loads cX11_loads 4 (some (.int)) ∈ GT := mT 1684 (by decide +kernel) rfl
theorem cd_X11_isTank : Cond.code yX11_isTank cX11_isTank 2 (some (.boolean)) ∈ GT := mT 1688 (by decide +kernel) rfl
theorem cd_X11_total : Cond.code yX11_total cX11_total 3 (some (.int)) ∈ GT := mT 1692 (by decide +kernel) rfl
theorem cd_X11_laden : Cond.code yX11_laden cX11_laden 2 (some (.int)) ∈ GT := mT 1696 (by decide +kernel) rfl
theorem cd_X11_c : Cond.code yX11_c cX11_c 3 (some (.int)) ∈ GT := mT 1700 (by decide +kernel) rfl
theorem cd_X11_cargo : Cond.code yX11_cargo cX11_cargo 4 (some (.int)) ∈ GT := mT 1704 (by decide +kernel) rfl
theorem cd_X11_lies : Cond.code yX11_lies cX11_lies 2 (some (.int)) ∈ GT := mT 1708 (by decide +kernel) rfl
theorem cd_X11_heavy : Cond.code yX11_heavy cX11_heavy 2 (some (.int)) ∈ GT := mT 1712 (by decide +kernel) rfl
theorem cd_X11_unload : Cond.code yX11_unload cX11_unload 2 (some (.int)) ∈ GT := mT 1716 (by decide +kernel) rfl
theorem cd_X11_unloads : Cond.code yX11_unloads cX11_unloads 5 (some (.int)) ∈ GT := mT 1720 (by decide +kernel) rfl
theorem cd_X11_piece : Cond.code yX11_piece cX11_piece 3 (some (.int)) ∈ GT := mT 1724 (by decide +kernel) rfl
theorem cd_X11_idOf : Cond.code yX11_idOf cX11_idOf 2 (some (.int)) ∈ GT := mT 1728 (by decide +kernel) rfl
theorem cd_X11_shift : Cond.code yX11_shift cX11_shift 3 (some (.int)) ∈ GT := mT 1732 (by decide +kernel) rfl
theorem cd_X11_shifts : Cond.code yX11_shifts cX11_shifts 4 (some (.int)) ∈ GT := mT 1736 (by decide +kernel) rfl
theorem cd_X11_setLeak : Cond.code yX11_setLeak cX11_setLeak 3 (some (.int)) ∈ GT := mT 1740 (by decide +kernel) rfl
theorem cd_X11_rates : Cond.code yX11_rates cX11_rates 4 (some (.int)) ∈ GT := mT 1744 (by decide +kernel) rfl
theorem cd_X11_setPump : Cond.code yX11_setPump cX11_setPump 3 (some (.int)) ∈ GT := mT 1748 (by decide +kernel) rfl
theorem cd_X11_transfer : Cond.code yX11_transfer cX11_transfer 4 (some (.int)) ∈ GT := mT 1752 (by decide +kernel) rfl
theorem cd_X11_transfers : Cond.code yX11_transfers cX11_transfers 4 (some (.int)) ∈ GT := mT 1756 (by decide +kernel) rfl
theorem cd_X11_isAmount : Cond.code yX11_isAmount cX11_isAmount 1 (some (.boolean)) ∈ GT := mT 1759 (by decide +kernel) rfl
theorem cd_X11_isPossible : Cond.code yX11_isPossible cX11_isPossible 4 (some (.boolean)) ∈ GT := mT 1763 (by decide +kernel) rfl
theorem cd_X11_moves : Cond.code yX11_moves cX11_moves 4 none ∈ GT := mT 1767 (by decide +kernel) rfl
theorem cd_X11_turning : Cond.code yX11_turning cX11_turning 3 (some (.int)) ∈ GT := mT 1771 (by decide +kernel) rfl
theorem cd_X11_balance : Cond.code yX11_balance cX11_balance 2 (some (.int)) ∈ GT := mT 1775 (by decide +kernel) rfl
theorem cd_X11_balances : Cond.code yX11_balances cX11_balances 4 (some (.int)) ∈ GT := mT 1779 (by decide +kernel) rfl
theorem cd_X11_best : Cond.code yX11_best cX11_best 8 (some (.int)) ∈ GT := mT 1783 (by decide +kernel) rfl
theorem cd_X11_size : Cond.code yX11_size cX11_size 1 (some (.int)) ∈ GT := mT 1786 (by decide +kernel) rfl
theorem cd_X11_setPower : Cond.code yX11_setPower cX11_setPower 2 (some (.int)) ∈ GT := mT 1790 (by decide +kernel) rfl
theorem cd_X11_turns : Cond.code yX11_turns cX11_turns 5 (some (.int)) ∈ GT := mT 1794 (by decide +kernel) rfl
theorem cd_X11_setLimit : Cond.code yX11_setLimit cX11_setLimit 2 (some (.int)) ∈ GT := mT 1798 (by decide +kernel) rfl
theorem cd_X11_schedule : Cond.code yX11_schedule cX11_schedule 3 (some (.int)) ∈ GT := mT 1802 (by decide +kernel) rfl
theorem cd_X11_plans : Cond.code yX11_plans cX11_plans 3 (some (.int)) ∈ GT := mT 1806 (by decide +kernel) rfl
theorem cd_X11_storm : Cond.code yX11_storm cX11_storm 3 (some (.int)) ∈ GT := mT 1810 (by decide +kernel) rfl
theorem cd_X11_cancelStorm : Cond.code yX11_cancelStorm cX11_cancelStorm 2 (some (.int)) ∈ GT := mT 1814 (by decide +kernel) rfl
theorem cd_X11_cancels : Cond.code yX11_cancels cX11_cancels 3 (some (.int)) ∈ GT := mT 1818 (by decide +kernel) rfl
theorem cd_X11_passesBy : Cond.code yX11_passesBy cX11_passesBy 5 (some (.int)) ∈ GT := mT 1822 (by decide +kernel) rfl
theorem cd_X11_pass : Cond.code yX11_pass cX11_pass 2 (some (.int)) ∈ GT := mT 1826 (by decide +kernel) rfl
theorem cd_X11_passes : Cond.code yX11_passes cX11_passes 3 (some (.int)) ∈ GT := mT 1830 (by decide +kernel) rfl
theorem cd_X11_ticks : Cond.code yX11_ticks cX11_ticks 4 none ∈ GT := mT 1834 (by decide +kernel) rfl
theorem cd_X11_strikes : Cond.code yX11_strikes cX11_strikes 6 none ∈ GT := mT 1838 (by decide +kernel) rfl
theorem cd_X11_runs : Cond.code yX11_runs cX11_runs 2 (some (.boolean)) ∈ GT := mT 1842 (by decide +kernel) rfl
theorem cd_X11_isPumped : Cond.code yX11_isPumped cX11_isPumped 2 (some (.boolean)) ∈ GT := mT 1846 (by decide +kernel) rfl
theorem cd_X11_ahead : Cond.code yX11_ahead cX11_ahead 4 (some (.int)) ∈ GT := mT 1850 (by decide +kernel) rfl
theorem cd_X11_minute : Cond.code yX11_minute cX11_minute 1 (some (.int)) ∈ GT := mT 1854 (by decide +kernel) rfl
theorem cd_X11_told : Cond.code yX11_told cX11_told 2 (some (.int)) ∈ GT := mT 1858 (by decide +kernel) rfl
theorem cd_X11_compartmentCount : Cond.code yX11_compartmentCount cX11_compartmentCount 1 (some (.int)) ∈ GT := mT 1862 (by decide +kernel) rfl
theorem cd_X11_arm : Cond.code yX11_arm cX11_arm 2 (some (.int)) ∈ GT := mT 1866 (by decide +kernel) rfl
theorem cd_X11_ofTank : Cond.code yX11_ofTank cX11_ofTank 3 (some (.int)) ∈ GT := mT 1870 (by decide +kernel) rfl
theorem cd_X11_isFine : Cond.code yX11_isFine cX11_isFine 2 (some (.boolean)) ∈ GT := mT 1874 (by decide +kernel) rfl
theorem cd_X11_capacity : Cond.code yX11_capacity cX11_capacity 2 (some (.int)) ∈ GT := mT 1878 (by decide +kernel) rfl
theorem cd_X11_water : Cond.code yX11_water cX11_water 2 (some (.int)) ∈ GT := mT 1882 (by decide +kernel) rfl
theorem cd_X11_leak : Cond.code yX11_leak cX11_leak 2 (some (.int)) ∈ GT := mT 1886 (by decide +kernel) rfl
theorem cd_X11_loadOf : Cond.code yX11_loadOf cX11_loadOf 2 (some (.int)) ∈ GT := mT 1890 (by decide +kernel) rfl
theorem cd_X11_wouldPump : Cond.code yX11_wouldPump cX11_wouldPump 2 (some (.boolean)) ∈ GT := mT 1894 (by decide +kernel) rfl
theorem cd_X11_pumpAt : Cond.code yX11_pumpAt cX11_pumpAt 3 (some (.int)) ∈ GT := mT 1898 (by decide +kernel) rfl
theorem cd_X11_minutesUntilFull : Cond.code yX11_minutesUntilFull cX11_minutesUntilFull 4 (some (.int)) ∈ GT := mT 1902 (by decide +kernel) rfl
theorem cd_X11_pieceCount : Cond.code yX11_pieceCount cX11_pieceCount 1 (some (.int)) ∈ GT := mT 1906 (by decide +kernel) rfl
theorem cd_X11_idAt : Cond.code yX11_idAt cX11_idAt 2 (some (.int)) ∈ GT := mT 1910 (by decide +kernel) rfl
theorem cd_X11_weightOf : Cond.code yX11_weightOf cX11_weightOf 2 (some (.int)) ∈ GT := mT 1914 (by decide +kernel) rfl
theorem cd_X11_compartmentOf : Cond.code yX11_compartmentOf cX11_compartmentOf 2 (some (.int)) ∈ GT := mT 1918 (by decide +kernel) rfl
theorem cd_X11_heaviestPiece : Cond.code yX11_heaviestPiece cX11_heaviestPiece 3 (some (.int)) ∈ GT := mT 1922 (by decide +kernel) rfl
theorem cd_X11_weight : Cond.code yX11_weight cX11_weight 1 (some (.int)) ∈ GT := mT 1926 (by decide +kernel) rfl
theorem cd_X11_weightByParts : Cond.code yX11_weightByParts cX11_weightByParts 1 (some (.int)) ∈ GT := mT 1930 (by decide +kernel) rfl
theorem cd_X11_moment : Cond.code yX11_moment cX11_moment 1 (some (.int)) ∈ GT := mT 1935 (by decide +kernel) rfl
theorem cd_X11_momentByParts : Cond.code yX11_momentByParts cX11_momentByParts 1 (some (.int)) ∈ GT := mT 1939 (by decide +kernel) rfl
theorem cd_X11_trim : Cond.code yX11_trim cX11_trim 1 (some (.int)) ∈ GT := mT 1944 (by decide +kernel) rfl
theorem cd_X11_isBalanced : Cond.code yX11_isBalanced cX11_isBalanced 1 (some (.boolean)) ∈ GT := mT 1948 (by decide +kernel) rfl
theorem cd_X11_isAfloat : Cond.code yX11_isAfloat cX11_isAfloat 1 (some (.boolean)) ∈ GT := mT 1953 (by decide +kernel) rfl
theorem cd_X11_bestSource : Cond.code yX11_bestSource cX11_bestSource 2 (some (.int)) ∈ GT := mT 1957 (by decide +kernel) rfl
theorem cd_X11_advice : Cond.code yX11_advice cX11_advice 3 (some (.int)) ∈ GT := mT 1961 (by decide +kernel) rfl
theorem cd_X11_bestTarget : Cond.code yX11_bestTarget cX11_bestTarget 2 (some (.int)) ∈ GT := mT 1965 (by decide +kernel) rfl
theorem cd_X11_bestMoment : Cond.code yX11_bestMoment cX11_bestMoment 3 (some (.int)) ∈ GT := mT 1969 (by decide +kernel) rfl
theorem cd_X11_transfersToBalance : Cond.code yX11_transfersToBalance cX11_transfersToBalance 4 (some (.int)) ∈ GT := mT 1973 (by decide +kernel) rfl
theorem cd_X11_isEven : Cond.code yX11_isEven cX11_isEven 1 (some (.boolean)) ∈ GT := mT 1977 (by decide +kernel) rfl
theorem cd_X11_bestShiftPiece : Cond.code yX11_bestShiftPiece cX11_bestShiftPiece 2 (some (.int)) ∈ GT := mT 1981 (by decide +kernel) rfl
theorem cd_X11_bestShift : Cond.code yX11_bestShift cX11_bestShift 7 (some (.int)) ∈ GT := mT 1985 (by decide +kernel) rfl
theorem cd_X11_bestShiftCompartment : Cond.code yX11_bestShiftCompartment cX11_bestShiftCompartment 2 (some (.int)) ∈ GT := mT 1989 (by decide +kernel) rfl
theorem cd_X11_momentAfter : Cond.code yX11_momentAfter cX11_momentAfter 3 (some (.int)) ∈ GT := mT 1993 (by decide +kernel) rfl
theorem cd_X11_minutesUntilSunk : Cond.code yX11_minutesUntilSunk cX11_minutesUntilSunk 3 (some (.int)) ∈ GT := mT 1997 (by decide +kernel) rfl
theorem cd_X11_compartmentByLoad : Cond.code yX11_compartmentByLoad cX11_compartmentByLoad 7 (some (.int)) ∈ GT := mT 2001 (by decide +kernel) rfl
theorem cd_X11_stormCount : Cond.code yX11_stormCount cX11_stormCount 1 (some (.int)) ∈ GT := mT 2005 (by decide +kernel) rfl
theorem cd_X11_nextStorm : Cond.code yX11_nextStorm cX11_nextStorm 3 (some (.int)) ∈ GT := mT 2009 (by decide +kernel) rfl
theorem cd_X11_strengthAt : Cond.code yX11_strengthAt cX11_strengthAt 2 (some (.int)) ∈ GT := mT 2013 (by decide +kernel) rfl
theorem cd_X11_loggedMinute : Cond.code yX11_loggedMinute cX11_loggedMinute 2 (some (.int)) ∈ GT := mT 2017 (by decide +kernel) rfl
theorem cd_X11_pumpedTotal : Cond.code yX11_pumpedTotal cX11_pumpedTotal 1 (some (.long)) ∈ GT := mT 2021 (by decide +kernel) rfl
theorem cd_X11_meanWater : Cond.code yX11_meanWater cX11_meanWater 1 (some (.double)) ∈ GT := mT 2025 (by decide +kernel) rfl
theorem cd_X11_sum : Cond.code yX11_sum cX11_sum 4 (some (.int)) ∈ GT := mT 2029 (by decide +kernel) rfl
theorem cd_X11_fillShare : Cond.code yX11_fillShare cX11_fillShare 1 (some (.float)) ∈ GT := mT 2033 (by decide +kernel) rfl
theorem cd_X11_isConsistent : Cond.code yX11_isConsistent cX11_isConsistent 1 (some (.boolean)) ∈ GT := mT 2037 (by decide +kernel) rfl
theorem cd_X11_formatCompartment : Cond.code yX11_formatCompartment cX11_formatCompartment 2 (some (.int)) ∈ GT := mT 2041 (by decide +kernel) rfl
theorem cd_X11_writesBehind : Cond.code yX11_writesBehind cX11_writesBehind 3 none ∈ GT := mT 2045 (by decide +kernel) rfl
theorem cd_X11_writes : Cond.code yX11_writes cX11_writes 2 none ∈ GT := mT 2049 (by decide +kernel) rfl
theorem cd_X11_writesNumber : Cond.code yX11_writesNumber cX11_writesNumber 3 none ∈ GT := mT 2053 (by decide +kernel) rfl
theorem cd_X11_formatCargo : Cond.code yX11_formatCargo cX11_formatCargo 3 (some (.int)) ∈ GT := mT 2057 (by decide +kernel) rfl
theorem cd_X11_formatStorms : Cond.code yX11_formatStorms cX11_formatStorms 6 (some (.int)) ∈ GT := mT 2061 (by decide +kernel) rfl
theorem cd_X11_lineChar : Cond.code yX11_lineChar cX11_lineChar 2 (some (.char)) ∈ GT := mT 2065 (by decide +kernel) rfl
theorem cd_X11_append : Cond.code yX11_append cX11_append 2 (some (.int)) ∈ GT := mT 2069 (by decide +kernel) rfl
theorem cd_X11_run : Cond.code yX11_run cX11_run 3 (some (.int)) ∈ GT := mT 2073 (by decide +kernel) rfl
theorem cd_X11_parse : Cond.code yX11_parse cX11_parse 1 none ∈ GT := mT 2077 (by decide +kernel) rfl
theorem cd_X11_command : Cond.code yX11_command cX11_command 4 none ∈ GT := mT 2081 (by decide +kernel) rfl
theorem cd_X11_sign : Cond.code yX11_sign cX11_sign 1 (some (.int)) ∈ GT := mT 2085 (by decide +kernel) rfl
theorem cd_X11_word : Cond.code yX11_word cX11_word 3 (some (.int)) ∈ GT := mT 2089 (by decide +kernel) rfl
theorem cd_X11_letters : Cond.code yX11_letters cX11_letters 4 none ∈ GT := mT 2093 (by decide +kernel) rfl
theorem cd_X11_needs : Cond.code yX11_needs cX11_needs 2 none ∈ GT := mT 2097 (by decide +kernel) rfl
theorem cd_X11_signed : Cond.code yX11_signed cX11_signed 3 (some (.int)) ∈ GT := mT 2101 (by decide +kernel) rfl
theorem cd_X11_digits : Cond.code yX11_digits cX11_digits 4 (some (.int)) ∈ GT := mT 2105 (by decide +kernel) rfl
theorem cd_X11_number : Cond.code yX11_number cX11_number 2 (some (.int)) ∈ GT := mT 2109 (by decide +kernel) rfl
theorem cd_X11_does : Cond.code yX11_does cX11_does 4 (some (.int)) ∈ GT := mT 2113 (by decide +kernel) rfl
theorem cd_X11_errorPosition : Cond.code yX11_errorPosition cX11_errorPosition 1 (some (.int)) ∈ GT := mT 2117 (by decide +kernel) rfl
theorem cd_X11_failedCommand : Cond.code yX11_failedCommand cX11_failedCommand 1 (some (.int)) ∈ GT := mT 2121 (by decide +kernel) rfl
theorem cd_X11_undoableCount : Cond.code yX11_undoableCount cX11_undoableCount 1 (some (.int)) ∈ GT := mT 2125 (by decide +kernel) rfl
theorem cd_X11_undo : Cond.code yX11_undo cX11_undo 1 (some (.int)) ∈ GT := mT 2129 (by decide +kernel) rfl
theorem cd_X11_save : Cond.code yX11_save cX11_save 1 (some (.int)) ∈ GT := mT 2133 (by decide +kernel) rfl
theorem cd_X11_restore : Cond.code yX11_restore cX11_restore 1 (some (.int)) ∈ GT := mT 2137 (by decide +kernel) rfl
theorem in_L : Cond.initialized RL ∈ GT := mT 0 (by decide +kernel) rfl
theorem in_X10 : Cond.initialized RX10 ∈ GT := mT 1 (by decide +kernel) rfl
theorem in_X8 : Cond.initialized RX8 ∈ GT := mT 2 (by decide +kernel) rfl
theorem in_X5 : Cond.initialized RX5 ∈ GT := mT 3 (by decide +kernel) rfl
theorem in_X1 : Cond.initialized RX1 ∈ GT := mT 4 (by decide +kernel) rfl
theorem in_X9 : Cond.initialized RX9 ∈ GT := mT 5 (by decide +kernel) rfl
theorem in_X4 : Cond.initialized RX4 ∈ GT := mT 6 (by decide +kernel) rfl
theorem in_X2 : Cond.initialized RX2 ∈ GT := mT 7 (by decide +kernel) rfl
theorem in_J5 : Cond.initialized RJ5 ∈ GT := mT 8 (by decide +kernel) rfl
theorem in_J4 : Cond.initialized RJ4 ∈ GT := mT 9 (by decide +kernel) rfl
theorem in_J0 : Cond.initialized RJ0 ∈ GT := mT 10 (by decide +kernel) rfl
theorem in_J2 : Cond.initialized RJ2 ∈ GT := mT 11 (by decide +kernel) rfl
theorem in_X7 : Cond.initialized RX7 ∈ GT := mT 12 (by decide +kernel) rfl
theorem in_Jx29ce0 : Cond.initialized RJx29ce0 ∈ GT := mT 13 (by decide +kernel) rfl
theorem in_X6 : Cond.initialized RX6 ∈ GT := mT 14 (by decide +kernel) rfl
theorem in_X11 : Cond.initialized RX11 ∈ GT := mT 15 (by decide +kernel) rfl
theorem in_X3 : Cond.initialized RX3 ∈ GT := mT 16 (by decide +kernel) rfl
theorem in_J10 : Cond.initialized RJ10 ∈ GT := mT 24 (by decide +kernel) rfl
theorem in_J9 : Cond.initialized RJ9 ∈ GT := mT 25 (by decide +kernel) rfl
theorem in_Jx00060 : Cond.initialized RJx00060 ∈ GT := mT 26 (by decide +kernel) rfl
theorem in_Jx7c733 : Cond.initialized RJx7c733 ∈ GT := mT 28 (by decide +kernel) rfl
theorem in_J8 : Cond.initialized RJ8 ∈ GT := mT 29 (by decide +kernel) rfl
theorem in_J7 : Cond.initialized RJ7 ∈ GT := mT 30 (by decide +kernel) rfl
theorem in_J3 : Cond.initialized RJ3 ∈ GT := mT 31 (by decide +kernel) rfl
theorem in_J1 : Cond.initialized RJ1 ∈ GT := mT 32 (by decide +kernel) rfl
theorem in_Jxd2413 : Cond.initialized RJxd2413 ∈ GT := mT 33 (by decide +kernel) rfl
theorem in_J6 : Cond.initialized RJ6 ∈ GT := mT 34 (by decide +kernel) rfl
theorem in_X0 : Cond.initialized RX0 ∈ GT := mT 35 (by decide +kernel) rfl
theorem ln_L_172 : Cond.methodLink RL 172 yX10_init ∈ GT := mT 38 (by decide +kernel) rfl
theorem im_X10_init : Cond.instanceMethod yX10_init ∈ GT := mT 39 (by decide +kernel) rfl
theorem im_X8_init : Cond.instanceMethod yX8_init ∈ GT := mT 47 (by decide +kernel) rfl
theorem im_X5_init : Cond.instanceMethod yX5_init ∈ GT := mT 53 (by decide +kernel) rfl
theorem im_X1_init : Cond.instanceMethod yX1_init ∈ GT := mT 95 (by decide +kernel) rfl
theorem im_X9_init : Cond.instanceMethod yX9_init ∈ GT := mT 128 (by decide +kernel) rfl
theorem ln_X10_27 : Cond.methodLink RX10 27 yX4_init ∈ GT := mT 190 (by decide +kernel) rfl
theorem im_X4_init : Cond.instanceMethod yX4_init ∈ GT := mT 191 (by decide +kernel) rfl
theorem im_X2_init : Cond.instanceMethod yX2_init ∈ GT := mT 211 (by decide +kernel) rfl
theorem ln_X10_41 : Cond.methodLink RX10 41 yJ4_init_da8c8 ∈ GT := mT 233 (by decide +kernel) rfl
theorem im_J4_init_da8c8 : Cond.instanceMethod yJ4_init_da8c8 ∈ GT := mT 234 (by decide +kernel) rfl
theorem ln_J4_1 : Cond.methodLink RJ4 1 yJ5_init_d00df ∈ GT := mT 236 (by decide +kernel) rfl
theorem im_J5_init_d00df : Cond.instanceMethod yJ5_init_d00df ∈ GT := mT 237 (by decide +kernel) rfl
theorem ln_J5_26 : Cond.methodLink RJ5 26 yJ2_newBytesFor_77867 ∈ GT := mT 242 (by decide +kernel) rfl
theorem st_J2_newBytesFor_77867 : Cond.static yJ2_newBytesFor_77867 ∈ GT := mT 243 (by decide +kernel) rfl
theorem ln_J2_11 : Cond.methodLink RJ2 11 yJ2_newBytesLength_0f7a4 ∈ GT := mT 245 (by decide +kernel) rfl
theorem st_J2_newBytesLength_0f7a4 : Cond.static yJ2_newBytesLength_0f7a4 ∈ GT := mT 246 (by decide +kernel) rfl
theorem ln_X10_51 : Cond.methodLink RX10 51 yX7_init ∈ GT := mT 266 (by decide +kernel) rfl
theorem im_X7_init : Cond.instanceMethod yX7_init ∈ GT := mT 267 (by decide +kernel) rfl
theorem ln_L_223 : Cond.methodLink RL 223 yX10_minute ∈ GT := mT 342 (by decide +kernel) rfl
theorem im_X10_minute : Cond.instanceMethod yX10_minute ∈ GT := mT 343 (by decide +kernel) rfl
theorem se_X10_minute : Cond.selects RX10 yX10_minute yX10_minute ∈ GT := mT 344 (by decide +kernel) rfl
theorem ln_L_227 : Cond.methodLink RL 227 yX10_compartmentCount ∈ GT := mT 346 (by decide +kernel) rfl
theorem im_X10_compartmentCount : Cond.instanceMethod yX10_compartmentCount ∈ GT := mT 347 (by decide +kernel) rfl
theorem se_X10_compartmentCount : Cond.selects RX10 yX10_compartmentCount yX10_compartmentCount ∈ GT := mT 348 (by decide +kernel) rfl
theorem ln_L_255 : Cond.methodLink RL 255 yX10_pieceCount ∈ GT := mT 350 (by decide +kernel) rfl
theorem im_X10_pieceCount : Cond.instanceMethod yX10_pieceCount ∈ GT := mT 351 (by decide +kernel) rfl
theorem se_X10_pieceCount : Cond.selects RX10 yX10_pieceCount yX10_pieceCount ∈ GT := mT 352 (by decide +kernel) rfl
theorem ln_L_272 : Cond.methodLink RL 272 yX10_weight ∈ GT := mT 354 (by decide +kernel) rfl
theorem im_X10_weight : Cond.instanceMethod yX10_weight ∈ GT := mT 355 (by decide +kernel) rfl
theorem se_X10_weight : Cond.selects RX10 yX10_weight yX10_weight ∈ GT := mT 356 (by decide +kernel) rfl
theorem ln_X10_255 : Cond.methodLink RX10 255 yX8_totalWeight ∈ GT := mT 358 (by decide +kernel) rfl
theorem im_X8_totalWeight : Cond.instanceMethod yX8_totalWeight ∈ GT := mT 359 (by decide +kernel) rfl
theorem se_X8_totalWeight : Cond.selects RX8 yX8_totalWeight yX8_totalWeight ∈ GT := mT 360 (by decide +kernel) rfl
theorem ln_X8_135 : Cond.methodLink RX8 135 yX8_loadIn ∈ GT := mT 362 (by decide +kernel) rfl
theorem im_X8_loadIn : Cond.instanceMethod yX8_loadIn ∈ GT := mT 363 (by decide +kernel) rfl
theorem se_X8_loadIn : Cond.selects RX8 yX8_loadIn yX8_loadIn ∈ GT := mT 364 (by decide +kernel) rfl
theorem ln_X8_141 : Cond.methodLink RX8 141 yX1_weightIn ∈ GT := mT 366 (by decide +kernel) rfl
theorem im_X1_weightIn : Cond.instanceMethod yX1_weightIn ∈ GT := mT 367 (by decide +kernel) rfl
theorem se_X1_weightIn : Cond.selects RX1 yX1_weightIn yX1_weightIn ∈ GT := mT 368 (by decide +kernel) rfl
theorem ln_L_276 : Cond.methodLink RL 276 yX10_weightByParts ∈ GT := mT 370 (by decide +kernel) rfl
theorem im_X10_weightByParts : Cond.instanceMethod yX10_weightByParts ∈ GT := mT 371 (by decide +kernel) rfl
theorem se_X10_weightByParts : Cond.selects RX10 yX10_weightByParts yX10_weightByParts ∈ GT := mT 372 (by decide +kernel) rfl
theorem ln_X10_258 : Cond.methodLink RX10 258 yX8_weightOfParts ∈ GT := mT 374 (by decide +kernel) rfl
theorem im_X8_weightOfParts : Cond.instanceMethod yX8_weightOfParts ∈ GT := mT 375 (by decide +kernel) rfl
theorem se_X8_weightOfParts : Cond.selects RX8 yX8_weightOfParts yX8_weightOfParts ∈ GT := mT 376 (by decide +kernel) rfl
theorem ln_X8_148 : Cond.methodLink RX8 148 yX5_totalWater ∈ GT := mT 378 (by decide +kernel) rfl
theorem im_X5_totalWater : Cond.instanceMethod yX5_totalWater ∈ GT := mT 379 (by decide +kernel) rfl
theorem se_X5_totalWater : Cond.selects RX5 yX5_totalWater yX5_totalWater ∈ GT := mT 380 (by decide +kernel) rfl
theorem ln_X8_151 : Cond.methodLink RX8 151 yX1_totalWeight ∈ GT := mT 382 (by decide +kernel) rfl
theorem im_X1_totalWeight : Cond.instanceMethod yX1_totalWeight ∈ GT := mT 383 (by decide +kernel) rfl
theorem se_X1_totalWeight : Cond.selects RX1 yX1_totalWeight yX1_totalWeight ∈ GT := mT 384 (by decide +kernel) rfl
theorem ln_L_280 : Cond.methodLink RL 280 yX10_moment ∈ GT := mT 386 (by decide +kernel) rfl
theorem im_X10_moment : Cond.instanceMethod yX10_moment ∈ GT := mT 387 (by decide +kernel) rfl
theorem se_X10_moment : Cond.selects RX10 yX10_moment yX10_moment ∈ GT := mT 388 (by decide +kernel) rfl
theorem ln_X10_124 : Cond.methodLink RX10 124 yX8_totalMoment ∈ GT := mT 390 (by decide +kernel) rfl
theorem im_X8_totalMoment : Cond.instanceMethod yX8_totalMoment ∈ GT := mT 391 (by decide +kernel) rfl
theorem se_X8_totalMoment : Cond.selects RX8 yX8_totalMoment yX8_totalMoment ∈ GT := mT 392 (by decide +kernel) rfl
theorem ln_L_284 : Cond.methodLink RL 284 yX10_momentByParts ∈ GT := mT 394 (by decide +kernel) rfl
theorem im_X10_momentByParts : Cond.instanceMethod yX10_momentByParts ∈ GT := mT 395 (by decide +kernel) rfl
theorem se_X10_momentByParts : Cond.selects RX10 yX10_momentByParts yX10_momentByParts ∈ GT := mT 396 (by decide +kernel) rfl
theorem ln_X10_261 : Cond.methodLink RX10 261 yX8_momentOfParts ∈ GT := mT 398 (by decide +kernel) rfl
theorem im_X8_momentOfParts : Cond.instanceMethod yX8_momentOfParts ∈ GT := mT 399 (by decide +kernel) rfl
theorem se_X8_momentOfParts : Cond.selects RX8 yX8_momentOfParts yX8_momentOfParts ∈ GT := mT 400 (by decide +kernel) rfl
theorem ln_L_288 : Cond.methodLink RL 288 yX10_trim ∈ GT := mT 402 (by decide +kernel) rfl
theorem im_X10_trim : Cond.instanceMethod yX10_trim ∈ GT := mT 403 (by decide +kernel) rfl
theorem se_X10_trim : Cond.selects RX10 yX10_trim yX10_trim ∈ GT := mT 404 (by decide +kernel) rfl
theorem ln_X10_264 : Cond.methodLink RX10 264 yX10_trimFor ∈ GT := mT 406 (by decide +kernel) rfl
theorem st_X10_trimFor : Cond.static yX10_trimFor ∈ GT := mT 407 (by decide +kernel) rfl
theorem ln_L_292 : Cond.methodLink RL 292 yX10_isBalanced ∈ GT := mT 409 (by decide +kernel) rfl
theorem im_X10_isBalanced : Cond.instanceMethod yX10_isBalanced ∈ GT := mT 410 (by decide +kernel) rfl
theorem se_X10_isBalanced : Cond.selects RX10 yX10_isBalanced yX10_isBalanced ∈ GT := mT 411 (by decide +kernel) rfl
theorem ln_X10_267 : Cond.methodLink RX10 267 yX8_isWithinLimit ∈ GT := mT 413 (by decide +kernel) rfl
theorem im_X8_isWithinLimit : Cond.instanceMethod yX8_isWithinLimit ∈ GT := mT 414 (by decide +kernel) rfl
theorem se_X8_isWithinLimit : Cond.selects RX8 yX8_isWithinLimit yX8_isWithinLimit ∈ GT := mT 415 (by decide +kernel) rfl
theorem ln_X8_161 : Cond.methodLink RX8 161 yJ9_abs_0f7a4 ∈ GT := mT 418 (by decide +kernel) rfl
theorem st_J9_abs_0f7a4 : Cond.static yJ9_abs_0f7a4 ∈ GT := mT 419 (by decide +kernel) rfl
theorem ln_L_297 : Cond.methodLink RL 297 yX10_isAfloat ∈ GT := mT 421 (by decide +kernel) rfl
theorem im_X10_isAfloat : Cond.instanceMethod yX10_isAfloat ∈ GT := mT 422 (by decide +kernel) rfl
theorem se_X10_isAfloat : Cond.selects RX10 yX10_isAfloat yX10_isAfloat ∈ GT := mT 423 (by decide +kernel) rfl
theorem ln_L_328 : Cond.methodLink RL 328 yX10_stormCount ∈ GT := mT 425 (by decide +kernel) rfl
theorem im_X10_stormCount : Cond.instanceMethod yX10_stormCount ∈ GT := mT 426 (by decide +kernel) rfl
theorem se_X10_stormCount : Cond.selects RX10 yX10_stormCount yX10_stormCount ∈ GT := mT 427 (by decide +kernel) rfl
theorem ln_L_341 : Cond.methodLink RL 341 yX10_pumpedTotal ∈ GT := mT 429 (by decide +kernel) rfl
theorem im_X10_pumpedTotal : Cond.instanceMethod yX10_pumpedTotal ∈ GT := mT 430 (by decide +kernel) rfl
theorem se_X10_pumpedTotal : Cond.selects RX10 yX10_pumpedTotal yX10_pumpedTotal ∈ GT := mT 431 (by decide +kernel) rfl
theorem ln_L_353 : Cond.methodLink RL 353 yX10_isConsistent ∈ GT := mT 433 (by decide +kernel) rfl
theorem im_X10_isConsistent : Cond.instanceMethod yX10_isConsistent ∈ GT := mT 434 (by decide +kernel) rfl
theorem se_X10_isConsistent : Cond.selects RX10 yX10_isConsistent yX10_isConsistent ∈ GT := mT 435 (by decide +kernel) rfl
theorem ln_X10_329 : Cond.methodLink RX10 329 yX10_adviceHolds ∈ GT := mT 437 (by decide +kernel) rfl
theorem im_X10_adviceHolds : Cond.instanceMethod yX10_adviceHolds ∈ GT := mT 439 (by decide +kernel) rfl
theorem ln_X10_131 : Cond.methodLink RX10 131 yX2_searchTransfers ∈ GT := mT 441 (by decide +kernel) rfl
theorem im_X2_searchTransfers : Cond.instanceMethod yX2_searchTransfers ∈ GT := mT 442 (by decide +kernel) rfl
theorem se_X2_searchTransfers : Cond.selects RX2 yX2_searchTransfers yX2_searchTransfers ∈ GT := mT 443 (by decide +kernel) rfl
theorem ln_X2_34 : Cond.methodLink RX2 34 yX5_canMove ∈ GT := mT 445 (by decide +kernel) rfl
theorem im_X5_canMove : Cond.instanceMethod yX5_canMove ∈ GT := mT 446 (by decide +kernel) rfl
theorem se_X5_canMove : Cond.selects RX5 yX5_canMove yX5_canMove ∈ GT := mT 447 (by decide +kernel) rfl
theorem ln_X2_42 : Cond.methodLink RX2 42 yX2_offer ∈ GT := mT 449 (by decide +kernel) rfl
theorem im_X2_offer : Cond.instanceMethod yX2_offer ∈ GT := mT 451 (by decide +kernel) rfl
theorem ln_X2_13 : Cond.methodLink RX2 13 yJ9_abs_0f7a4 ∈ GT := mT 453 (by decide +kernel) rfl
theorem ln_X10_280 : Cond.methodLink RX10 280 yX8_copyFrom ∈ GT := mT 454 (by decide +kernel) rfl
theorem im_X8_copyFrom : Cond.instanceMethod yX8_copyFrom ∈ GT := mT 455 (by decide +kernel) rfl
theorem se_X8_copyFrom : Cond.selects RX8 yX8_copyFrom yX8_copyFrom ∈ GT := mT 456 (by decide +kernel) rfl
theorem ln_X8_39 : Cond.methodLink RX8 39 yX5_copyFrom ∈ GT := mT 458 (by decide +kernel) rfl
theorem im_X5_copyFrom : Cond.instanceMethod yX5_copyFrom ∈ GT := mT 459 (by decide +kernel) rfl
theorem se_X5_copyFrom : Cond.selects RX5 yX5_copyFrom yX5_copyFrom ∈ GT := mT 460 (by decide +kernel) rfl
theorem ln_X8_43 : Cond.methodLink RX8 43 yX1_copyFrom ∈ GT := mT 465 (by decide +kernel) rfl
theorem im_X1_copyFrom : Cond.instanceMethod yX1_copyFrom ∈ GT := mT 466 (by decide +kernel) rfl
theorem se_X1_copyFrom : Cond.selects RX1 yX1_copyFrom yX1_copyFrom ∈ GT := mT 467 (by decide +kernel) rfl
theorem ln_X8_46 : Cond.methodLink RX8 46 yX9_copyFrom ∈ GT := mT 470 (by decide +kernel) rfl
theorem im_X9_copyFrom : Cond.instanceMethod yX9_copyFrom ∈ GT := mT 471 (by decide +kernel) rfl
theorem se_X9_copyFrom : Cond.selects RX9 yX9_copyFrom yX9_copyFrom ∈ GT := mT 472 (by decide +kernel) rfl
theorem ln_X10_120 : Cond.methodLink RX10 120 yX5_move ∈ GT := mT 475 (by decide +kernel) rfl
theorem im_X5_move : Cond.instanceMethod yX5_move ∈ GT := mT 476 (by decide +kernel) rfl
theorem se_X5_move : Cond.selects RX5 yX5_move yX5_move ∈ GT := mT 477 (by decide +kernel) rfl
theorem ln_X10_333 : Cond.methodLink RX10 333 yX5_overflows ∈ GT := mT 479 (by decide +kernel) rfl
theorem im_X5_overflows : Cond.instanceMethod yX5_overflows ∈ GT := mT 480 (by decide +kernel) rfl
theorem se_X5_overflows : Cond.selects RX5 yX5_overflows yX5_overflows ∈ GT := mT 481 (by decide +kernel) rfl
theorem ln_L_363 : Cond.methodLink RL 363 yX10_formatStorms ∈ GT := mT 483 (by decide +kernel) rfl
theorem im_X10_formatStorms : Cond.instanceMethod yX10_formatStorms ∈ GT := mT 484 (by decide +kernel) rfl
theorem se_X10_formatStorms : Cond.selects RX10 yX10_formatStorms yX10_formatStorms ∈ GT := mT 485 (by decide +kernel) rfl
theorem ln_X10_336 : Cond.methodLink RX10 336 yJ4_setLength_d00df ∈ GT := mT 487 (by decide +kernel) rfl
theorem im_J4_setLength_d00df : Cond.instanceMethod yJ4_setLength_d00df ∈ GT := mT 488 (by decide +kernel) rfl
theorem se_J4_setLength_d00df : Cond.selects RJ4 yJ4_setLength_d00df yJ4_setLength_d00df ∈ GT := mT 489 (by decide +kernel) rfl
theorem ln_J4_333 : Cond.methodLink RJ4 333 yJ5_setLength_d00df ∈ GT := mT 491 (by decide +kernel) rfl
theorem im_J5_setLength_d00df : Cond.instanceMethod yJ5_setLength_d00df ∈ GT := mT 492 (by decide +kernel) rfl
theorem ln_J5_131 : Cond.methodLink RJ5 131 yJx7c733_init_d00df ∈ GT := mT 496 (by decide +kernel) rfl
theorem im_Jx7c733_init_d00df : Cond.instanceMethod yJx7c733_init_d00df ∈ GT := mT 497 (by decide +kernel) rfl
theorem ln_Jx7c733_12 : Cond.methodLink RJx7c733 12 yJ4_init_da8c8 ∈ GT := mT 500 (by decide +kernel) rfl
theorem ln_Jx7c733_15 : Cond.methodLink RJx7c733 15 yJ4_append_15ec4 ∈ GT := mT 502 (by decide +kernel) rfl
theorem im_J4_append_15ec4 : Cond.instanceMethod yJ4_append_15ec4 ∈ GT := mT 503 (by decide +kernel) rfl
theorem se_J4_append_15ec4 : Cond.selects RJ4 yJ4_append_15ec4 yJ4_append_15ec4 ∈ GT := mT 504 (by decide +kernel) rfl
theorem ln_J4_29 : Cond.methodLink RJ4 29 yJ5_append_cf1ce ∈ GT := mT 506 (by decide +kernel) rfl
theorem im_J5_append_cf1ce : Cond.instanceMethod yJ5_append_cf1ce ∈ GT := mT 507 (by decide +kernel) rfl
theorem ln_J5_204 : Cond.methodLink RJ5 204 yJ5_appendNull_278bc ∈ GT := mT 509 (by decide +kernel) rfl
theorem im_J5_appendNull_278bc : Cond.instanceMethod yJ5_appendNull_278bc ∈ GT := mT 511 (by decide +kernel) rfl
theorem ln_J5_100 : Cond.methodLink RJ5 100 yJ5_ensureCapacityInternal_d00df ∈ GT := mT 513 (by decide +kernel) rfl
theorem im_J5_ensureCapacityInternal_d00df : Cond.instanceMethod yJ5_ensureCapacityInternal_d00df ∈ GT := mT 515 (by decide +kernel) rfl
theorem ln_J5_104 : Cond.methodLink RJ5 104 yJ5_newCapacity_0f7a4 ∈ GT := mT 517 (by decide +kernel) rfl
theorem im_J5_newCapacity_0f7a4 : Cond.instanceMethod yJ5_newCapacity_0f7a4 ∈ GT := mT 519 (by decide +kernel) rfl
theorem ln_J5_114 : Cond.methodLink RJ5 114 yJ8_newLength_cabcc ∈ GT := mT 521 (by decide +kernel) rfl
theorem st_J8_newLength_cabcc : Cond.static yJ8_newLength_cabcc ∈ GT := mT 522 (by decide +kernel) rfl
theorem ln_J8_194 : Cond.methodLink RJ8 194 yJ9_max_7cf53 ∈ GT := mT 524 (by decide +kernel) rfl
theorem st_J9_max_7cf53 : Cond.static yJ9_max_7cf53 ∈ GT := mT 525 (by decide +kernel) rfl
theorem ln_J8_201 : Cond.methodLink RJ8 201 yJ8_hugeLength_7cf53 ∈ GT := mT 528 (by decide +kernel) rfl
theorem st_J8_hugeLength_7cf53 : Cond.static yJ8_hugeLength_7cf53 ∈ GT := mT 529 (by decide +kernel) rfl
theorem ln_J5_108 : Cond.methodLink RJ5 108 yJ7_copyOf_9075b ∈ GT := mT 532 (by decide +kernel) rfl
theorem st_J7_copyOf_9075b : Cond.static yJ7_copyOf_9075b ∈ GT := mT 533 (by decide +kernel) rfl
theorem ln_J7_304 : Cond.methodLink RJ7 304 yJ9_min_7cf53 ∈ GT := mT 542 (by decide +kernel) rfl
theorem st_J9_min_7cf53 : Cond.static yJ9_min_7cf53 ∈ GT := mT 543 (by decide +kernel) rfl
theorem ln_J5_83 : Cond.methodLink RJ5 83 yJ5_isLatin1_aae02 ∈ GT := mT 546 (by decide +kernel) rfl
theorem im_J5_isLatin1_aae02 : Cond.instanceMethod yJ5_isLatin1_aae02 ∈ GT := mT 547 (by decide +kernel) rfl
theorem ln_J5_226 : Cond.methodLink RJ5 226 yJ2_putCharsAt_cd4e5 ∈ GT := mT 551 (by decide +kernel) rfl
theorem st_J2_putCharsAt_cd4e5 : Cond.static yJ2_putCharsAt_cd4e5 ∈ GT := mT 552 (by decide +kernel) rfl
theorem ln_J2_96 : Cond.methodLink RJ2 96 yJ2_checkBoundsBeginEnd_d044e ∈ GT := mT 554 (by decide +kernel) rfl
theorem st_J2_checkBoundsBeginEnd_d044e : Cond.static yJ2_checkBoundsBeginEnd_d044e ∈ GT := mT 555 (by decide +kernel) rfl
theorem ln_J2_48 : Cond.methodLink RJ2 48 yJ2_length_9d52b ∈ GT := mT 557 (by decide +kernel) rfl
theorem st_J2_length_9d52b : Cond.static yJ2_length_9d52b ∈ GT := mT 558 (by decide +kernel) rfl
theorem ln_J2_241 : Cond.methodLink RJ2 241 yJ0_checkBoundsBeginEnd_23922 ∈ GT := mT 560 (by decide +kernel) rfl
theorem st_J0_checkBoundsBeginEnd_23922 : Cond.static yJ0_checkBoundsBeginEnd_23922 ∈ GT := mT 561 (by decide +kernel) rfl
theorem ln_J0_1062 : Cond.methodLink RJ0 1062 yJ3_checkFromToIndex_8c36e ∈ GT := mT 565 (by decide +kernel) rfl
theorem st_J3_checkFromToIndex_8c36e : Cond.static yJ3_checkFromToIndex_8c36e ∈ GT := mT 566 (by decide +kernel) rfl
theorem ln_J2_111 : Cond.methodLink RJ2 111 yJ2_putChar_b72d1 ∈ GT := mT 568 (by decide +kernel) rfl
theorem st_J2_putChar_b72d1 : Cond.static yJ2_putChar_b72d1 ∈ GT := mT 569 (by decide +kernel) rfl
theorem ln_J5_32 : Cond.methodLink RJ5 32 yJ0_length_8abf5 ∈ GT := mT 577 (by decide +kernel) rfl
theorem im_J0_length_8abf5 : Cond.instanceMethod yJ0_length_8abf5 ∈ GT := mT 578 (by decide +kernel) rfl
theorem se_J0_length_8abf5 : Cond.selects RJ0 yJ0_length_8abf5 yJ0_length_8abf5 ∈ GT := mT 579 (by decide +kernel) rfl
theorem ln_J0_335 : Cond.methodLink RJ0 335 yJ0_coder_7d493 ∈ GT := mT 581 (by decide +kernel) rfl
theorem im_J0_coder_7d493 : Cond.instanceMethod yJ0_coder_7d493 ∈ GT := mT 582 (by decide +kernel) rfl
theorem se_J0_coder_7d493 : Cond.selects RJ0 yJ0_coder_7d493 yJ0_coder_7d493 ∈ GT := mT 583 (by decide +kernel) rfl
theorem ln_J5_208 : Cond.methodLink RJ5 208 yJ5_putStringAt_47b60 ∈ GT := mT 586 (by decide +kernel) rfl
theorem im_J5_putStringAt_47b60 : Cond.instanceMethod yJ5_putStringAt_47b60 ∈ GT := mT 588 (by decide +kernel) rfl
theorem ln_J5_397 : Cond.methodLink RJ5 397 yJ5_inflateIfNeededFor_a7421 ∈ GT := mT 590 (by decide +kernel) rfl
theorem im_J5_inflateIfNeededFor_a7421 : Cond.instanceMethod yJ5_inflateIfNeededFor_a7421 ∈ GT := mT 592 (by decide +kernel) rfl
theorem ln_J5_40 : Cond.methodLink RJ5 40 yJ0_coder_7d493 ∈ GT := mT 594 (by decide +kernel) rfl
theorem ln_J5_195 : Cond.methodLink RJ5 195 yJ5_inflate_da8c8 ∈ GT := mT 595 (by decide +kernel) rfl
theorem im_J5_inflate_da8c8 : Cond.instanceMethod yJ5_inflate_da8c8 ∈ GT := mT 597 (by decide +kernel) rfl
theorem ln_J5_125 : Cond.methodLink RJ5 125 yJ1_inflate_0e8fd ∈ GT := mT 599 (by decide +kernel) rfl
theorem st_J1_inflate_0e8fd : Cond.static yJ1_inflate_0e8fd ∈ GT := mT 600 (by decide +kernel) rfl
theorem ln_J1_240 : Cond.methodLink RJ1 240 yJ2_inflate_0e8fd ∈ GT := mT 602 (by decide +kernel) rfl
theorem st_J2_inflate_0e8fd : Cond.static yJ2_inflate_0e8fd ∈ GT := mT 603 (by decide +kernel) rfl
theorem ln_J2_173 : Cond.methodLink RJ2 173 yJ2_checkBoundsOffCount_d044e ∈ GT := mT 605 (by decide +kernel) rfl
theorem st_J2_checkBoundsOffCount_d044e : Cond.static yJ2_checkBoundsOffCount_d044e ∈ GT := mT 606 (by decide +kernel) rfl
theorem ln_J2_419 : Cond.methodLink RJ2 419 yJ0_checkBoundsOffCount_cabcc ∈ GT := mT 608 (by decide +kernel) rfl
theorem st_J0_checkBoundsOffCount_cabcc : Cond.static yJ0_checkBoundsOffCount_cabcc ∈ GT := mT 609 (by decide +kernel) rfl
theorem ln_J0_1065 : Cond.methodLink RJ0 1065 yJ3_checkFromIndexSize_8c36e ∈ GT := mT 611 (by decide +kernel) rfl
theorem st_J3_checkFromIndexSize_8c36e : Cond.static yJ3_checkFromIndexSize_8c36e ∈ GT := mT 612 (by decide +kernel) rfl
theorem ln_J5_399 : Cond.methodLink RJ5 399 yJ0_getBytes_840e7 ∈ GT := mT 614 (by decide +kernel) rfl
theorem im_J0_getBytes_840e7 : Cond.instanceMethod yJ0_getBytes_840e7 ∈ GT := mT 615 (by decide +kernel) rfl
theorem se_J0_getBytes_840e7 : Cond.selects RJ0 yJ0_getBytes_840e7 yJ0_getBytes_840e7 ∈ GT := mT 616 (by decide +kernel) rfl
theorem ln_J0_106 : Cond.methodLink RJ0 106 yJ1_inflate_0e8fd ∈ GT := mT 619 (by decide +kernel) rfl
theorem ln_Jx7c733_19 : Cond.methodLink RJx7c733 19 yJ4_append_bf812 ∈ GT := mT 620 (by decide +kernel) rfl
theorem im_J4_append_bf812 : Cond.instanceMethod yJ4_append_bf812 ∈ GT := mT 621 (by decide +kernel) rfl
theorem se_J4_append_bf812 : Cond.selects RJ4 yJ4_append_bf812 yJ4_append_bf812 ∈ GT := mT 622 (by decide +kernel) rfl
theorem ln_J4_53 : Cond.methodLink RJ4 53 yJ5_append_c97b9 ∈ GT := mT 624 (by decide +kernel) rfl
theorem im_J5_append_c97b9 : Cond.instanceMethod yJ5_append_c97b9 ∈ GT := mT 625 (by decide +kernel) rfl
theorem ln_J5_245 : Cond.methodLink RJ5 245 yJ6_stringSize_0f7a4 ∈ GT := mT 627 (by decide +kernel) rfl
theorem st_J6_stringSize_0f7a4 : Cond.static yJ6_stringSize_0f7a4 ∈ GT := mT 628 (by decide +kernel) rfl
theorem ln_J5_248 : Cond.methodLink RJ5 248 yJ6_getChars_ba4f3 ∈ GT := mT 630 (by decide +kernel) rfl
theorem st_J6_getChars_ba4f3 : Cond.static yJ6_getChars_ba4f3 ∈ GT := mT 631 (by decide +kernel) rfl
theorem ln_J5_251 : Cond.methodLink RJ5 251 yJ2_getChars_46870 ∈ GT := mT 637 (by decide +kernel) rfl
theorem st_J2_getChars_46870 : Cond.static yJ2_getChars_46870 ∈ GT := mT 638 (by decide +kernel) rfl
theorem ln_J2_393 : Cond.methodLink RJ2 393 yJ2_getChars_ba4f3 ∈ GT := mT 640 (by decide +kernel) rfl
theorem st_J2_getChars_ba4f3 : Cond.static yJ2_getChars_ba4f3 ∈ GT := mT 641 (by decide +kernel) rfl
theorem ln_Jx7c733_22 : Cond.methodLink RJx7c733 22 yJ4_toString_0e30d ∈ GT := mT 645 (by decide +kernel) rfl
theorem im_J4_toString_0e30d : Cond.instanceMethod yJ4_toString_0e30d ∈ GT := mT 646 (by decide +kernel) rfl
theorem se_J4_toString_0e30d : Cond.selects RJ4 yJ4_toString_0e30d yJ4_toString_0e30d ∈ GT := mT 647 (by decide +kernel) rfl
theorem ln_J4_137 : Cond.methodLink RJ4 137 yJ0_init_81219 ∈ GT := mT 651 (by decide +kernel) rfl
theorem im_J0_init_81219 : Cond.instanceMethod yJ0_init_81219 ∈ GT := mT 652 (by decide +kernel) rfl
theorem ln_J0_489 : Cond.methodLink RJ0 489 yJ0_init_db425 ∈ GT := mT 654 (by decide +kernel) rfl
theorem im_J0_init_db425 : Cond.instanceMethod yJ0_init_db425 ∈ GT := mT 655 (by decide +kernel) rfl
theorem ln_J0_552 : Cond.methodLink RJ0 552 yJ5_getValue_6d5f1 ∈ GT := mT 658 (by decide +kernel) rfl
theorem im_J5_getValue_6d5f1 : Cond.instanceMethod yJ5_getValue_6d5f1 ∈ GT := mT 659 (by decide +kernel) rfl
theorem ln_J0_549 : Cond.methodLink RJ0 549 yJ5_length_8abf5 ∈ GT := mT 663 (by decide +kernel) rfl
theorem im_J5_length_8abf5 : Cond.instanceMethod yJ5_length_8abf5 ∈ GT := mT 664 (by decide +kernel) rfl
theorem im_J4_length_8abf5 : Cond.instanceMethod yJ4_length_8abf5 ∈ GT := mT 667 (by decide +kernel) rfl
theorem ln_J4_343 : Cond.methodLink RJ4 343 yJ5_length_8abf5 ∈ GT := mT 669 (by decide +kernel) rfl
theorem ln_J0_1047 : Cond.methodLink RJ0 1047 yJ5_isLatin1_aae02 ∈ GT := mT 671 (by decide +kernel) rfl
theorem ln_J0_54 : Cond.methodLink RJ0 54 yJ7_copyOfRange_39247 ∈ GT := mT 672 (by decide +kernel) rfl
theorem st_J7_copyOfRange_39247 : Cond.static yJ7_copyOfRange_39247 ∈ GT := mT 673 (by decide +kernel) rfl
theorem ln_J7_339 : Cond.methodLink RJ7 339 yJ7_copyOfRangeByte_39247 ∈ GT := mT 675 (by decide +kernel) rfl
theorem st_J7_copyOfRangeByte_39247 : Cond.static yJ7_copyOfRangeByte_39247 ∈ GT := mT 676 (by decide +kernel) rfl
theorem ln_J7_343 : Cond.methodLink RJ7 343 yJ7_checkLength_df160 ∈ GT := mT 678 (by decide +kernel) rfl
theorem st_J7_checkLength_df160 : Cond.static yJ7_checkLength_df160 ∈ GT := mT 679 (by decide +kernel) rfl
theorem ln_J7_47 : Cond.methodLink RJ7 47 yJ4_init_da8c8 ∈ GT := mT 727 (by decide +kernel) rfl
theorem ln_J7_54 : Cond.methodLink RJ7 54 yJ4_append_bf812 ∈ GT := mT 728 (by decide +kernel) rfl
theorem ln_J7_50 : Cond.methodLink RJ7 50 yJ4_append_15ec4 ∈ GT := mT 730 (by decide +kernel) rfl
theorem ln_J7_61 : Cond.methodLink RJ7 61 yJ4_toString_0e30d ∈ GT := mT 731 (by decide +kernel) rfl
theorem ln_J0_1051 : Cond.methodLink RJ0 1051 yJ2_compress_39247 ∈ GT := mT 757 (by decide +kernel) rfl
theorem st_J2_compress_39247 : Cond.static yJ2_compress_39247 ∈ GT := mT 758 (by decide +kernel) rfl
theorem ln_J2_123 : Cond.methodLink RJ2 123 yJ2_compress_5af95 ∈ GT := mT 760 (by decide +kernel) rfl
theorem st_J2_compress_5af95 : Cond.static yJ2_compress_5af95 ∈ GT := mT 761 (by decide +kernel) rfl
theorem ln_J2_71 : Cond.methodLink RJ2 71 yJ2_getChar_3b067 ∈ GT := mT 763 (by decide +kernel) rfl
theorem st_J2_getChar_3b067 : Cond.static yJ2_getChar_3b067 ∈ GT := mT 764 (by decide +kernel) rfl
theorem ln_J2_126 : Cond.methodLink RJ2 126 yJ7_copyOfRange_39247 ∈ GT := mT 766 (by decide +kernel) rfl
theorem ln_J0_47 : Cond.methodLink RJ0 47 yJ2_coderFromArrayLen_85cad ∈ GT := mT 767 (by decide +kernel) rfl
theorem st_J2_coderFromArrayLen_85cad : Cond.static yJ2_coderFromArrayLen_85cad ∈ GT := mT 768 (by decide +kernel) rfl
theorem ln_J5_133 : Cond.methodLink RJ5 133 yJ1_fillNull_b72d1 ∈ GT := mT 792 (by decide +kernel) rfl
theorem st_J1_fillNull_b72d1 : Cond.static yJ1_fillNull_b72d1 ∈ GT := mT 793 (by decide +kernel) rfl
theorem ln_J1_236 : Cond.methodLink RJ1 236 yJ7_fill_eb02e ∈ GT := mT 795 (by decide +kernel) rfl
theorem st_J7_fill_eb02e : Cond.static yJ7_fill_eb02e ∈ GT := mT 796 (by decide +kernel) rfl
theorem ln_J7_13 : Cond.methodLink RJ7 13 yJ7_rangeCheck_23922 ∈ GT := mT 798 (by decide +kernel) rfl
theorem st_J7_rangeCheck_23922 : Cond.static yJ7_rangeCheck_23922 ∈ GT := mT 799 (by decide +kernel) rfl
theorem ln_J7_70 : Cond.methodLink RJ7 70 yJx00060_init_d00df ∈ GT := mT 815 (by decide +kernel) rfl
theorem im_Jx00060_init_d00df : Cond.instanceMethod yJx00060_init_d00df ∈ GT := mT 816 (by decide +kernel) rfl
theorem ln_Jx00060_12 : Cond.methodLink RJx00060 12 yJ4_init_da8c8 ∈ GT := mT 819 (by decide +kernel) rfl
theorem ln_Jx00060_15 : Cond.methodLink RJx00060 15 yJ4_append_15ec4 ∈ GT := mT 821 (by decide +kernel) rfl
theorem ln_Jx00060_19 : Cond.methodLink RJx00060 19 yJ4_append_bf812 ∈ GT := mT 822 (by decide +kernel) rfl
theorem ln_Jx00060_22 : Cond.methodLink RJx00060 22 yJ4_toString_0e30d ∈ GT := mT 823 (by decide +kernel) rfl
theorem ln_J5_137 : Cond.methodLink RJ5 137 yJ2_fillNull_b72d1 ∈ GT := mT 827 (by decide +kernel) rfl
theorem st_J2_fillNull_b72d1 : Cond.static yJ2_fillNull_b72d1 ∈ GT := mT 828 (by decide +kernel) rfl
theorem ln_J2_380 : Cond.methodLink RJ2 380 yJ7_fill_eb02e ∈ GT := mT 830 (by decide +kernel) rfl
theorem ln_X10_361 : Cond.methodLink RX10 361 yX10_separate ∈ GT := mT 831 (by decide +kernel) rfl
theorem im_X10_separate : Cond.instanceMethod yX10_separate ∈ GT := mT 833 (by decide +kernel) rfl
theorem ln_X10_358 : Cond.methodLink RX10 358 yJ4_length_8abf5 ∈ GT := mT 835 (by decide +kernel) rfl
theorem ln_X10_339 : Cond.methodLink RX10 339 yJ4_append_cf468 ∈ GT := mT 836 (by decide +kernel) rfl
theorem im_J4_append_cf468 : Cond.instanceMethod yJ4_append_cf468 ∈ GT := mT 837 (by decide +kernel) rfl
theorem se_J4_append_cf468 : Cond.selects RJ4 yJ4_append_cf468 yJ4_append_cf468 ∈ GT := mT 838 (by decide +kernel) rfl
theorem ln_J4_50 : Cond.methodLink RJ4 50 yJ5_append_3fe6f ∈ GT := mT 840 (by decide +kernel) rfl
theorem im_J5_append_3fe6f : Cond.instanceMethod yJ5_append_3fe6f ∈ GT := mT 841 (by decide +kernel) rfl
theorem ln_J5_191 : Cond.methodLink RJ5 191 yJ1_canEncode_fc78d ∈ GT := mT 843 (by decide +kernel) rfl
theorem st_J1_canEncode_fc78d : Cond.static yJ1_canEncode_fc78d ∈ GT := mT 844 (by decide +kernel) rfl
theorem ln_J5_197 : Cond.methodLink RJ5 197 yJ2_putCharSB_b72d1 ∈ GT := mT 846 (by decide +kernel) rfl
theorem st_J2_putCharSB_b72d1 : Cond.static yJ2_putCharSB_b72d1 ∈ GT := mT 847 (by decide +kernel) rfl
theorem ln_J2_67 : Cond.methodLink RJ2 67 yJ2_checkIndex_2214a ∈ GT := mT 849 (by decide +kernel) rfl
theorem st_J2_checkIndex_2214a : Cond.static yJ2_checkIndex_2214a ∈ GT := mT 850 (by decide +kernel) rfl
theorem ln_J2_414 : Cond.methodLink RJ2 414 yJ0_checkIndex_df160 ∈ GT := mT 852 (by decide +kernel) rfl
theorem st_J0_checkIndex_df160 : Cond.static yJ0_checkIndex_df160 ∈ GT := mT 853 (by decide +kernel) rfl
theorem ln_J0_1059 : Cond.methodLink RJ0 1059 yJ3_checkIndex_8e157 ∈ GT := mT 855 (by decide +kernel) rfl
theorem st_J3_checkIndex_8e157 : Cond.static yJ3_checkIndex_8e157 ∈ GT := mT 856 (by decide +kernel) rfl
theorem ln_X10_343 : Cond.methodLink RX10 343 yJ4_append_bf812 ∈ GT := mT 858 (by decide +kernel) rfl
theorem ln_L_383 : Cond.methodLink RL 383 yX10_undoableCount ∈ GT := mT 859 (by decide +kernel) rfl
theorem im_X10_undoableCount : Cond.instanceMethod yX10_undoableCount ∈ GT := mT 860 (by decide +kernel) rfl
theorem se_X10_undoableCount : Cond.selects RX10 yX10_undoableCount yX10_undoableCount ∈ GT := mT 861 (by decide +kernel) rfl
theorem ln_L_390 : Cond.methodLink RL 390 yX10_save ∈ GT := mT 863 (by decide +kernel) rfl
theorem im_X10_save : Cond.instanceMethod yX10_save ∈ GT := mT 864 (by decide +kernel) rfl
theorem se_X10_save : Cond.selects RX10 yX10_save yX10_save ∈ GT := mT 865 (by decide +kernel) rfl
theorem ln_L_176 : Cond.methodLink RL 176 yL_addCompartment ∈ GT := mT 867 (by decide +kernel) rfl
theorem st_L_addCompartment : Cond.static yL_addCompartment ∈ GT := mT 868 (by decide +kernel) rfl
theorem ln_L_7 : Cond.methodLink RL 7 yX10_addCompartment ∈ GT := mT 872 (by decide +kernel) rfl
theorem im_X10_addCompartment : Cond.instanceMethod yX10_addCompartment ∈ GT := mT 873 (by decide +kernel) rfl
theorem se_X10_addCompartment : Cond.selects RX10 yX10_addCompartment yX10_addCompartment ∈ GT := mT 874 (by decide +kernel) rfl
theorem ln_X10_58 : Cond.methodLink RX10 58 yX8_faultOfAdding ∈ GT := mT 876 (by decide +kernel) rfl
theorem im_X8_faultOfAdding : Cond.instanceMethod yX8_faultOfAdding ∈ GT := mT 877 (by decide +kernel) rfl
theorem se_X8_faultOfAdding : Cond.selects RX8 yX8_faultOfAdding yX8_faultOfAdding ∈ GT := mT 878 (by decide +kernel) rfl
theorem st_X10_isWithin : Cond.static yX10_isWithin ∈ GT := mT 881 (by decide +kernel) rfl
theorem ln_X10_62 : Cond.methodLink RX10 62 yX10_refuse ∈ GT := mT 889 (by decide +kernel) rfl
theorem st_X10_refuse : Cond.static yX10_refuse ∈ GT := mT 890 (by decide +kernel) rfl
theorem ln_X10_66 : Cond.methodLink RX10 66 yX4_keep ∈ GT := mT 946 (by decide +kernel) rfl
theorem im_X4_keep : Cond.instanceMethod yX4_keep ∈ GT := mT 947 (by decide +kernel) rfl
theorem se_X4_keep : Cond.selects RX4 yX4_keep yX4_keep ∈ GT := mT 948 (by decide +kernel) rfl
theorem ln_X4_22 : Cond.methodLink RX4 22 yX8_copyFrom ∈ GT := mT 950 (by decide +kernel) rfl
theorem ln_X4_29 : Cond.methodLink RX4 29 yJ9_min_7cf53 ∈ GT := mT 951 (by decide +kernel) rfl
theorem ln_X10_74 : Cond.methodLink RX10 74 yX5_add ∈ GT := mT 952 (by decide +kernel) rfl
theorem im_X5_add : Cond.instanceMethod yX5_add ∈ GT := mT 953 (by decide +kernel) rfl
theorem se_X5_add : Cond.selects RX5 yX5_add yX5_add ∈ GT := mT 954 (by decide +kernel) rfl
theorem ln_L_185 : Cond.methodLink RL 185 yL_load ∈ GT := mT 956 (by decide +kernel) rfl
theorem st_L_load : Cond.static yL_load ∈ GT := mT 957 (by decide +kernel) rfl
theorem im_Jx00060_init_a7421 : Cond.instanceMethod yJx00060_init_a7421 ∈ GT := mT 960 (by decide +kernel) rfl
theorem ln_L_17 : Cond.methodLink RL 17 yX10_load ∈ GT := mT 962 (by decide +kernel) rfl
theorem im_X10_load : Cond.instanceMethod yX10_load ∈ GT := mT 963 (by decide +kernel) rfl
theorem se_X10_load : Cond.selects RX10 yX10_load yX10_load ∈ GT := mT 964 (by decide +kernel) rfl
theorem ln_X10_80 : Cond.methodLink RX10 80 yX8_faultOfLoading ∈ GT := mT 966 (by decide +kernel) rfl
theorem im_X8_faultOfLoading : Cond.instanceMethod yX8_faultOfLoading ∈ GT := mT 967 (by decide +kernel) rfl
theorem se_X8_faultOfLoading : Cond.selects RX8 yX8_faultOfLoading yX8_faultOfLoading ∈ GT := mT 968 (by decide +kernel) rfl
theorem ln_X8_79 : Cond.methodLink RX8 79 yX5_has ∈ GT := mT 970 (by decide +kernel) rfl
theorem im_X5_has : Cond.instanceMethod yX5_has ∈ GT := mT 971 (by decide +kernel) rfl
theorem se_X5_has : Cond.selects RX5 yX5_has yX5_has ∈ GT := mT 972 (by decide +kernel) rfl
theorem ln_X8_87 : Cond.methodLink RX8 87 yX8_totalWeight ∈ GT := mT 975 (by decide +kernel) rfl
theorem ln_X10_87 : Cond.methodLink RX10 87 yX1_put ∈ GT := mT 976 (by decide +kernel) rfl
theorem im_X1_put : Cond.instanceMethod yX1_put ∈ GT := mT 977 (by decide +kernel) rfl
theorem se_X1_put : Cond.selects RX1 yX1_put yX1_put ∈ GT := mT 978 (by decide +kernel) rfl
theorem ln_L_188 : Cond.methodLink RL 188 yL_unload ∈ GT := mT 980 (by decide +kernel) rfl
theorem st_L_unload : Cond.static yL_unload ∈ GT := mT 981 (by decide +kernel) rfl
theorem ln_L_22 : Cond.methodLink RL 22 yX10_unload ∈ GT := mT 984 (by decide +kernel) rfl
theorem im_X10_unload : Cond.instanceMethod yX10_unload ∈ GT := mT 985 (by decide +kernel) rfl
theorem se_X10_unload : Cond.selects RX10 yX10_unload yX10_unload ∈ GT := mT 986 (by decide +kernel) rfl
theorem ln_X10_92 : Cond.methodLink RX10 92 yX8_faultOfUnloading ∈ GT := mT 988 (by decide +kernel) rfl
theorem im_X8_faultOfUnloading : Cond.instanceMethod yX8_faultOfUnloading ∈ GT := mT 989 (by decide +kernel) rfl
theorem se_X8_faultOfUnloading : Cond.selects RX8 yX8_faultOfUnloading yX8_faultOfUnloading ∈ GT := mT 990 (by decide +kernel) rfl
theorem ln_X8_91 : Cond.methodLink RX8 91 yX1_find ∈ GT := mT 992 (by decide +kernel) rfl
theorem im_X1_find : Cond.instanceMethod yX1_find ∈ GT := mT 993 (by decide +kernel) rfl
theorem se_X1_find : Cond.selects RX1 yX1_find yX1_find ∈ GT := mT 994 (by decide +kernel) rfl
theorem ln_X10_96 : Cond.methodLink RX10 96 yX1_remove ∈ GT := mT 997 (by decide +kernel) rfl
theorem im_X1_remove : Cond.instanceMethod yX1_remove ∈ GT := mT 998 (by decide +kernel) rfl
theorem se_X1_remove : Cond.selects RX1 yX1_remove yX1_remove ∈ GT := mT 999 (by decide +kernel) rfl
theorem ln_X1_34 : Cond.methodLink RX1 34 yX1_find ∈ GT := mT 1001 (by decide +kernel) rfl
theorem ln_L_192 : Cond.methodLink RL 192 yL_shift ∈ GT := mT 1002 (by decide +kernel) rfl
theorem st_L_shift : Cond.static yL_shift ∈ GT := mT 1003 (by decide +kernel) rfl
theorem ln_L_28 : Cond.methodLink RL 28 yX10_shift ∈ GT := mT 1005 (by decide +kernel) rfl
theorem im_X10_shift : Cond.instanceMethod yX10_shift ∈ GT := mT 1006 (by decide +kernel) rfl
theorem se_X10_shift : Cond.selects RX10 yX10_shift yX10_shift ∈ GT := mT 1007 (by decide +kernel) rfl
theorem ln_X10_100 : Cond.methodLink RX10 100 yX8_faultOfShifting ∈ GT := mT 1009 (by decide +kernel) rfl
theorem im_X8_faultOfShifting : Cond.instanceMethod yX8_faultOfShifting ∈ GT := mT 1010 (by decide +kernel) rfl
theorem se_X8_faultOfShifting : Cond.selects RX8 yX8_faultOfShifting yX8_faultOfShifting ∈ GT := mT 1011 (by decide +kernel) rfl
theorem ln_X10_103 : Cond.methodLink RX10 103 yX1_carry ∈ GT := mT 1013 (by decide +kernel) rfl
theorem im_X1_carry : Cond.instanceMethod yX1_carry ∈ GT := mT 1014 (by decide +kernel) rfl
theorem se_X1_carry : Cond.selects RX1 yX1_carry yX1_carry ∈ GT := mT 1015 (by decide +kernel) rfl
theorem ln_L_195 : Cond.methodLink RL 195 yL_setLeak ∈ GT := mT 1017 (by decide +kernel) rfl
theorem st_L_setLeak : Cond.static yL_setLeak ∈ GT := mT 1018 (by decide +kernel) rfl
theorem ln_L_31 : Cond.methodLink RL 31 yX10_setLeak ∈ GT := mT 1020 (by decide +kernel) rfl
theorem im_X10_setLeak : Cond.instanceMethod yX10_setLeak ∈ GT := mT 1021 (by decide +kernel) rfl
theorem se_X10_setLeak : Cond.selects RX10 yX10_setLeak yX10_setLeak ∈ GT := mT 1022 (by decide +kernel) rfl
theorem ln_X10_106 : Cond.methodLink RX10 106 yX8_faultOfRate ∈ GT := mT 1024 (by decide +kernel) rfl
theorem im_X8_faultOfRate : Cond.instanceMethod yX8_faultOfRate ∈ GT := mT 1025 (by decide +kernel) rfl
theorem se_X8_faultOfRate : Cond.selects RX8 yX8_faultOfRate yX8_faultOfRate ∈ GT := mT 1026 (by decide +kernel) rfl
theorem ln_L_198 : Cond.methodLink RL 198 yL_setPump ∈ GT := mT 1028 (by decide +kernel) rfl
theorem st_L_setPump : Cond.static yL_setPump ∈ GT := mT 1029 (by decide +kernel) rfl
theorem ln_L_34 : Cond.methodLink RL 34 yX10_setPump ∈ GT := mT 1031 (by decide +kernel) rfl
theorem im_X10_setPump : Cond.instanceMethod yX10_setPump ∈ GT := mT 1032 (by decide +kernel) rfl
theorem se_X10_setPump : Cond.selects RX10 yX10_setPump yX10_setPump ∈ GT := mT 1033 (by decide +kernel) rfl
theorem ln_L_201 : Cond.methodLink RL 201 yL_transfer ∈ GT := mT 1035 (by decide +kernel) rfl
theorem st_L_transfer : Cond.static yL_transfer ∈ GT := mT 1036 (by decide +kernel) rfl
theorem ln_L_37 : Cond.methodLink RL 37 yX10_transfer ∈ GT := mT 1038 (by decide +kernel) rfl
theorem im_X10_transfer : Cond.instanceMethod yX10_transfer ∈ GT := mT 1039 (by decide +kernel) rfl
theorem se_X10_transfer : Cond.selects RX10 yX10_transfer yX10_transfer ∈ GT := mT 1040 (by decide +kernel) rfl
theorem ln_X10_116 : Cond.methodLink RX10 116 yX8_faultOfMoving ∈ GT := mT 1042 (by decide +kernel) rfl
theorem im_X8_faultOfMoving : Cond.instanceMethod yX8_faultOfMoving ∈ GT := mT 1043 (by decide +kernel) rfl
theorem se_X8_faultOfMoving : Cond.selects RX8 yX8_faultOfMoving yX8_faultOfMoving ∈ GT := mT 1044 (by decide +kernel) rfl
theorem ln_X8_102 : Cond.methodLink RX8 102 yX5_canMove ∈ GT := mT 1046 (by decide +kernel) rfl
theorem ln_L_205 : Cond.methodLink RL 205 yL_balance ∈ GT := mT 1047 (by decide +kernel) rfl
theorem st_L_balance : Cond.static yL_balance ∈ GT := mT 1048 (by decide +kernel) rfl
theorem ln_L_41 : Cond.methodLink RL 41 yX10_balance ∈ GT := mT 1050 (by decide +kernel) rfl
theorem im_X10_balance : Cond.instanceMethod yX10_balance ∈ GT := mT 1051 (by decide +kernel) rfl
theorem se_X10_balance : Cond.selects RX10 yX10_balance yX10_balance ∈ GT := mT 1052 (by decide +kernel) rfl
theorem ln_X10_128 : Cond.methodLink RX10 128 yX10_faultOfAmount ∈ GT := mT 1054 (by decide +kernel) rfl
theorem st_X10_faultOfAmount : Cond.static yX10_faultOfAmount ∈ GT := mT 1055 (by decide +kernel) rfl
theorem ln_X10_159 : Cond.methodLink RX10 159 yX10_isWithin ∈ GT := mT 1057 (by decide +kernel) rfl
theorem ln_X10_135 : Cond.methodLink RX10 135 yX2_improves ∈ GT := mT 1059 (by decide +kernel) rfl
theorem im_X2_improves : Cond.instanceMethod yX2_improves ∈ GT := mT 1060 (by decide +kernel) rfl
theorem se_X2_improves : Cond.selects RX2 yX2_improves yX2_improves ∈ GT := mT 1061 (by decide +kernel) rfl
theorem ln_L_208 : Cond.methodLink RL 208 yL_setPower ∈ GT := mT 1064 (by decide +kernel) rfl
theorem st_L_setPower : Cond.static yL_setPower ∈ GT := mT 1065 (by decide +kernel) rfl
theorem ln_L_44 : Cond.methodLink RL 44 yX10_setPower ∈ GT := mT 1067 (by decide +kernel) rfl
theorem im_X10_setPower : Cond.instanceMethod yX10_setPower ∈ GT := mT 1068 (by decide +kernel) rfl
theorem se_X10_setPower : Cond.selects RX10 yX10_setPower yX10_setPower ∈ GT := mT 1069 (by decide +kernel) rfl
theorem ln_X10_153 : Cond.methodLink RX10 153 yX8_faultOfPower ∈ GT := mT 1071 (by decide +kernel) rfl
theorem im_X8_faultOfPower : Cond.instanceMethod yX8_faultOfPower ∈ GT := mT 1072 (by decide +kernel) rfl
theorem se_X8_faultOfPower : Cond.selects RX8 yX8_faultOfPower yX8_faultOfPower ∈ GT := mT 1073 (by decide +kernel) rfl
theorem ln_L_211 : Cond.methodLink RL 211 yL_setLimit ∈ GT := mT 1075 (by decide +kernel) rfl
theorem st_L_setLimit : Cond.static yL_setLimit ∈ GT := mT 1076 (by decide +kernel) rfl
theorem ln_L_47 : Cond.methodLink RL 47 yX10_setLimit ∈ GT := mT 1078 (by decide +kernel) rfl
theorem im_X10_setLimit : Cond.instanceMethod yX10_setLimit ∈ GT := mT 1079 (by decide +kernel) rfl
theorem se_X10_setLimit : Cond.selects RX10 yX10_setLimit yX10_setLimit ∈ GT := mT 1080 (by decide +kernel) rfl
theorem ln_L_214 : Cond.methodLink RL 214 yL_schedule ∈ GT := mT 1083 (by decide +kernel) rfl
theorem st_L_schedule : Cond.static yL_schedule ∈ GT := mT 1084 (by decide +kernel) rfl
theorem ln_L_50 : Cond.methodLink RL 50 yX10_schedule ∈ GT := mT 1086 (by decide +kernel) rfl
theorem im_X10_schedule : Cond.instanceMethod yX10_schedule ∈ GT := mT 1087 (by decide +kernel) rfl
theorem se_X10_schedule : Cond.selects RX10 yX10_schedule yX10_schedule ∈ GT := mT 1088 (by decide +kernel) rfl
theorem ln_X10_171 : Cond.methodLink RX10 171 yX8_faultOfScheduling ∈ GT := mT 1090 (by decide +kernel) rfl
theorem im_X8_faultOfScheduling : Cond.instanceMethod yX8_faultOfScheduling ∈ GT := mT 1091 (by decide +kernel) rfl
theorem se_X8_faultOfScheduling : Cond.selects RX8 yX8_faultOfScheduling yX8_faultOfScheduling ∈ GT := mT 1092 (by decide +kernel) rfl
theorem ln_X8_105 : Cond.methodLink RX8 105 yX9_find ∈ GT := mT 1094 (by decide +kernel) rfl
theorem im_X9_find : Cond.instanceMethod yX9_find ∈ GT := mT 1095 (by decide +kernel) rfl
theorem se_X9_find : Cond.selects RX9 yX9_find yX9_find ∈ GT := mT 1096 (by decide +kernel) rfl
theorem ln_X10_178 : Cond.methodLink RX10 178 yX9_add ∈ GT := mT 1098 (by decide +kernel) rfl
theorem im_X9_add : Cond.instanceMethod yX9_add ∈ GT := mT 1099 (by decide +kernel) rfl
theorem se_X9_add : Cond.selects RX9 yX9_add yX9_add ∈ GT := mT 1100 (by decide +kernel) rfl
theorem ln_L_217 : Cond.methodLink RL 217 yL_cancelStorm ∈ GT := mT 1102 (by decide +kernel) rfl
theorem st_L_cancelStorm : Cond.static yL_cancelStorm ∈ GT := mT 1103 (by decide +kernel) rfl
theorem ln_L_53 : Cond.methodLink RL 53 yX10_cancelStorm ∈ GT := mT 1105 (by decide +kernel) rfl
theorem im_X10_cancelStorm : Cond.instanceMethod yX10_cancelStorm ∈ GT := mT 1106 (by decide +kernel) rfl
theorem se_X10_cancelStorm : Cond.selects RX10 yX10_cancelStorm yX10_cancelStorm ∈ GT := mT 1107 (by decide +kernel) rfl
theorem ln_X10_186 : Cond.methodLink RX10 186 yX10_positionOfStorm ∈ GT := mT 1109 (by decide +kernel) rfl
theorem im_X10_positionOfStorm : Cond.instanceMethod yX10_positionOfStorm ∈ GT := mT 1111 (by decide +kernel) rfl
theorem ln_X10_470 : Cond.methodLink RX10 470 yX9_find ∈ GT := mT 1113 (by decide +kernel) rfl
theorem ln_X10_189 : Cond.methodLink RX10 189 yX9_removeAt ∈ GT := mT 1115 (by decide +kernel) rfl
theorem im_X9_removeAt : Cond.instanceMethod yX9_removeAt ∈ GT := mT 1116 (by decide +kernel) rfl
theorem se_X9_removeAt : Cond.selects RX9 yX9_removeAt yX9_removeAt ∈ GT := mT 1117 (by decide +kernel) rfl
theorem ln_L_220 : Cond.methodLink RL 220 yL_pass ∈ GT := mT 1119 (by decide +kernel) rfl
theorem st_L_pass : Cond.static yL_pass ∈ GT := mT 1120 (by decide +kernel) rfl
theorem ln_L_56 : Cond.methodLink RL 56 yX10_pass ∈ GT := mT 1122 (by decide +kernel) rfl
theorem im_X10_pass : Cond.instanceMethod yX10_pass ∈ GT := mT 1123 (by decide +kernel) rfl
theorem se_X10_pass : Cond.selects RX10 yX10_pass yX10_pass ∈ GT := mT 1124 (by decide +kernel) rfl
theorem ln_X10_192 : Cond.methodLink RX10 192 yX8_faultOfPassing ∈ GT := mT 1126 (by decide +kernel) rfl
theorem im_X8_faultOfPassing : Cond.instanceMethod yX8_faultOfPassing ∈ GT := mT 1127 (by decide +kernel) rfl
theorem se_X8_faultOfPassing : Cond.selects RX8 yX8_faultOfPassing yX8_faultOfPassing ∈ GT := mT 1128 (by decide +kernel) rfl
theorem ln_X10_195 : Cond.methodLink RX10 195 yX8_letPass ∈ GT := mT 1130 (by decide +kernel) rfl
theorem im_X8_letPass : Cond.instanceMethod yX8_letPass ∈ GT := mT 1131 (by decide +kernel) rfl
theorem se_X8_letPass : Cond.selects RX8 yX8_letPass yX8_letPass ∈ GT := mT 1132 (by decide +kernel) rfl
theorem ln_X8_107 : Cond.methodLink RX8 107 yX8_strikeIfScheduled ∈ GT := mT 1134 (by decide +kernel) rfl
theorem im_X8_strikeIfScheduled : Cond.instanceMethod yX8_strikeIfScheduled ∈ GT := mT 1136 (by decide +kernel) rfl
theorem ln_X8_116 : Cond.methodLink RX8 116 yX9_removeAt ∈ GT := mT 1138 (by decide +kernel) rfl
theorem ln_X8_119 : Cond.methodLink RX8 119 yX9_enterIntoLog ∈ GT := mT 1139 (by decide +kernel) rfl
theorem im_X9_enterIntoLog : Cond.instanceMethod yX9_enterIntoLog ∈ GT := mT 1140 (by decide +kernel) rfl
theorem se_X9_enterIntoLog : Cond.selects RX9 yX9_enterIntoLog yX9_enterIntoLog ∈ GT := mT 1141 (by decide +kernel) rfl
theorem ln_X9_34 : Cond.methodLink RX9 34 yJ9_min_7cf53 ∈ GT := mT 1143 (by decide +kernel) rfl
theorem ln_X8_123 : Cond.methodLink RX8 123 yX8_fullestCompartment ∈ GT := mT 1144 (by decide +kernel) rfl
theorem im_X8_fullestCompartment : Cond.instanceMethod yX8_fullestCompartment ∈ GT := mT 1146 (by decide +kernel) rfl
theorem ln_X8_129 : Cond.methodLink RX8 129 yJ9_min_7cf53 ∈ GT := mT 1148 (by decide +kernel) rfl
theorem ln_X8_110 : Cond.methodLink RX8 110 yX5_takeInLeaks ∈ GT := mT 1149 (by decide +kernel) rfl
theorem im_X5_takeInLeaks : Cond.instanceMethod yX5_takeInLeaks ∈ GT := mT 1150 (by decide +kernel) rfl
theorem se_X5_takeInLeaks : Cond.selects RX5 yX5_takeInLeaks yX5_takeInLeaks ∈ GT := mT 1151 (by decide +kernel) rfl
theorem ln_X5_41 : Cond.methodLink RX5 41 yJ9_min_7cf53 ∈ GT := mT 1153 (by decide +kernel) rfl
theorem ln_X8_113 : Cond.methodLink RX8 113 yX5_pumpOut ∈ GT := mT 1154 (by decide +kernel) rfl
theorem im_X5_pumpOut : Cond.instanceMethod yX5_pumpOut ∈ GT := mT 1155 (by decide +kernel) rfl
theorem se_X5_pumpOut : Cond.selects RX5 yX5_pumpOut yX5_pumpOut ∈ GT := mT 1156 (by decide +kernel) rfl
theorem ln_X5_59 : Cond.methodLink RX5 59 yX5_hasPower ∈ GT := mT 1158 (by decide +kernel) rfl
theorem im_X5_hasPower : Cond.instanceMethod yX5_hasPower ∈ GT := mT 1159 (by decide +kernel) rfl
theorem se_X5_hasPower : Cond.selects RX5 yX5_hasPower yX5_hasPower ∈ GT := mT 1160 (by decide +kernel) rfl
theorem ln_X5_47 : Cond.methodLink RX5 47 yX5_canPump ∈ GT := mT 1162 (by decide +kernel) rfl
theorem im_X5_canPump : Cond.instanceMethod yX5_canPump ∈ GT := mT 1163 (by decide +kernel) rfl
theorem se_X5_canPump : Cond.selects RX5 yX5_canPump yX5_canPump ∈ GT := mT 1164 (by decide +kernel) rfl
theorem ln_X5_55 : Cond.methodLink RX5 55 yX5_pumpRank ∈ GT := mT 1166 (by decide +kernel) rfl
theorem im_X5_pumpRank : Cond.instanceMethod yX5_pumpRank ∈ GT := mT 1167 (by decide +kernel) rfl
theorem se_X5_pumpRank : Cond.selects RX5 yX5_pumpRank yX5_pumpRank ∈ GT := mT 1168 (by decide +kernel) rfl
theorem ln_X5_51 : Cond.methodLink RX5 51 yX5_pumpsBefore ∈ GT := mT 1170 (by decide +kernel) rfl
theorem im_X5_pumpsBefore : Cond.instanceMethod yX5_pumpsBefore ∈ GT := mT 1172 (by decide +kernel) rfl
theorem ln_L_231 : Cond.methodLink RL 231 yL_arm ∈ GT := mT 1174 (by decide +kernel) rfl
theorem st_L_arm : Cond.static yL_arm ∈ GT := mT 1175 (by decide +kernel) rfl
theorem ln_L_59 : Cond.methodLink RL 59 yX10_arm ∈ GT := mT 1177 (by decide +kernel) rfl
theorem im_X10_arm : Cond.instanceMethod yX10_arm ∈ GT := mT 1178 (by decide +kernel) rfl
theorem se_X10_arm : Cond.selects RX10 yX10_arm yX10_arm ∈ GT := mT 1179 (by decide +kernel) rfl
theorem ln_X10_202 : Cond.methodLink RX10 202 yX10_checkCompartment ∈ GT := mT 1181 (by decide +kernel) rfl
theorem im_X10_checkCompartment : Cond.instanceMethod yX10_checkCompartment ∈ GT := mT 1183 (by decide +kernel) rfl
theorem ln_X10_459 : Cond.methodLink RX10 459 yX5_has ∈ GT := mT 1185 (by decide +kernel) rfl
theorem ln_L_234 : Cond.methodLink RL 234 yL_capacity ∈ GT := mT 1186 (by decide +kernel) rfl
theorem st_L_capacity : Cond.static yL_capacity ∈ GT := mT 1187 (by decide +kernel) rfl
theorem ln_L_62 : Cond.methodLink RL 62 yX10_capacity ∈ GT := mT 1189 (by decide +kernel) rfl
theorem im_X10_capacity : Cond.instanceMethod yX10_capacity ∈ GT := mT 1190 (by decide +kernel) rfl
theorem se_X10_capacity : Cond.selects RX10 yX10_capacity yX10_capacity ∈ GT := mT 1191 (by decide +kernel) rfl
theorem ln_L_237 : Cond.methodLink RL 237 yL_water ∈ GT := mT 1193 (by decide +kernel) rfl
theorem st_L_water : Cond.static yL_water ∈ GT := mT 1194 (by decide +kernel) rfl
theorem ln_L_65 : Cond.methodLink RL 65 yX10_water ∈ GT := mT 1196 (by decide +kernel) rfl
theorem im_X10_water : Cond.instanceMethod yX10_water ∈ GT := mT 1197 (by decide +kernel) rfl
theorem se_X10_water : Cond.selects RX10 yX10_water yX10_water ∈ GT := mT 1198 (by decide +kernel) rfl
theorem ln_L_240 : Cond.methodLink RL 240 yL_leak ∈ GT := mT 1200 (by decide +kernel) rfl
theorem st_L_leak : Cond.static yL_leak ∈ GT := mT 1201 (by decide +kernel) rfl
theorem ln_L_68 : Cond.methodLink RL 68 yX10_leak ∈ GT := mT 1203 (by decide +kernel) rfl
theorem im_X10_leak : Cond.instanceMethod yX10_leak ∈ GT := mT 1204 (by decide +kernel) rfl
theorem se_X10_leak : Cond.selects RX10 yX10_leak yX10_leak ∈ GT := mT 1205 (by decide +kernel) rfl
theorem ln_L_243 : Cond.methodLink RL 243 yL_loadOf ∈ GT := mT 1207 (by decide +kernel) rfl
theorem st_L_loadOf : Cond.static yL_loadOf ∈ GT := mT 1208 (by decide +kernel) rfl
theorem ln_L_71 : Cond.methodLink RL 71 yX10_loadOf ∈ GT := mT 1210 (by decide +kernel) rfl
theorem im_X10_loadOf : Cond.instanceMethod yX10_loadOf ∈ GT := mT 1211 (by decide +kernel) rfl
theorem se_X10_loadOf : Cond.selects RX10 yX10_loadOf yX10_loadOf ∈ GT := mT 1212 (by decide +kernel) rfl
theorem ln_X10_215 : Cond.methodLink RX10 215 yX8_loadIn ∈ GT := mT 1214 (by decide +kernel) rfl
theorem ln_L_246 : Cond.methodLink RL 246 yL_wouldPump ∈ GT := mT 1215 (by decide +kernel) rfl
theorem st_L_wouldPump : Cond.static yL_wouldPump ∈ GT := mT 1216 (by decide +kernel) rfl
theorem ln_L_74 : Cond.methodLink RL 74 yX10_wouldPump ∈ GT := mT 1218 (by decide +kernel) rfl
theorem im_X10_wouldPump : Cond.instanceMethod yX10_wouldPump ∈ GT := mT 1219 (by decide +kernel) rfl
theorem se_X10_wouldPump : Cond.selects RX10 yX10_wouldPump yX10_wouldPump ∈ GT := mT 1220 (by decide +kernel) rfl
theorem ln_X10_218 : Cond.methodLink RX10 218 yX5_hasPower ∈ GT := mT 1222 (by decide +kernel) rfl
theorem ln_L_249 : Cond.methodLink RL 249 yL_pumpAt ∈ GT := mT 1223 (by decide +kernel) rfl
theorem st_L_pumpAt : Cond.static yL_pumpAt ∈ GT := mT 1224 (by decide +kernel) rfl
theorem ln_L_78 : Cond.methodLink RL 78 yX10_pumpAt ∈ GT := mT 1226 (by decide +kernel) rfl
theorem im_X10_pumpAt : Cond.instanceMethod yX10_pumpAt ∈ GT := mT 1227 (by decide +kernel) rfl
theorem se_X10_pumpAt : Cond.selects RX10 yX10_pumpAt yX10_pumpAt ∈ GT := mT 1228 (by decide +kernel) rfl
theorem ln_X10_222 : Cond.methodLink RX10 222 yX5_canPump ∈ GT := mT 1230 (by decide +kernel) rfl
theorem ln_X10_225 : Cond.methodLink RX10 225 yX5_pumpRank ∈ GT := mT 1231 (by decide +kernel) rfl
theorem ln_L_252 : Cond.methodLink RL 252 yL_minutesUntilFull ∈ GT := mT 1233 (by decide +kernel) rfl
theorem st_L_minutesUntilFull : Cond.static yL_minutesUntilFull ∈ GT := mT 1234 (by decide +kernel) rfl
theorem ln_L_81 : Cond.methodLink RL 81 yX10_minutesUntilFull ∈ GT := mT 1236 (by decide +kernel) rfl
theorem im_X10_minutesUntilFull : Cond.instanceMethod yX10_minutesUntilFull ∈ GT := mT 1237 (by decide +kernel) rfl
theorem se_X10_minutesUntilFull : Cond.selects RX10 yX10_minutesUntilFull yX10_minutesUntilFull ∈ GT := mT 1238 (by decide +kernel) rfl
theorem ln_L_259 : Cond.methodLink RL 259 yL_idAt ∈ GT := mT 1241 (by decide +kernel) rfl
theorem st_L_idAt : Cond.static yL_idAt ∈ GT := mT 1242 (by decide +kernel) rfl
theorem ln_L_84 : Cond.methodLink RL 84 yX10_idAt ∈ GT := mT 1244 (by decide +kernel) rfl
theorem im_X10_idAt : Cond.instanceMethod yX10_idAt ∈ GT := mT 1245 (by decide +kernel) rfl
theorem se_X10_idAt : Cond.selects RX10 yX10_idAt yX10_idAt ∈ GT := mT 1246 (by decide +kernel) rfl
theorem ln_L_262 : Cond.methodLink RL 262 yL_weightOf ∈ GT := mT 1249 (by decide +kernel) rfl
theorem st_L_weightOf : Cond.static yL_weightOf ∈ GT := mT 1250 (by decide +kernel) rfl
theorem ln_L_87 : Cond.methodLink RL 87 yX10_weightOf ∈ GT := mT 1252 (by decide +kernel) rfl
theorem im_X10_weightOf : Cond.instanceMethod yX10_weightOf ∈ GT := mT 1253 (by decide +kernel) rfl
theorem se_X10_weightOf : Cond.selects RX10 yX10_weightOf yX10_weightOf ∈ GT := mT 1254 (by decide +kernel) rfl
theorem ln_X10_247 : Cond.methodLink RX10 247 yX10_positionOfPiece ∈ GT := mT 1256 (by decide +kernel) rfl
theorem im_X10_positionOfPiece : Cond.instanceMethod yX10_positionOfPiece ∈ GT := mT 1258 (by decide +kernel) rfl
theorem ln_X10_467 : Cond.methodLink RX10 467 yX1_find ∈ GT := mT 1260 (by decide +kernel) rfl
theorem ln_L_265 : Cond.methodLink RL 265 yL_compartmentOf ∈ GT := mT 1261 (by decide +kernel) rfl
theorem st_L_compartmentOf : Cond.static yL_compartmentOf ∈ GT := mT 1262 (by decide +kernel) rfl
theorem ln_L_90 : Cond.methodLink RL 90 yX10_compartmentOf ∈ GT := mT 1264 (by decide +kernel) rfl
theorem im_X10_compartmentOf : Cond.instanceMethod yX10_compartmentOf ∈ GT := mT 1265 (by decide +kernel) rfl
theorem se_X10_compartmentOf : Cond.selects RX10 yX10_compartmentOf yX10_compartmentOf ∈ GT := mT 1266 (by decide +kernel) rfl
theorem ln_L_268 : Cond.methodLink RL 268 yL_heaviestPiece ∈ GT := mT 1268 (by decide +kernel) rfl
theorem st_L_heaviestPiece : Cond.static yL_heaviestPiece ∈ GT := mT 1269 (by decide +kernel) rfl
theorem ln_L_93 : Cond.methodLink RL 93 yX10_heaviestPiece ∈ GT := mT 1271 (by decide +kernel) rfl
theorem im_X10_heaviestPiece : Cond.instanceMethod yX10_heaviestPiece ∈ GT := mT 1272 (by decide +kernel) rfl
theorem se_X10_heaviestPiece : Cond.selects RX10 yX10_heaviestPiece yX10_heaviestPiece ∈ GT := mT 1273 (by decide +kernel) rfl
theorem ln_L_301 : Cond.methodLink RL 301 yL_bestSource ∈ GT := mT 1276 (by decide +kernel) rfl
theorem st_L_bestSource : Cond.static yL_bestSource ∈ GT := mT 1277 (by decide +kernel) rfl
theorem ln_L_97 : Cond.methodLink RL 97 yX10_bestSource ∈ GT := mT 1279 (by decide +kernel) rfl
theorem im_X10_bestSource : Cond.instanceMethod yX10_bestSource ∈ GT := mT 1280 (by decide +kernel) rfl
theorem se_X10_bestSource : Cond.selects RX10 yX10_bestSource yX10_bestSource ∈ GT := mT 1281 (by decide +kernel) rfl
theorem ln_X10_274 : Cond.methodLink RX10 274 yX10_findBestTransfer ∈ GT := mT 1283 (by decide +kernel) rfl
theorem im_X10_findBestTransfer : Cond.instanceMethod yX10_findBestTransfer ∈ GT := mT 1285 (by decide +kernel) rfl
theorem ln_L_304 : Cond.methodLink RL 304 yL_bestTarget ∈ GT := mT 1288 (by decide +kernel) rfl
theorem st_L_bestTarget : Cond.static yL_bestTarget ∈ GT := mT 1289 (by decide +kernel) rfl
theorem ln_L_100 : Cond.methodLink RL 100 yX10_bestTarget ∈ GT := mT 1291 (by decide +kernel) rfl
theorem im_X10_bestTarget : Cond.instanceMethod yX10_bestTarget ∈ GT := mT 1292 (by decide +kernel) rfl
theorem se_X10_bestTarget : Cond.selects RX10 yX10_bestTarget yX10_bestTarget ∈ GT := mT 1293 (by decide +kernel) rfl
theorem ln_L_307 : Cond.methodLink RL 307 yL_bestMoment ∈ GT := mT 1295 (by decide +kernel) rfl
theorem st_L_bestMoment : Cond.static yL_bestMoment ∈ GT := mT 1296 (by decide +kernel) rfl
theorem ln_L_103 : Cond.methodLink RL 103 yX10_bestMoment ∈ GT := mT 1298 (by decide +kernel) rfl
theorem im_X10_bestMoment : Cond.instanceMethod yX10_bestMoment ∈ GT := mT 1299 (by decide +kernel) rfl
theorem se_X10_bestMoment : Cond.selects RX10 yX10_bestMoment yX10_bestMoment ∈ GT := mT 1300 (by decide +kernel) rfl
theorem ln_L_310 : Cond.methodLink RL 310 yL_transfersToBalance ∈ GT := mT 1302 (by decide +kernel) rfl
theorem st_L_transfersToBalance : Cond.static yL_transfersToBalance ∈ GT := mT 1303 (by decide +kernel) rfl
theorem ln_L_106 : Cond.methodLink RL 106 yX10_transfersToBalance ∈ GT := mT 1305 (by decide +kernel) rfl
theorem im_X10_transfersToBalance : Cond.instanceMethod yX10_transfersToBalance ∈ GT := mT 1306 (by decide +kernel) rfl
theorem se_X10_transfersToBalance : Cond.selects RX10 yX10_transfersToBalance yX10_transfersToBalance ∈ GT := mT 1307 (by decide +kernel) rfl
theorem ln_X10_283 : Cond.methodLink RX10 283 yJ9_abs_0f7a4 ∈ GT := mT 1309 (by decide +kernel) rfl
theorem ln_L_313 : Cond.methodLink RL 313 yL_bestShiftPiece ∈ GT := mT 1311 (by decide +kernel) rfl
theorem st_L_bestShiftPiece : Cond.static yL_bestShiftPiece ∈ GT := mT 1312 (by decide +kernel) rfl
theorem ln_L_109 : Cond.methodLink RL 109 yX10_bestShiftPiece ∈ GT := mT 1314 (by decide +kernel) rfl
theorem im_X10_bestShiftPiece : Cond.instanceMethod yX10_bestShiftPiece ∈ GT := mT 1315 (by decide +kernel) rfl
theorem se_X10_bestShiftPiece : Cond.selects RX10 yX10_bestShiftPiece yX10_bestShiftPiece ∈ GT := mT 1316 (by decide +kernel) rfl
theorem ln_X10_290 : Cond.methodLink RX10 290 yX10_findBestShift ∈ GT := mT 1318 (by decide +kernel) rfl
theorem im_X10_findBestShift : Cond.instanceMethod yX10_findBestShift ∈ GT := mT 1320 (by decide +kernel) rfl
theorem ln_X10_478 : Cond.methodLink RX10 478 yX2_searchShifts ∈ GT := mT 1322 (by decide +kernel) rfl
theorem im_X2_searchShifts : Cond.instanceMethod yX2_searchShifts ∈ GT := mT 1323 (by decide +kernel) rfl
theorem se_X2_searchShifts : Cond.selects RX2 yX2_searchShifts yX2_searchShifts ∈ GT := mT 1324 (by decide +kernel) rfl
theorem ln_X2_46 : Cond.methodLink RX2 46 yX8_totalMoment ∈ GT := mT 1326 (by decide +kernel) rfl
theorem ln_L_316 : Cond.methodLink RL 316 yL_bestShiftCompartment ∈ GT := mT 1328 (by decide +kernel) rfl
theorem st_L_bestShiftCompartment : Cond.static yL_bestShiftCompartment ∈ GT := mT 1329 (by decide +kernel) rfl
theorem ln_L_112 : Cond.methodLink RL 112 yX10_bestShiftCompartment ∈ GT := mT 1331 (by decide +kernel) rfl
theorem im_X10_bestShiftCompartment : Cond.instanceMethod yX10_bestShiftCompartment ∈ GT := mT 1332 (by decide +kernel) rfl
theorem se_X10_bestShiftCompartment : Cond.selects RX10 yX10_bestShiftCompartment yX10_bestShiftCompartment ∈ GT := mT 1333 (by decide +kernel) rfl
theorem ln_L_319 : Cond.methodLink RL 319 yL_momentAfter ∈ GT := mT 1335 (by decide +kernel) rfl
theorem st_L_momentAfter : Cond.static yL_momentAfter ∈ GT := mT 1336 (by decide +kernel) rfl
theorem ln_L_115 : Cond.methodLink RL 115 yX10_momentAfter ∈ GT := mT 1338 (by decide +kernel) rfl
theorem im_X10_momentAfter : Cond.instanceMethod yX10_momentAfter ∈ GT := mT 1339 (by decide +kernel) rfl
theorem se_X10_momentAfter : Cond.selects RX10 yX10_momentAfter yX10_momentAfter ∈ GT := mT 1340 (by decide +kernel) rfl
theorem ln_L_322 : Cond.methodLink RL 322 yL_minutesUntilSunk ∈ GT := mT 1343 (by decide +kernel) rfl
theorem st_L_minutesUntilSunk : Cond.static yL_minutesUntilSunk ∈ GT := mT 1344 (by decide +kernel) rfl
theorem ln_L_118 : Cond.methodLink RL 118 yX10_minutesUntilSunk ∈ GT := mT 1346 (by decide +kernel) rfl
theorem im_X10_minutesUntilSunk : Cond.instanceMethod yX10_minutesUntilSunk ∈ GT := mT 1347 (by decide +kernel) rfl
theorem se_X10_minutesUntilSunk : Cond.selects RX10 yX10_minutesUntilSunk yX10_minutesUntilSunk ∈ GT := mT 1348 (by decide +kernel) rfl
theorem ln_L_325 : Cond.methodLink RL 325 yL_compartmentByLoad ∈ GT := mT 1351 (by decide +kernel) rfl
theorem st_L_compartmentByLoad : Cond.static yL_compartmentByLoad ∈ GT := mT 1352 (by decide +kernel) rfl
theorem ln_L_121 : Cond.methodLink RL 121 yX10_compartmentByLoad ∈ GT := mT 1354 (by decide +kernel) rfl
theorem im_X10_compartmentByLoad : Cond.instanceMethod yX10_compartmentByLoad ∈ GT := mT 1355 (by decide +kernel) rfl
theorem se_X10_compartmentByLoad : Cond.selects RX10 yX10_compartmentByLoad yX10_compartmentByLoad ∈ GT := mT 1356 (by decide +kernel) rfl
theorem ln_X10_297 : Cond.methodLink RX10 297 yX8_loadRank ∈ GT := mT 1358 (by decide +kernel) rfl
theorem im_X8_loadRank : Cond.instanceMethod yX8_loadRank ∈ GT := mT 1359 (by decide +kernel) rfl
theorem se_X8_loadRank : Cond.selects RX8 yX8_loadRank yX8_loadRank ∈ GT := mT 1360 (by decide +kernel) rfl
theorem ln_X8_144 : Cond.methodLink RX8 144 yX8_isLoadedBefore ∈ GT := mT 1362 (by decide +kernel) rfl
theorem im_X8_isLoadedBefore : Cond.instanceMethod yX8_isLoadedBefore ∈ GT := mT 1364 (by decide +kernel) rfl
theorem ln_L_332 : Cond.methodLink RL 332 yL_nextStorm ∈ GT := mT 1366 (by decide +kernel) rfl
theorem st_L_nextStorm : Cond.static yL_nextStorm ∈ GT := mT 1367 (by decide +kernel) rfl
theorem ln_L_124 : Cond.methodLink RL 124 yX10_nextStorm ∈ GT := mT 1369 (by decide +kernel) rfl
theorem im_X10_nextStorm : Cond.instanceMethod yX10_nextStorm ∈ GT := mT 1370 (by decide +kernel) rfl
theorem se_X10_nextStorm : Cond.selects RX10 yX10_nextStorm yX10_nextStorm ∈ GT := mT 1371 (by decide +kernel) rfl
theorem ln_L_335 : Cond.methodLink RL 335 yL_strengthAt ∈ GT := mT 1374 (by decide +kernel) rfl
theorem st_L_strengthAt : Cond.static yL_strengthAt ∈ GT := mT 1375 (by decide +kernel) rfl
theorem ln_L_127 : Cond.methodLink RL 127 yX10_strengthAt ∈ GT := mT 1377 (by decide +kernel) rfl
theorem im_X10_strengthAt : Cond.instanceMethod yX10_strengthAt ∈ GT := mT 1378 (by decide +kernel) rfl
theorem se_X10_strengthAt : Cond.selects RX10 yX10_strengthAt yX10_strengthAt ∈ GT := mT 1379 (by decide +kernel) rfl
theorem ln_L_338 : Cond.methodLink RL 338 yL_loggedMinute ∈ GT := mT 1381 (by decide +kernel) rfl
theorem st_L_loggedMinute : Cond.static yL_loggedMinute ∈ GT := mT 1382 (by decide +kernel) rfl
theorem ln_L_130 : Cond.methodLink RL 130 yX10_loggedMinute ∈ GT := mT 1384 (by decide +kernel) rfl
theorem im_X10_loggedMinute : Cond.instanceMethod yX10_loggedMinute ∈ GT := mT 1385 (by decide +kernel) rfl
theorem se_X10_loggedMinute : Cond.selects RX10 yX10_loggedMinute yX10_loggedMinute ∈ GT := mT 1386 (by decide +kernel) rfl
theorem ln_L_346 : Cond.methodLink RL 346 yL_meanWater ∈ GT := mT 1389 (by decide +kernel) rfl
theorem st_L_meanWater : Cond.static yL_meanWater ∈ GT := mT 1390 (by decide +kernel) rfl
theorem ln_L_133 : Cond.methodLink RL 133 yX10_meanWater ∈ GT := mT 1406 (by decide +kernel) rfl
theorem im_X10_meanWater : Cond.instanceMethod yX10_meanWater ∈ GT := mT 1407 (by decide +kernel) rfl
theorem se_X10_meanWater : Cond.selects RX10 yX10_meanWater yX10_meanWater ∈ GT := mT 1408 (by decide +kernel) rfl
theorem ln_X10_320 : Cond.methodLink RX10 320 yX10_checkForMean ∈ GT := mT 1410 (by decide +kernel) rfl
theorem im_X10_checkForMean : Cond.instanceMethod yX10_checkForMean ∈ GT := mT 1412 (by decide +kernel) rfl
theorem ln_X10_323 : Cond.methodLink RX10 323 yX5_totalWater ∈ GT := mT 1417 (by decide +kernel) rfl
theorem ln_L_350 : Cond.methodLink RL 350 yL_fillShare ∈ GT := mT 1418 (by decide +kernel) rfl
theorem st_L_fillShare : Cond.static yL_fillShare ∈ GT := mT 1419 (by decide +kernel) rfl
theorem ln_L_139 : Cond.methodLink RL 139 yX10_fillShare ∈ GT := mT 1421 (by decide +kernel) rfl
theorem im_X10_fillShare : Cond.instanceMethod yX10_fillShare ∈ GT := mT 1422 (by decide +kernel) rfl
theorem se_X10_fillShare : Cond.selects RX10 yX10_fillShare yX10_fillShare ∈ GT := mT 1423 (by decide +kernel) rfl
theorem ln_X10_326 : Cond.methodLink RX10 326 yX5_totalCapacity ∈ GT := mT 1425 (by decide +kernel) rfl
theorem im_X5_totalCapacity : Cond.instanceMethod yX5_totalCapacity ∈ GT := mT 1426 (by decide +kernel) rfl
theorem se_X5_totalCapacity : Cond.selects RX5 yX5_totalCapacity yX5_totalCapacity ∈ GT := mT 1427 (by decide +kernel) rfl
theorem ln_L_357 : Cond.methodLink RL 357 yL_formatCompartment ∈ GT := mT 1429 (by decide +kernel) rfl
theorem st_L_formatCompartment : Cond.static yL_formatCompartment ∈ GT := mT 1430 (by decide +kernel) rfl
theorem ln_L_143 : Cond.methodLink RL 143 yX10_formatCompartment ∈ GT := mT 1432 (by decide +kernel) rfl
theorem im_X10_formatCompartment : Cond.instanceMethod yX10_formatCompartment ∈ GT := mT 1433 (by decide +kernel) rfl
theorem se_X10_formatCompartment : Cond.selects RX10 yX10_formatCompartment yX10_formatCompartment ∈ GT := mT 1434 (by decide +kernel) rfl
theorem ln_X10_348 : Cond.methodLink RX10 348 yJ4_append_15ec4 ∈ GT := mT 1437 (by decide +kernel) rfl
theorem ln_X10_353 : Cond.methodLink RX10 353 yX1_weightIn ∈ GT := mT 1439 (by decide +kernel) rfl
theorem ln_L_360 : Cond.methodLink RL 360 yL_formatCargo ∈ GT := mT 1441 (by decide +kernel) rfl
theorem st_L_formatCargo : Cond.static yL_formatCargo ∈ GT := mT 1442 (by decide +kernel) rfl
theorem ln_L_146 : Cond.methodLink RL 146 yX10_formatCargo ∈ GT := mT 1444 (by decide +kernel) rfl
theorem im_X10_formatCargo : Cond.instanceMethod yX10_formatCargo ∈ GT := mT 1445 (by decide +kernel) rfl
theorem se_X10_formatCargo : Cond.selects RX10 yX10_formatCargo yX10_formatCargo ∈ GT := mT 1446 (by decide +kernel) rfl
theorem ln_L_367 : Cond.methodLink RL 367 yL_lineChar ∈ GT := mT 1448 (by decide +kernel) rfl
theorem st_L_lineChar : Cond.static yL_lineChar ∈ GT := mT 1449 (by decide +kernel) rfl
theorem ln_L_149 : Cond.methodLink RL 149 yX10_lineChar ∈ GT := mT 1451 (by decide +kernel) rfl
theorem im_X10_lineChar : Cond.instanceMethod yX10_lineChar ∈ GT := mT 1452 (by decide +kernel) rfl
theorem se_X10_lineChar : Cond.selects RX10 yX10_lineChar yX10_lineChar ∈ GT := mT 1453 (by decide +kernel) rfl
theorem ln_X10_367 : Cond.methodLink RX10 367 yJ4_charAt_5068e ∈ GT := mT 1456 (by decide +kernel) rfl
theorem im_J4_charAt_5068e : Cond.instanceMethod yJ4_charAt_5068e ∈ GT := mT 1457 (by decide +kernel) rfl
theorem se_J4_charAt_5068e : Cond.selects RJ4 yJ4_charAt_5068e yJ4_charAt_5068e ∈ GT := mT 1458 (by decide +kernel) rfl
theorem ln_J4_329 : Cond.methodLink RJ4 329 yJ5_charAt_5068e ∈ GT := mT 1460 (by decide +kernel) rfl
theorem im_J5_charAt_5068e : Cond.instanceMethod yJ5_charAt_5068e ∈ GT := mT 1461 (by decide +kernel) rfl
theorem ln_J5_138 : Cond.methodLink RJ5 138 yJ9_min_7cf53 ∈ GT := mT 1463 (by decide +kernel) rfl
theorem ln_J5_144 : Cond.methodLink RJ5 144 yJ0_checkIndex_df160 ∈ GT := mT 1464 (by decide +kernel) rfl
theorem ln_J5_148 : Cond.methodLink RJ5 148 yJ2_getChar_3b067 ∈ GT := mT 1465 (by decide +kernel) rfl
theorem ln_L_370 : Cond.methodLink RL 370 yL_append ∈ GT := mT 1466 (by decide +kernel) rfl
theorem st_L_append : Cond.static yL_append ∈ GT := mT 1467 (by decide +kernel) rfl
theorem ln_L_153 : Cond.methodLink RL 153 yX10_append ∈ GT := mT 1469 (by decide +kernel) rfl
theorem im_X10_append : Cond.instanceMethod yX10_append ∈ GT := mT 1470 (by decide +kernel) rfl
theorem se_X10_append : Cond.selects RX10 yX10_append yX10_append ∈ GT := mT 1471 (by decide +kernel) rfl
theorem ln_L_374 : Cond.methodLink RL 374 yL_run ∈ GT := mT 1475 (by decide +kernel) rfl
theorem st_L_run : Cond.static yL_run ∈ GT := mT 1476 (by decide +kernel) rfl
theorem ln_L_157 : Cond.methodLink RL 157 yX10_run ∈ GT := mT 1478 (by decide +kernel) rfl
theorem im_X10_run : Cond.instanceMethod yX10_run ∈ GT := mT 1479 (by decide +kernel) rfl
theorem se_X10_run : Cond.selects RX10 yX10_run yX10_run ∈ GT := mT 1480 (by decide +kernel) rfl
theorem ln_X10_375 : Cond.methodLink RX10 375 yX7_parse ∈ GT := mT 1482 (by decide +kernel) rfl
theorem im_X7_parse : Cond.instanceMethod yX7_parse ∈ GT := mT 1483 (by decide +kernel) rfl
theorem se_X7_parse : Cond.selects RX7 yX7_parse yX7_parse ∈ GT := mT 1484 (by decide +kernel) rfl
theorem ln_X7_37 : Cond.methodLink RX7 37 yX7_readKeyword ∈ GT := mT 1486 (by decide +kernel) rfl
theorem im_X7_readKeyword : Cond.instanceMethod yX7_readKeyword ∈ GT := mT 1488 (by decide +kernel) rfl
theorem ln_X7_65 : Cond.methodLink RX7 65 yX7_countMatching ∈ GT := mT 1492 (by decide +kernel) rfl
theorem im_X7_countMatching : Cond.instanceMethod yX7_countMatching ∈ GT := mT 1494 (by decide +kernel) rfl
theorem ln_X7_69 : Cond.methodLink RX7 69 yJ0_length_8abf5 ∈ GT := mT 1496 (by decide +kernel) rfl
theorem ln_X7_78 : Cond.methodLink RX7 78 yJ0_charAt_5068e ∈ GT := mT 1497 (by decide +kernel) rfl
theorem im_J0_charAt_5068e : Cond.instanceMethod yJ0_charAt_5068e ∈ GT := mT 1498 (by decide +kernel) rfl
theorem se_J0_charAt_5068e : Cond.selects RJ0 yJ0_charAt_5068e yJ0_charAt_5068e ∈ GT := mT 1499 (by decide +kernel) rfl
theorem ln_J0_492 : Cond.methodLink RJ0 492 yJ0_isLatin1_aae02 ∈ GT := mT 1501 (by decide +kernel) rfl
theorem im_J0_isLatin1_aae02 : Cond.instanceMethod yJ0_isLatin1_aae02 ∈ GT := mT 1502 (by decide +kernel) rfl
theorem se_J0_isLatin1_aae02 : Cond.selects RJ0 yJ0_isLatin1_aae02 yJ0_isLatin1_aae02 ∈ GT := mT 1503 (by decide +kernel) rfl
theorem ln_J0_495 : Cond.methodLink RJ0 495 yJ1_charAt_3b067 ∈ GT := mT 1505 (by decide +kernel) rfl
theorem st_J1_charAt_3b067 : Cond.static yJ1_charAt_3b067 ∈ GT := mT 1506 (by decide +kernel) rfl
theorem ln_J1_9 : Cond.methodLink RJ1 9 yJ0_checkIndex_df160 ∈ GT := mT 1508 (by decide +kernel) rfl
theorem ln_J0_498 : Cond.methodLink RJ0 498 yJ2_charAt_3b067 ∈ GT := mT 1509 (by decide +kernel) rfl
theorem st_J2_charAt_3b067 : Cond.static yJ2_charAt_3b067 ∈ GT := mT 1510 (by decide +kernel) rfl
theorem ln_X7_82 : Cond.methodLink RX7 82 yX7_isAt ∈ GT := mT 1512 (by decide +kernel) rfl
theorem im_X7_isAt : Cond.instanceMethod yX7_isAt ∈ GT := mT 1514 (by decide +kernel) rfl
theorem ln_X7_49 : Cond.methodLink RX7 49 yJ4_length_8abf5 ∈ GT := mT 1516 (by decide +kernel) rfl
theorem ln_X7_96 : Cond.methodLink RX7 96 yJ4_charAt_5068e ∈ GT := mT 1517 (by decide +kernel) rfl
theorem ln_X7_72 : Cond.methodLink RX7 72 yJ9_max_7cf53 ∈ GT := mT 1518 (by decide +kernel) rfl
theorem ln_X7_45 : Cond.methodLink RX7 45 yX7_readArguments ∈ GT := mT 1519 (by decide +kernel) rfl
theorem im_X7_readArguments : Cond.instanceMethod yX7_readArguments ∈ GT := mT 1521 (by decide +kernel) rfl
theorem ln_X7_55 : Cond.methodLink RX7 55 yX7_take ∈ GT := mT 1523 (by decide +kernel) rfl
theorem im_X7_take : Cond.instanceMethod yX7_take ∈ GT := mT 1525 (by decide +kernel) rfl
theorem ln_X7_86 : Cond.methodLink RX7 86 yX7_readValue ∈ GT := mT 1527 (by decide +kernel) rfl
theorem im_X7_readValue : Cond.instanceMethod yX7_readValue ∈ GT := mT 1529 (by decide +kernel) rfl
theorem ln_X7_92 : Cond.methodLink RX7 92 yX7_isDigitAt ∈ GT := mT 1531 (by decide +kernel) rfl
theorem im_X7_isDigitAt : Cond.instanceMethod yX7_isDigitAt ∈ GT := mT 1533 (by decide +kernel) rfl
theorem ln_X10_398 : Cond.methodLink RX10 398 yX10_faultOf ∈ GT := mT 1536 (by decide +kernel) rfl
theorem im_X10_faultOf : Cond.instanceMethod yX10_faultOf ∈ GT := mT 1538 (by decide +kernel) rfl
theorem im_Jx29ce0_ordinal_8abf5 : Cond.instanceMethod yJx29ce0_ordinal_8abf5 ∈ GT := mT 1546 (by decide +kernel) rfl
theorem ln_X10_416 : Cond.methodLink RX10 416 yX10_carryOut ∈ GT := mT 1549 (by decide +kernel) rfl
theorem im_X10_carryOut : Cond.instanceMethod yX10_carryOut ∈ GT := mT 1551 (by decide +kernel) rfl
theorem ln_L_377 : Cond.methodLink RL 377 yL_errorPosition ∈ GT := mT 1553 (by decide +kernel) rfl
theorem st_L_errorPosition : Cond.static yL_errorPosition ∈ GT := mT 1554 (by decide +kernel) rfl
theorem ln_L_160 : Cond.methodLink RL 160 yX10_errorPosition ∈ GT := mT 1556 (by decide +kernel) rfl
theorem im_X10_errorPosition : Cond.instanceMethod yX10_errorPosition ∈ GT := mT 1557 (by decide +kernel) rfl
theorem se_X10_errorPosition : Cond.selects RX10 yX10_errorPosition yX10_errorPosition ∈ GT := mT 1558 (by decide +kernel) rfl
theorem ln_L_380 : Cond.methodLink RL 380 yL_failedCommand ∈ GT := mT 1561 (by decide +kernel) rfl
theorem st_L_failedCommand : Cond.static yL_failedCommand ∈ GT := mT 1562 (by decide +kernel) rfl
theorem ln_L_163 : Cond.methodLink RL 163 yX10_failedCommand ∈ GT := mT 1564 (by decide +kernel) rfl
theorem im_X10_failedCommand : Cond.instanceMethod yX10_failedCommand ∈ GT := mT 1565 (by decide +kernel) rfl
theorem se_X10_failedCommand : Cond.selects RX10 yX10_failedCommand yX10_failedCommand ∈ GT := mT 1566 (by decide +kernel) rfl
theorem ln_L_387 : Cond.methodLink RL 387 yL_undo ∈ GT := mT 1569 (by decide +kernel) rfl
theorem st_L_undo : Cond.static yL_undo ∈ GT := mT 1570 (by decide +kernel) rfl
theorem ln_L_166 : Cond.methodLink RL 166 yX10_undo ∈ GT := mT 1572 (by decide +kernel) rfl
theorem im_X10_undo : Cond.instanceMethod yX10_undo ∈ GT := mT 1573 (by decide +kernel) rfl
theorem se_X10_undo : Cond.selects RX10 yX10_undo yX10_undo ∈ GT := mT 1574 (by decide +kernel) rfl
theorem ln_X10_427 : Cond.methodLink RX10 427 yX4_takeLatest ∈ GT := mT 1577 (by decide +kernel) rfl
theorem im_X4_takeLatest : Cond.instanceMethod yX4_takeLatest ∈ GT := mT 1578 (by decide +kernel) rfl
theorem se_X4_takeLatest : Cond.selects RX4 yX4_takeLatest yX4_takeLatest ∈ GT := mT 1579 (by decide +kernel) rfl
theorem ln_L_394 : Cond.methodLink RL 394 yL_restore ∈ GT := mT 1581 (by decide +kernel) rfl
theorem st_L_restore : Cond.static yL_restore ∈ GT := mT 1582 (by decide +kernel) rfl
theorem ln_L_169 : Cond.methodLink RL 169 yX10_restore ∈ GT := mT 1584 (by decide +kernel) rfl
theorem im_X10_restore : Cond.instanceMethod yX10_restore ∈ GT := mT 1585 (by decide +kernel) rfl
theorem se_X10_restore : Cond.selects RX10 yX10_restore yX10_restore ∈ GT := mT 1586 (by decide +kernel) rfl
theorem ln_X10_436 : Cond.methodLink RX10 436 yX4_clear ∈ GT := mT 1589 (by decide +kernel) rfl
theorem im_X4_clear : Cond.instanceMethod yX4_clear ∈ GT := mT 1590 (by decide +kernel) rfl
theorem se_X4_clear : Cond.selects RX4 yX4_clear yX4_clear ∈ GT := mT 1591 (by decide +kernel) rfl
theorem ln_L_175 : Cond.methodLink RL 175 yX11_init ∈ GT := mT 1595 (by decide +kernel) rfl
theorem im_X11_init : Cond.instanceMethod yX11_init ∈ GT := mT 1596 (by decide +kernel) rfl
theorem ln_L_182 : Cond.methodLink RL 182 yX11_thrown ∈ GT := mT 1646 (by decide +kernel) rfl
theorem im_X11_thrown : Cond.instanceMethod yX11_thrown ∈ GT := mT 1647 (by decide +kernel) rfl
theorem se_X11_thrown : Cond.selects RX11 yX11_thrown yX11_thrown ∈ GT := mT 1648 (by decide +kernel) rfl
theorem ln_L_181 : Cond.methodLink RL 181 yX11_addCompartment ∈ GT := mT 1650 (by decide +kernel) rfl
theorem im_X11_addCompartment : Cond.instanceMethod yX11_addCompartment ∈ GT := mT 1651 (by decide +kernel) rfl
theorem se_X11_addCompartment : Cond.selects RX11 yX11_addCompartment yX11_addCompartment ∈ GT := mT 1652 (by decide +kernel) rfl
theorem ln_X11_104 : Cond.methodLink RX11 104 yX11_begins ∈ GT := mT 1654 (by decide +kernel) rfl
theorem im_X11_begins : Cond.instanceMethod yX11_begins ∈ GT := mT 1656 (by decide +kernel) rfl
theorem ln_X11_33 : Cond.methodLink RX11 33 yX11_copies ∈ GT := mT 1658 (by decide +kernel) rfl
theorem im_X11_copies : Cond.instanceMethod yX11_copies ∈ GT := mT 1660 (by decide +kernel) rfl
theorem ln_X11_107 : Cond.methodLink RX11 107 yX11_adds ∈ GT := mT 1662 (by decide +kernel) rfl
theorem im_X11_adds : Cond.instanceMethod yX11_adds ∈ GT := mT 1664 (by decide +kernel) rfl
theorem ln_X11_43 : Cond.methodLink RX11 43 yX11_in ∈ GT := mT 1666 (by decide +kernel) rfl
theorem st_X11_in : Cond.static yX11_in ∈ GT := mT 1667 (by decide +kernel) rfl
theorem ln_X11_77 : Cond.methodLink RX11 77 yX11_set ∈ GT := mT 1669 (by decide +kernel) rfl
theorem im_X11_set : Cond.instanceMethod yX11_set ∈ GT := mT 1671 (by decide +kernel) rfl
theorem ln_X11_110 : Cond.methodLink RX11 110 yX11_ends ∈ GT := mT 1673 (by decide +kernel) rfl
theorem im_X11_ends : Cond.instanceMethod yX11_ends ∈ GT := mT 1675 (by decide +kernel) rfl
theorem ln_L_187 : Cond.methodLink RL 187 yX11_load ∈ GT := mT 1677 (by decide +kernel) rfl
theorem im_X11_load : Cond.instanceMethod yX11_load ∈ GT := mT 1678 (by decide +kernel) rfl
theorem se_X11_load : Cond.selects RX11 yX11_load yX11_load ∈ GT := mT 1679 (by decide +kernel) rfl
theorem ln_X11_117 : Cond.methodLink RX11 117 yX11_loads ∈ GT := mT 1681 (by decide +kernel) rfl
theorem im_X11_loads : Cond.instanceMethod yX11_loads ∈ GT := mT 1683 (by decide +kernel) rfl
theorem ln_X11_114 : Cond.methodLink RX11 114 yX11_isTank ∈ GT := mT 1685 (by decide +kernel) rfl
theorem im_X11_isTank : Cond.instanceMethod yX11_isTank ∈ GT := mT 1687 (by decide +kernel) rfl
theorem ln_X11_91 : Cond.methodLink RX11 91 yX11_total ∈ GT := mT 1689 (by decide +kernel) rfl
theorem im_X11_total : Cond.instanceMethod yX11_total ∈ GT := mT 1691 (by decide +kernel) rfl
theorem ln_X11_64 : Cond.methodLink RX11 64 yX11_laden ∈ GT := mT 1693 (by decide +kernel) rfl
theorem im_X11_laden : Cond.instanceMethod yX11_laden ∈ GT := mT 1695 (by decide +kernel) rfl
theorem ln_X11_57 : Cond.methodLink RX11 57 yX11_c ∈ GT := mT 1697 (by decide +kernel) rfl
theorem im_X11_c : Cond.instanceMethod yX11_c ∈ GT := mT 1699 (by decide +kernel) rfl
theorem ln_X11_61 : Cond.methodLink RX11 61 yX11_cargo ∈ GT := mT 1701 (by decide +kernel) rfl
theorem im_X11_cargo : Cond.instanceMethod yX11_cargo ∈ GT := mT 1703 (by decide +kernel) rfl
theorem ln_X11_51 : Cond.methodLink RX11 51 yX11_lies ∈ GT := mT 1705 (by decide +kernel) rfl
theorem im_X11_lies : Cond.instanceMethod yX11_lies ∈ GT := mT 1707 (by decide +kernel) rfl
theorem ln_X11_54 : Cond.methodLink RX11 54 yX11_heavy ∈ GT := mT 1709 (by decide +kernel) rfl
theorem im_X11_heavy : Cond.instanceMethod yX11_heavy ∈ GT := mT 1711 (by decide +kernel) rfl
theorem ln_L_191 : Cond.methodLink RL 191 yX11_unload ∈ GT := mT 1713 (by decide +kernel) rfl
theorem im_X11_unload : Cond.instanceMethod yX11_unload ∈ GT := mT 1714 (by decide +kernel) rfl
theorem se_X11_unload : Cond.selects RX11 yX11_unload yX11_unload ∈ GT := mT 1715 (by decide +kernel) rfl
theorem ln_X11_123 : Cond.methodLink RX11 123 yX11_unloads ∈ GT := mT 1717 (by decide +kernel) rfl
theorem im_X11_unloads : Cond.instanceMethod yX11_unloads ∈ GT := mT 1719 (by decide +kernel) rfl
theorem ln_X11_120 : Cond.methodLink RX11 120 yX11_piece ∈ GT := mT 1721 (by decide +kernel) rfl
theorem im_X11_piece : Cond.instanceMethod yX11_piece ∈ GT := mT 1723 (by decide +kernel) rfl
theorem ln_X11_47 : Cond.methodLink RX11 47 yX11_idOf ∈ GT := mT 1725 (by decide +kernel) rfl
theorem im_X11_idOf : Cond.instanceMethod yX11_idOf ∈ GT := mT 1727 (by decide +kernel) rfl
theorem ln_L_194 : Cond.methodLink RL 194 yX11_shift ∈ GT := mT 1729 (by decide +kernel) rfl
theorem im_X11_shift : Cond.instanceMethod yX11_shift ∈ GT := mT 1730 (by decide +kernel) rfl
theorem se_X11_shift : Cond.selects RX11 yX11_shift yX11_shift ∈ GT := mT 1731 (by decide +kernel) rfl
theorem ln_X11_126 : Cond.methodLink RX11 126 yX11_shifts ∈ GT := mT 1733 (by decide +kernel) rfl
theorem im_X11_shifts : Cond.instanceMethod yX11_shifts ∈ GT := mT 1735 (by decide +kernel) rfl
theorem ln_L_197 : Cond.methodLink RL 197 yX11_setLeak ∈ GT := mT 1737 (by decide +kernel) rfl
theorem im_X11_setLeak : Cond.instanceMethod yX11_setLeak ∈ GT := mT 1738 (by decide +kernel) rfl
theorem se_X11_setLeak : Cond.selects RX11 yX11_setLeak yX11_setLeak ∈ GT := mT 1739 (by decide +kernel) rfl
theorem ln_X11_129 : Cond.methodLink RX11 129 yX11_rates ∈ GT := mT 1741 (by decide +kernel) rfl
theorem im_X11_rates : Cond.instanceMethod yX11_rates ∈ GT := mT 1743 (by decide +kernel) rfl
theorem ln_L_200 : Cond.methodLink RL 200 yX11_setPump ∈ GT := mT 1745 (by decide +kernel) rfl
theorem im_X11_setPump : Cond.instanceMethod yX11_setPump ∈ GT := mT 1746 (by decide +kernel) rfl
theorem se_X11_setPump : Cond.selects RX11 yX11_setPump yX11_setPump ∈ GT := mT 1747 (by decide +kernel) rfl
theorem ln_L_204 : Cond.methodLink RL 204 yX11_transfer ∈ GT := mT 1749 (by decide +kernel) rfl
theorem im_X11_transfer : Cond.instanceMethod yX11_transfer ∈ GT := mT 1750 (by decide +kernel) rfl
theorem se_X11_transfer : Cond.selects RX11 yX11_transfer yX11_transfer ∈ GT := mT 1751 (by decide +kernel) rfl
theorem ln_X11_139 : Cond.methodLink RX11 139 yX11_transfers ∈ GT := mT 1753 (by decide +kernel) rfl
theorem im_X11_transfers : Cond.instanceMethod yX11_transfers ∈ GT := mT 1755 (by decide +kernel) rfl
theorem ln_X11_133 : Cond.methodLink RX11 133 yX11_isAmount ∈ GT := mT 1757 (by decide +kernel) rfl
theorem st_X11_isAmount : Cond.static yX11_isAmount ∈ GT := mT 1758 (by decide +kernel) rfl
theorem ln_X11_101 : Cond.methodLink RX11 101 yX11_isPossible ∈ GT := mT 1760 (by decide +kernel) rfl
theorem im_X11_isPossible : Cond.instanceMethod yX11_isPossible ∈ GT := mT 1762 (by decide +kernel) rfl
theorem ln_X11_136 : Cond.methodLink RX11 136 yX11_moves ∈ GT := mT 1764 (by decide +kernel) rfl
theorem im_X11_moves : Cond.instanceMethod yX11_moves ∈ GT := mT 1766 (by decide +kernel) rfl
theorem ln_X11_95 : Cond.methodLink RX11 95 yX11_turning ∈ GT := mT 1768 (by decide +kernel) rfl
theorem im_X11_turning : Cond.instanceMethod yX11_turning ∈ GT := mT 1770 (by decide +kernel) rfl
theorem ln_L_207 : Cond.methodLink RL 207 yX11_balance ∈ GT := mT 1772 (by decide +kernel) rfl
theorem im_X11_balance : Cond.instanceMethod yX11_balance ∈ GT := mT 1773 (by decide +kernel) rfl
theorem se_X11_balance : Cond.selects RX11 yX11_balance yX11_balance ∈ GT := mT 1774 (by decide +kernel) rfl
theorem ln_X11_145 : Cond.methodLink RX11 145 yX11_balances ∈ GT := mT 1776 (by decide +kernel) rfl
theorem im_X11_balances : Cond.instanceMethod yX11_balances ∈ GT := mT 1778 (by decide +kernel) rfl
theorem ln_X11_142 : Cond.methodLink RX11 142 yX11_best ∈ GT := mT 1780 (by decide +kernel) rfl
theorem im_X11_best : Cond.instanceMethod yX11_best ∈ GT := mT 1782 (by decide +kernel) rfl
theorem ln_X11_98 : Cond.methodLink RX11 98 yX11_size ∈ GT := mT 1784 (by decide +kernel) rfl
theorem st_X11_size : Cond.static yX11_size ∈ GT := mT 1785 (by decide +kernel) rfl
theorem ln_L_210 : Cond.methodLink RL 210 yX11_setPower ∈ GT := mT 1787 (by decide +kernel) rfl
theorem im_X11_setPower : Cond.instanceMethod yX11_setPower ∈ GT := mT 1788 (by decide +kernel) rfl
theorem se_X11_setPower : Cond.selects RX11 yX11_setPower yX11_setPower ∈ GT := mT 1789 (by decide +kernel) rfl
theorem ln_X11_148 : Cond.methodLink RX11 148 yX11_turns ∈ GT := mT 1791 (by decide +kernel) rfl
theorem im_X11_turns : Cond.instanceMethod yX11_turns ∈ GT := mT 1793 (by decide +kernel) rfl
theorem ln_L_213 : Cond.methodLink RL 213 yX11_setLimit ∈ GT := mT 1795 (by decide +kernel) rfl
theorem im_X11_setLimit : Cond.instanceMethod yX11_setLimit ∈ GT := mT 1796 (by decide +kernel) rfl
theorem se_X11_setLimit : Cond.selects RX11 yX11_setLimit yX11_setLimit ∈ GT := mT 1797 (by decide +kernel) rfl
theorem ln_L_216 : Cond.methodLink RL 216 yX11_schedule ∈ GT := mT 1799 (by decide +kernel) rfl
theorem im_X11_schedule : Cond.instanceMethod yX11_schedule ∈ GT := mT 1800 (by decide +kernel) rfl
theorem se_X11_schedule : Cond.selects RX11 yX11_schedule yX11_schedule ∈ GT := mT 1801 (by decide +kernel) rfl
theorem ln_X11_152 : Cond.methodLink RX11 152 yX11_plans ∈ GT := mT 1803 (by decide +kernel) rfl
theorem im_X11_plans : Cond.instanceMethod yX11_plans ∈ GT := mT 1805 (by decide +kernel) rfl
theorem ln_X11_81 : Cond.methodLink RX11 81 yX11_storm ∈ GT := mT 1807 (by decide +kernel) rfl
theorem im_X11_storm : Cond.instanceMethod yX11_storm ∈ GT := mT 1809 (by decide +kernel) rfl
theorem ln_L_219 : Cond.methodLink RL 219 yX11_cancelStorm ∈ GT := mT 1811 (by decide +kernel) rfl
theorem im_X11_cancelStorm : Cond.instanceMethod yX11_cancelStorm ∈ GT := mT 1812 (by decide +kernel) rfl
theorem se_X11_cancelStorm : Cond.selects RX11 yX11_cancelStorm yX11_cancelStorm ∈ GT := mT 1813 (by decide +kernel) rfl
theorem ln_X11_155 : Cond.methodLink RX11 155 yX11_cancels ∈ GT := mT 1815 (by decide +kernel) rfl
theorem im_X11_cancels : Cond.instanceMethod yX11_cancels ∈ GT := mT 1817 (by decide +kernel) rfl
theorem ln_X11_74 : Cond.methodLink RX11 74 yX11_passesBy ∈ GT := mT 1819 (by decide +kernel) rfl
theorem im_X11_passesBy : Cond.instanceMethod yX11_passesBy ∈ GT := mT 1821 (by decide +kernel) rfl
theorem ln_L_222 : Cond.methodLink RL 222 yX11_pass ∈ GT := mT 1823 (by decide +kernel) rfl
theorem im_X11_pass : Cond.instanceMethod yX11_pass ∈ GT := mT 1824 (by decide +kernel) rfl
theorem se_X11_pass : Cond.selects RX11 yX11_pass yX11_pass ∈ GT := mT 1825 (by decide +kernel) rfl
theorem ln_X11_161 : Cond.methodLink RX11 161 yX11_passes ∈ GT := mT 1827 (by decide +kernel) rfl
theorem im_X11_passes : Cond.instanceMethod yX11_passes ∈ GT := mT 1829 (by decide +kernel) rfl
theorem ln_X11_158 : Cond.methodLink RX11 158 yX11_ticks ∈ GT := mT 1831 (by decide +kernel) rfl
theorem im_X11_ticks : Cond.instanceMethod yX11_ticks ∈ GT := mT 1833 (by decide +kernel) rfl
theorem ln_X11_84 : Cond.methodLink RX11 84 yX11_strikes ∈ GT := mT 1835 (by decide +kernel) rfl
theorem im_X11_strikes : Cond.instanceMethod yX11_strikes ∈ GT := mT 1837 (by decide +kernel) rfl
theorem ln_X11_88 : Cond.methodLink RX11 88 yX11_runs ∈ GT := mT 1839 (by decide +kernel) rfl
theorem im_X11_runs : Cond.instanceMethod yX11_runs ∈ GT := mT 1841 (by decide +kernel) rfl
theorem ln_X11_67 : Cond.methodLink RX11 67 yX11_isPumped ∈ GT := mT 1843 (by decide +kernel) rfl
theorem im_X11_isPumped : Cond.instanceMethod yX11_isPumped ∈ GT := mT 1845 (by decide +kernel) rfl
theorem ln_X11_71 : Cond.methodLink RX11 71 yX11_ahead ∈ GT := mT 1847 (by decide +kernel) rfl
theorem im_X11_ahead : Cond.instanceMethod yX11_ahead ∈ GT := mT 1849 (by decide +kernel) rfl
theorem ln_L_226 : Cond.methodLink RL 226 yX11_minute ∈ GT := mT 1851 (by decide +kernel) rfl
theorem im_X11_minute : Cond.instanceMethod yX11_minute ∈ GT := mT 1852 (by decide +kernel) rfl
theorem se_X11_minute : Cond.selects RX11 yX11_minute yX11_minute ∈ GT := mT 1853 (by decide +kernel) rfl
theorem ln_X11_164 : Cond.methodLink RX11 164 yX11_told ∈ GT := mT 1855 (by decide +kernel) rfl
theorem im_X11_told : Cond.instanceMethod yX11_told ∈ GT := mT 1857 (by decide +kernel) rfl
theorem ln_L_230 : Cond.methodLink RL 230 yX11_compartmentCount ∈ GT := mT 1859 (by decide +kernel) rfl
theorem im_X11_compartmentCount : Cond.instanceMethod yX11_compartmentCount ∈ GT := mT 1860 (by decide +kernel) rfl
theorem se_X11_compartmentCount : Cond.selects RX11 yX11_compartmentCount yX11_compartmentCount ∈ GT := mT 1861 (by decide +kernel) rfl
theorem ln_L_233 : Cond.methodLink RL 233 yX11_arm ∈ GT := mT 1863 (by decide +kernel) rfl
theorem im_X11_arm : Cond.instanceMethod yX11_arm ∈ GT := mT 1864 (by decide +kernel) rfl
theorem se_X11_arm : Cond.selects RX11 yX11_arm yX11_arm ∈ GT := mT 1865 (by decide +kernel) rfl
theorem ln_X11_171 : Cond.methodLink RX11 171 yX11_ofTank ∈ GT := mT 1867 (by decide +kernel) rfl
theorem im_X11_ofTank : Cond.instanceMethod yX11_ofTank ∈ GT := mT 1869 (by decide +kernel) rfl
theorem ln_X11_167 : Cond.methodLink RX11 167 yX11_isFine ∈ GT := mT 1871 (by decide +kernel) rfl
theorem im_X11_isFine : Cond.instanceMethod yX11_isFine ∈ GT := mT 1873 (by decide +kernel) rfl
theorem ln_L_236 : Cond.methodLink RL 236 yX11_capacity ∈ GT := mT 1875 (by decide +kernel) rfl
theorem im_X11_capacity : Cond.instanceMethod yX11_capacity ∈ GT := mT 1876 (by decide +kernel) rfl
theorem se_X11_capacity : Cond.selects RX11 yX11_capacity yX11_capacity ∈ GT := mT 1877 (by decide +kernel) rfl
theorem ln_L_239 : Cond.methodLink RL 239 yX11_water ∈ GT := mT 1879 (by decide +kernel) rfl
theorem im_X11_water : Cond.instanceMethod yX11_water ∈ GT := mT 1880 (by decide +kernel) rfl
theorem se_X11_water : Cond.selects RX11 yX11_water yX11_water ∈ GT := mT 1881 (by decide +kernel) rfl
theorem ln_L_242 : Cond.methodLink RL 242 yX11_leak ∈ GT := mT 1883 (by decide +kernel) rfl
theorem im_X11_leak : Cond.instanceMethod yX11_leak ∈ GT := mT 1884 (by decide +kernel) rfl
theorem se_X11_leak : Cond.selects RX11 yX11_leak yX11_leak ∈ GT := mT 1885 (by decide +kernel) rfl
theorem ln_L_245 : Cond.methodLink RL 245 yX11_loadOf ∈ GT := mT 1887 (by decide +kernel) rfl
theorem im_X11_loadOf : Cond.instanceMethod yX11_loadOf ∈ GT := mT 1888 (by decide +kernel) rfl
theorem se_X11_loadOf : Cond.selects RX11 yX11_loadOf yX11_loadOf ∈ GT := mT 1889 (by decide +kernel) rfl
theorem ln_L_248 : Cond.methodLink RL 248 yX11_wouldPump ∈ GT := mT 1891 (by decide +kernel) rfl
theorem im_X11_wouldPump : Cond.instanceMethod yX11_wouldPump ∈ GT := mT 1892 (by decide +kernel) rfl
theorem se_X11_wouldPump : Cond.selects RX11 yX11_wouldPump yX11_wouldPump ∈ GT := mT 1893 (by decide +kernel) rfl
theorem ln_L_251 : Cond.methodLink RL 251 yX11_pumpAt ∈ GT := mT 1895 (by decide +kernel) rfl
theorem im_X11_pumpAt : Cond.instanceMethod yX11_pumpAt ∈ GT := mT 1896 (by decide +kernel) rfl
theorem se_X11_pumpAt : Cond.selects RX11 yX11_pumpAt yX11_pumpAt ∈ GT := mT 1897 (by decide +kernel) rfl
theorem ln_L_254 : Cond.methodLink RL 254 yX11_minutesUntilFull ∈ GT := mT 1899 (by decide +kernel) rfl
theorem im_X11_minutesUntilFull : Cond.instanceMethod yX11_minutesUntilFull ∈ GT := mT 1900 (by decide +kernel) rfl
theorem se_X11_minutesUntilFull : Cond.selects RX11 yX11_minutesUntilFull yX11_minutesUntilFull ∈ GT := mT 1901 (by decide +kernel) rfl
theorem ln_L_258 : Cond.methodLink RL 258 yX11_pieceCount ∈ GT := mT 1903 (by decide +kernel) rfl
theorem im_X11_pieceCount : Cond.instanceMethod yX11_pieceCount ∈ GT := mT 1904 (by decide +kernel) rfl
theorem se_X11_pieceCount : Cond.selects RX11 yX11_pieceCount yX11_pieceCount ∈ GT := mT 1905 (by decide +kernel) rfl
theorem ln_L_261 : Cond.methodLink RL 261 yX11_idAt ∈ GT := mT 1907 (by decide +kernel) rfl
theorem im_X11_idAt : Cond.instanceMethod yX11_idAt ∈ GT := mT 1908 (by decide +kernel) rfl
theorem se_X11_idAt : Cond.selects RX11 yX11_idAt yX11_idAt ∈ GT := mT 1909 (by decide +kernel) rfl
theorem ln_L_264 : Cond.methodLink RL 264 yX11_weightOf ∈ GT := mT 1911 (by decide +kernel) rfl
theorem im_X11_weightOf : Cond.instanceMethod yX11_weightOf ∈ GT := mT 1912 (by decide +kernel) rfl
theorem se_X11_weightOf : Cond.selects RX11 yX11_weightOf yX11_weightOf ∈ GT := mT 1913 (by decide +kernel) rfl
theorem ln_L_267 : Cond.methodLink RL 267 yX11_compartmentOf ∈ GT := mT 1915 (by decide +kernel) rfl
theorem im_X11_compartmentOf : Cond.instanceMethod yX11_compartmentOf ∈ GT := mT 1916 (by decide +kernel) rfl
theorem se_X11_compartmentOf : Cond.selects RX11 yX11_compartmentOf yX11_compartmentOf ∈ GT := mT 1917 (by decide +kernel) rfl
theorem ln_L_271 : Cond.methodLink RL 271 yX11_heaviestPiece ∈ GT := mT 1919 (by decide +kernel) rfl
theorem im_X11_heaviestPiece : Cond.instanceMethod yX11_heaviestPiece ∈ GT := mT 1920 (by decide +kernel) rfl
theorem se_X11_heaviestPiece : Cond.selects RX11 yX11_heaviestPiece yX11_heaviestPiece ∈ GT := mT 1921 (by decide +kernel) rfl
theorem ln_L_275 : Cond.methodLink RL 275 yX11_weight ∈ GT := mT 1923 (by decide +kernel) rfl
theorem im_X11_weight : Cond.instanceMethod yX11_weight ∈ GT := mT 1924 (by decide +kernel) rfl
theorem se_X11_weight : Cond.selects RX11 yX11_weight yX11_weight ∈ GT := mT 1925 (by decide +kernel) rfl
theorem ln_L_279 : Cond.methodLink RL 279 yX11_weightByParts ∈ GT := mT 1927 (by decide +kernel) rfl
theorem im_X11_weightByParts : Cond.instanceMethod yX11_weightByParts ∈ GT := mT 1928 (by decide +kernel) rfl
theorem se_X11_weightByParts : Cond.selects RX11 yX11_weightByParts yX11_weightByParts ∈ GT := mT 1929 (by decide +kernel) rfl
theorem ln_X11_174 : Cond.methodLink RX11 174 yX11_weight ∈ GT := mT 1931 (by decide +kernel) rfl
theorem ln_L_283 : Cond.methodLink RL 283 yX11_moment ∈ GT := mT 1932 (by decide +kernel) rfl
theorem im_X11_moment : Cond.instanceMethod yX11_moment ∈ GT := mT 1933 (by decide +kernel) rfl
theorem se_X11_moment : Cond.selects RX11 yX11_moment yX11_moment ∈ GT := mT 1934 (by decide +kernel) rfl
theorem ln_L_287 : Cond.methodLink RL 287 yX11_momentByParts ∈ GT := mT 1936 (by decide +kernel) rfl
theorem im_X11_momentByParts : Cond.instanceMethod yX11_momentByParts ∈ GT := mT 1937 (by decide +kernel) rfl
theorem se_X11_momentByParts : Cond.selects RX11 yX11_momentByParts yX11_momentByParts ∈ GT := mT 1938 (by decide +kernel) rfl
theorem ln_X11_177 : Cond.methodLink RX11 177 yX11_moment ∈ GT := mT 1940 (by decide +kernel) rfl
theorem ln_L_291 : Cond.methodLink RL 291 yX11_trim ∈ GT := mT 1941 (by decide +kernel) rfl
theorem im_X11_trim : Cond.instanceMethod yX11_trim ∈ GT := mT 1942 (by decide +kernel) rfl
theorem se_X11_trim : Cond.selects RX11 yX11_trim yX11_trim ∈ GT := mT 1943 (by decide +kernel) rfl
theorem ln_L_296 : Cond.methodLink RL 296 yX11_isBalanced ∈ GT := mT 1945 (by decide +kernel) rfl
theorem im_X11_isBalanced : Cond.instanceMethod yX11_isBalanced ∈ GT := mT 1946 (by decide +kernel) rfl
theorem se_X11_isBalanced : Cond.selects RX11 yX11_isBalanced yX11_isBalanced ∈ GT := mT 1947 (by decide +kernel) rfl
theorem ln_X11_180 : Cond.methodLink RX11 180 yX11_trim ∈ GT := mT 1949 (by decide +kernel) rfl
theorem ln_L_300 : Cond.methodLink RL 300 yX11_isAfloat ∈ GT := mT 1950 (by decide +kernel) rfl
theorem im_X11_isAfloat : Cond.instanceMethod yX11_isAfloat ∈ GT := mT 1951 (by decide +kernel) rfl
theorem se_X11_isAfloat : Cond.selects RX11 yX11_isAfloat yX11_isAfloat ∈ GT := mT 1952 (by decide +kernel) rfl
theorem ln_L_303 : Cond.methodLink RL 303 yX11_bestSource ∈ GT := mT 1954 (by decide +kernel) rfl
theorem im_X11_bestSource : Cond.instanceMethod yX11_bestSource ∈ GT := mT 1955 (by decide +kernel) rfl
theorem se_X11_bestSource : Cond.selects RX11 yX11_bestSource yX11_bestSource ∈ GT := mT 1956 (by decide +kernel) rfl
theorem ln_X11_183 : Cond.methodLink RX11 183 yX11_advice ∈ GT := mT 1958 (by decide +kernel) rfl
theorem im_X11_advice : Cond.instanceMethod yX11_advice ∈ GT := mT 1960 (by decide +kernel) rfl
theorem ln_L_306 : Cond.methodLink RL 306 yX11_bestTarget ∈ GT := mT 1962 (by decide +kernel) rfl
theorem im_X11_bestTarget : Cond.instanceMethod yX11_bestTarget ∈ GT := mT 1963 (by decide +kernel) rfl
theorem se_X11_bestTarget : Cond.selects RX11 yX11_bestTarget yX11_bestTarget ∈ GT := mT 1964 (by decide +kernel) rfl
theorem ln_L_309 : Cond.methodLink RL 309 yX11_bestMoment ∈ GT := mT 1966 (by decide +kernel) rfl
theorem im_X11_bestMoment : Cond.instanceMethod yX11_bestMoment ∈ GT := mT 1967 (by decide +kernel) rfl
theorem se_X11_bestMoment : Cond.selects RX11 yX11_bestMoment yX11_bestMoment ∈ GT := mT 1968 (by decide +kernel) rfl
theorem ln_L_312 : Cond.methodLink RL 312 yX11_transfersToBalance ∈ GT := mT 1970 (by decide +kernel) rfl
theorem im_X11_transfersToBalance : Cond.instanceMethod yX11_transfersToBalance ∈ GT := mT 1971 (by decide +kernel) rfl
theorem se_X11_transfersToBalance : Cond.selects RX11 yX11_transfersToBalance yX11_transfersToBalance ∈ GT := mT 1972 (by decide +kernel) rfl
theorem ln_X11_186 : Cond.methodLink RX11 186 yX11_isEven ∈ GT := mT 1974 (by decide +kernel) rfl
theorem im_X11_isEven : Cond.instanceMethod yX11_isEven ∈ GT := mT 1976 (by decide +kernel) rfl
theorem ln_L_315 : Cond.methodLink RL 315 yX11_bestShiftPiece ∈ GT := mT 1978 (by decide +kernel) rfl
theorem im_X11_bestShiftPiece : Cond.instanceMethod yX11_bestShiftPiece ∈ GT := mT 1979 (by decide +kernel) rfl
theorem se_X11_bestShiftPiece : Cond.selects RX11 yX11_bestShiftPiece yX11_bestShiftPiece ∈ GT := mT 1980 (by decide +kernel) rfl
theorem ln_X11_190 : Cond.methodLink RX11 190 yX11_bestShift ∈ GT := mT 1982 (by decide +kernel) rfl
theorem im_X11_bestShift : Cond.instanceMethod yX11_bestShift ∈ GT := mT 1984 (by decide +kernel) rfl
theorem ln_L_318 : Cond.methodLink RL 318 yX11_bestShiftCompartment ∈ GT := mT 1986 (by decide +kernel) rfl
theorem im_X11_bestShiftCompartment : Cond.instanceMethod yX11_bestShiftCompartment ∈ GT := mT 1987 (by decide +kernel) rfl
theorem se_X11_bestShiftCompartment : Cond.selects RX11 yX11_bestShiftCompartment yX11_bestShiftCompartment ∈ GT := mT 1988 (by decide +kernel) rfl
theorem ln_L_321 : Cond.methodLink RL 321 yX11_momentAfter ∈ GT := mT 1990 (by decide +kernel) rfl
theorem im_X11_momentAfter : Cond.instanceMethod yX11_momentAfter ∈ GT := mT 1991 (by decide +kernel) rfl
theorem se_X11_momentAfter : Cond.selects RX11 yX11_momentAfter yX11_momentAfter ∈ GT := mT 1992 (by decide +kernel) rfl
theorem ln_L_324 : Cond.methodLink RL 324 yX11_minutesUntilSunk ∈ GT := mT 1994 (by decide +kernel) rfl
theorem im_X11_minutesUntilSunk : Cond.instanceMethod yX11_minutesUntilSunk ∈ GT := mT 1995 (by decide +kernel) rfl
theorem se_X11_minutesUntilSunk : Cond.selects RX11 yX11_minutesUntilSunk yX11_minutesUntilSunk ∈ GT := mT 1996 (by decide +kernel) rfl
theorem ln_L_327 : Cond.methodLink RL 327 yX11_compartmentByLoad ∈ GT := mT 1998 (by decide +kernel) rfl
theorem im_X11_compartmentByLoad : Cond.instanceMethod yX11_compartmentByLoad ∈ GT := mT 1999 (by decide +kernel) rfl
theorem se_X11_compartmentByLoad : Cond.selects RX11 yX11_compartmentByLoad yX11_compartmentByLoad ∈ GT := mT 2000 (by decide +kernel) rfl
theorem ln_L_331 : Cond.methodLink RL 331 yX11_stormCount ∈ GT := mT 2002 (by decide +kernel) rfl
theorem im_X11_stormCount : Cond.instanceMethod yX11_stormCount ∈ GT := mT 2003 (by decide +kernel) rfl
theorem se_X11_stormCount : Cond.selects RX11 yX11_stormCount yX11_stormCount ∈ GT := mT 2004 (by decide +kernel) rfl
theorem ln_L_334 : Cond.methodLink RL 334 yX11_nextStorm ∈ GT := mT 2006 (by decide +kernel) rfl
theorem im_X11_nextStorm : Cond.instanceMethod yX11_nextStorm ∈ GT := mT 2007 (by decide +kernel) rfl
theorem se_X11_nextStorm : Cond.selects RX11 yX11_nextStorm yX11_nextStorm ∈ GT := mT 2008 (by decide +kernel) rfl
theorem ln_L_337 : Cond.methodLink RL 337 yX11_strengthAt ∈ GT := mT 2010 (by decide +kernel) rfl
theorem im_X11_strengthAt : Cond.instanceMethod yX11_strengthAt ∈ GT := mT 2011 (by decide +kernel) rfl
theorem se_X11_strengthAt : Cond.selects RX11 yX11_strengthAt yX11_strengthAt ∈ GT := mT 2012 (by decide +kernel) rfl
theorem ln_L_340 : Cond.methodLink RL 340 yX11_loggedMinute ∈ GT := mT 2014 (by decide +kernel) rfl
theorem im_X11_loggedMinute : Cond.instanceMethod yX11_loggedMinute ∈ GT := mT 2015 (by decide +kernel) rfl
theorem se_X11_loggedMinute : Cond.selects RX11 yX11_loggedMinute yX11_loggedMinute ∈ GT := mT 2016 (by decide +kernel) rfl
theorem ln_L_345 : Cond.methodLink RL 345 yX11_pumpedTotal ∈ GT := mT 2018 (by decide +kernel) rfl
theorem im_X11_pumpedTotal : Cond.instanceMethod yX11_pumpedTotal ∈ GT := mT 2019 (by decide +kernel) rfl
theorem se_X11_pumpedTotal : Cond.selects RX11 yX11_pumpedTotal yX11_pumpedTotal ∈ GT := mT 2020 (by decide +kernel) rfl
theorem ln_L_349 : Cond.methodLink RL 349 yX11_meanWater ∈ GT := mT 2022 (by decide +kernel) rfl
theorem im_X11_meanWater : Cond.instanceMethod yX11_meanWater ∈ GT := mT 2023 (by decide +kernel) rfl
theorem se_X11_meanWater : Cond.selects RX11 yX11_meanWater yX11_meanWater ∈ GT := mT 2024 (by decide +kernel) rfl
theorem ln_X11_193 : Cond.methodLink RX11 193 yX11_sum ∈ GT := mT 2026 (by decide +kernel) rfl
theorem im_X11_sum : Cond.instanceMethod yX11_sum ∈ GT := mT 2028 (by decide +kernel) rfl
theorem ln_L_352 : Cond.methodLink RL 352 yX11_fillShare ∈ GT := mT 2030 (by decide +kernel) rfl
theorem im_X11_fillShare : Cond.instanceMethod yX11_fillShare ∈ GT := mT 2031 (by decide +kernel) rfl
theorem se_X11_fillShare : Cond.selects RX11 yX11_fillShare yX11_fillShare ∈ GT := mT 2032 (by decide +kernel) rfl
theorem ln_L_356 : Cond.methodLink RL 356 yX11_isConsistent ∈ GT := mT 2034 (by decide +kernel) rfl
theorem im_X11_isConsistent : Cond.instanceMethod yX11_isConsistent ∈ GT := mT 2035 (by decide +kernel) rfl
theorem se_X11_isConsistent : Cond.selects RX11 yX11_isConsistent yX11_isConsistent ∈ GT := mT 2036 (by decide +kernel) rfl
theorem ln_L_359 : Cond.methodLink RL 359 yX11_formatCompartment ∈ GT := mT 2038 (by decide +kernel) rfl
theorem im_X11_formatCompartment : Cond.instanceMethod yX11_formatCompartment ∈ GT := mT 2039 (by decide +kernel) rfl
theorem se_X11_formatCompartment : Cond.selects RX11 yX11_formatCompartment yX11_formatCompartment ∈ GT := mT 2040 (by decide +kernel) rfl
theorem ln_X11_205 : Cond.methodLink RX11 205 yX11_writesBehind ∈ GT := mT 2042 (by decide +kernel) rfl
theorem im_X11_writesBehind : Cond.instanceMethod yX11_writesBehind ∈ GT := mT 2044 (by decide +kernel) rfl
theorem ln_X11_199 : Cond.methodLink RX11 199 yX11_writes ∈ GT := mT 2046 (by decide +kernel) rfl
theorem im_X11_writes : Cond.instanceMethod yX11_writes ∈ GT := mT 2048 (by decide +kernel) rfl
theorem ln_X11_202 : Cond.methodLink RX11 202 yX11_writesNumber ∈ GT := mT 2050 (by decide +kernel) rfl
theorem im_X11_writesNumber : Cond.instanceMethod yX11_writesNumber ∈ GT := mT 2052 (by decide +kernel) rfl
theorem ln_L_362 : Cond.methodLink RL 362 yX11_formatCargo ∈ GT := mT 2054 (by decide +kernel) rfl
theorem im_X11_formatCargo : Cond.instanceMethod yX11_formatCargo ∈ GT := mT 2055 (by decide +kernel) rfl
theorem se_X11_formatCargo : Cond.selects RX11 yX11_formatCargo yX11_formatCargo ∈ GT := mT 2056 (by decide +kernel) rfl
theorem ln_L_366 : Cond.methodLink RL 366 yX11_formatStorms ∈ GT := mT 2058 (by decide +kernel) rfl
theorem im_X11_formatStorms : Cond.instanceMethod yX11_formatStorms ∈ GT := mT 2059 (by decide +kernel) rfl
theorem se_X11_formatStorms : Cond.selects RX11 yX11_formatStorms yX11_formatStorms ∈ GT := mT 2060 (by decide +kernel) rfl
theorem ln_L_369 : Cond.methodLink RL 369 yX11_lineChar ∈ GT := mT 2062 (by decide +kernel) rfl
theorem im_X11_lineChar : Cond.instanceMethod yX11_lineChar ∈ GT := mT 2063 (by decide +kernel) rfl
theorem se_X11_lineChar : Cond.selects RX11 yX11_lineChar yX11_lineChar ∈ GT := mT 2064 (by decide +kernel) rfl
theorem ln_L_373 : Cond.methodLink RL 373 yX11_append ∈ GT := mT 2066 (by decide +kernel) rfl
theorem im_X11_append : Cond.instanceMethod yX11_append ∈ GT := mT 2067 (by decide +kernel) rfl
theorem se_X11_append : Cond.selects RX11 yX11_append yX11_append ∈ GT := mT 2068 (by decide +kernel) rfl
theorem ln_L_376 : Cond.methodLink RL 376 yX11_run ∈ GT := mT 2070 (by decide +kernel) rfl
theorem im_X11_run : Cond.instanceMethod yX11_run ∈ GT := mT 2071 (by decide +kernel) rfl
theorem se_X11_run : Cond.selects RX11 yX11_run yX11_run ∈ GT := mT 2072 (by decide +kernel) rfl
theorem ln_X11_244 : Cond.methodLink RX11 244 yX11_parse ∈ GT := mT 2074 (by decide +kernel) rfl
theorem im_X11_parse : Cond.instanceMethod yX11_parse ∈ GT := mT 2076 (by decide +kernel) rfl
theorem ln_X11_241 : Cond.methodLink RX11 241 yX11_command ∈ GT := mT 2078 (by decide +kernel) rfl
theorem im_X11_command : Cond.instanceMethod yX11_command ∈ GT := mT 2080 (by decide +kernel) rfl
theorem ln_X11_217 : Cond.methodLink RX11 217 yX11_sign ∈ GT := mT 2082 (by decide +kernel) rfl
theorem im_X11_sign : Cond.instanceMethod yX11_sign ∈ GT := mT 2084 (by decide +kernel) rfl
theorem ln_X11_232 : Cond.methodLink RX11 232 yX11_word ∈ GT := mT 2086 (by decide +kernel) rfl
theorem im_X11_word : Cond.instanceMethod yX11_word ∈ GT := mT 2088 (by decide +kernel) rfl
theorem ln_X11_226 : Cond.methodLink RX11 226 yX11_letters ∈ GT := mT 2090 (by decide +kernel) rfl
theorem im_X11_letters : Cond.instanceMethod yX11_letters ∈ GT := mT 2092 (by decide +kernel) rfl
theorem ln_X11_220 : Cond.methodLink RX11 220 yX11_needs ∈ GT := mT 2094 (by decide +kernel) rfl
theorem im_X11_needs : Cond.instanceMethod yX11_needs ∈ GT := mT 2096 (by decide +kernel) rfl
theorem ln_X11_235 : Cond.methodLink RX11 235 yX11_signed ∈ GT := mT 2098 (by decide +kernel) rfl
theorem im_X11_signed : Cond.instanceMethod yX11_signed ∈ GT := mT 2100 (by decide +kernel) rfl
theorem ln_X11_223 : Cond.methodLink RX11 223 yX11_digits ∈ GT := mT 2102 (by decide +kernel) rfl
theorem im_X11_digits : Cond.instanceMethod yX11_digits ∈ GT := mT 2104 (by decide +kernel) rfl
theorem ln_X11_238 : Cond.methodLink RX11 238 yX11_number ∈ GT := mT 2106 (by decide +kernel) rfl
theorem im_X11_number : Cond.instanceMethod yX11_number ∈ GT := mT 2108 (by decide +kernel) rfl
theorem ln_X11_247 : Cond.methodLink RX11 247 yX11_does ∈ GT := mT 2110 (by decide +kernel) rfl
theorem im_X11_does : Cond.instanceMethod yX11_does ∈ GT := mT 2112 (by decide +kernel) rfl
theorem ln_L_379 : Cond.methodLink RL 379 yX11_errorPosition ∈ GT := mT 2114 (by decide +kernel) rfl
theorem im_X11_errorPosition : Cond.instanceMethod yX11_errorPosition ∈ GT := mT 2115 (by decide +kernel) rfl
theorem se_X11_errorPosition : Cond.selects RX11 yX11_errorPosition yX11_errorPosition ∈ GT := mT 2116 (by decide +kernel) rfl
theorem ln_L_382 : Cond.methodLink RL 382 yX11_failedCommand ∈ GT := mT 2118 (by decide +kernel) rfl
theorem im_X11_failedCommand : Cond.instanceMethod yX11_failedCommand ∈ GT := mT 2119 (by decide +kernel) rfl
theorem se_X11_failedCommand : Cond.selects RX11 yX11_failedCommand yX11_failedCommand ∈ GT := mT 2120 (by decide +kernel) rfl
theorem ln_L_386 : Cond.methodLink RL 386 yX11_undoableCount ∈ GT := mT 2122 (by decide +kernel) rfl
theorem im_X11_undoableCount : Cond.instanceMethod yX11_undoableCount ∈ GT := mT 2123 (by decide +kernel) rfl
theorem se_X11_undoableCount : Cond.selects RX11 yX11_undoableCount yX11_undoableCount ∈ GT := mT 2124 (by decide +kernel) rfl
theorem ln_L_389 : Cond.methodLink RL 389 yX11_undo ∈ GT := mT 2126 (by decide +kernel) rfl
theorem im_X11_undo : Cond.instanceMethod yX11_undo ∈ GT := mT 2127 (by decide +kernel) rfl
theorem se_X11_undo : Cond.selects RX11 yX11_undo yX11_undo ∈ GT := mT 2128 (by decide +kernel) rfl
theorem ln_L_393 : Cond.methodLink RL 393 yX11_save ∈ GT := mT 2130 (by decide +kernel) rfl
theorem im_X11_save : Cond.instanceMethod yX11_save ∈ GT := mT 2131 (by decide +kernel) rfl
theorem se_X11_save : Cond.selects RX11 yX11_save yX11_save ∈ GT := mT 2132 (by decide +kernel) rfl
theorem ln_L_396 : Cond.methodLink RL 396 yX11_restore ∈ GT := mT 2134 (by decide +kernel) rfl
theorem im_X11_restore : Cond.instanceMethod yX11_restore ∈ GT := mT 2135 (by decide +kernel) rfl
theorem se_X11_restore : Cond.selects RX11 yX11_restore yX11_restore ∈ GT := mT 2136 (by decide +kernel) rfl
theorem se_J4_length_8abf5 : Cond.selects RJ4 yJ4_length_8abf5 yJ4_length_8abf5 ∈ GT := mT 2150 (by decide +kernel) rfl
def NWm : List (String × Nat × MethodName) := [(RX10, 9, yX8_init), (RX8, 11, yX5_init), (RX8, 20, yX1_init), (RX8, 27, yX9_init), (RX4, 17, yX8_init), (RX10, 34, yX2_init), (RX8, 158, yX10_trimFor), (RX8, 60, yX10_isWithin)]
theorem nn_X10_9 : (RX10, 9, yX8_init) ∈ NWm := List.mem_of_getElem? (i := 0) rfl
theorem nn_X8_11 : (RX8, 11, yX5_init) ∈ NWm := List.mem_of_getElem? (i := 1) rfl
theorem nn_X8_20 : (RX8, 20, yX1_init) ∈ NWm := List.mem_of_getElem? (i := 2) rfl
theorem nn_X8_27 : (RX8, 27, yX9_init) ∈ NWm := List.mem_of_getElem? (i := 3) rfl
theorem nn_X4_17 : (RX4, 17, yX8_init) ∈ NWm := List.mem_of_getElem? (i := 4) rfl
theorem nn_X10_34 : (RX10, 34, yX2_init) ∈ NWm := List.mem_of_getElem? (i := 5) rfl
theorem nn_X8_158 : (RX8, 158, yX10_trimFor) ∈ NWm := List.mem_of_getElem? (i := 6) rfl
theorem nn_X8_60 : (RX8, 60, yX10_isWithin) ∈ NWm := List.mem_of_getElem? (i := 7) rfl
theorem NWm_in : ∀ q ∈ NWm, Cond.methodLinkNest q.1 q.2.1 q.2.2 RX10 ∈ lw_tbl := List.forall_mem_cons.mpr ⟨List.mem_append_right _ (List.mem_of_getElem? (i := 46) (by decide +kernel)), List.forall_mem_cons.mpr ⟨List.mem_append_right _ (List.mem_of_getElem? (i := 52) (by decide +kernel)), List.forall_mem_cons.mpr ⟨List.mem_append_right _ (List.mem_of_getElem? (i := 94) (by decide +kernel)), List.forall_mem_cons.mpr ⟨List.mem_append_right _ (List.mem_of_getElem? (i := 127) (by decide +kernel)), List.forall_mem_cons.mpr ⟨List.mem_append_right _ (List.mem_of_getElem? (i := 196) (by decide +kernel)), List.forall_mem_cons.mpr ⟨List.mem_append_right _ (List.mem_of_getElem? (i := 210) (by decide +kernel)), List.forall_mem_cons.mpr ⟨List.mem_append_right _ (List.mem_of_getElem? (i := 417) (by decide +kernel)), List.forall_mem_cons.mpr ⟨List.mem_append_right _ (List.mem_of_getElem? (i := 880) (by decide +kernel)), fun _ h => absurd h List.not_mem_nil⟩⟩⟩⟩⟩⟩⟩⟩
theorem mP {w : Cond} (i : Nat) (h : (k2_sels lw_privs)[i]? = some w) (g : goodWord w = true) : w ∈ GT := List.mem_filter.mpr ⟨List.mem_append_left _ (List.mem_of_getElem? h), g⟩
theorem se_X10_adviceHolds : Cond.selects RX10 yX10_adviceHolds yX10_adviceHolds ∈ GT := mP 0 (by decide +kernel) rfl
theorem se_X2_offer : Cond.selects RX2 yX2_offer yX2_offer ∈ GT := mP 1 (by decide +kernel) rfl
theorem se_X10_separate : Cond.selects RX10 yX10_separate yX10_separate ∈ GT := mP 3 (by decide +kernel) rfl
theorem se_X10_positionOfStorm : Cond.selects RX10 yX10_positionOfStorm yX10_positionOfStorm ∈ GT := mP 4 (by decide +kernel) rfl
theorem se_X8_strikeIfScheduled : Cond.selects RX8 yX8_strikeIfScheduled yX8_strikeIfScheduled ∈ GT := mP 5 (by decide +kernel) rfl
theorem se_X8_fullestCompartment : Cond.selects RX8 yX8_fullestCompartment yX8_fullestCompartment ∈ GT := mP 6 (by decide +kernel) rfl
theorem se_X5_pumpsBefore : Cond.selects RX5 yX5_pumpsBefore yX5_pumpsBefore ∈ GT := mP 7 (by decide +kernel) rfl
theorem se_X10_checkCompartment : Cond.selects RX10 yX10_checkCompartment yX10_checkCompartment ∈ GT := mP 8 (by decide +kernel) rfl
theorem se_X10_positionOfPiece : Cond.selects RX10 yX10_positionOfPiece yX10_positionOfPiece ∈ GT := mP 9 (by decide +kernel) rfl
theorem se_X10_findBestTransfer : Cond.selects RX10 yX10_findBestTransfer yX10_findBestTransfer ∈ GT := mP 10 (by decide +kernel) rfl
theorem se_X10_findBestShift : Cond.selects RX10 yX10_findBestShift yX10_findBestShift ∈ GT := mP 11 (by decide +kernel) rfl
theorem se_X8_isLoadedBefore : Cond.selects RX8 yX8_isLoadedBefore yX8_isLoadedBefore ∈ GT := mP 12 (by decide +kernel) rfl
theorem se_X10_checkForMean : Cond.selects RX10 yX10_checkForMean yX10_checkForMean ∈ GT := mP 13 (by decide +kernel) rfl
theorem se_X7_readKeyword : Cond.selects RX7 yX7_readKeyword yX7_readKeyword ∈ GT := mP 14 (by decide +kernel) rfl
theorem se_X7_countMatching : Cond.selects RX7 yX7_countMatching yX7_countMatching ∈ GT := mP 15 (by decide +kernel) rfl
theorem se_X7_isAt : Cond.selects RX7 yX7_isAt yX7_isAt ∈ GT := mP 16 (by decide +kernel) rfl
theorem se_X7_readArguments : Cond.selects RX7 yX7_readArguments yX7_readArguments ∈ GT := mP 17 (by decide +kernel) rfl
theorem se_X7_take : Cond.selects RX7 yX7_take yX7_take ∈ GT := mP 18 (by decide +kernel) rfl
theorem se_X7_readValue : Cond.selects RX7 yX7_readValue yX7_readValue ∈ GT := mP 19 (by decide +kernel) rfl
theorem se_X7_isDigitAt : Cond.selects RX7 yX7_isDigitAt yX7_isDigitAt ∈ GT := mP 20 (by decide +kernel) rfl
theorem se_X10_faultOf : Cond.selects RX10 yX10_faultOf yX10_faultOf ∈ GT := mP 21 (by decide +kernel) rfl
theorem se_X10_carryOut : Cond.selects RX10 yX10_carryOut yX10_carryOut ∈ GT := mP 22 (by decide +kernel) rfl
theorem se_X11_begins : Cond.selects RX11 yX11_begins yX11_begins ∈ GT := mP 23 (by decide +kernel) rfl
theorem se_X11_copies : Cond.selects RX11 yX11_copies yX11_copies ∈ GT := mP 24 (by decide +kernel) rfl
theorem se_X11_adds : Cond.selects RX11 yX11_adds yX11_adds ∈ GT := mP 25 (by decide +kernel) rfl
theorem se_X11_set : Cond.selects RX11 yX11_set yX11_set ∈ GT := mP 26 (by decide +kernel) rfl
theorem se_X11_ends : Cond.selects RX11 yX11_ends yX11_ends ∈ GT := mP 27 (by decide +kernel) rfl
theorem se_X11_loads : Cond.selects RX11 yX11_loads yX11_loads ∈ GT := mP 28 (by decide +kernel) rfl
theorem se_X11_isTank : Cond.selects RX11 yX11_isTank yX11_isTank ∈ GT := mP 29 (by decide +kernel) rfl
theorem se_X11_total : Cond.selects RX11 yX11_total yX11_total ∈ GT := mP 30 (by decide +kernel) rfl
theorem se_X11_laden : Cond.selects RX11 yX11_laden yX11_laden ∈ GT := mP 31 (by decide +kernel) rfl
theorem se_X11_c : Cond.selects RX11 yX11_c yX11_c ∈ GT := mP 32 (by decide +kernel) rfl
theorem se_X11_cargo : Cond.selects RX11 yX11_cargo yX11_cargo ∈ GT := mP 33 (by decide +kernel) rfl
theorem se_X11_lies : Cond.selects RX11 yX11_lies yX11_lies ∈ GT := mP 34 (by decide +kernel) rfl
theorem se_X11_heavy : Cond.selects RX11 yX11_heavy yX11_heavy ∈ GT := mP 35 (by decide +kernel) rfl
theorem se_X11_unloads : Cond.selects RX11 yX11_unloads yX11_unloads ∈ GT := mP 36 (by decide +kernel) rfl
theorem se_X11_piece : Cond.selects RX11 yX11_piece yX11_piece ∈ GT := mP 37 (by decide +kernel) rfl
theorem se_X11_idOf : Cond.selects RX11 yX11_idOf yX11_idOf ∈ GT := mP 38 (by decide +kernel) rfl
theorem se_X11_shifts : Cond.selects RX11 yX11_shifts yX11_shifts ∈ GT := mP 39 (by decide +kernel) rfl
theorem se_X11_rates : Cond.selects RX11 yX11_rates yX11_rates ∈ GT := mP 40 (by decide +kernel) rfl
theorem se_X11_transfers : Cond.selects RX11 yX11_transfers yX11_transfers ∈ GT := mP 41 (by decide +kernel) rfl
theorem se_X11_isPossible : Cond.selects RX11 yX11_isPossible yX11_isPossible ∈ GT := mP 42 (by decide +kernel) rfl
theorem se_X11_moves : Cond.selects RX11 yX11_moves yX11_moves ∈ GT := mP 43 (by decide +kernel) rfl
theorem se_X11_turning : Cond.selects RX11 yX11_turning yX11_turning ∈ GT := mP 44 (by decide +kernel) rfl
theorem se_X11_balances : Cond.selects RX11 yX11_balances yX11_balances ∈ GT := mP 45 (by decide +kernel) rfl
theorem se_X11_best : Cond.selects RX11 yX11_best yX11_best ∈ GT := mP 46 (by decide +kernel) rfl
theorem se_X11_turns : Cond.selects RX11 yX11_turns yX11_turns ∈ GT := mP 47 (by decide +kernel) rfl
theorem se_X11_plans : Cond.selects RX11 yX11_plans yX11_plans ∈ GT := mP 48 (by decide +kernel) rfl
theorem se_X11_storm : Cond.selects RX11 yX11_storm yX11_storm ∈ GT := mP 49 (by decide +kernel) rfl
theorem se_X11_cancels : Cond.selects RX11 yX11_cancels yX11_cancels ∈ GT := mP 50 (by decide +kernel) rfl
theorem se_X11_passesBy : Cond.selects RX11 yX11_passesBy yX11_passesBy ∈ GT := mP 51 (by decide +kernel) rfl
theorem se_X11_passes : Cond.selects RX11 yX11_passes yX11_passes ∈ GT := mP 52 (by decide +kernel) rfl
theorem se_X11_ticks : Cond.selects RX11 yX11_ticks yX11_ticks ∈ GT := mP 53 (by decide +kernel) rfl
theorem se_X11_strikes : Cond.selects RX11 yX11_strikes yX11_strikes ∈ GT := mP 54 (by decide +kernel) rfl
theorem se_X11_runs : Cond.selects RX11 yX11_runs yX11_runs ∈ GT := mP 55 (by decide +kernel) rfl
theorem se_X11_isPumped : Cond.selects RX11 yX11_isPumped yX11_isPumped ∈ GT := mP 56 (by decide +kernel) rfl
theorem se_X11_ahead : Cond.selects RX11 yX11_ahead yX11_ahead ∈ GT := mP 57 (by decide +kernel) rfl
theorem se_X11_told : Cond.selects RX11 yX11_told yX11_told ∈ GT := mP 58 (by decide +kernel) rfl
theorem se_X11_ofTank : Cond.selects RX11 yX11_ofTank yX11_ofTank ∈ GT := mP 59 (by decide +kernel) rfl
theorem se_X11_isFine : Cond.selects RX11 yX11_isFine yX11_isFine ∈ GT := mP 60 (by decide +kernel) rfl
theorem se_X11_advice : Cond.selects RX11 yX11_advice yX11_advice ∈ GT := mP 61 (by decide +kernel) rfl
theorem se_X11_isEven : Cond.selects RX11 yX11_isEven yX11_isEven ∈ GT := mP 62 (by decide +kernel) rfl
theorem se_X11_bestShift : Cond.selects RX11 yX11_bestShift yX11_bestShift ∈ GT := mP 63 (by decide +kernel) rfl
theorem se_X11_sum : Cond.selects RX11 yX11_sum yX11_sum ∈ GT := mP 64 (by decide +kernel) rfl
theorem se_X11_writesBehind : Cond.selects RX11 yX11_writesBehind yX11_writesBehind ∈ GT := mP 65 (by decide +kernel) rfl
theorem se_X11_writes : Cond.selects RX11 yX11_writes yX11_writes ∈ GT := mP 66 (by decide +kernel) rfl
theorem se_X11_writesNumber : Cond.selects RX11 yX11_writesNumber yX11_writesNumber ∈ GT := mP 67 (by decide +kernel) rfl
theorem se_X11_parse : Cond.selects RX11 yX11_parse yX11_parse ∈ GT := mP 68 (by decide +kernel) rfl
theorem se_X11_command : Cond.selects RX11 yX11_command yX11_command ∈ GT := mP 69 (by decide +kernel) rfl
theorem se_X11_sign : Cond.selects RX11 yX11_sign yX11_sign ∈ GT := mP 70 (by decide +kernel) rfl
theorem se_X11_word : Cond.selects RX11 yX11_word yX11_word ∈ GT := mP 71 (by decide +kernel) rfl
theorem se_X11_letters : Cond.selects RX11 yX11_letters yX11_letters ∈ GT := mP 72 (by decide +kernel) rfl
theorem se_X11_needs : Cond.selects RX11 yX11_needs yX11_needs ∈ GT := mP 73 (by decide +kernel) rfl
theorem se_X11_signed : Cond.selects RX11 yX11_signed yX11_signed ∈ GT := mP 74 (by decide +kernel) rfl
theorem se_X11_digits : Cond.selects RX11 yX11_digits yX11_digits ∈ GT := mP 75 (by decide +kernel) rfl
theorem se_X11_number : Cond.selects RX11 yX11_number yX11_number ∈ GT := mP 76 (by decide +kernel) rfl
theorem se_X11_does : Cond.selects RX11 yX11_does yX11_does ∈ GT := mP 77 (by decide +kernel) rfl
end
section
/-! ===== WHAT IS GIVEN OF THE STATICS: the constants of Fault, nest links, the texts of exceptions, face words ===== -/
def exL : List (String × Nat × String) := [(RX10, 141, "no transfer makes the moment smaller"), (RX10, 165, "limit out of range"), (RX10, 230, "no such rank"), (RX10, 233, "never full"), (RX10, 238, "no such position"), (RX10, 253, "no piece on board"), (RX10, 288, "transfers do not balance the ship"), (RX10, 293, "number of minutes out of range"), (RX10, 295, "does not sink"), (RX10, 300, "no storm is scheduled"), (RX10, 311, "the log has no such position"), (RX10, 365, "the line has no such index"), (RX10, 371, "character out of range"), (RX10, 373, "the buffer is full"), (RX10, 387, "malformed program"), (RX10, 414, "a command failed"), (RX10, 420, "no program was malformed"), (RX10, 422, "no command failed"), (RX10, 425, "no change can be undone"), (RX10, 434, "there is no saved copy"), (RX10, 445, "no such compartment"), (RX10, 447, "argument out of range"), (RX10, 452, "not possible now"), (RX10, 457, "no such piece"), (RX10, 464, "no compartments"), (RX10, 471, "no such storm"), (RX10, 476, "no transfer is possible"), (RX10, 481, "no piece can be moved")]
def FT : List Cond := lw_tbl.filter (fun w => w.onTables && w.keepsFace)
def St (κ : Nat → Nat) (A : Nat → Prop) (U : State) (H : Heap) : Prop :=
  va_En RX3 "LBallastControl$Fault;" ["NONE", "NO_INDEX", "BAD_ARGUMENT", "BAD_STATE", "NO_ELEMENT"] [] κ A U H ∧ (∀ q ∈ NWm, va_Nw (.methodLinkNest q.1 q.2.1 q.2.2 RX10) U) ∧ (∀ q ∈ exL, ∃ sa, vk_R q.1 q.2.1 q.2.2 sa U) ∧ (∀ w ∈ FT, w.before #[] U = true) ∧
  vx_Zq Bundle.tN "UNASSIGNED_STACK" Bundle.steD A U H ∧ vx_Zq Bundle.tN "SUPPRESSED_SENTINEL" Bundle.listD A U H
theorem St.kept {κ : Nat → Nat} {A : Nat → Prop} {U : State} {H H1 : Heap} (h : St κ A U H) (hq : ∀ a : Nat, a < H.size → ¬ A a → H1[a]? = H[a]?) : St κ A U H1 := ⟨h.1.kept hq, h.2.1, h.2.2.1, h.2.2.2.1, h.2.2.2.2.1.kept hq, h.2.2.2.2.2.kept hq⟩
theorem St.narrow {κ : Nat → Nat} {A B : Nat → Prop} {U : State} {H : Heap} (h : St κ A U H) (hAB : ∀ q, B q → A q) : St κ B U H := ⟨h.1.narrow hAB, h.2.1, h.2.2.1, h.2.2.2.1, h.2.2.2.2.1.narrow hAB, h.2.2.2.2.2.narrow hAB⟩
theorem FT_warm {s U : State} (hW : s.WarmedH U.vm) {w : Cond} (hw : w ∈ FT) (h : w.before #[] s = true) : w.before #[] U = true := by
  have h2 := (List.mem_filter.mp hw).2
  simp only [Bool.and_eq_true] at h2
  exact va_tabs h2.1 (rfl : (s.setVm U.vm).vm = U.vm) (Cond.before_shiftedFace (State.Shifted.of_warmed hW) w h2.2 h)
theorem St.warm {κ : Nat → Nat} {A : Nat → Prop} {s U : State} {H : Heap} (hW : s.WarmedH U.vm) (h : St κ A s H) : St κ A U H :=
  ⟨va_En.moved hW.alike h.1, fun q hq => va_Nw.warmM hW (h.2.1 q hq), fun q hq => by obtain ⟨sa, h9⟩ := h.2.2.1 q hq; exact ⟨sa, vk_R.warm hW h9⟩, fun w hw => FT_warm hW hw (h.2.2.2.1 w hw), vx_Zq.moved hW.alike h.2.2.2.2.1, vx_Zq.moved hW.alike h.2.2.2.2.2⟩
theorem St.same {κ : Nat → Nat} {A : Nat → Prop} {s U : State} {H : Heap} (hv : U.vm = s.vm) (h : St κ A s H) : St κ A U H := by
  have ha : s.vm.Alike U.vm := by rw [hv]; exact Vm.Alike.refl s.vm
  exact ⟨va_En.moved ha h.1, fun q hq => va_Nw.same rfl hv.symm (h.2.1 q hq), fun q hq => by obtain ⟨sa, h9⟩ := h.2.2.1 q hq; exact ⟨sa, vk_R.same hv h9⟩,
    fun w hw => by
      have h2 := (List.mem_filter.mp hw).2
      simp only [Bool.and_eq_true] at h2
      exact va_tabs h2.1 hv.symm (h.2.2.2.1 w hw), vx_Zq.moved ha h.2.2.2.2.1, vx_Zq.moved ha h.2.2.2.2.2⟩
theorem TS_probe1 : ∀ w ∈ vx_atS RX10 143 "java/lang/IllegalStateException" ["java/lang/RuntimeException", "java/lang/Exception"], vx_ot w = true := by decide +kernel
end
section
/-! ===== A METHOD'S FRAME OVER THIS MACHINE: At, and its rows ===== -/
/-- p l e R s m args below meth c Q D κ A -/
abbrev CX : Type := Program × Launch × Env × Room × State × MethodId × Array Value × List Frame × Method × Code × (State → Prop) × va_G × (Nat → Nat) × (Nat → Prop)
abbrev cS (γ : CX) : State := γ.2.2.2.2.1
abbrev cM (γ : CX) : MethodId := γ.2.2.2.2.2.1
abbrev cA (γ : CX) : Array Value := γ.2.2.2.2.2.2.1
abbrev cY (γ : CX) : Method := γ.2.2.2.2.2.2.2.2.1
abbrev cC (γ : CX) : Code := γ.2.2.2.2.2.2.2.2.2.1
abbrev cQ (γ : CX) : State → Prop := γ.2.2.2.2.2.2.2.2.2.2.1
abbrev cD (γ : CX) : va_G := γ.2.2.2.2.2.2.2.2.2.2.2.1
abbrev cκ (γ : CX) : Nat → Nat := γ.2.2.2.2.2.2.2.2.2.2.2.2.1
abbrev cF (γ : CX) : Nat → Prop := γ.2.2.2.2.2.2.2.2.2.2.2.2.2
abbrev cR (γ : CX) : Room := γ.2.2.2.1
abbrev cW (γ : CX) (H : Heap) (locs : List Loc) (k n : Nat) (g : JFrame) : Prop := W γ.1 γ.2.1 γ.2.2.1 (cR γ) (cS γ) (cM γ) (cA γ) γ.2.2.2.2.2.2.2.1 (cY γ) (cC γ) H locs k n (cQ γ) g
def OK (γ : CX) (own : String) (cc : ByteArray) : Prop :=
  γ.1.tables.exec = Jvm.exec ∧ (cC γ).code = cc ∧ (cS γ).vm.findClass own = some (cM γ).cls ∧ (∀ w ∈ GT, w.before (cA γ) (cS γ) = true) ∧ va_K (cD γ) vwCl [] (cS γ) ∧ St (cκ γ) (cF γ) (cS γ) (cS γ).heap ∧ (∀ q : Nat, (cS γ).heap.size ≤ q → cF γ q) ∧ γ.2.1.stackTraces = false ∧ (cY γ).locks = false
abbrev trL (σ : Nat → Nat → Nat) (κ : Nat → Nat) (ls : List (Nat × AV)) : List (Nat × Value) := ls.map (fun q => (q.1, tr σ κ q.2))
def At (γ : CX) (σ : Nat → Nat → Nat) (k n pc : Nat) (ls : List (Nat × AV)) (st : List AV) (h : AHp) : Prop :=
  ∀ (η : Nat → Nat → Nat) (H : Heap) (locs : List Loc) (lsA : Array Slot), Rep (cD γ) σ η (cκ γ) h (cS γ) H (cF γ) → va_S (cF γ) (cS γ).heap H locs → lv_has lsA (cC γ).maxLocals (trL σ (cκ γ) ls) →
    cW γ H locs k n (F0 (cM γ) pc lsA (st.map (tr σ (cκ γ))))
section ATR
variable {γ : CX} {own : String} {cc : ByteArray} {σ : Nat → Nat → Nat} {k n pc : Nat} {ls : List (Nat × AV)} {st : List AV} {h : AHp}
theorem At.iadd (O : OK γ own cc) {x y : Int32} (d : decode cc pc = .ok (.iadd, 1)) (g : At γ σ k n (pc + 1) ls (vI (x + y) :: st) h) : At γ σ k n pc ls (vI y :: vI x :: st) h := fun η H locs lsA a b c => lv_iadd O.1 O.2.1 d (g η H locs lsA a b c)
theorem At.isub (O : OK γ own cc) {x y : Int32} (d : decode cc pc = .ok (.isub, 1)) (g : At γ σ k n (pc + 1) ls (vI (x - y) :: st) h) : At γ σ k n pc ls (vI y :: vI x :: st) h := fun η H locs lsA a b c => lv_isub O.1 O.2.1 d (g η H locs lsA a b c)
theorem At.imul (O : OK γ own cc) {x y : Int32} (d : decode cc pc = .ok (.imul, 1)) (g : At γ σ k n (pc + 1) ls (vI (x * y) :: st) h) : At γ σ k n pc ls (vI y :: vI x :: st) h := fun η H locs lsA a b c => lv_imul O.1 O.2.1 d (g η H locs lsA a b c)
theorem At.iand (O : OK γ own cc) {x y : Int32} (d : decode cc pc = .ok (.iand, 1)) (g : At γ σ k n (pc + 1) ls (vI (x &&& y) :: st) h) : At γ σ k n pc ls (vI y :: vI x :: st) h := fun η H locs lsA a b c => lv_iand O.1 O.2.1 d (g η H locs lsA a b c)
theorem At.ior (O : OK γ own cc) {x y : Int32} (d : decode cc pc = .ok (.ior, 1)) (g : At γ σ k n (pc + 1) ls (vI (x ||| y) :: st) h) : At γ σ k n pc ls (vI y :: vI x :: st) h := fun η H locs lsA a b c => lv_ior O.1 O.2.1 d (g η H locs lsA a b c)
theorem At.ishl (O : OK γ own cc) {x y : Int32} (d : decode cc pc = .ok (.ishl, 1)) (g : At γ σ k n (pc + 1) ls (vI (x <<< (y &&& 31)) :: st) h) : At γ σ k n pc ls (vI y :: vI x :: st) h := fun η H locs lsA a b c => lv_ishl O.1 O.2.1 d (g η H locs lsA a b c)
theorem At.ishr (O : OK γ own cc) {x y : Int32} (d : decode cc pc = .ok (.ishr, 1)) (g : At γ σ k n (pc + 1) ls (vI (x >>> (y &&& 31)) :: st) h) : At γ σ k n pc ls (vI y :: vI x :: st) h := fun η H locs lsA a b c => lv_ishr O.1 O.2.1 d (g η H locs lsA a b c)
theorem At.idiv (O : OK γ own cc) {x y : Int32} (d : decode cc pc = .ok (.idiv, 1)) (hy : ¬ y = 0) (g : At γ σ k n (pc + 1) ls (vI (x / y) :: st) h) : At γ σ k n pc ls (vI y :: vI x :: st) h := fun η H locs lsA a b c => lv_idiv O.1 O.2.1 d hy (g η H locs lsA a b c)
theorem At.irem (O : OK γ own cc) {x y : Int32} (d : decode cc pc = .ok (.irem, 1)) (hy : ¬ y = 0) (g : At γ σ k n (pc + 1) ls (vI (x - x / y * y) :: st) h) : At γ σ k n pc ls (vI y :: vI x :: st) h := fun η H locs lsA a b c => lv_irem O.1 O.2.1 d hy (g η H locs lsA a b c)
theorem At.ineg (O : OK γ own cc) {x : Int32} (d : decode cc pc = .ok (.ineg, 1)) (g : At γ σ k n (pc + 1) ls (vI (-x) :: st) h) : At γ σ k n pc ls (vI x :: st) h := fun η H locs lsA a b c => lv_ineg O.1 O.2.1 d (g η H locs lsA a b c)
theorem At.i2l (O : OK γ own cc) {x : Int32} (d : decode cc pc = .ok (.i2l, 1)) (g : At γ σ k n (pc + 1) ls (vL x.toInt64 :: st) h) : At γ σ k n pc ls (vI x :: st) h := fun η H locs lsA a b c => lv_i2l O.1 O.2.1 d rfl (g η H locs lsA a b c)
theorem At.i2c (O : OK γ own cc) {x : Int32} (d : decode cc pc = .ok (.i2c, 1)) (g : At γ σ k n (pc + 1) ls (vI (x.toUInt32 % 65536).toInt32 :: st) h) : At γ σ k n pc ls (vI x :: st) h := fun η H locs lsA a b c => lv_i2c O.1 O.2.1 d rfl (g η H locs lsA a b c)
theorem At.i2b (O : OK γ own cc) {x : Int32} (d : decode cc pc = .ok (.i2b, 1)) (g : At γ σ k n (pc + 1) ls (vI x.toInt8.toInt32 :: st) h) : At γ σ k n pc ls (vI x :: st) h := fun η H locs lsA a b c => lv_i2b O.1 O.2.1 d rfl (g η H locs lsA a b c)
theorem At.ladd (O : OK γ own cc) {x y : Int64} (d : decode cc pc = .ok (.ladd, 1)) (g : At γ σ k n (pc + 1) ls (vL (x + y) :: st) h) : At γ σ k n pc ls (vL y :: vL x :: st) h := fun η H locs lsA a b c => lv_ladd O.1 O.2.1 d (g η H locs lsA a b c)
theorem At.lcmp (O : OK γ own cc) {x y : Int64} (d : decode cc pc = .ok (.lcmp, 1)) (g : At γ σ k n (pc + 1) ls (vI (lg_cmp x y) :: st) h) : At γ σ k n pc ls (vL y :: vL x :: st) h := fun η H locs lsA a b c => W.lcmp O.1 O.2.1 d (g η H locs lsA a b c)
theorem At.iconst (O : OK γ own cc) {i : Int} {x : Int32} (d : decode cc pc = .ok (.iconst i, 1)) (hx : Int32.ofInt i = x) (g : At γ σ k n (pc + 1) ls (vI x :: st) h) : At γ σ k n pc ls st h := fun η H locs lsA a b c => lv_iconst O.1 O.2.1 d hx (g η H locs lsA a b c)
theorem At.bipush (O : OK γ own cc) {i : Int} {x : Int32} (d : decode cc pc = .ok (.bipush i, 2)) (hx : (Int8.ofInt i).toInt32 = x) (g : At γ σ k n (pc + 2) ls (vI x :: st) h) : At γ σ k n pc ls st h := fun η H locs lsA a b c => lv_bipush O.1 O.2.1 d hx (g η H locs lsA a b c)
theorem At.sipush (O : OK γ own cc) {i : Int} {x : Int32} (d : decode cc pc = .ok (.sipush i, 3)) (hx : (Int16.ofInt i).toInt32 = x) (g : At γ σ k n (pc + 3) ls (vI x :: st) h) : At γ σ k n pc ls st h := fun η H locs lsA a b c => lv_sipush O.1 O.2.1 d hx (g η H locs lsA a b c)
theorem At.lconst (O : OK γ own cc) {i : Fin 2} {x : Int64} (d : decode cc pc = .ok (.lconst i, 1)) (hx : Int64.ofNat (i : Nat) = x) (g : At γ σ k n (pc + 1) ls (vL x :: st) h) : At γ σ k n pc ls st h := fun η H locs lsA a b c => lv_lconst O.1 O.2.1 d hx (g η H locs lsA a b c)
theorem At.goto (O : OK γ own cc) {off : Int} {t : Nat} (d : decode cc pc = .ok (.goto off, 3)) (ht : (pc : Int) + off = (t : Int)) (g : At γ σ k n t ls st h) : At γ σ k n pc ls st h := fun η H locs lsA a b c => lv_goto O.1 O.2.1 d ht (g η H locs lsA a b c)
theorem tr_cat1 {v : AV} {κ : Nat → Nat} (hv : ∀ x, v ≠ vL x) (hv2 : ∀ x, v ≠ vD x) : (tr σ κ v).category = 1 := by
  rcases v with v | q | j
  · cases v with
    | long x => exact absurd rfl (hv x)
    | double x => exact absurd rfl (hv2 x)
    | _ => rfl
  · rfl
  · rfl
theorem At.dup (O : OK γ own cc) {v : AV} (d : decode cc pc = .ok (.dup, 1)) (hv : (tr σ (cκ γ) v).category = 1) (g : At γ σ k n (pc + 1) ls (v :: v :: st) h) : At γ σ k n pc ls (v :: st) h := fun η H locs lsA a b c => lv_dup O.1 O.2.1 d hv (g η H locs lsA a b c)
theorem At.pop (O : OK γ own cc) {v : AV} (d : decode cc pc = .ok (.pop, 1)) (hv : (tr σ (cκ γ) v).category = 1) (g : At γ σ k n (pc + 1) ls st h) : At γ σ k n pc ls (v :: st) h := fun η H locs lsA a b c => lv_pop O.1 O.2.1 d hv (g η H locs lsA a b c)
theorem At.dup_x1 (O : OK γ own cc) {v w : AV} (d : decode cc pc = .ok (.dup_x1, 1)) (hv : (tr σ (cκ γ) v).category = 1) (hw : (tr σ (cκ γ) w).category = 1) (g : At γ σ k n (pc + 1) ls (v :: w :: v :: st) h) : At γ σ k n pc ls (v :: w :: st) h := fun η H locs lsA a b c => lv_dup_x1 O.1 O.2.1 d hv hw (g η H locs lsA a b c)
theorem At.dup2 (O : OK γ own cc) {v w : AV} (d : decode cc pc = .ok (.dup2, 1)) (hv : (tr σ (cκ γ) v).category = 1) (hw : (tr σ (cκ γ) w).category = 1) (g : At γ σ k n (pc + 1) ls (v :: w :: v :: w :: st) h) : At γ σ k n pc ls (v :: w :: st) h := fun η H locs lsA a b c => lv_dup2_11 O.1 O.2.1 d hv hw (g η H locs lsA a b c)
/-- branches -/
theorem At.ifc (O : OK γ own cc) {cd : Jvm.ClassFile.Cond} {off : Int} {t : Nat} {x : Int32} (d : decode cc pc = .ok (.ifCond cd off, 3)) (ht : (pc : Int) + off = (t : Int)) (P : Prop)
    (hP : P = (match cd with | .eq => x = 0 | .ne => ¬ x = 0 | .lt => x < 0 | .ge => 0 ≤ x | .gt => 0 < x | .le => x ≤ 0)) (g : P → At γ σ k n t ls st h) (f : ¬ P → At γ σ k n (pc + 3) ls st h) : At γ σ k n pc ls (vI x :: st) h := by
  subst hP
  cases cd with
  | eq => exact fun η H locs lsA a b c => lv_if_eq O.1 O.2.1 d ht (fun q => g q η H locs lsA a b c) (fun q => f q η H locs lsA a b c)
  | ne => exact fun η H locs lsA a b c => lv_if_ne O.1 O.2.1 d ht (fun q => g q η H locs lsA a b c) (fun q => f (fun z => z q) η H locs lsA a b c)
  | lt => exact fun η H locs lsA a b c => lv_if_lt O.1 O.2.1 d ht (fun q => g q η H locs lsA a b c) (fun q => f q η H locs lsA a b c)
  | ge => exact fun η H locs lsA a b c => lv_if_ge O.1 O.2.1 d ht (fun q => g q η H locs lsA a b c) (fun q => f q η H locs lsA a b c)
  | gt => exact fun η H locs lsA a b c => lv_if_gt O.1 O.2.1 d ht (fun q => g q η H locs lsA a b c) (fun q => f q η H locs lsA a b c)
  | le => exact fun η H locs lsA a b c => lv_if_le O.1 O.2.1 d ht (fun q => g q η H locs lsA a b c) (fun q => f q η H locs lsA a b c)
theorem At.icmp (O : OK γ own cc) {cd : Jvm.ClassFile.Cond} {off : Int} {t : Nat} {x y : Int32} (d : decode cc pc = .ok (.if_icmp cd off, 3)) (ht : (pc : Int) + off = (t : Int)) (P : Prop)
    (hP : P = (match cd with | .eq => x = y | .ne => ¬ x = y | .lt => x < y | .ge => y ≤ x | .gt => y < x | .le => x ≤ y)) (g : P → At γ σ k n t ls st h) (f : ¬ P → At γ σ k n (pc + 3) ls st h) : At γ σ k n pc ls (vI y :: vI x :: st) h := by
  subst hP
  cases cd with
  | eq => exact fun η H locs lsA a b c => lv_icmp_eq O.1 O.2.1 d ht (fun q => g q η H locs lsA a b c) (fun q => f q η H locs lsA a b c)
  | ne => exact fun η H locs lsA a b c => lv_icmp_ne O.1 O.2.1 d ht (fun q => g q η H locs lsA a b c) (fun q => f (fun z => z q) η H locs lsA a b c)
  | lt => exact fun η H locs lsA a b c => lv_icmp_lt O.1 O.2.1 d ht (fun q => g q η H locs lsA a b c) (fun q => f q η H locs lsA a b c)
  | ge => exact fun η H locs lsA a b c => lv_icmp_ge O.1 O.2.1 d ht (fun q => g q η H locs lsA a b c) (fun q => f q η H locs lsA a b c)
  | gt => exact fun η H locs lsA a b c => lv_icmp_gt O.1 O.2.1 d ht (fun q => g q η H locs lsA a b c) (fun q => f q η H locs lsA a b c)
  | le => exact fun η H locs lsA a b c => lv_icmp_le O.1 O.2.1 d ht (fun q => g q η H locs lsA a b c) (fun q => f q η H locs lsA a b c)
end ATR
end
section
/-! ===== rows of locals and of the heap ===== -/
def lvget : List (Nat × AV) → Nat → Option AV
  | [], _ => none
  | (m, v) :: l, i => match Nat.beq m i with
    | true => some v
    | false => lvget l i
/-- v at place i, where a value stood (in its place), else at the end -/
def lvset : List (Nat × AV) → Nat → AV → List (Nat × AV)
  | [], i, v => [(i, v)]
  | (m, w) :: l, i, v => match Nat.beq m i with
    | true => (m, v) :: l
    | false => (m, w) :: lvset l i v
/-- no place twice, none of two words but far from i -/
def is2 : AV → Bool
  | .inl (.long _) => true
  | .inl (.double _) => true
  | _ => false
def lvok : List (Nat × AV) → Nat → Bool
  | [], _ => true
  | (m, w) :: l, i => match Nat.beq m i with
    | true => !(is2 w) && lvok1 l i
    | false => !(is2 w) && lvok l i
where lvok1 : List (Nat × AV) → Nat → Bool
  | [], _ => true
  | (m, w) :: l, i => !(Nat.beq m i) && !(is2 w) && lvok1 l i
theorem lvget_mem : ∀ {ls : List (Nat × AV)} {i : Nat} {v : AV}, lvget ls i = some v → (i, v) ∈ ls
  | [], _, _, h => by cases h
  | (m, w) :: l, i, v, h => by
    unfold lvget at h
    cases e : Nat.beq m i with
    | true =>
      rw [e] at h
      cases h
      rw [Nat.eq_of_beq_eq_true e]
      exact List.mem_cons_self
    | false =>
      rw [e] at h
      exact List.mem_cons_of_mem _ (lvget_mem h)
theorem lvok1_mem : ∀ {ls : List (Nat × AV)} {i : Nat}, lvok.lvok1 ls i = true → ∀ q ∈ ls, q.1 ≠ i ∧ is2 q.2 = false
  | [], _, _, q, hq => by cases hq
  | (m, w) :: l, i, h, q, hq => by
    simp only [lvok.lvok1, Bool.and_eq_true, Bool.not_eq_true'] at h
    rcases List.mem_cons.mp hq with rfl | hq
    · refine ⟨fun e => ?_, h.1.2⟩
      have := h.1.1
      rw [show m = i from e, Nat.beq_refl] at this
      cases this
    · exact lvok1_mem h.2 q hq
theorem lvset_mem : ∀ {ls : List (Nat × AV)} {i : Nat} {v : AV}, lvok ls i = true → ∀ q ∈ lvset ls i v, q = (i, v) ∨ (q ∈ ls ∧ q.1 ≠ i ∧ is2 q.2 = false)
  | [], i, v, _, q, hq => by
    simp only [lvset, List.mem_singleton] at hq
    exact Or.inl hq
  | (m, w) :: l, i, v, h, q, hq => by
    unfold lvset at hq
    unfold lvok at h
    cases e : Nat.beq m i with
    | true =>
      rw [e] at h hq
      simp only [Bool.and_eq_true, Bool.not_eq_true'] at h
      rcases List.mem_cons.mp hq with rfl | hq
      · exact Or.inl (by rw [Nat.eq_of_beq_eq_true e])
      · exact Or.inr ⟨List.mem_cons_of_mem _ hq, lvok1_mem h.2 q hq⟩
    | false =>
      rw [e] at h hq
      simp only [Bool.and_eq_true, Bool.not_eq_true'] at h
      rcases List.mem_cons.mp hq with rfl | hq
      · refine Or.inr ⟨List.mem_cons_self, fun e2 => ?_, h.1⟩
        rw [show m = i from e2, Nat.beq_refl] at e
        cases e
      · rcases lvset_mem h.2 q hq with h1 | h1
        · exact Or.inl h1
        · exact Or.inr ⟨List.mem_cons_of_mem _ h1.1, h1.2⟩
theorem lv_mono {lsA : Array Slot} {nL : Nat} {l l' : List (Nat × Value)} (h : lv_has lsA nL l) (hs : ∀ q ∈ l', q ∈ l) : lv_has lsA nL l' := ⟨h.1, h.2.1, fun q hq => h.2.2 q (hs q hq)⟩
theorem tr_cat2 {σ : Nat → Nat → Nat} {κ : Nat → Nat} {v : AV} (h : is2 v = false) : ((tr σ κ v).category == 2) = false := by
  rcases v with v | q | j
  · cases v <;> first | rfl | (simp [is2] at h)
  · rfl
  · rfl
theorem lvset_has {lsA : Array Slot} {nL i : Nat} {σ : Nat → Nat → Nat} {κ : Nat → Nat} {ls : List (Nat × AV)} {v : AV} (hok : lvok ls i = true)
    (h : lv_has lsA nL ((i, tr σ κ v) :: (trL σ κ ls).filter (fun q => !(q.1 == i) && !(q.1 + 1 == i && q.2.category == 2)))) : lv_has lsA nL (trL σ κ (lvset ls i v)) := by
  refine lv_mono h fun q hq => ?_
  obtain ⟨z, hz, rfl⟩ := List.mem_map.mp hq
  rcases lvset_mem hok z hz with rfl | ⟨h1, h2, h3⟩
  · exact List.mem_cons_self
  · refine List.mem_cons_of_mem _ (List.mem_filter.mpr ⟨List.mem_map.mpr ⟨z, h1, rfl⟩, ?_⟩)
    have e1 : (z.1 == i) = false := by simpa using h2
    have e2 : ((tr σ κ z.2).category == 2) = false := tr_cat2 h3
    dsimp only
    rw [e1, e2]
    simp
section ATL
variable {γ : CX} {own : String} {cc : ByteArray} {σ : Nat → Nat → Nat} {k n pc : Nat} {ls : List (Nat × AV)} {st : List AV} {h : AHp}
theorem At.lv {ls : List (Nat × AV)} {lsA : Array Slot} {i : Nat} {v : AV} {nL : Nat} {κ : Nat → Nat} (c : lv_has lsA nL (trL σ κ ls)) (hv : lvget ls i = some v) : lsA[i]? = some (.val (tr σ κ v)) := c.2.2 (i, tr σ κ v) (List.mem_map.mpr ⟨(i, v), lvget_mem hv, rfl⟩)
theorem At.iload (O : OK γ own cc) {i : Nat} {x : Int32} (d : decode cc pc = .ok (.iload i, 2)) (hv : lvget ls i = some (vI x)) (g : At γ σ k n (pc + 2) ls (vI x :: st) h) : At γ σ k n pc ls st h := fun η H locs lsA a b c => lv_iload O.1 O.2.1 d (At.lv c hv) (g η H locs lsA a b c)
theorem At.iload_n (O : OK γ own cc) {i : Fin 4} {x : Int32} (d : decode cc pc = .ok (.iload_n i, 1)) (hv : lvget ls i = some (vI x)) (g : At γ σ k n (pc + 1) ls (vI x :: st) h) : At γ σ k n pc ls st h := fun η H locs lsA a b c => lv_iload_n O.1 O.2.1 d rfl (At.lv c hv) (g η H locs lsA a b c)
def isRf : AV → Bool
  | .inl (.ref _) => true
  | .inl _ => false
  | _ => true
theorem tr_rf {κ : Nat → Nat} {v : AV} (hv : isRf v = true) : ∃ a, tr σ κ v = .ref a := by
  rcases v with v | q | j
  · cases v with
    | ref a => exact ⟨a, rfl⟩
    | _ => cases hv
  · exact ⟨_, rfl⟩
  · exact ⟨_, rfl⟩
theorem At.aload (O : OK γ own cc) {i : Nat} {v : AV} (d : decode cc pc = .ok (.aload i, 2)) (hv : lvget ls i = some v) (hr : isRf v = true) (g : At γ σ k n (pc + 2) ls (v :: st) h) : At γ σ k n pc ls st h := fun η H locs lsA a b c => by
  have h1 := At.lv c hv
  have h2 := g η H locs lsA a b c
  obtain ⟨x, e⟩ := tr_rf (σ := σ) (κ := cκ γ) hr
  simp only [List.map_cons] at h2
  rw [e] at h1 h2
  exact lv_aload O.1 O.2.1 d h1 h2
theorem At.aload_n (O : OK γ own cc) {i : Fin 4} {v : AV} (d : decode cc pc = .ok (.aload_n i, 1)) (hv : lvget ls i = some v) (hr : isRf v = true) (g : At γ σ k n (pc + 1) ls (v :: st) h) : At γ σ k n pc ls st h := fun η H locs lsA a b c => by
  have h1 := At.lv c hv
  have h2 := g η H locs lsA a b c
  obtain ⟨x, e⟩ := tr_rf (σ := σ) (κ := cκ γ) hr
  simp only [List.map_cons] at h2
  rw [e] at h1 h2
  exact lv_aload_n O.1 O.2.1 d rfl h1 h2
theorem At.aload_nN (O : OK γ own cc) {i : Fin 4} (d : decode cc pc = .ok (.aload_n i, 1)) (hv : lvget ls i = some vN) (g : At γ σ k n (pc + 1) ls (vN :: st) h) : At γ σ k n pc ls st h := fun η H locs lsA a b c => lv_aload_nN O.1 O.2.1 d rfl (At.lv c hv) (g η H locs lsA a b c)
theorem At.istore (O : OK γ own cc) {i : Nat} {x : Int32} (d : decode cc pc = .ok (.istore i, 2)) (hn : i < (cC γ).maxLocals) (ho : lvok ls i = true) (g : At γ σ k n (pc + 2) (lvset ls i (vI x)) st h) : At γ σ k n pc ls (vI x :: st) h := fun η H locs lsA a b c => lv_istore O.1 O.2.1 d c hn rfl (fun lsB cB => g η H locs lsB a b (lvset_has ho cB))
theorem At.istore_n (O : OK γ own cc) {i : Fin 4} {x : Int32} (d : decode cc pc = .ok (.istore_n i, 1)) (hn : i < (cC γ).maxLocals) (ho : lvok ls i = true) (g : At γ σ k n (pc + 1) (lvset ls i (vI x)) st h) : At γ σ k n pc ls (vI x :: st) h := fun η H locs lsA a b c => lv_istore_n O.1 O.2.1 d rfl c hn rfl (fun lsB cB => g η H locs lsB a b (lvset_has ho cB))
theorem At.astore (O : OK γ own cc) {i : Nat} {v : AV} (d : decode cc pc = .ok (.astore i, 2)) (hr : isRf v = true) (hn : i < (cC γ).maxLocals) (ho : lvok ls i = true) (g : At γ σ k n (pc + 2) (lvset ls i v) st h) : At γ σ k n pc ls (v :: st) h := fun η H locs lsA a b c => by
  have h2 := fun lsB cB => g η H locs lsB a b (lvset_has (v := v) ho cB)
  obtain ⟨x, e⟩ := tr_rf (σ := σ) (κ := cκ γ) hr
  simp only [List.map_cons]
  rw [e] at h2 ⊢
  exact lv_astore O.1 O.2.1 d c hn rfl h2
theorem At.astore_n (O : OK γ own cc) {i : Fin 4} {v : AV} (d : decode cc pc = .ok (.astore_n i, 1)) (hr : isRf v = true) (hn : i < (cC γ).maxLocals) (ho : lvok ls i = true) (g : At γ σ k n (pc + 1) (lvset ls i v) st h) : At γ σ k n pc ls (v :: st) h := fun η H locs lsA a b c => by
  have h2 := fun lsB cB => g η H locs lsB a b (lvset_has (v := v) ho cB)
  obtain ⟨x, e⟩ := tr_rf (σ := σ) (κ := cκ γ) hr
  simp only [List.map_cons]
  rw [e] at h2 ⊢
  exact lv_astore_n O.1 O.2.1 d rfl c hn rfl h2
theorem At.iinc (O : OK γ own cc) {i : Nat} {cn : Int} {x y : Int32} (d : decode cc pc = .ok (.iinc i cn, 3)) (hy : Int32.ofInt cn = y) (hv : lvget ls i = some (vI x)) (hn : i < (cC γ).maxLocals) (ho : lvok ls i = true) (g : At γ σ k n (pc + 3) (lvset ls i (vI (x + y))) st h) : At γ σ k n pc ls st h := fun η H locs lsA a b c => by
  obtain ⟨j, hj⟩ := List.getElem?_of_mem (List.mem_map.mpr ⟨(i, vI x), lvget_mem hv, rfl⟩ : (i, Value.int x) ∈ trL σ (cκ γ) ls)
  exact lv_iinc O.1 O.2.1 d c hj (by rw [hy]) hn rfl (fun lsB cB => g η H locs lsB a b (lvset_has ho cB))
/-- fewer locals -/
theorem At.drop {ls' : List (Nat × AV)} (hs : ∀ q ∈ ls', q ∈ ls) (g : At γ σ k n pc ls' st h) : At γ σ k n pc ls st h := fun η H locs lsA a b c => g η H locs lsA a b (lv_mono c fun q hq => by
  obtain ⟨z, hz, rfl⟩ := List.mem_map.mp hq
  exact List.mem_map.mpr ⟨z, hs z hz, rfl⟩)
end ATL
end
section
/-! ===== rows of the heap: fields and arrays ===== -/
theorem hget_pl {h : AHp} {r o : Nat} {c : ACell} (hg : hget h r o = some c) : pdom h (r, o, false) := ⟨c, hg, fun z => by cases z⟩
theorem vpV_get {fs : List AV} {k : Nat} {v : AV} {σ : Nat → Nat → Nat} {κ : Nat → Nat} (h : hnth fs k = some v) : (fs.map (tr σ κ))[k]? = some (tr σ κ v) := by
  rw [hnth_eq] at h
  rw [List.getElem?_map, h]; rfl
/-- what a field of a type takes -/
def okT : FieldType → AV → Prop
  | .int, .inl (.int _) => True
  | .boolean, .inl (.int x) => x = 0 ∨ x = 1
  | .byte, .inl (.int x) => x.toInt8.toInt32 = x
  | .long, .inl (.long _) => True
  | .object _, .inl (.ref _) => True
  | .object _, .inl .null => True
  | .object _, .inr _ => True
  | .array _, .inl (.ref _) => True
  | .array _, .inl .null => True
  | .array _, .inr _ => True
  | _, _ => False
theorem okT_ok {ty : FieldType} {v : AV} {σ : Nat → Nat → Nat} {κ : Nat → Nat} (h : okT ty v) : narrow ty (tr σ κ v) = tr σ κ v ∧ fits ty (tr σ κ v) = true := by
  rcases v with v | q | j
  · cases ty <;> cases v <;> first
      | exact ⟨rfl, rfl⟩
      | exact False.elim h
      | (rcases h with rfl | rfl <;> exact ⟨rfl, rfl⟩)
      | (rename_i x
         have h1 : x.toInt8.toInt32 = x := h
         refine ⟨?_, ?_⟩
         · show Value.int x.toInt8.toInt32 = Value.int x
           rw [h1]
         · have h2 := pk_fb x
           rw [h1] at h2
           exact h2)
  · cases ty <;> first
      | exact ⟨rfl, rfl⟩
      | exact False.elim h
  · cases ty <;> first
      | exact ⟨rfl, rfl⟩
      | exact False.elim h
section ATH
variable {γ : CX} {o1 : Nat} {cc : ByteArray} {σ : Nat → Nat → Nat} {k n pc : Nat} {ls : List (Nat × AV)} {st : List AV} {h : AHp}
theorem At.getf (O : OK γ (cn o1) cc) {ix ci fk r o : Nat} {fs : List AV} {v : AV} (d : decode cc pc = .ok (.getfield ix, 3)) (hF : (o1, ix, ci, fk) ∈ FLq) (hg : hget h r o = some (aO ci fs)) (hv : hnth fs fk = some v) (g : At γ σ k n (pc + 3) ls (v :: st) h) : At γ σ k n pc ls (vR r o :: st) h := fun η H locs lsA a b c => by
  obtain ⟨C, T, N, hc, hk, hl⟩ := FLq_ok _ hF
  obtain ⟨q1, q2, q3⟩ := CL_ok ci C T N hc
  obtain ⟨hx, hb, hown, hts, hK, -, -, -, -⟩ := O
  obtain ⟨q, e1, e2⟩ := a.1 r o _ hg
  exact va_get (D := cD γ) (cl := vwCl) (ws := [(σ r o, .inr (ci, fs.map (tr σ (cκ γ))))]) (v := tr σ (cκ γ) v) hx hb hts q1 hown hK (fun j z hj => by
      match j, hj with
      | 0, hj => cases hj; exact ⟨q, e1, e2⟩
      | j + 1, hj => simp at hj) 0 rfl hc fk hk (hts _ hl) (fun _ h9 => h9) (vpV_get hv) d (g η H locs lsA a b c)
theorem At.putf (O : OK γ (cn o1) cc) {ix ci fk r o : Nat} {fs : List AV} {v v0 : AV} (d : decode cc pc = .ok (.putfield ix, 3)) (hF : (o1, ix, ci, fk) ∈ FLq) (hg : hget h r o = some (aO ci fs)) (hv : hnth fs fk = some v0) (hty : okT (tyOf ci fk) v)
    (hfin : ∀ C T N, vwCl[ci]? = some (C, T, N) → (T fk).2.2.2 = false ∨ ((cY γ).name = "<init>" ∧ (T fk).1 = cn o1)) (g : At γ σ k n (pc + 3) ls st (hset h r o (aO ci (hput fs fk v)))) : At γ σ k n pc ls (v :: vR r o :: st) h := fun η H locs lsA a b c => by
  obtain ⟨C, T, N, hc, hk, hl⟩ := FLq_ok _ hF
  obtain ⟨q1, q2, q3⟩ := CL_ok ci C T N hc
  obtain ⟨hx, hb, hown, hts, hK, -, -, -, -⟩ := O
  obtain ⟨q, e1, cell, f1, f2, f3, f4⟩ := a.1 r o _ hg
  have hap := va_apart (own := cn o1) hts q1 (tyOf ci) q2 q3 hK hc
  obtain ⟨hS, hfc, kC, hkC, hkind⟩ := hK.1 ci _ hc
  obtain ⟨cf, kf, fi, f, hi, hsl⟩ := hS fk hk
  have hq : q = (C, T, N) := Option.some.inj (e1.symm.trans hc)
  subst hq
  obtain ⟨hn, hfit⟩ := okT_ok (σ := σ) (κ := cκ γ) hty
  have hst := (u_facts hfc hkC (u_lays hts q1 hk) hi).1
  have hlen : fk < (fs.map (tr σ (cκ γ))).length := by
    rw [hnth_eq] at hv
    rw [List.length_map]
    exact (List.getElem?_eq_some_iff.mp hv).1
  have fin : ∀ H1 : Heap, H1[σ r o]? = some (cell.setSlot (((cD γ).2 ci) fk) (tr σ (cκ γ) v)) → H1.size = H.size → (∀ q : Nat, q ≠ σ r o → H1[q]? = H[q]?) → cW γ H1 (locs ++ [⟨σ r o, ((cD γ).2 ci) fk⟩]) k n (F0 (cM γ) (pc + 3) lsA (st.map (tr σ (cκ γ)))) := by
    intro H1 g1 g2 g3
    refine g η H1 _ lsA (a.set hg rfl rfl ⟨(C, T, N), hc, ?_⟩ g3) (b.put g2 g3 (a.2.2 (r, o, false) (hget_pl hg))) c
    refine t_OB.to (V := updV (vp_V (fs.map (tr σ (cκ γ)))) fk (tr σ (cκ γ) v)) ⟨_, g1, f2, f3, t_set f4 hap hk _⟩ fun j _ => ?_
    rw [hput_eq, List.map_set]
    exact vp_updV_set hlen _ j
  have hlay := hts _ (q1 _ (u_in_lay hk))
  unfold u_lay at hlay
  cases hff : (T fk).2.2.2 with
  | false =>
    rw [if_neg (by rw [hff]; decide)] at hlay
    have h6 := u_store hfc hkC hkind hlay hi (q2 fk hk) hn hfit
    refine W.putK hx hb (f := f) ⟨hown, hts _ hl, ⟨_, _, _, hi⟩, hst⟩ (by rw [f2]; exact h6) f1 f3 (by rw [hsl]; exact k2_hasslot (f4 fk hk)) rfl rfl d fun H' z1 z2 z3 => ?_
    rw [hsl] at z1 ⊢
    exact fin H' z1 z2 z3
  | true =>
    rw [if_pos hff] at hlay
    obtain ⟨hin2, hdecl⟩ : (cY γ).name = "<init>" ∧ (T fk).1 = cn o1 := by
      rcases hfin C T N hc with h9 | h9
      · rw [hff] at h9; cases h9
      · exact h9
    have hcf : (cM γ).cls = cf := by
      obtain ⟨_, _, c', _, _, _, -, -, hf', -, -, -, hown2, -⟩ := Cond.laysFinal_spec hlay
      have e1 : c' = cf := by have := hi.symm.trans hf'; simp at this; exact this.1.symm
      rw [hdecl] at hown2
      rw [← e1]; exact Option.some.inj (hown.symm.trans hown2)
    have h6 := u_fits hfc hkC hkind (Or.inr hlay) hi (q2 fk hk) hn hfit
    refine W.putFinK hx hb hown (hts _ hl) hi hst hcf hin2 (by rw [f2]; exact h6) f1 f3 (by rw [hsl]; exact k2_hasslot (f4 fk hk)) rfl rfl d fun H' z1 z2 z3 => ?_
    rw [hsl] at z1 ⊢
    exact fin H' z1 z2 z3
end ATH
section ATA
variable {γ : CX} {own : String} {cc : ByteArray} {σ : Nat → Nat → Nat} {k n pc : Nat} {ls : List (Nat × AV)} {st : List AV} {h : AHp}
theorem in_size {i : Int32} {N : Nat} {cA : ClassId} {f : Nat → Value} (hin : vp_in i N) : ¬ (i < 0 ∨ (arrV cA N f).slots.size ≤ i.toNatClampNeg) := by rw [arrV_size]; exact hin
theorem in_lt {i : Int32} {N : Nat} (hin : vp_in i N) : i.toNatClampNeg < N := Nat.not_le.mp fun q => hin (Or.inr q)
theorem At.iald (O : OK γ own cc) {r o N : Nat} {f : Nat → Int32} {i : Int32} (d : decode cc pc = .ok (.iaload, 1)) (hg : hget h r o = some (.inl (.int, N, .inl f))) (hin : vp_in i N) (g : At γ σ k n (pc + 1) ls (vI (f i.toNatClampNeg) :: st) h) : At γ σ k n pc ls (vI i :: vR r o :: st) h := fun η H locs lsA a b c => by
  obtain ⟨cA, e1, e2, e3⟩ := a.1 r o _ hg
  exact W.iald O.1 O.2.1 e1 (e2 _ _) (fun q => by cases q) (in_size hin) (v := .int (f i.toNatClampNeg)) (arrV_read cA _ (in_lt hin)) rfl rfl d (g η H locs lsA a b c)
theorem At.zald (O : OK γ own cc) {r o N : Nat} {f : Nat → Int32} {i : Int32} (d : decode cc pc = .ok (.baload, 1)) (hg : hget h r o = some (.inl (.boolean, N, .inl f))) (hin : vp_in i N) (g : At γ σ k n (pc + 1) ls (vI (f i.toNatClampNeg) :: st) h) : At γ σ k n pc ls (vI i :: vR r o :: st) h := fun η H locs lsA a b c => by
  obtain ⟨cA, e1, e2, e3⟩ := a.1 r o _ hg
  exact W.zald O.1 O.2.1 e1 (e2 _ _) (fun q => by cases q) (in_size hin) (v := .int (f i.toNatClampNeg)) (arrV_read cA _ (in_lt hin)) rfl rfl d (g η H locs lsA a b c)
theorem At.bald (O : OK γ own cc) {r o N : Nat} {f : Nat → Int32} {i : Int32} (d : decode cc pc = .ok (.baload, 1)) (hg : hget h r o = some (.inl (.byte, N, .inl f))) (hin : vp_in i N) (g : At γ σ k n (pc + 1) ls (vI (f i.toNatClampNeg) :: st) h) : At γ σ k n pc ls (vI i :: vR r o :: st) h := fun η H locs lsA a b c => by
  obtain ⟨cA, e1, e2, e3⟩ := a.1 r o _ hg
  exact W.bald O.1 O.2.1 e1 (e2 _ _) (fun q => by cases q) (in_size hin) (v := .int (f i.toNatClampNeg)) (arrV_read cA _ (in_lt hin)) rfl rfl d (g η H locs lsA a b c)
theorem At.cald (O : OK γ own cc) {r o N : Nat} {f : Nat → Int32} {i : Int32} (d : decode cc pc = .ok (.caload, 1)) (hg : hget h r o = some (.inl (.char, N, .inl f))) (hin : vp_in i N) (g : At γ σ k n (pc + 1) ls (vI (f i.toNatClampNeg) :: st) h) : At γ σ k n pc ls (vI i :: vR r o :: st) h := fun η H locs lsA a b c => by
  obtain ⟨cA, e1, e2, e3⟩ := a.1 r o _ hg
  exact W.cald O.1 O.2.1 e1 (e2 _ _) (fun q => by cases q) (in_size hin) (v := .int (f i.toNatClampNeg)) (arrV_read cA _ (in_lt hin)) rfl rfl d (g η H locs lsA a b c)
theorem At.lald (O : OK γ own cc) {r o N : Nat} {f : Nat → Int64} {i : Int32} (d : decode cc pc = .ok (.laload, 1)) (hg : hget h r o = some (.inl (.long, N, .inr (.inl f)))) (hin : vp_in i N) (g : At γ σ k n (pc + 1) ls (vL (f i.toNatClampNeg) :: st) h) : At γ σ k n pc ls (vI i :: vR r o :: st) h := fun η H locs lsA a b c => by
  obtain ⟨cA, e1, e2, e3⟩ := a.1 r o _ hg
  exact W.lald O.1 O.2.1 e1 (e2 _ _) (fun q => by cases q) (in_size hin) (v := .long (f i.toNatClampNeg)) (arrV_read cA _ (in_lt hin)) rfl rfl d (g η H locs lsA a b c)
theorem At.dald (O : OK γ own cc) {r o N : Nat} {f : Nat → UInt64} {i : Int32} (d : decode cc pc = .ok (.daload, 1)) (hg : hget h r o = some (.inl (.double, N, .inr (.inr (.inl f))))) (hin : vp_in i N) (g : At γ σ k n (pc + 1) ls (vD (f i.toNatClampNeg) :: st) h) : At γ σ k n pc ls (vI i :: vR r o :: st) h := fun η H locs lsA a b c => by
  obtain ⟨cA, e1, e2, e3⟩ := a.1 r o _ hg
  exact W.dald O.1 O.2.1 e1 (e2 _ _) (fun q => by cases q) (in_size hin) (v := .double (f i.toNatClampNeg)) (arrV_read cA _ (in_lt hin)) rfl rfl d (g η H locs lsA a b c)
theorem At.aald (O : OK γ own cc) {r o N : Nat} {ty : FieldType} {f : Nat → AV} {i : Int32} (hty : ty.isReference = true) (d : decode cc pc = .ok (.aaload, 1)) (hg : hget h r o = some (.inl (ty, N, .inr (.inr (.inr f))))) (hin : vp_in i N) (g : At γ σ k n (pc + 1) ls (f i.toNatClampNeg :: st) h) : At γ σ k n pc ls (vI i :: vR r o :: st) h := fun η H locs lsA a b c => by
  obtain ⟨cA, e1, e2, e3⟩ := a.1 r o _ hg
  exact W.aald O.1 O.2.1 e1 (e2 _ _) hty (fun q => by cases q) (in_size hin) (v := tr σ (cκ γ) (f i.toNatClampNeg)) (arrV_read cA _ (in_lt hin)) rfl rfl d (g η H locs lsA a b c)
theorem At.alen (O : OK γ own cc) {r o N : Nat} {ty : FieldType} {x : AArr} (d : decode cc pc = .ok (.arraylength, 1)) (hg : hget h r o = some (.inl (ty, N, x))) (g : At γ σ k n (pc + 1) ls (vI (nI N) :: st) h) : At γ σ k n pc ls (vR r o :: st) h := fun η H locs lsA a b c => by
  obtain ⟨cA, e1, e2, e3⟩ := a.1 r o _ hg
  exact W.alen O.1 O.2.1 e1 (e2 _ _) (n := nI N) (by rw [arrV_size]; rfl) rfl rfl d (g η H locs lsA a b c)
theorem arr_put {cA : ClassId} {N j : Nat} {f : Nat → Value} {x : Value} {f' : Nat → Value} (hf : ∀ q, f' q = if q = j then x else f q) : (arrV cA N f).setSlot j x = arrV cA N f' := by
  rw [arrV_store]
  congr 1
  funext q
  rw [hf]
  rfl
theorem At.iast (O : OK γ own cc) {r o N : Nat} {f : Nat → Int32} {i x : Int32} (d : decode cc pc = .ok (.iastore, 1)) (hg : hget h r o = some (.inl (.int, N, .inl f))) (hin : vp_in i N) (g : At γ σ k n (pc + 1) ls st (hset h r o (.inl (.int, N, .inl (upd f i.toNatClampNeg x))))) : At γ σ k n pc ls (vI x :: vI i :: vR r o :: st) h := fun η H locs lsA a b c => by
  obtain ⟨cA, e1, e2, e3⟩ := a.1 r o _ hg
  refine W.iast O.1 O.2.1 e1 (e2 _ _) (fun q => by cases q) (in_size hin) rfl rfl d fun H1 z1 z2 z3 => ?_
  refine g η H1 _ lsA (a.set hg rfl rfl ⟨cA, ?_, e2, e3⟩ z3) (b.put z2 z3 (a.2.2 (r, o, false) (hget_pl hg))) c
  rw [z1]
  exact congrArg some (arr_put fun q => by
    show Value.int (upd f _ x q) = _
    unfold upd
    split <;> rfl)
theorem At.zast (O : OK γ own cc) {r o N : Nat} {f : Nat → Int32} {i x : Int32} (hx : x = 0 ∨ x = 1) (d : decode cc pc = .ok (.bastore, 1)) (hg : hget h r o = some (.inl (.boolean, N, .inl f))) (hin : vp_in i N) (g : At γ σ k n (pc + 1) ls st (hset h r o (.inl (.boolean, N, .inl (upd f i.toNatClampNeg x))))) : At γ σ k n pc ls (vI x :: vI i :: vR r o :: st) h := fun η H locs lsA a b c => by
  obtain ⟨cA, e1, e2, e3⟩ := a.1 r o _ hg
  refine W.zast O.1 O.2.1 e1 (e2 _ _) (fun q => by cases q) (in_size hin) rfl rfl d fun H1 z1 z2 z3 => ?_
  refine g η H1 _ lsA (a.set hg rfl rfl ⟨cA, ?_, e2, e3⟩ z3) (b.put z2 z3 (a.2.2 (r, o, false) (hget_pl hg))) c
  rw [z1, show narrow .boolean (.int x) = .int x by rcases hx with rfl | rfl <;> rfl]
  exact congrArg some (arr_put fun q => by
    show Value.int (upd f _ x q) = _
    unfold upd
    split <;> rfl)
theorem At.bast (O : OK γ own cc) {r o N : Nat} {f : Nat → Int32} {i x : Int32} (d : decode cc pc = .ok (.bastore, 1)) (hg : hget h r o = some (.inl (.byte, N, .inl f))) (hin : vp_in i N) (g : At γ σ k n (pc + 1) ls st (hset h r o (.inl (.byte, N, .inl (upd f i.toNatClampNeg x.toInt8.toInt32))))) : At γ σ k n pc ls (vI x :: vI i :: vR r o :: st) h := fun η H locs lsA a b c => by
  obtain ⟨cA, e1, e2, e3⟩ := a.1 r o _ hg
  refine W.bast O.1 O.2.1 e1 (e2 _ _) (fun q => by cases q) (in_size hin) rfl rfl d fun H1 z1 z2 z3 => ?_
  refine g η H1 _ lsA (a.set hg rfl rfl ⟨cA, ?_, e2, e3⟩ z3) (b.put z2 z3 (a.2.2 (r, o, false) (hget_pl hg))) c
  rw [z1]
  exact congrArg some (arr_put fun q => by
    show Value.int (upd f _ _ q) = _
    unfold upd
    split <;> rfl)
theorem At.cast (O : OK γ own cc) {r o N : Nat} {f : Nat → Int32} {i x : Int32} (d : decode cc pc = .ok (.castore, 1)) (hg : hget h r o = some (.inl (.char, N, .inl f))) (hin : vp_in i N) (g : At γ σ k n (pc + 1) ls st (hset h r o (.inl (.char, N, .inl (upd f i.toNatClampNeg (x.toUInt32.toUInt16.toUInt32.toInt32)))))) : At γ σ k n pc ls (vI x :: vI i :: vR r o :: st) h := fun η H locs lsA a b c => by
  obtain ⟨cA, e1, e2, e3⟩ := a.1 r o _ hg
  refine W.cast O.1 O.2.1 e1 (e2 _ _) (fun q => by cases q) (in_size hin) rfl rfl d fun H1 z1 z2 z3 => ?_
  refine g η H1 _ lsA (a.set hg rfl rfl ⟨cA, ?_, e2, e3⟩ z3) (b.put z2 z3 (a.2.2 (r, o, false) (hget_pl hg))) c
  rw [z1]
  exact congrArg some (arr_put fun q => by
    show Value.int (upd f _ _ q) = _
    unfold upd
    split <;> rfl)
theorem At.last (O : OK γ own cc) {r o N : Nat} {f : Nat → Int64} {i : Int32} {x : Int64} (d : decode cc pc = .ok (.lastore, 1)) (hg : hget h r o = some (.inl (.long, N, .inr (.inl f)))) (hin : vp_in i N) (g : At γ σ k n (pc + 1) ls st (hset h r o (.inl (.long, N, .inr (.inl (vp_updL f i.toNatClampNeg x)))))) : At γ σ k n pc ls (vL x :: vI i :: vR r o :: st) h := fun η H locs lsA a b c => by
  obtain ⟨cA, e1, e2, e3⟩ := a.1 r o _ hg
  refine W.last O.1 O.2.1 e1 (e2 _ _) (fun q => by cases q) (in_size hin) rfl rfl d fun H1 z1 z2 z3 => ?_
  refine g η H1 _ lsA (a.set hg rfl rfl ⟨cA, ?_, e2, e3⟩ z3) (b.put z2 z3 (a.2.2 (r, o, false) (hget_pl hg))) c
  rw [z1]
  exact congrArg some (arr_put fun q => by
    show Value.long (vp_updL f _ x q) = _
    unfold vp_updL
    split <;> rfl)
theorem At.dast (O : OK γ own cc) {r o N : Nat} {f : Nat → UInt64} {i : Int32} {x : UInt64} (d : decode cc pc = .ok (.dastore, 1)) (hg : hget h r o = some (.inl (.double, N, .inr (.inr (.inl f))))) (hin : vp_in i N) (g : At γ σ k n (pc + 1) ls st (hset h r o (.inl (.double, N, .inr (.inr (.inl (vf_upd f i.toNatClampNeg x))))))) : At γ σ k n pc ls (vD x :: vI i :: vR r o :: st) h := fun η H locs lsA a b c => by
  obtain ⟨cA, e1, e2, e3⟩ := a.1 r o _ hg
  refine W.dast O.1 O.2.1 e1 (e2 _ _) (fun q => by cases q) (in_size hin) rfl rfl d fun H1 z1 z2 z3 => ?_
  refine g η H1 _ lsA (a.set hg rfl rfl ⟨cA, ?_, e2, e3⟩ z3) (b.put z2 z3 (a.2.2 (r, o, false) (hget_pl hg))) c
  rw [z1]
  exact congrArg some (arr_put fun q => by
    show Value.double (vf_upd f _ x q) = _
    unfold vf_upd
    split <;> rfl)
end ATA
end
section
/-! ===== CONTRACTS over this machine, their entry, their end, the call ===== -/
def rmD (d mc ms : Nat) : Room := { frames := d, cells := mc, slots := ms, locals := 48 * d }
def AA (σ η : Nat → Nat → Nat) (h : AHp) (sz : Nat) : Nat → Prop := fun q => (∃ p, pdom h p ∧ q = pad σ η p) ∨ sz ≤ q
abbrev Out : Type := Option AV ⊕ String
/-- number of its class, name, code, locals, return type -/
abbrev MR : Type := Nat × MethodName × ByteArray × Nat × Option FieldType
abbrev mO (M : MR) : Nat := M.1
abbrev mY (M : MR) : MethodName := M.2.1
abbrev mB (M : MR) : ByteArray := M.2.2.1
abbrev mL (M : MR) : Nat := M.2.2.2.1
abbrev mZ (M : MR) : Option FieldType := M.2.2.2.2
abbrev mW (M : MR) : Jvm.Cond := Cond.code (mY M) (mB M) (mL M) (mZ M)
def PreC (D : va_G) (σ η : Nat → Nat → Nat) (κ : Nat → Nat) (args : List AV) (h : AHp) (sz : Nat) : Array Value → State → Prop := fun a U =>
  a = (args.map (tr σ κ)).toArray ∧ U.heap.size = sz ∧ Rep D σ η κ h U U.heap (AA σ η h sz) ∧ va_K D vwCl [] U ∧ St κ (AA σ η h sz) U U.heap
def PostS (D : va_G) (σ η : Nat → Nat → Nat) (κ : Nat → Nat) (h : AHp) (sz : Nat) (Po : Out → AHp → Prop) (out : Out) (σ2 : Nat → Nat → Nat) (st t : State) : Prop := ∃ (h2 : AHp) (η2 : Nat → Nat → Nat), Po out h2 ∧ (∀ r, r < h.length → ∀ o, σ2 r o = σ r o) ∧ (h2.length = h.length → σ2 = σ) ∧ Rep D σ2 η2 κ h2 t t.heap (AA σ η h sz) ∧ va_F (AA σ η h sz) st t
def PostR (D : va_G) (σ η : Nat → Nat → Nat) (κ : Nat → Nat) (h : AHp) (sz : Nat) (Po : Out → AHp → Prop) : Array Value → State → Outcome → State → Prop := fun _ st o t =>
  ∃ (v : Option AV) (σ2 : Nat → Nat → Nat), o = .returned (v.map (tr σ2 κ)) ∧ PostS D σ η κ h sz Po (.inl v) σ2 st t
def PostX (D : va_G) (σ η : Nat → Nat → Nat) (κ : Nat → Nat) (h : AHp) (sz : Nat) (Po : Out → AHp → Prop) : String → State → State → Prop := fun E st t => ∃ σ2 : Nat → Nat → Nat, PostS D σ η κ h sz Po (.inr E) σ2 st t
/-- method M, called with args in the heap h at depth d, makes at most mc cells of ms slots and ends in one of Po -/
def Sp (d mc ms : Nat) (M : MR) (args : List AV) (h : AHp) (Po : Out → AHp → Prop) : Prop :=
  ∀ (l : Launch) (D : va_G) (σ η : Nat → Nat → Nat) (κ : Nat → Nat) (sz : Nat), l.stackTraces = false → vx_Met l (mY M) (mW M :: GT) (rmD d mc ms) (PreC D σ η κ args h sz) (PostR D σ η κ h sz Po) (PostX D σ η κ h sz Po) mc ms (AA σ η h sz)
theorem Sp.mono {d mc ms : Nat} {M : MR} {args : List AV} {h : AHp} {Po Po2 : Out → AHp → Prop} (S : Sp d mc ms M args h Po) (hp : ∀ o h2, Po o h2 → Po2 o h2) : Sp d mc ms M args h Po2 := by
  intro l D σ η κ sz hl
  have k := S l D σ η κ sz hl
  unfold vx_Met at k ⊢
  intro p e ha hc hk s m args below hf hap hpre htr
  obtain ⟨t, o, h1, h2, h3, h4⟩ := k p e ha hc hk s m args below hf hap hpre htr
  refine ⟨t, o, h1, h2, h3, ?_⟩
  rcases h4 with ⟨⟨v, σ2, q1, hh, η2, q2, q3⟩, q4⟩ | ⟨q, q1, E, ce, L, ⟨σ2, hh, η2, q2, q3⟩, q4⟩
  · exact Or.inl ⟨⟨v, σ2, q1, hh, η2, hp _ _ q2, q3⟩, q4⟩
  · exact Or.inr ⟨q, q1, E, ce, L, ⟨σ2, hh, η2, hp _ _ q2, q3⟩, q4⟩
def avargs : Nat → List AV → List (Nat × AV)
  | _, [] => []
  | i, v :: vs => (i, v) :: avargs (i + 1) vs
theorem is2_cat {v : AV} {σ : Nat → Nat → Nat} {κ : Nat → Nat} (h : is2 v = false) : ¬ (tr σ κ v).category = 2 := by
  have := tr_cat2 (σ := σ) (κ := κ) h
  simpa using this
theorem avargs_eq {σ : Nat → Nat → Nat} {κ : Nat → Nat} : ∀ (vs : List AV) (i : Nat), (∀ v ∈ vs, is2 v = false) → lv_args i (vs.map (tr σ κ)) = trL σ κ (avargs i vs)
  | [], _, _ => rfl
  | v :: vs, i, h => by
    show lv_args i (tr σ κ v :: vs.map (tr σ κ)) = (i, tr σ κ v) :: trL σ κ (avargs (i + 1) vs)
    unfold lv_args
    rw [if_neg (is2_cat (h v List.mem_cons_self)), avargs_eq vs (i + 1) fun w hw => h w (List.mem_cons_of_mem _ hw)]
theorem lgsl_len {σ : Nat → Nat → Nat} {κ : Nat → Nat} : ∀ (vs : List AV), (∀ v ∈ vs, is2 v = false) → (lg_sl (vs.map (tr σ κ))).length = vs.length
  | [], _ => rfl
  | v :: vs, h => by
    show (List.flatMap _ (tr σ κ v :: vs.map (tr σ κ))).length = vs.length + 1
    rw [List.flatMap_cons, List.length_append, if_neg (is2_cat (h v List.mem_cons_self))]
    have := lgsl_len (σ := σ) (κ := κ) vs fun w hw => h w (List.mem_cons_of_mem _ hw)
    unfold lg_sl at this
    rw [this]
    simp [Nat.add_comm]
/-- where the body of a method ends -/
def Fin (γ : CX) (σ : Nat → Nat → Nat) (N0 mc ms : Nat) (ret : Option FieldType) (Po : Out → AHp → Prop) : Prop :=
  (cY γ).sig.returnType = ret ∧ (∀ x ∈ (cC γ).exceptionTable.toList, False) ∧ ∃ (η : Nat → Nat → Nat) (h : AHp) (sz : Nat), h.length = N0 ∧ cF γ = AA σ η h sz ∧ cQ γ = vx_MQ γ.2.2.2.2.2.2.2.1 (PostR (cD γ) σ η (cκ γ) h sz Po) (PostX (cD γ) σ η (cκ γ) h sz Po) (cA γ) (cS γ) mc ms (AA σ η h sz)
theorem Sp.of {M : MR} {d mc ms : Nat} {args : List AV} {h : AHp} {Po : Out → AHp → Prop} (hpl : plainName (mY M).cls = true) (hcls : (mY M).cls = cn (mO M)) (h2 : ∀ v ∈ args, is2 v = false) (hlen : args.length ≤ mL M)
    (body : ∀ (γ : CX) (σ : Nat → Nat → Nat), OK γ (cn (mO M)) (mB M) → Fin γ σ h.length mc ms (mZ M) Po → (cC γ).maxLocals = mL M → cR γ = rmD d mc ms → ((cY γ).name = (mY M).name) → At γ σ 0 0 0 (avargs 0 args) [] h) : Sp d mc ms M args h Po := by
  intro l D σ η κ sz hl
  refine vx_ofW (cc := mB M) (maxL := mL M) (ret := mZ M) hpl rfl ?_
  intro p e s m a below meth c s₁ B hml htab hv
  obtain ⟨rfl, hsz, hR, hK, hSt⟩ := hv
  have hts := atoms_spec (ws := mW M :: GT) B.pre
  have hown : s.vm.findClass (cn (mO M)) = some m.cls := by rw [← hcls]; exact findClass_of_methodNamed B.named
  subst hsz
  have G := body (p, l, e, (headSpec (mW M :: GT) (rmD d mc ms)).room, s, m, (args.map (tr σ κ)).toArray, below, meth, c, vx_MQ below (PostR D σ η κ h s.heap.size Po) (PostX D σ η κ h s.heap.size Po) (args.map (tr σ κ)).toArray s mc ms (AA σ η h s.heap.size), D, κ, AA σ η h s.heap.size) σ
    ⟨B.exec, B.bytes, hown, fun w hw => hts w (List.mem_cons_of_mem _ hw), hK, hSt, fun q hq => Or.inr hq, hl, B.notSynchronized⟩
    ⟨B.returns, htab, η, h, s.heap.size, rfl, rfl, rfl⟩ hml rfl (name_of_methodNamed B.named B.method).1
  rw [lg_entry_eq]
  have hll := lv_entry (args.map (tr σ κ)) (n := mL M) (by rw [lgsl_len args h2]; exact hlen)
  rw [avargs_eq args 0 h2] at hll
  rw [← hml] at hll ⊢
  exact G η s.heap [] _ hR va_S.rf hll
section ATE
variable {γ : CX} {own : String} {cc : ByteArray} {σ σ0 : Nat → Nat → Nat} {k n pc N0 mc ms : Nat} {ls : List (Nat × AV)} {st : List AV} {h : AHp} {ret : Option FieldType} {Po : Out → AHp → Prop}
/-- what a return leaves -/
theorem Fin.post (O : OK γ own cc) {η η0 : Nat → Nat → Nat} {h0 : AHp} {sz : Nat} {H : Heap} {locs : List Loc} {v : Option AV} (hA : cF γ = AA σ0 η0 h0 sz) (hN : h0.length = N0) (hp : Po (.inl v) h) (hσ : σ = σ0 ∨ (N0 < h.length ∧ ∀ r, r < N0 → ∀ o, σ r o = σ0 r o)) (a : Rep (cD γ) σ η (cκ γ) h (cS γ) H (cF γ)) (b : va_S (cF γ) (cS γ).heap H locs) :
    ∀ t : State, t.heap = H → (cS γ).WarmedH t.vm → PostR (cD γ) σ0 η0 (cκ γ) h0 sz Po (cA γ) (cS γ) (.returned (v.map (tr σ (cκ γ)))) t := fun t ht hW => by
  subst hN
  refine ⟨v, σ, rfl, h, η, hp, ?_, ?_, ?_, ?_⟩
  · rcases hσ with rfl | h9
    · exact fun _ _ _ => rfl
    · exact h9.2
  · rcases hσ with rfl | h9
    · exact fun _ => rfl
    · exact fun e => absurd e (by omega)
  · rw [ht, ← hA]; exact Rep.moved hW.alike a
  · rw [← hA]; exact b.F ht
theorem At.iret (O : OK γ own cc) (F : Fin γ σ0 N0 mc ms ret Po) {x : Int32} {ty : FieldType} (d : decode cc pc = .ok (.ireturn, 1)) (hr : ret = some ty) (hn : narrow ty (.int x) = .int x) (hk : k ≤ mc) (hs : n ≤ ms) (hσ : σ = σ0 ∨ (N0 < h.length ∧ ∀ r, r < N0 → ∀ o, σ r o = σ0 r o)) (hp : Po (.inl (some (vI x))) h) : At γ σ k n pc ls [vI x] h := fun η H locs lsA a b c => by
  obtain ⟨f1, f2, η0, h0, sz, f3, f4, f5⟩ := F
  unfold cW
  rw [f5]
  refine W.widen hk hs (vx_ret ?_)
  exact W.zret (v := x) O.1 O.2.1 (f1.trans hr) hn (Fin.post O (v := some (vI x)) f4 f3 hp hσ a b) (fun q hq => by rw [← f4]; exact b.2.2 q hq) d O.2.2.2.2.2.2.2.2
theorem At.lret (O : OK γ own cc) (F : Fin γ σ0 N0 mc ms ret Po) {x : Int64} (d : decode cc pc = .ok (.lreturn, 1)) (hr : ret = some .long) (hk : k ≤ mc) (hs : n ≤ ms) (hσ : σ = σ0 ∨ (N0 < h.length ∧ ∀ r, r < N0 → ∀ o, σ r o = σ0 r o)) (hp : Po (.inl (some (vL x))) h) : At γ σ k n pc ls [vL x] h := fun η H locs lsA a b c => by
  obtain ⟨f1, f2, η0, h0, sz, f3, f4, f5⟩ := F
  unfold cW
  rw [f5]
  refine W.widen hk hs (vx_ret ?_)
  exact W.lret (v := x) O.1 O.2.1 (f1.trans hr) (Fin.post O (v := some (vL x)) f4 f3 hp hσ a b) (fun q hq => by rw [← f4]; exact b.2.2 q hq) d O.2.2.2.2.2.2.2.2
theorem At.vret (O : OK γ own cc) (F : Fin γ σ0 N0 mc ms ret Po) (d : decode cc pc = .ok (.return_, 1)) (hr : ret = none) (hk : k ≤ mc) (hs : n ≤ ms) (hσ : σ = σ0 ∨ (N0 < h.length ∧ ∀ r, r < N0 → ∀ o, σ r o = σ0 r o)) (hp : Po (.inl none) h) : At γ σ k n pc ls [] h := fun η H locs lsA a b c => by
  obtain ⟨f1, f2, η0, h0, sz, f3, f4, f5⟩ := F
  unfold cW
  rw [f5]
  refine W.widen hk hs (vx_ret ?_)
  exact W.vret O.1 O.2.1 (f1.trans hr) (Fin.post O (v := none) f4 f3 hp hσ a b) (fun q hq => by rw [← f4]; exact b.2.2 q hq) d O.2.2.2.2.2.2.2.2
theorem At.aret (O : OK γ own cc) (F : Fin γ σ0 N0 mc ms ret Po) {v : AV} {rt : FieldType} (d : decode cc pc = .ok (.areturn, 1)) (hr : ret = some rt) (hrt : (∃ n, rt = .object n) ∨ ∃ t, rt = .array t) (hv : isRf v = true ∨ v = vN) (hk : k ≤ mc) (hs : n ≤ ms) (hσ : σ = σ0 ∨ (N0 < h.length ∧ ∀ r, r < N0 → ∀ o, σ r o = σ0 r o)) (hp : Po (.inl (some v)) h) : At γ σ k n pc ls [v] h := fun η H locs lsA a b c => by
  obtain ⟨f1, f2, η0, h0, sz, f3, f4, f5⟩ := F
  unfold cW
  rw [f5]
  refine W.widen hk hs (vx_ret ?_)
  refine W.aret (v := tr σ (cκ γ) v) O.1 O.2.1 (f1.trans hr) hrt ?_ (Fin.post O (v := some v) f4 f3 hp hσ a b) (fun q hq => by rw [← f4]; exact b.2.2 q hq) d O.2.2.2.2.2.2.2.2
  rcases hv with hv | rfl
  · exact Or.inr (tr_rf hv)
  · exact Or.inl rfl
end ATE
end
section
/-! ===== THE FRAME: a callee's heap is a part of its caller's ===== -/
def rn (P : List Nat) (r : Nat) : Nat := (hnth P r).getD 0
def ren (P : List Nat) : AV → AV
  | .inl v => .inl v
  | .inr (.inl q) => .inr (.inl (rn P q.1, q.2))
  | .inr (.inr k) => .inr (.inr k)
def renA (P : List Nat) : AArr → AArr
  | .inl f => .inl f
  | .inr (.inl f) => .inr (.inl f)
  | .inr (.inr (.inl f)) => .inr (.inr (.inl f))
  | .inr (.inr (.inr f)) => .inr (.inr (.inr (fun j => ren P (f j))))
def renC (P : List Nat) : ACell → ACell
  | .inl (ty, n, x) => .inl (ty, n, renA P x)
  | .inr (.inl (ci, fs)) => .inr (.inl (ci, fs.map (ren P)))
  | .inr (.inr z) => .inr (.inr z)
def Fits (P : List Nat) : List Nat → AHp → AHp → Prop
  | [], [], _ => True
  | p :: ps, g :: hC, h => hnth h p = some (g.map (renC P)) ∧ Fits P ps hC h
  | _, _, _ => False
def plug (P : List Nat) : List Nat → AHp → AHp → AHp
  | p :: ps, g :: hC, h => plug P ps hC (hput h p (g.map (renC P)))
  | _, _, h => h
def ixo : List Nat → Nat → Option Nat
  | [], _ => none
  | p :: ps, r => if p = r then some 0 else (ixo ps r).map (· + 1)
theorem tr_ren {σ : Nat → Nat → Nat} {κ : Nat → Nat} (P : List Nat) (v : AV) : tr σ κ (ren P v) = tr (fun r o => σ (rn P r) o) κ v := by
  rcases v with v | q | j <;> rfl
theorem renC_sb (P : List Nat) (c : ACell) : isSb (renC P c) = isSb c := by
  rcases c with ⟨ty, n, x⟩ | ⟨ci, fs⟩ | ⟨n, m, t⟩ <;> rfl
theorem ael_ren {σ : Nat → Nat → Nat} {κ : Nat → Nat} (P : List Nat) (x : AArr) : ael σ κ (renA P x) = ael (fun r o => σ (rn P r) o) κ x := by
  funext j
  rcases x with f | f | f | f
  · rfl
  · rfl
  · rfl
  · exact tr_ren P (f j)
theorem atC_ren {D : va_G} {σ η : Nat → Nat → Nat} {κ : Nat → Nat} {U : State} {H : Heap} {P : List Nat} {r o : Nat} {c : ACell} : atC D σ η κ U H (rn P r) o (renC P c) ↔ atC D (fun r o => σ (rn P r) o) (fun r o => η (rn P r) o) κ U H r o c := by
  rcases c with ⟨ty, n, x⟩ | ⟨ci, fs⟩ | ⟨n, m, t⟩
  · show (∃ cA, H[σ (rn P r) o]? = some (arrV cA n (ael σ κ (renA P x))) ∧ _) ↔ _
    rw [ael_ren]
    exact Iff.rfl
  · have e : (fs.map (ren P)).map (tr σ κ) = fs.map (tr (fun r o => σ (rn P r) o) κ) := by
      rw [List.map_map]
      exact List.map_congr_left fun v _ => tr_ren P v
    show (∃ q : vw_C, vwCl[ci]? = some q ∧ t_OB (σ (rn P r) o) (D.1 ci) q.2.2 (D.2 ci) H (vp_V ((fs.map (ren P)).map (tr σ κ)))) ↔ _
    rw [e]
    exact Iff.rfl
  · exact Iff.rfl
theorem ixo_some : ∀ {P : List Nat} {r i : Nat}, ixo P r = some i → hnth P i = some r
  | [], r, i, h => by cases h
  | p :: ps, r, i, h => by
    unfold ixo at h
    by_cases e : p = r
    · rw [if_pos e] at h
      cases h
      rw [e]; rfl
    · rw [if_neg e] at h
      cases hi : ixo ps r with
      | none => rw [hi] at h; cases h
      | some j =>
        rw [hi] at h
        cases h
        exact (ixo_some hi : hnth ps j = some r)
theorem ixo_none : ∀ {P : List Nat} {r : Nat}, ixo P r = none → ∀ i, hnth P i ≠ some r
  | [], r, _, i => by cases i <;> exact fun z => by cases z
  | p :: ps, r, h, i => by
    unfold ixo at h
    by_cases e : p = r
    · rw [if_pos e] at h; cases h
    · rw [if_neg e] at h
      cases hi : ixo ps r with
      | some j => rw [hi] at h; cases h
      | none =>
        cases i with
        | zero => exact fun z => e (Option.some.inj z)
        | succ i => exact ixo_none hi i
theorem nd_ixo {p : Nat} {ps : List Nat} (h : p ∉ ps) : ixo ps p = none := by
  cases e : ixo ps p with
  | none => rfl
  | some i =>
    have := ixo_some e
    rw [hnth_eq] at this
    exact absurd (List.mem_of_getElem? this) h
theorem ixo_of : ∀ {P : List Nat} {i r : Nat}, va_nd P = true → hnth P i = some r → ixo P r = some i
  | [], i, r, _, h => by cases i <;> cases h
  | p :: ps, i, r, hn, h => by
    simp only [va_nd, Bool.and_eq_true, decide_eq_true_eq] at hn
    unfold ixo
    cases i with
    | zero =>
      cases h
      rw [if_pos rfl]
    | succ i =>
      have h : hnth ps i = some r := h
      have hr : r ∈ ps := by
        rw [hnth_eq] at h
        exact List.mem_of_getElem? h
      rw [if_neg (fun e : p = r => hn.1 (by rw [e]; exact hr)), ixo_of hn.2 h]
      rfl
theorem plug_get (P : List Nat) : ∀ (Q : List Nat) (hC h : AHp) (r : Nat), va_nd Q = true → hC.length = Q.length → (∀ q ∈ Q, ∃ g, hnth h q = some g) →
    hnth (plug P Q hC h) r = match ixo Q r with | some i => (hnth hC i).map (fun g => g.map (renC P)) | none => hnth h r
  | [], hC, h, r, _, _, _ => by
    cases hC <;> rfl
  | p :: ps, [], h, r, _, hl, _ => by cases hl
  | p :: ps, g :: hC, h, r, hn, hl, hx => by
    simp only [va_nd, Bool.and_eq_true, decide_eq_true_eq] at hn
    have hl2 : hC.length = ps.length := by simpa using hl
    have hx2 : ∀ q ∈ ps, ∃ g2, hnth (hput h p (g.map (renC P))) q = some g2 := fun q hq => by
      obtain ⟨g2, h2⟩ := hx q (List.mem_cons_of_mem _ hq)
      exact ⟨g2, by rw [hnth_put_ne h p q _ (fun e => hn.1 (e ▸ hq))]; exact h2⟩
    have ih := plug_get P ps hC (hput h p (g.map (renC P))) r hn.2 hl2 hx2
    show hnth (plug P ps hC (hput h p (g.map (renC P)))) r = _
    rw [ih]
    by_cases e : p = r
    · subst e
      obtain ⟨g0, hg0⟩ := hx p List.mem_cons_self
      rw [nd_ixo hn.1]
      show hnth (hput h p _) p = match ixo (p :: ps) p with | some i => _ | none => _
      rw [hnth_put_self h p g0 _ hg0]
      unfold ixo
      rw [if_pos rfl]
      rfl
    · have e2 : ixo (p :: ps) r = (ixo ps r).map (· + 1) := by
        show (if p = r then some 0 else (ixo ps r).map (· + 1)) = _
        rw [if_neg e]
      rw [e2]
      cases hi : ixo ps r with
      | some i => rfl
      | none =>
        show hnth (hput h p _) r = hnth h r
        exact hnth_put_ne h p r _ e
theorem plug_length (P : List Nat) : ∀ (Q : List Nat) (hC h : AHp), (plug P Q hC h).length = h.length
  | [], hC, h => by cases hC <;> rfl
  | p :: ps, [], h => rfl
  | p :: ps, g :: hC, h => by
    show (plug P ps hC (hput h p _)).length = _
    rw [plug_length P ps hC, hput_length]
theorem Fits.get (P : List Nat) : ∀ {Q : List Nat} {hC h : AHp}, Fits P Q hC h → hC.length = Q.length ∧ ∀ i q, hnth Q i = some q → ∃ g, hnth hC i = some g ∧ hnth h q = some (g.map (renC P))
  | [], [], h, _ => ⟨rfl, fun i q hq => by cases i <;> cases hq⟩
  | [], _ :: _, _, f => False.elim f
  | _ :: _, [], _, f => False.elim f
  | p :: ps, g :: hC, h, f => by
    obtain ⟨h1, h2⟩ := Fits.get P f.2
    refine ⟨by simp [h1], fun i q hq => ?_⟩
    cases i with
    | zero => cases hq; exact ⟨g, rfl, f.1⟩
    | succ i => exact h2 i q hq
theorem hnth_lt {α : Type} {l : List α} {i : Nat} {x : α} (h : hnth l i = some x) : i < l.length := by
  rw [hnth_eq] at h
  exact (List.getElem?_eq_some_iff.mp h).1
theorem hnth_of_lt {α : Type} {l : List α} {i : Nat} (h : i < l.length) : ∃ x, hnth l i = some x := ⟨l[i], by rw [hnth_eq]; exact List.getElem?_eq_getElem h⟩
theorem hget_some {h : AHp} {r o : Nat} {c : ACell} (e : hget h r o = some c) : ∃ g, hnth h r = some g ∧ hnth g o = some c := by
  unfold hget at e
  cases hg : hnth h r with
  | none => rw [hg] at e; cases e
  | some g => rw [hg] at e; exact ⟨g, rfl, e⟩
theorem hget_of {h : AHp} {r o : Nat} {g : List ACell} {c : ACell} (e : hnth h r = some g) (e2 : hnth g o = some c) : hget h r o = some c := by
  unfold hget
  rw [e]; exact e2
theorem hnth_map {α β : Type} (f : α → β) (l : List α) (i : Nat) : hnth (l.map f) i = (hnth l i).map f := by rw [hnth_eq, hnth_eq, List.getElem?_map]
theorem rn_of {P : List Nat} {i r : Nat} (h : hnth P i = some r) : rn P i = r := by unfold rn; rw [h]; rfl
/-- the callee's start -/
theorem Rep.part {D : va_G} {σ η : Nat → Nat → Nat} {κ : Nat → Nat} {h hC : AHp} {U : State} {H : Heap} {A : Nat → Prop} {P : List Nat} (R : Rep D σ η κ h U H A) (hn : va_nd P = true) (F : Fits P P hC h) :
    Rep D (fun r o => σ (rn P r) o) (fun r o => η (rn P r) o) κ hC U H (AA (fun r o => σ (rn P r) o) (fun r o => η (rn P r) o) hC H.size) ∧ ∀ q, AA (fun r o => σ (rn P r) o) (fun r o => η (rn P r) o) hC H.size q → A q ∨ H.size ≤ q := by
  obtain ⟨hl, hf⟩ := Fits.get P F
  have key : ∀ {r o c}, hget hC r o = some c → ∃ q, hnth P r = some q ∧ rn P r = q ∧ hget h q o = some (renC P c) := by
    intro r o c e
    obtain ⟨g, h1, h2⟩ := hget_some e
    obtain ⟨q, hq⟩ := hnth_of_lt (l := P) (i := r) (by rw [← hl]; exact hnth_lt h1)
    obtain ⟨g2, h3, h4⟩ := hf r q hq
    cases h1.symm.trans h3
    exact ⟨q, hq, rn_of hq, hget_of h4 (by rw [hnth_map, h2]; rfl)⟩
  have kp : ∀ {p : Pl}, pdom hC p → ∃ q, hnth P p.1 = some q ∧ rn P p.1 = q ∧ pdom h (q, p.2.1, p.2.2) := by
    rintro ⟨r, o, b⟩ ⟨c, h1, h2⟩
    obtain ⟨q, h3, h4, h5⟩ := key h1
    exact ⟨q, h3, h4, renC P c, h5, by rw [renC_sb]; exact h2⟩
  have padE : ∀ (p : Pl), pad (fun r o => σ (rn P r) o) (fun r o => η (rn P r) o) p = pad σ η (rn P p.1, p.2.1, p.2.2) := by
    rintro ⟨r, o, b⟩
    cases b <;> rfl
  refine ⟨⟨fun r o c e => ?_, fun p q hp hq he => ?_, fun p hp => Or.inl ⟨p, hp, rfl⟩⟩, fun q hq => ?_⟩
  · obtain ⟨q, h1, h2, h3⟩ := key e
    exact atC_ren.mp (by rw [h2]; exact R.1 q o _ h3)
  · obtain ⟨a, h1, h2, h3⟩ := kp hp
    obtain ⟨b, h4, h5, h6⟩ := kp hq
    rw [padE, padE, h2, h5] at he
    have := R.2.1 _ _ h3 h6 he
    injection this with e1 e2
    subst e1
    obtain ⟨p1, p2⟩ := p
    obtain ⟨q1, q2⟩ := q
    have i1 := ixo_of hn h1
    have i2 := ixo_of hn h4
    have : p1 = q1 := Option.some.inj (i1.symm.trans i2)
    subst this
    injection e2 with e3 e4
    obtain ⟨p3, p4⟩ := p2
    obtain ⟨q3, q4⟩ := q2
    simp only at e3 e4
    rw [e3, e4]
  · rcases hq with ⟨p, hp, rfl⟩ | hq
    · obtain ⟨a, h1, h2, h3⟩ := kp hp
      rw [padE, h2]
      exact Or.inl (R.2.2 _ h3)
    · exact Or.inr hq
/-- behind the call -/
theorem Rep.after {D : va_G} {σ η η2 : Nat → Nat → Nat} {κ : Nat → Nat} {h hC h2 : AHp} {U : State} {H H1 : Heap} {A : Nat → Prop} {P : List Nat} (R : Rep D σ η κ h U H A) (hn : va_nd P = true) (F : Fits P P hC h) (hlen : h2.length = hC.length)
    (R2 : Rep D (fun r o => σ (rn P r) o) η2 κ h2 U H1 (AA (fun r o => σ (rn P r) o) (fun r o => η (rn P r) o) hC H.size)) (hk : ∀ q : Nat, q < H.size → ¬ AA (fun r o => σ (rn P r) o) (fun r o => η (rn P r) o) hC H.size q → H1[q]? = H[q]?) (hA : ∀ q : Nat, H.size ≤ q → A q) :
    Rep D σ (fun r o => match ixo P r with | some i => η2 i o | none => η r o) κ (plug P P h2 h) U H1 A := by
  obtain ⟨hl, hf⟩ := Fits.get P F
  obtain ⟨R1, R1A⟩ := R.part hn F
  have hx : ∀ q ∈ P, ∃ g, hnth h q = some g := fun q hq => by
    obtain ⟨i, hi⟩ := List.getElem?_of_mem hq
    obtain ⟨g, -, h9⟩ := hf i q (by rw [hnth_eq]; exact hi)
    exact ⟨_, h9⟩
  have pg := fun r => plug_get P P h2 h r hn (hlen.trans hl) hx
  have cell : ∀ {r o c}, hget (plug P P h2 h) r o = some c → (∃ i c2, ixo P r = some i ∧ rn P i = r ∧ hget h2 i o = some c2 ∧ c = renC P c2) ∨ (ixo P r = none ∧ hget h r o = some c) := by
    intro r o c e
    obtain ⟨g, h1, h3⟩ := hget_some e
    rw [pg r] at h1
    cases hi : ixo P r with
    | none =>
      rw [hi] at h1
      exact Or.inr ⟨rfl, hget_of h1 h3⟩
    | some i =>
      rw [hi] at h1
      have h1 : Option.map (fun g => List.map (renC P) g) (hnth h2 i) = some g := h1
      cases h5 : hnth h2 i with
      | none => rw [h5] at h1; cases h1
      | some g2 =>
        rw [h5] at h1
        cases h1
        rw [hnth_map] at h3
        cases h6 : hnth g2 o with
        | none => rw [h6] at h3; cases h3
        | some c2 =>
          rw [h6] at h3
          cases h3
          exact Or.inl ⟨i, c2, rfl, rn_of (ixo_some hi), hget_of h5 h6, rfl⟩
  have rest : ∀ {p : Pl}, pdom h p → ixo P p.1 = none → pad σ η p < H.size ∧ ¬ AA (fun r o => σ (rn P r) o) (fun r o => η (rn P r) o) hC H.size (pad σ η p) := by
    intro p hp hi
    refine ⟨R.size hp, fun hq => ?_⟩
    rcases hq with ⟨q, hq, he⟩ | hq
    · obtain ⟨r, o, b⟩ := q
      obtain ⟨c, h1, h3⟩ := hq
      obtain ⟨g, h4, h5⟩ := hget_some h1
      obtain ⟨z, hz⟩ := hnth_of_lt (l := P) (i := r) (by rw [← hl]; exact hnth_lt h4)
      obtain ⟨g2, h6, h7⟩ := hf r z hz
      cases h4.symm.trans h6
      have hd : pdom h (z, o, b) := ⟨renC P c, hget_of h7 (by rw [hnth_map, h5]; rfl), by rw [renC_sb]; exact h3⟩
      have e2 : pad σ η p = pad σ η (z, o, b) := by
        rw [he]
        have := rn_of hz
        cases b <;> (show _ = _; unfold pad; dsimp only; rw [this])
      have := R.2.1 _ _ hp hd e2
      rw [this] at hi
      exact ixo_none hi r hz
    · have := R.size hp
      omega
  have place : ∀ {p : Pl}, pdom (plug P P h2 h) p → (∃ i, ixo P p.1 = some i ∧ rn P i = p.1 ∧ pdom h2 (i, p.2.1, p.2.2)) ∨ (ixo P p.1 = none ∧ pdom h p) := by
    rintro ⟨r, o, b⟩ ⟨c, h1, h3⟩
    rcases cell h1 with ⟨i, c2, g1, g2, g3, rfl⟩ | ⟨g1, g2⟩
    · exact Or.inl ⟨i, g1, g2, c2, g3, by rw [renC_sb] at h3; exact h3⟩
    · exact Or.inr ⟨g1, c, g2, h3⟩
  have padI : ∀ {p : Pl} {i : Nat}, ixo P p.1 = some i → rn P i = p.1 → pad σ (fun r o => match ixo P r with | some i => η2 i o | none => η r o) p = pad (fun r o => σ (rn P r) o) η2 (i, p.2.1, p.2.2) := by
    rintro ⟨r, o, b⟩ i h1 h3
    cases b with
    | true =>
      show (match ixo P r with | some i => η2 i o | none => η r o) = η2 i o
      rw [show ixo P r = some i from h1]
    | false =>
      show σ r o = σ (rn P i) o
      rw [h3]
  have padN : ∀ {p : Pl}, ixo P p.1 = none → pad σ (fun r o => match ixo P r with | some i => η2 i o | none => η r o) p = pad σ η p := by
    rintro ⟨r, o, b⟩ h1
    cases b with
    | true =>
      show (match ixo P r with | some i => η2 i o | none => η r o) = η r o
      rw [show ixo P r = none from h1]
    | false => rfl
  refine ⟨fun r o c e => ?_, fun p q hp hq he => ?_, fun p hp => ?_⟩
  · rcases cell e with ⟨i, c2, g1, g2, g3, rfl⟩ | ⟨g1, g2⟩
    · have h1 := R2.1 i o c2 g3
      have h3 : atC D σ (fun r o => match ixo P r with | some i => η2 i o | none => η r o) κ U H1 (rn P i) o (renC P c2) := by
        refine atC_ren.mpr ?_
        have e9 : ∀ o, (fun r o => (fun r o => match ixo P r with | some i => η2 i o | none => η r o) (rn P r) o) i o = η2 i o := fun o => by
          show (match ixo P (rn P i) with | some i => η2 i o | none => η (rn P i) o) = η2 i o
          rw [g2, g1]
        rcases c2 with ⟨ty, n, x⟩ | ⟨ci, fs⟩ | ⟨n, m, t⟩
        · exact h1
        · exact h1
        · obtain ⟨q1, q2, q3⟩ := h1
          refine ⟨?_, ?_, q3⟩
          · rw [e9]; exact q1
          · rw [e9]; exact q2
      rw [g2] at h3
      exact h3
    · have h1 := R.1 r o c g2
      have h0 := rest (p := (r, o, false)) ⟨c, g2, fun z => by cases z⟩ g1
      have h3 := h1.kept (H1 := H1) (hk _ h0.1 h0.2) (fun hs => by
        have h9 := rest (p := (r, o, true)) ⟨c, g2, fun _ => hs⟩ g1
        exact hk _ h9.1 h9.2)
      rcases c with ⟨ty, n, x⟩ | ⟨ci, fs⟩ | ⟨n, m, t⟩
      · exact h3
      · exact h3
      · obtain ⟨q1, q2, q3⟩ := h3
        have e9 : (fun r o => match ixo P r with | some i => η2 i o | none => η r o) r o = η r o := by
          show (match ixo P r with | some i => η2 i o | none => η r o) = η r o
          rw [g1]
        refine ⟨?_, ?_, q3⟩
        · rw [e9]; exact q1
        · rw [e9]; exact q2
  · rcases place hp with ⟨i, g1, g2, g3⟩ | ⟨g1, g2⟩ <;> rcases place hq with ⟨j, k1, k2, k3⟩ | ⟨k1, k2⟩
    · rw [padI g1 g2, padI k1 k2] at he
      have := R2.2.1 _ _ g3 k3 he
      injection this with e1 e2
      obtain ⟨p1, p2, p3⟩ := p
      obtain ⟨q1, q2, q3⟩ := q
      injection e2 with e3 e4
      simp only at g2 k2 e3 e4
      rw [e1] at g2
      rw [← g2, ← k2, e3, e4]
    · rw [padI g1 g2, padN k1] at he
      have h9 := rest k2 k1
      have h8 := R2.2.2 _ g3
      rw [he] at h8
      exact absurd h8 h9.2
    · rw [padN g1, padI k1 k2] at he
      have h9 := rest g2 g1
      have h8 := R2.2.2 _ k3
      rw [← he] at h8
      exact absurd h8 h9.2
    · rw [padN g1, padN k1] at he
      exact R.2.1 _ _ g2 k2 he
  · rcases place hp with ⟨i, g1, g2, g3⟩ | ⟨g1, g2⟩
    · rw [padI g1 g2]
      rcases R1A _ (R2.2.2 _ g3) with h9 | h9
      · exact h9
      · exact hA _ h9
    · rw [padN g1]
      exact R.2.2 _ g2
end
section
/-! ===== CALLS ===== -/
def AtX (γ : CX) (σ : Nat → Nat → Nat) (k n : Nat) (E : String) (pc : Nat) (ls : List (Nat × AV)) (st : List AV) (h : AHp) : Prop :=
  ∀ (η : Nat → Nat → Nat) (H : Heap) (locs : List Loc) (lsA : Array Slot) (q : Addr) (ce : Cell), Rep (cD γ) σ η (cκ γ) h (cS γ) H (cF γ) → va_S (cF γ) (cS γ).heap H locs → lv_has lsA (cC γ).maxLocals (trL σ (cκ γ) ls) → H[q]? = some ce → ce.vm = .none → (cS γ).vm.findClass E = some ce.cls →
    vx_W γ.1 γ.2.1 γ.2.2.1 (cR γ) (cS γ) (cM γ) (cA γ) γ.2.2.2.2.2.2.2.1 (cY γ) (cC γ) H locs k n (cQ γ) (F0 (cM γ) pc lsA (st.map (tr σ (cκ γ)))) q
abbrev cRun (γ : CX) (H : Heap) (locs : List Loc) (k n mc ms : Nat) (g : JFrame) (rest : List Value) (Qa : State → Outcome → State → Prop) (XC : String → State → State → Prop) (free : Addr → Prop) : Prop :=
  vx_Run γ.1 γ.2.1 γ.2.2.1 (cR γ) (cS γ) (cM γ) (cA γ) γ.2.2.2.2.2.2.2.1 (cY γ) (cC γ) H locs k n mc ms g rest Qa XC free
def wsum : List AV → Nat
  | [] => 0
  | v :: l => (match is2 v with | true => 2 | false => 1) + wsum l
theorem wsum_eq {σ : Nat → Nat → Nat} {κ : Nat → Nat} : ∀ (l : List AV), ((l.map (tr σ κ)).map fun v => v.category).sum ≤ wsum l
  | [] => Nat.le_refl _
  | v :: l => by
    have := wsum_eq (σ := σ) (κ := κ) l
    simp only [List.map_cons, List.sum_cons, wsum]
    cases e : is2 v with
    | true =>
      have : (tr σ κ v).category ≤ 2 := by
        cases (tr σ κ v) <;> simp [Value.category]
      simp only
      omega
    | false =>
      have h2 := is2_cat (σ := σ) (κ := κ) e
      have : (tr σ κ v).category ≤ 1 := by
        revert h2
        cases (tr σ κ v) <;> simp [Value.category]
      simp only
      omega
section ATC
variable {γ : CX} {own : String} {cc : ByteArray} {σ : Nat → Nat → Nat} {k n pc : Nat} {ls : List (Nat × AV)} {st rest : List AV} {h hC : AHp} {P : List Nat} {mc2 ms2 d2 ix : Nat} {Po2 : Out → AHp → Prop} {a : Array Value}
theorem At.run (O : OK γ own cc) (hn : va_nd P = true) (F : Fits P P hC h)
    (hr : ∀ (η : Nat → Nat → Nat) (H : Heap) (locs : List Loc) (lsA : Array Slot), Rep (cD γ) σ η (cκ γ) h (cS γ) H (cF γ) → va_S (cF γ) (cS γ).heap H locs → lv_has lsA (cC γ).maxLocals (trL σ (cκ γ) ls) →
      cRun γ H locs k n mc2 ms2 (F0 (cM γ) pc lsA (st.map (tr σ (cκ γ)))) (rest.map (tr σ (cκ γ))) (PostR (cD γ) (fun r o => σ (rn P r) o) (fun r o => η (rn P r) o) (cκ γ) hC H.size Po2 a) (PostX (cD γ) (fun r o => σ (rn P r) o) (fun r o => η (rn P r) o) (cκ γ) hC H.size Po2) (AA (fun r o => σ (rn P r) o) (fun r o => η (rn P r) o) hC H.size))
    (kr : ∀ (v : Option AV) (h2 : AHp), Po2 (.inl v) h2 → h2.length = hC.length ∧ At γ σ (k + mc2) (n + ms2) (pc + 3) ls ((v.toList.map (ren P)) ++ rest) (plug P P h2 h))
    (kx : ∀ (E : String) (h2 : AHp), Po2 (.inr E) h2 → h2.length = hC.length ∧ AtX γ σ (k + mc2) (n + ms2) E pc ls rest (plug P P h2 h)) : At γ σ k n pc ls st h := by
  intro η H locs lsA hR hS hl T hT X
  obtain ⟨R1, R1A⟩ := hR.part hn F
  have hsz : (cS γ).heap.size ≤ H.size := hS.1
  have hA0 : ∀ q : Nat, H.size ≤ q → cF γ q := fun q hq => O.2.2.2.2.2.2.1 q (Nat.le_trans hsz hq)
  have hAA : ∀ q, AA (fun r o => σ (rn P r) o) (fun r o => η (rn P r) o) hC H.size q → cF γ q := fun q hq => by
    rcases R1A q hq with h9 | h9
    · exact h9
    · exact hA0 q h9
  rcases hr η H locs lsA hR hS hl T hT X with ⟨v, st₀, t, T', L, h0, X', hL, e1, e2, ⟨v2, σ2, q1, h2, η2, q2, q3, q4, q5, q6⟩, step⟩ | ⟨q, st₀, t, T', L, E, ce, h0, X', hL, e1, e2, ⟨σ2, h2, η2, q2, q3, q4, q5, q6⟩, hce, hcv, hcl, step⟩
  · cases q1
    obtain ⟨hlen, g⟩ := kr v2 h2 q2
    have q4 := q4 hlen
    subst q4
    obtain ⟨k1, k2, k3⟩ := vx_keep (A0 := cF γ) h0 e1 hS (fun q _ hq => hAA q hq) hAA hL q6
    have hvm : (cS γ).vm.Alike t.vm := by rw [← e2]; exact X'.warmed.alike
    have hR2 := hR.after hn F hlen (Rep.moved hvm.symm (by rw [e1]; exact q5)) k2 hA0
    obtain ⟨t2, a1, b1⟩ := g _ T'.heap (locs ++ L) lsA hR2 k3 hl T' rfl (by
      exact X')
    refine ⟨t2, step t2 ?_, b1⟩
    have e9 : (v2.map (tr (fun r o => σ (rn P r) o) (cκ γ))).toList ++ rest.map (tr σ (cκ γ)) = ((v2.toList.map (ren P)) ++ rest).map (tr σ (cκ γ)) := by
      rw [List.map_append, List.map_map]
      congr 1
      cases v2 with
      | none => rfl
      | some v2 => simp [tr_ren]
    rw [e9]
    exact a1
  · obtain ⟨hlen, g⟩ := kx E h2 q2
    have q4 := q4 hlen
    subst q4
    obtain ⟨k1, k2, k3⟩ := vx_keep (A0 := cF γ) h0 e1 hS (fun q _ hq => hAA q hq) hAA hL q6
    have hvm : (cS γ).vm.Alike t.vm := by rw [← e2]; exact X'.warmed.alike
    have hR2 := hR.after hn F hlen (Rep.moved hvm.symm (by rw [e1]; exact q5)) k2 hA0
    obtain ⟨t2, a1, b1⟩ := g _ T'.heap (locs ++ L) lsA q ce hR2 k3 hl (by rw [e1]; exact hce) hcv hcl T' rfl X'
    exact ⟨t2, step.trans a1, b1⟩
theorem PreC_blind {D : va_G} {σ η : Nat → Nat → Nat} {κ : Nat → Nat} {args : List AV} {h : AHp} {sz : Nat} : FrameBlind (PreC D σ η κ args h sz) := fun a U g mk ⟨q1, q2, q3, q4, q5⟩ =>
  ⟨q1, q2, Rep.moved (u := U) (U := U.calling g mk a) (Vm.Alike.refl U.vm) q3, va_K.moved (u := U) (U := U.calling g mk a) (Vm.Alike.refl U.vm) q4, St.same (s := U) (U := U.calling g mk a) rfl q5⟩
theorem PreC_of (O : OK γ own cc) (hn : va_nd P = true) (F : Fits P P hC h) {η : Nat → Nat → Nat} {H : Heap} {locs : List Loc} (args : List AV) (hR : Rep (cD γ) σ η (cκ γ) h (cS γ) H (cF γ)) (hS : va_S (cF γ) (cS γ).heap H locs) :
    ∀ U : State, U.heap = H → (cS γ).WarmedH U.vm → PreC (cD γ) (fun r o => σ (rn P r) o) (fun r o => η (rn P r) o) (cκ γ) args hC H.size ((args.map (ren P)).map (tr σ (cκ γ))).toArray U := by
  intro U hU hW
  obtain ⟨R1, R1A⟩ := hR.part hn F
  refine ⟨?_, by rw [hU], by rw [hU]; exact Rep.moved hW.alike R1, va_K.moved hW.alike O.2.2.2.2.1, ?_⟩
  · rw [List.map_map]
    congr 1
    exact List.map_congr_left fun v _ => tr_ren P v
  · rw [hU]
    refine St.narrow (St.warm hW (St.kept O.2.2.2.2.2.1 hS.2.1)) fun q hq => ?_
    rcases R1A q hq with h9 | h9
    · exact h9
    · exact O.2.2.2.2.2.2.1 q (Nat.le_trans hS.1 h9)
def Fit (γ : CX) (k n d2 mc2 ms2 : Nat) : Prop := d2 + 1 ≤ (cR γ).frames ∧ 48 * d2 + 48 ≤ (cR γ).locals ∧ k + mc2 ≤ (cR γ).cells ∧ n + ms2 ≤ (cR γ).slots
theorem Fit.of {d mc ms : Nat} (e : cR γ = rmD d mc ms) (h1 : d2 < d) (h2 : k + mc2 ≤ mc) (h3 : n + ms2 ≤ ms) : Fit γ k n d2 mc2 ms2 := by
  unfold Fit
  rw [e]
  refine ⟨h1, ?_, h2, h3⟩
  show 48 * d2 + 48 ≤ 48 * d
  omega
/-- what is known of a method that is called: by its receiver, na arguments behind it -/
def KN (M : MR) (na : Nat) : Prop := Cond.initialized (mY M).cls ∈ GT ∧ mW M ∈ GT ∧ ((mY M).cls ≠ "java/lang/invoke/MethodHandle" ∧ (mY M).cls ≠ "java/lang/invoke/VarHandle" ∧ (parseMethodDescriptor (mY M).desc).map (fun d => d.parameters.length) = some na) ∧ mL M ≤ 29
def KV (M : MR) (na : Nat) : Prop := KN M na ∧ Cond.instanceMethod (mY M) ∈ GT ∧ Cond.selects (mY M).cls (mY M) (mY M) ∈ GT
def KS (M : MR) (na : Nat) : Prop := KN M na ∧ Cond.static (mY M) ∈ GT
def KI (M : MR) (na : Nat) : Prop := KN M na ∧ Cond.instanceMethod (mY M) ∈ GT ∧ (mY M).name = "<init>" ∧ mZ M = none
variable {M : MR} {na : Nat}
theorem callB_M (O : OK γ own cc) (K : KN M na) (hf : Fit γ k n d2 mc2 ms2) (w : Cond.methodLink own ix (mY M) ∈ GT) : CallB (cR γ) (cS γ) (cA γ) own ix (mY M) (mB M) (mL M) (mZ M) (mW M :: GT) (rmD d2 mc2 ms2) mc2 ms2 na := by
  obtain ⟨k1, k2, k3, k4⟩ := K
  refine callB_of (Ts := GT) na O.2.2.2.1 (GT_in k2) rfl rfl rfl (O.2.2.2.1 _ k1) (O.2.2.2.1 _ w) k3 ⟨hf.1, ?_⟩
  have := hf.2.1
  show 8 + (mL M + 11) + 48 * d2 ≤ _
  omega
theorem At.callV (O : OK γ own cc) {r o ci : Nat} {fs As : List AV} {T : u_T} {N : Nat} (S : Sp d2 mc2 ms2 M (vR r o :: As) hC Po2) (K : KV M na) (w : Cond.methodLink own ix (mY M) ∈ GT) (hn : va_nd P = true) (F : Fits P P hC h) (hg : hget hC r o = some (aO ci fs)) (hc : vwCl[ci]? = some ((mY M).cls, T, N)) (hna : As.length = na)
    (hf : Fit γ k n d2 mc2 ms2) (hrw : wsum rest ≤ 8) (d : decode cc pc = .ok (.invokevirtual ix, 3)) (hst : st = (As.map (ren P)).reverse ++ vR (rn P r) o :: rest)
    (kr : ∀ (v : Option AV) (h2 : AHp), Po2 (.inl v) h2 → h2.length = hC.length ∧ At γ σ (k + mc2) (n + ms2) (pc + 3) ls ((v.toList.map (ren P)) ++ rest) (plug P P h2 h))
    (kx : ∀ (E : String) (h2 : AHp), Po2 (.inr E) h2 → h2.length = hC.length ∧ AtX γ σ (k + mc2) (n + ms2) E pc ls rest (plug P P h2 h)) : At γ σ k n pc ls st h := by
  subst hst
  refine At.run O hn F (fun η H locs lsA hR hS hl => ?_) kr kx (a := ((vR r o :: As).map (ren P) |>.map (tr σ (cκ γ))).toArray)
  have hp := PreC_of O hn F (vR r o :: As) hR hS
  obtain ⟨R1, -⟩ := hR.part hn F
  obtain ⟨q, e1, cell, f1, f2, f3, f4⟩ := R1.1 r o _ hg
  obtain ⟨hSl, hfc, -⟩ := O.2.2.2.2.1.1 ci _ hc
  refine vx_runV (own := own) (C := (mY M).cls) (index := ix) (y := mY M) (bytes := mB M) (maxL := mL M) (ret := mZ M) (ws := mW M :: GT) (rm := rmD d2 mc2 ms2) (n := na) (nL := (cC γ).maxLocals) (cc := cc) (Ts := GT) (b := σ (rn P r) o) (As := (As.map (ren P)).map (tr σ (cκ γ)))
    ⟨O.1, O.2.1, rfl, O.2.2.1, O.2.2.2.1⟩ (S γ.2.1 (cD γ) _ _ (cκ γ) H.size O.2.2.2.2.2.2.2.1) ⟨callB_M O K.1 hf w, O.2.2.2.1 _ K.2.1, O.2.2.2.1 _ K.2.2⟩ ⟨PreC_blind, ⟨cell, f1, by rw [f3]; rfl, by rw [f2]; exact hfc⟩, hp⟩
    rfl (by rw [List.length_map, List.length_map]; exact hna) hl.1 ?_ ?_ d ⟨hf.2.2.1, hf.2.2.2⟩
  · show ((As.map (ren P)).reverse ++ vR (rn P r) o :: rest).map (tr σ (cκ γ)) = _
    rw [List.map_append, List.map_reverse]
    rfl
  · exact lv_room (Nat.le_trans (wsum_eq rest) hrw)
theorem At.callS (O : OK γ own cc) {As : List AV} (S : Sp d2 mc2 ms2 M As hC Po2) (K : KS M na) (w : Cond.methodLink own ix (mY M) ∈ GT) (hn : va_nd P = true) (F : Fits P P hC h) (hna : As.length = na)
    (hf : Fit γ k n d2 mc2 ms2) (hrw : wsum rest ≤ 8) (d : decode cc pc = .ok (.invokestatic ix, 3)) (hst : st = (As.map (ren P)).reverse ++ rest)
    (kr : ∀ (v : Option AV) (h2 : AHp), Po2 (.inl v) h2 → h2.length = hC.length ∧ At γ σ (k + mc2) (n + ms2) (pc + 3) ls ((v.toList.map (ren P)) ++ rest) (plug P P h2 h))
    (kx : ∀ (E : String) (h2 : AHp), Po2 (.inr E) h2 → h2.length = hC.length ∧ AtX γ σ (k + mc2) (n + ms2) E pc ls rest (plug P P h2 h)) : At γ σ k n pc ls st h := by
  subst hst
  refine At.run O hn F (fun η H locs lsA hR hS hl => ?_) kr kx (a := (As.map (ren P) |>.map (tr σ (cκ γ))).toArray)
  have hp := PreC_of O hn F As hR hS
  refine vx_runS (own := own) (index := ix) (y := mY M) (bytes := mB M) (maxL := mL M) (ret := mZ M) (ws := mW M :: GT) (rm := rmD d2 mc2 ms2) (n := na) (nL := (cC γ).maxLocals) (cc := cc) (Ts := GT) (As := (As.map (ren P)).map (tr σ (cκ γ)))
    ⟨O.1, O.2.1, rfl, O.2.2.1, O.2.2.2.1⟩ (S γ.2.1 (cD γ) _ _ (cκ γ) H.size O.2.2.2.2.2.2.2.1) ⟨callB_M O K.1 hf w, O.2.2.2.1 _ K.2⟩ ⟨PreC_blind, hp⟩
    rfl (by rw [List.length_map, List.length_map]; exact hna) hl.1 ?_ ?_ d ⟨hf.2.2.1, hf.2.2.2⟩
  · show ((As.map (ren P)).reverse ++ rest).map (tr σ (cκ γ)) = _
    rw [List.map_append, List.map_reverse]
  · exact lv_room (Nat.le_trans (wsum_eq rest) hrw)
theorem At.callSN (O : OK γ own cc) {As : List AV} (S : Sp d2 mc2 ms2 M As hC Po2) (K : KS M na) (w : (own, ix, mY M) ∈ NWm) (hn : va_nd P = true) (F : Fits P P hC h) (hna : As.length = na)
    (hf : Fit γ k n d2 mc2 ms2) (hrw : wsum rest ≤ 8) (d : decode cc pc = .ok (.invokestatic ix, 3)) (hst : st = (As.map (ren P)).reverse ++ rest)
    (kr : ∀ (v : Option AV) (h2 : AHp), Po2 (.inl v) h2 → h2.length = hC.length ∧ At γ σ (k + mc2) (n + ms2) (pc + 3) ls ((v.toList.map (ren P)) ++ rest) (plug P P h2 h))
    (kx : ∀ (E : String) (h2 : AHp), Po2 (.inr E) h2 → h2.length = hC.length ∧ AtX γ σ (k + mc2) (n + ms2) E pc ls rest (plug P P h2 h)) : At γ σ k n pc ls st h := by
  subst hst
  refine At.run O hn F (fun η H locs lsA hR hS hl => ?_) kr kx (a := (As.map (ren P) |>.map (tr σ (cκ γ))).toArray)
  have hp := PreC_of O hn F As hR hS
  have hN := O.2.2.2.2.2.1.2.1 _ w
  obtain ⟨k1, k2, k3, k4⟩ := K.1
  have hcn : va_CN (cR γ) (cS γ) (cA γ) own ix (mY M) RX10 (mB M) (mL M) (mZ M) (mW M :: GT) (rmD d2 mc2 ms2) mc2 ms2 na := va_cnB (Ts := GT) na O.2.2.2.1 (GT_in k2) rfl rfl rfl hN (O.2.2.2.1 _ k1) k3 ⟨hf.1, by have := hf.2.1; show 8 + (mL M + 11) + 48 * d2 ≤ _; omega⟩
  refine vx_runSN (own := own) (host := RX10) (index := ix) (y := mY M) (bytes := mB M) (maxL := mL M) (ret := mZ M) (ws := mW M :: GT) (rm := rmD d2 mc2 ms2) (n := na) (nL := (cC γ).maxLocals) (cc := cc) (Ts := GT) (As := (As.map (ren P)).map (tr σ (cκ γ)))
    ⟨O.1, O.2.1, rfl, O.2.2.1, O.2.2.2.1⟩ (S γ.2.1 (cD γ) _ _ (cκ γ) H.size O.2.2.2.2.2.2.2.1) ⟨hcn, O.2.2.2.1 _ K.2, trivial⟩ ⟨PreC_blind, hp⟩
    rfl (by rw [List.length_map, List.length_map]; exact hna) hl.1 ?_ ?_ d ⟨hf.2.2.1, hf.2.2.2⟩
  · show ((As.map (ren P)).reverse ++ rest).map (tr σ (cκ γ)) = _
    rw [List.map_append, List.map_reverse]
  · exact lv_room (Nat.le_trans (wsum_eq rest) hrw)
/-- an exception that isn't caught here -/
theorem AtX.out {σ0 : Nat → Nat → Nat} {N0 mc ms : Nat} {ret : Option FieldType} {Po : Out → AHp → Prop} {E : String} (O : OK γ own cc) (Fi : Fin γ σ0 N0 mc ms ret Po) (hk : k ≤ mc) (hs : n ≤ ms) (hσ : σ = σ0 ∨ (N0 < h.length ∧ ∀ r, r < N0 → ∀ o, σ r o = σ0 r o)) (hp : Po (.inr E) h) : AtX γ σ k n E pc ls rest h := by
  intro η H locs lsA q ce hR hS hl hce hcv hcl
  obtain ⟨f1, f2, η0, h0, sz, f3, f4, f5⟩ := Fi
  subst f3
  rw [f5]
  refine vx_out (fun x hx => absurd (f2 x hx) id) O.2.2.2.2.2.2.2.2 hce hcv hcl (fun t ht hal => ⟨σ, h, η, hp, ?_, ?_, ?_, ?_⟩) (fun z hz => by rw [← f4]; exact hS.2.2 z hz) hk hs
  · rcases hσ with rfl | h9
    · exact fun _ _ _ => rfl
    · exact h9.2
  · rcases hσ with rfl | h9
    · exact fun _ => rfl
    · exact fun e => absurd e (by omega)
  · rw [ht, ← f4]; exact Rep.moved hal hR
  · rw [← f4]; exact hS.F ht
end ATC
end
section
/-! ===== throws, statics, members of Math and System ===== -/
/-- a throw site: own class, index of the exception's class, of its constructor, the exception -/
def TSok (own : String) (ik ic : Nat) (E : String) (names : List String) : Prop := Bundle.fit E = true ∧ (∀ n ∈ names, Bundle.fit n = true) ∧ Cond.classLink own ik E ∈ FT ∧ Cond.initialized E ∈ FT ∧ (∀ w ∈ vx_atS own ic E names, w ∈ FT) ∧ ∀ w ∈ Cond.classLink own ik E :: Cond.initialized E :: vx_atS own ic E names, vx_ot w = true
section ATT
variable {γ : CX} {own : String} {cc : ByteArray} {σ σ0 : Nat → Nat → Nat} {k n pc N0 mc ms ik ic is d : Nat} {ls : List (Nat × AV)} {st rest : List AV} {h : AHp} {ret : Option FieldType} {Po : Out → AHp → Prop} {E text : String}
theorem FT_hts (O : OK γ own cc) {w : Cond} (hw : w ∈ FT) : w.before (cA γ) (cS γ) = true := by
  have h2 := (List.mem_filter.mp hw).2
  simp only [Bool.and_eq_true] at h2
  exact va_tabs h2.1 rfl (O.2.2.2.2.2.1.2.2.2.1 w hw)
theorem At.throwS (O : OK γ own cc) (Fi : Fin γ σ0 N0 mc ms ret Po) {e1 e2 : String} (T : TSok own ik ic E [e1, e2]) (hx : (own, is, text) ∈ exL) (hR : cR γ = rmD d mc ms) (hd : 6 ≤ d) (hrw : wsum st ≤ 100)
    (d0 : decode cc pc = .ok (.new ik, 3)) (d3 : decode cc (pc + 3) = .ok (.dup, 1)) (d4 : decode cc (pc + 4) = .ok (.ldc is, 2)) (d6 : decode cc (pc + 6) = .ok (.invokespecial ic, 3)) (d9 : decode cc (pc + 9) = .ok (.athrow, 1))
    (hk : k + 1 ≤ mc) (hs : n + 6 ≤ ms) (hσ : σ = σ0 ∨ (N0 < h.length ∧ ∀ r, r < N0 → ∀ o, σ r o = σ0 r o)) (hp : Po (.inr E) h) : At γ σ k n pc ls st h := fun η H locs lsA a b c => by
  obtain ⟨f1, f2, η0, h0, sz, f3, f4, f5⟩ := Fi
  subst f3
  obtain ⟨sa, hsa⟩ := O.2.2.2.2.2.1.2.2.1 _ hx
  obtain ⟨t1, t2, t3, t4, t5, t6⟩ := T
  unfold cW
  rw [f5]
  refine vx_throwS (names := [e1, e2]) (is := is) (ic := ic) (cls := E) (A := cF γ) O.1 O.2.1 O.2.2.2.2.2.2.2.1 O.2.2.1 t1 t2 (FT_hts O t3) (FT_hts O t4) hsa (fun w hw => FT_hts O (t5 w hw)) t6 O.2.2.2.2.2.1.2.2.2.2.1 O.2.2.2.2.2.1.2.2.2.2.2 b c.1 d0 d3 d4 d6 d9
    (fun x hx => absurd (f2 x hx) id) (by rw [hR]; show 2 + 3 < d; omega) ?_ (by rw [hR]; exact hk) (by rw [hR]; exact hs) O.2.2.2.2.2.2.2.2 (fun t hal hz hq => ?_) (fun z hz => by rw [← f4]; exact b.2.2 z hz) hk hs
  · rw [hR]
    have := wsum_eq (σ := σ) (κ := cκ γ) st
    show _ + (13 * 3 + 43) ≤ 48 * d
    omega
  · refine ⟨σ, h, η, hp, ?_, ?_, ?_, ?_⟩
    · rcases hσ with rfl | h9
      · exact fun _ _ _ => rfl
      · exact h9.2
    · rcases hσ with rfl | h9
      · exact fun _ => rfl
      · exact fun e => absurd e (by omega)
    · rw [← f4]
      refine ⟨fun r o c hg => ?_, a.2⟩
      have h1 := (a.1 r o c hg).moved hal
      refine h1.kept ?_ fun hsb => ?_
      · exact hq _ (Rep.size a (hget_pl hg))
      · exact hq _ (Rep.size a (p := (r, o, true)) ⟨c, hg, fun _ => hsb⟩)
    · rw [← f4]
      exact ⟨Nat.le_trans b.1 hz, fun q h1 h2 => by rw [hq q (Nat.lt_of_lt_of_le h1 b.1)]; exact b.2.1 q h1 h2⟩
theorem At.throwSW (O : OK γ own cc) (Fi : Fin γ σ0 N0 mc ms ret Po) {e1 e2 : String} (T : TSok own ik ic E [e1, e2]) (hx : (own, is, text) ∈ exL) (hR : cR γ = rmD d mc ms) (hd : 6 ≤ d) (hrw : wsum st ≤ 100)
    (d0 : decode cc pc = .ok (.new ik, 3)) (d3 : decode cc (pc + 3) = .ok (.dup, 1)) (d4 : decode cc (pc + 4) = .ok (.ldc_w is, 3)) (d6 : decode cc (pc + 7) = .ok (.invokespecial ic, 3)) (d9 : decode cc (pc + 10) = .ok (.athrow, 1))
    (hk : k + 1 ≤ mc) (hs : n + 6 ≤ ms) (hσ : σ = σ0 ∨ (N0 < h.length ∧ ∀ r, r < N0 → ∀ o, σ r o = σ0 r o)) (hp : Po (.inr E) h) : At γ σ k n pc ls st h := fun η H locs lsA a b c => by
  obtain ⟨f1, f2, η0, h0, sz, f3, f4, f5⟩ := Fi
  subst f3
  obtain ⟨sa, hsa⟩ := O.2.2.2.2.2.1.2.2.1 _ hx
  obtain ⟨t1, t2, t3, t4, t5, t6⟩ := T
  unfold cW
  rw [f5]
  refine vx_throwSW (names := [e1, e2]) (is := is) (ic := ic) (cls := E) (A := cF γ) O.1 O.2.1 O.2.2.2.2.2.2.2.1 O.2.2.1 t1 t2 (FT_hts O t3) (FT_hts O t4) hsa (fun w hw => FT_hts O (t5 w hw)) t6 O.2.2.2.2.2.1.2.2.2.2.1 O.2.2.2.2.2.1.2.2.2.2.2 b c.1 d0 d3 d4 d6 d9
    (fun x hx => absurd (f2 x hx) id) (by rw [hR]; show 2 + 3 < d; omega) ?_ (by rw [hR]; exact hk) (by rw [hR]; exact hs) O.2.2.2.2.2.2.2.2 (fun t hal hz hq => ?_) (fun z hz => by rw [← f4]; exact b.2.2 z hz) hk hs
  · rw [hR]
    have := wsum_eq (σ := σ) (κ := cκ γ) st
    show _ + (13 * 3 + 43) ≤ 48 * d
    omega
  · refine ⟨σ, h, η, hp, ?_, ?_, ?_, ?_⟩
    · rcases hσ with rfl | h9
      · exact fun _ _ _ => rfl
      · exact h9.2
    · rcases hσ with rfl | h9
      · exact fun _ => rfl
      · exact fun e => absurd e (by omega)
    · rw [← f4]
      refine ⟨fun r o c hg => ?_, a.2⟩
      have h1 := (a.1 r o c hg).moved hal
      refine h1.kept ?_ fun hsb => ?_
      · exact hq _ (Rep.size a (hget_pl hg))
      · exact hq _ (Rep.size a (p := (r, o, true)) ⟨c, hg, fun _ => hsb⟩)
    · rw [← f4]
      exact ⟨Nat.le_trans b.1 hz, fun q h1 h2 => by rw [hq q (Nat.lt_of_lt_of_le h1 b.1)]; exact b.2.1 q h1 h2⟩
/-- a constant of Fault -/
theorem At.getFault (O : OK γ own cc) {ix i : Nat} {nm : String} (hi : ["NONE", "NO_INDEX", "BAD_ARGUMENT", "BAD_STATE", "NO_ELEMENT"][i]? = some nm) (w : Cond.fieldLink own ix RX3 nm "LBallastControl$Fault;" ∈ GT) (d : decode cc pc = .ok (.getstatic ix, 3)) (g : At γ σ k n (pc + 3) ls (vK i :: st) h) : At γ σ k n pc ls st h := fun η H locs lsA a b c => by
  have hl : i < 5 := (List.getElem?_eq_some_iff.mp hi).1
  have h1 := (O.2.2.2.2.2.1.1.1 i hl).1
  have hnm : ["NONE", "NO_INDEX", "BAD_ARGUMENT", "BAD_STATE", "NO_ELEMENT"].getD i "" = nm := by rw [List.getD_eq_getElem?_getD, hi]; rfl
  rw [hnm] at h1
  exact va_gets O.1 O.2.1 h1 b O.2.2.1 (O.2.2.2.1 _ w) (fun _ h9 => h9) d (g η H locs lsA a b c)
theorem At.acmpK (O : OK γ own cc) {i j t : Nat} {off : Int} (hi : i < 5) (hj : j < 5) (d : decode cc pc = .ok (.if_acmp .ne off, 3)) (ht : (pc : Int) + off = (t : Int)) (g : ¬ i = j → At γ σ k n t ls st h) (f : i = j → At γ σ k n (pc + 3) ls st h) : At γ σ k n pc ls (vK j :: vK i :: st) h := fun η H locs lsA a b c => by
  have hinj := O.2.2.2.2.2.1.1.2 i j hi hj
  refine lv_acmp_ne (rx := some (cκ γ i)) (ry := some (cκ γ j)) O.1 O.2.1 d ht (fun q => ?_) (fun q => ?_)
  all_goals first
    | exact g (fun e => absurd (by rw [e]) q) η H locs lsA a b c
    | exact f (hinj (by simpa using q)) η H locs lsA a b c
end ATT
section ATM
variable {γ : CX} {own : String} {cc : ByteArray} {σ : Nat → Nat → Nat} {k n pc ix : Nat} {ls : List (Nat × AV)} {st : List AV} {h : AHp}
def KM (y : MethodName) (cd : ByteArray) (m : Nat) : Prop := Cond.static y ∈ GT ∧ Cond.initialized "java/lang/Math" ∈ GT ∧ Cond.code y cd m (some .int) ∈ GT
theorem At.mmin (O : OK γ own cc) (K : KM Lib.Math.min.name Lib.Math.min.code 2) {x y : Int32} (w : Cond.methodLink own ix Lib.Math.min.name ∈ GT) (hf : Fit γ k n 0 0 0) (hrw : wsum st ≤ 8) (d : decode cc pc = .ok (.invokestatic ix, 3)) (g : At γ σ k n (pc + 3) ls (vI (if y < x then y else x) :: st) h) : At γ σ k n pc ls (vI y :: vI x :: st) h := fun η H locs lsA a b c => by
  have := wsum_eq (σ := σ) (κ := cκ γ) st
  obtain ⟨h1, h2, h3, h4⟩ := hf
  exact va_mmin O.1 O.2.1 c.1.symm O.2.2.1 (O.2.2.2.1 _ w) (O.2.2.2.1 _ K.1) (O.2.2.2.1 _ K.2.1) (O.2.2.2.1 _ K.2.2) (by omega) (by omega) (by omega) (by omega) d (g η H locs lsA a b c)
theorem At.mmax (O : OK γ own cc) (K : KM Lib.Math.max.name Lib.Math.max.code 2) {x y : Int32} (w : Cond.methodLink own ix Lib.Math.max.name ∈ GT) (hf : Fit γ k n 0 0 0) (hrw : wsum st ≤ 8) (d : decode cc pc = .ok (.invokestatic ix, 3)) (g : At γ σ k n (pc + 3) ls (vI (if x < y then y else x) :: st) h) : At γ σ k n pc ls (vI y :: vI x :: st) h := fun η H locs lsA a b c => by
  have := wsum_eq (σ := σ) (κ := cκ γ) st
  obtain ⟨h1, h2, h3, h4⟩ := hf
  exact va_mmax O.1 O.2.1 c.1.symm O.2.2.1 (O.2.2.2.1 _ w) (O.2.2.2.1 _ K.1) (O.2.2.2.1 _ K.2.1) (O.2.2.2.1 _ K.2.2) (by omega) (by omega) (by omega) (by omega) d (g η H locs lsA a b c)
theorem At.mabs (O : OK γ own cc) (K : KM Lib.Math.abs.name Lib.Math.abs.code 1) {x : Int32} (w : Cond.methodLink own ix Lib.Math.abs.name ∈ GT) (hf : Fit γ k n 0 0 0) (hrw : wsum st ≤ 8) (d : decode cc pc = .ok (.invokestatic ix, 3)) (g : At γ σ k n (pc + 3) ls (vI (if 0 ≤ x then x else 0 - x) :: st) h) : At γ σ k n pc ls (vI x :: st) h := fun η H locs lsA a b c => by
  have := wsum_eq (σ := σ) (κ := cκ γ) st
  obtain ⟨h1, h2, h3, h4⟩ := hf
  exact va_mabs O.1 O.2.1 c.1.symm O.2.2.1 (O.2.2.2.1 _ w) (O.2.2.2.1 _ K.1) (O.2.2.2.1 _ K.2.1) (O.2.2.2.1 _ K.2.2) (by omega) (by omega) (by omega) (by omega) d (g η H locs lsA a b c)
end ATM
/-! ===== System.arraycopy of ints, from one cell to another ===== -/
theorem At.copyi {γ : CX} {own : String} {cc : ByteArray} {σ : Nat → Nat → Nat} {k n pc ix : Nat} {ls : List (Nat × AV)} {st : List AV} {h : AHp} (O : OK γ own cc) (w : Cond.methodLink own ix arraycopyName ∈ GT) (hnat : Cond.native arraycopyName ∈ GT) (hstat : Cond.static arraycopyName ∈ GT) (hini : Cond.initialized "java/lang/System" ∈ GT) {r0 o0 r1 o1 n0 n1 : Nat} {f g : Nat → Int32} (hg0 : hget h r0 o0 = some (aI n0 f)) (hg1 : hget h r1 o1 = some (aI n1 g))
    {sp dp m : Int32} (h1 : ¬ sp < 0) (h2 : ¬ dp < 0) (h3 : ¬ m < 0) (h4 : sp.toNatClampNeg + m.toNatClampNeg ≤ n0) (h5 : dp.toNatClampNeg + m.toNatClampNeg ≤ n1) (hf : Fit γ k n 0 0 0) (hrw : wsum st ≤ 8) (d : decode cc pc = .ok (.invokestatic ix, 3))
    (gg : At γ σ k n (pc + 3) ls st (hset h r1 o1 (aI n1 (va_cpy f g sp.toNatClampNeg dp.toNatClampNeg m.toNatClampNeg)))) : At γ σ k n pc ls (vI m :: vI dp :: vR r1 o1 :: vI sp :: vR r0 o0 :: st) h := by
  intro η H locs lsA a b c T hT X
  have hw := wsum_eq (σ := σ) (κ := cκ γ) st
  have nn : ∀ z : Int32, ¬ z < 0 → z.toInt = (z.toNatClampNeg : Int) := by
    intro z hz
    have hz0 : (0 : Int) ≤ z.toInt := by
      have := Int32.not_lt.mp hz
      simpa using Int32.le_iff_toInt_le.mp this
    show z.toInt = ((z.toInt.toNat : Nat) : Int)
    omega
  obtain ⟨c0, hc0, p0, -⟩ := a.1 r0 o0 _ hg0
  obtain ⟨c1, hc1, p1, p2⟩ := a.1 r1 o1 _ hg1
  have hc0 : H[σ r0 o0]? = some (vp_cell c0 (n0, .inl f)) := hc0
  have hc1 : H[σ r1 o1]? = some (vp_cell c1 (n1, .inl g)) := hc1
  obtain ⟨-, k0, hk0, cm0, hkk0⟩ := p0 n0 (fun j => .int (f j))
  obtain ⟨-, k1, hk1, cm1, hkk1⟩ := p1 n1 (fun j => .int (g j))
  obtain ⟨vm', X', step⟩ := X.arraycopy O.1 O.2.2.1 (O.2.2.2.1 _ w) (O.2.2.2.1 _ hnat) (O.2.2.2.1 _ hstat) (O.2.2.2.1 _ hini) (src := σ r0 o0) (dst := σ r1 o1) (cs := vp_cell c0 (n0, .inl f)) (cd := vp_cell c1 (n1, .inl g)) (srcPos := sp) (destPos := dp) (n := m) (by rw [hT]; exact hc0) (by rw [hT]; exact hc1)
    (fun _ h => by cases h) (fun _ h => by cases h) (fun h => by cases h) (fun h => by cases h) hk0 hk1 hkk0 hkk1 (by simp [refKind]) h1 h2 h3
    (by rw [nn sp h1, nn m h3]; show ¬ _ > ((arrV c0 n0 (fun j => .int (f j))).slots.size : Int); rw [arrV_size]; omega)
    (by rw [nn dp h2, nn m h3]; show ¬ _ > ((arrV c1 n1 (fun j => .int (g j))).slots.size : Int); rw [arrV_size]; omega)
    (fun vm₁ _ i hi => by
      have e : (vp_cell c0 (n0, .inl f)).slots.getD (sp.toNatClampNeg + i) .null = .int (f (sp.toNatClampNeg + i)) := by
        show (arrV c0 n0 (fun j => .int (f j))).slots.getD _ _ = _
        rw [Array.getD_eq_getD_getElem?, arrV_read _ _ (by omega)]
        rfl
      refine ⟨?_, ?_⟩
      · rw [e]; rfl
      · rw [e]
        exact trivial)
    (g := F0 (cM γ) pc lsA ((vI m :: vI dp :: vR r1 o1 :: vI sp :: vR r0 o0 :: st).map (tr σ (cκ γ)))) rfl c.1 (rest := st.map (tr σ (cκ γ))) rfl (by rw [O.2.1]; exact d) hf.1 (by
      have := hf.2.1
      have e0 : nativeFrameWords "java/lang/System" "arraycopy" 5 + 11 ≤ 40 := by decide
      show 2 * 0 + _ + _ ≤ _
      omega)
  have e1 : copied (vp_cell c0 (n0, .inl f)) (vp_cell c1 (n1, .inl g)) sp dp m = vp_cell c1 (n1, .inl (va_cpy f g sp.toNatClampNeg dp.toNatClampNeg m.toNatClampNeg)) := va_copied (fun z => .int z) c0 c1 f g h4
  rw [e1] at X' step
  have hl : σ r1 o1 < H.size := (Array.getElem?_eq_some_iff.mp hc1).1
  have hheap : ((T.setVm vm').setCell (σ r1 o1) (vp_cell c1 (n1, .inl (va_cpy f g sp.toNatClampNeg dp.toNatClampNeg m.toNatClampNeg)))).heap = H.setIfInBounds (σ r1 o1) (vp_cell c1 (n1, .inl (va_cpy f g sp.toNatClampNeg dp.toNatClampNeg m.toNatClampNeg))) := by rw [← hT]; rfl
  have oq : ∀ q : Nat, q ≠ σ r1 o1 → (H.setIfInBounds (σ r1 o1) (vp_cell c1 (n1, .inl (va_cpy f g sp.toNatClampNeg dp.toNatClampNeg m.toNatClampNeg))))[q]? = H[q]? := fun q hq => by simp [Array.getElem?_setIfInBounds, Ne.symm hq]
  have hFa : cF γ (σ r1 o1) := a.2.2 (r1, o1, false) (hget_pl hg1)
  obtain ⟨t, a1, b1⟩ := gg η _ _ lsA (a.set hg1 rfl rfl ⟨c1, (show (H.setIfInBounds (σ r1 o1) _)[σ r1 o1]? = some _ by (simp [Array.getElem?_setIfInBounds, hl]; rfl)), p1, p2⟩ oq) ⟨by simp; exact b.1, fun q g1 g2 => by
      rw [oq q (fun e => g2 (by rw [e]; exact hFa))]
      exact b.2.1 q g1 g2, fun q hq => by
      rcases List.mem_append.mp hq with h | h
      · exact b.2.2 q h
      · obtain ⟨z, -, hz⟩ := List.mem_map.mp h
        rw [← hz]
        exact hFa⟩ c _ hheap X'
  exact ⟨t, step t a1, b1⟩
end
section
/-! ===== A RUN OF INSTRUCTIONS AS ONE PREDICATE ===== -/
/-- pc, instruction, two numbers (a jump's end; an object's class and field), a constant -/
abbrev IE : Type := Nat × Instr × Nat × Nat × Int32
def hnK {α : Type} : List α → Nat → (α → Prop) → Prop
  | [], _, _ => False
  | x :: _, 0, K => K x
  | _ :: l, n + 1, K => hnK l n K
def hpK {α : Type} : List α → Nat → α → (List α → Prop) → Prop
  | [], _, _, _ => False
  | _ :: l, 0, y, K => K (y :: l)
  | x :: l, n + 1, y, K => hpK l n y (fun l2 => K (x :: l2))
def hgK (h : AHp) (r o : Nat) (K : ACell → Prop) : Prop := hnK h r (fun g => hnK g o K)
def hsK (h : AHp) (r o : Nat) (c : ACell) (K : AHp → Prop) : Prop := hnK h r (fun g => hpK g o c (fun g2 => hpK h r g2 K))
def lgK : List (Nat × AV) → Nat → (AV → Prop) → Prop
  | [], _, _ => False
  | q :: l, i, K => match Nat.beq q.1 i with
    | true => K q.2
    | false => lgK l i K
def lsK1 : List (Nat × AV) → Nat → AV → (List (Nat × AV) → Prop) → Prop
  | [], i, v, K => K [(i, v)]
  | q :: l, i, v, K => match Nat.beq q.1 i with
    | true => K ((q.1, v) :: l)
    | false => lsK1 l i v (fun l2 => K (q :: l2))
def lsK (ls : List (Nat × AV)) (i : Nat) (v : AV) (mL : Nat) (K : List (Nat × AV) → Prop) : Prop := match lvok ls i with
  | true => match Nat.blt i mL with
    | true => lsK1 ls i v K
    | false => False
  | false => False
def pkK : List Nat → List (Nat × AV) → (List (Nat × AV) → Prop) → Prop
  | [], _, K => K []
  | i :: is, ls, K => lgK ls i (fun v => pkK is ls (fun l2 => K ((i, v) :: l2)))
theorem hnK_iff {α : Type} : ∀ {l : List α} {n : Nat} {K : α → Prop}, hnK l n K → ∃ x, hnth l n = some x ∧ K x
  | [], _, _, h => False.elim h
  | x :: _, 0, _, h => ⟨x, rfl, h⟩
  | _ :: l, n + 1, _, h => hnK_iff (l := l) h
theorem hpK_iff {α : Type} : ∀ {l : List α} {n : Nat} {y : α} {K : List α → Prop}, hpK l n y K → K (hput l n y)
  | [], _, _, _, h => False.elim h
  | _ :: _, 0, _, _, h => h
  | _ :: l, n + 1, _, _, h => hpK_iff (l := l) h
theorem hgK_iff {h : AHp} {r o : Nat} {K : ACell → Prop} (e : hgK h r o K) : ∃ c, hget h r o = some c ∧ K c := by
  obtain ⟨g, h1, h2⟩ := hnK_iff e
  obtain ⟨c, h3, h4⟩ := hnK_iff h2
  exact ⟨c, hget_of h1 h3, h4⟩
theorem hsK_iff {h : AHp} {r o : Nat} {c : ACell} {K : AHp → Prop} (e : hsK h r o c K) : K (hset h r o c) := by
  obtain ⟨g, h1, h2⟩ := hnK_iff e
  have h3 := hpK_iff (hpK_iff h2)
  unfold hset
  rw [h1]
  exact h3
theorem lgK_iff : ∀ {ls : List (Nat × AV)} {i : Nat} {K : AV → Prop}, lgK ls i K → ∃ v, lvget ls i = some v ∧ K v
  | [], _, _, h => False.elim h
  | (m, w) :: l, i, K, h => by
    unfold lgK at h
    unfold lvget
    cases e : Nat.beq m i with
    | true =>
      have h : (match Nat.beq m i with | true => K w | false => lgK l i K) := h
      rw [e] at h
      exact ⟨w, rfl, h⟩
    | false =>
      have h : (match Nat.beq m i with | true => K w | false => lgK l i K) := h
      rw [e] at h
      exact lgK_iff h
theorem lsK1_iff : ∀ {ls : List (Nat × AV)} {i : Nat} {v : AV} {K : List (Nat × AV) → Prop}, lsK1 ls i v K → K (lvset ls i v)
  | [], _, _, _, h => h
  | (m, w) :: l, i, v, K, h => by
    unfold lsK1 at h
    unfold lvset
    have h : (match Nat.beq m i with | true => K ((m, v) :: l) | false => lsK1 l i v (fun l2 => K ((m, w) :: l2))) := h
    cases e : Nat.beq m i with
    | true =>
      rw [e] at h
      exact h
    | false =>
      rw [e] at h
      exact lsK1_iff h
theorem lsK_iff {ls : List (Nat × AV)} {i mL : Nat} {v : AV} {K : List (Nat × AV) → Prop} (h : lsK ls i v mL K) : lvok ls i = true ∧ i < mL ∧ K (lvset ls i v) := by
  unfold lsK at h
  cases e : lvok ls i with
  | false => rw [e] at h; exact False.elim h
  | true =>
    rw [e] at h
    have h : (match Nat.blt i mL with | true => lsK1 ls i v K | false => False) := h
    cases e2 : Nat.blt i mL with
    | false => rw [e2] at h; exact False.elim h
    | true =>
      rw [e2] at h
      exact ⟨rfl, Nat.le_of_ble_eq_true e2, lsK1_iff h⟩
theorem pkK_iff : ∀ {is : List Nat} {ls : List (Nat × AV)} {K : List (Nat × AV) → Prop}, pkK is ls K → ∃ l2, K l2 ∧ ∀ q ∈ l2, q ∈ ls
  | [], _, _, h => ⟨[], h, fun _ hq => by cases hq⟩
  | i :: is, ls, K, h => by
    obtain ⟨v, h1, h2⟩ := lgK_iff h
    obtain ⟨l2, h3, h4⟩ := pkK_iff h2
    refine ⟨(i, v) :: l2, h3, fun q hq => ?_⟩
    rcases List.mem_cons.mp hq with rfl | hq
    · exact lvget_mem h1
    · exact h4 q hq
abbrev LK : Type := List (Nat × AV) → List AV → AHp → Prop
def brK (c : Jvm.ClassFile.Cond) (x y : Int32) (A B : Prop) : Prop := match c with
  | .eq => (x = y → A) ∧ (¬ x = y → B)
  | .ne => (x = y → B) ∧ (¬ x = y → A)
  | .lt => (x < y → A) ∧ (¬ x < y → B)
  | .ge => (y ≤ x → A) ∧ (¬ y ≤ x → B)
  | .gt => (y < x → A) ∧ (¬ y < x → B)
  | .le => (x ≤ y → A) ∧ (¬ x ≤ y → B)
def br0 (c : Jvm.ClassFile.Cond) (x : Int32) (A B : Prop) : Prop := match c with
  | .eq => (x = 0 → A) ∧ (¬ x = 0 → B)
  | .ne => (x = 0 → B) ∧ (¬ x = 0 → A)
  | .lt => (x < 0 → A) ∧ (¬ x < 0 → B)
  | .ge => (0 ≤ x → A) ∧ (¬ 0 ≤ x → B)
  | .gt => (0 < x → A) ∧ (¬ 0 < x → B)
  | .le => (x ≤ 0 → A) ∧ (¬ x ≤ 0 → B)
/-- one instruction: C where this row doesn't know it, J at a jump, K behind it -/
def stI (R : Option AV → AHp → Prop) (rt : Option FieldType) (mL : Nat) (i : Instr) (a b : Nat) (x : Int32) (C : LK) (J : LK) (K : LK) (ls : List (Nat × AV)) (st : List AV) (h : AHp) : Prop := match i with
  | .iload j => lgK ls j (fun v => match v with | .inl (.int z) => K ls (vI z :: st) h | _ => False)
  | .iload_n j => lgK ls j (fun v => match v with | .inl (.int z) => K ls (vI z :: st) h | _ => False)
  | .aload j => lgK ls j (fun v => match isRf v with | true => K ls (v :: st) h | false => False)
  | .aload_n j => lgK ls j (fun v => match isRf v with | true => K ls (v :: st) h | false => False)
  | .istore j => match st with | .inl (.int z) :: st => lsK ls j (vI z) mL (fun ls => K ls st h) | _ => False
  | .istore_n j => match st with | .inl (.int z) :: st => lsK ls j (vI z) mL (fun ls => K ls st h) | _ => False
  | .astore j => match st with | v :: st => (match isRf v with | true => lsK ls j v mL (fun ls => K ls st h) | false => False) | _ => False
  | .astore_n j => match st with | v :: st => (match isRf v with | true => lsK ls j v mL (fun ls => K ls st h) | false => False) | _ => False
  | .iinc j _ => lgK ls j (fun v => match v with | .inl (.int z) => lsK ls j (vI (z + x)) mL (fun ls => K ls st h) | _ => False)
  | .iconst _ => K ls (vI x :: st) h
  | .bipush _ => K ls (vI x :: st) h
  | .sipush _ => K ls (vI x :: st) h
  | .lconst j => K ls (vL (Int64.ofNat (j : Nat)) :: st) h
  | .iadd => match st with | .inl (.int y) :: .inl (.int z) :: st => K ls (vI (z + y) :: st) h | _ => False
  | .isub => match st with | .inl (.int y) :: .inl (.int z) :: st => K ls (vI (z - y) :: st) h | _ => False
  | .imul => match st with | .inl (.int y) :: .inl (.int z) :: st => K ls (vI (z * y) :: st) h | _ => False
  | .idiv => match st with | .inl (.int y) :: .inl (.int z) :: st => ¬ y = 0 ∧ K ls (vI (z / y) :: st) h | _ => False
  | .irem => match st with | .inl (.int y) :: .inl (.int z) :: st => ¬ y = 0 ∧ K ls (vI (z - z / y * y) :: st) h | _ => False
  | .ineg => match st with | .inl (.int z) :: st => K ls (vI (-z) :: st) h | _ => False
  | .iand => match st with | .inl (.int y) :: .inl (.int z) :: st => K ls (vI (z &&& y) :: st) h | _ => False
  | .ior => match st with | .inl (.int y) :: .inl (.int z) :: st => K ls (vI (z ||| y) :: st) h | _ => False
  | .ishl => match st with | .inl (.int y) :: .inl (.int z) :: st => K ls (vI (z <<< (y &&& 31)) :: st) h | _ => False
  | .ishr => match st with | .inl (.int y) :: .inl (.int z) :: st => K ls (vI (z >>> (y &&& 31)) :: st) h | _ => False
  | .i2l => match st with | .inl (.int z) :: st => K ls (vL z.toInt64 :: st) h | _ => False
  | .i2c => match st with | .inl (.int z) :: st => K ls (vI (z.toUInt32 % 65536).toInt32 :: st) h | _ => False
  | .i2b => match st with | .inl (.int z) :: st => K ls (vI z.toInt8.toInt32 :: st) h | _ => False
  | .ladd => match st with | .inl (.long y) :: .inl (.long z) :: st => K ls (vL (z + y) :: st) h | _ => False
  | .lcmp => match st with | .inl (.long y) :: .inl (.long z) :: st => K ls (vI (lg_cmp z y) :: st) h | _ => False
  | .dup => match st with | v :: st => (match is2 v with | true => False | false => K ls (v :: v :: st) h) | _ => False
  | .pop => match st with | v :: st => (match is2 v with | true => False | false => K ls st h) | _ => False
  | .dup_x1 => match st with | v :: w :: st => (match is2 v, is2 w with | false, false => K ls (v :: w :: v :: st) h | _, _ => False) | _ => False
  | .dup2 => match st with | v :: w :: st => (match is2 v, is2 w with | false, false => K ls (v :: w :: v :: w :: st) h | _, _ => False) | _ => False
  | .goto _ => J ls st h
  | .ifCond c _ => match st with | .inl (.int z) :: st => br0 c z (J ls st h) (K ls st h) | _ => False
  | .if_icmp c _ => match st with | .inl (.int y) :: .inl (.int z) :: st => brK c z y (J ls st h) (K ls st h) | _ => False
  | .getfield _ => match Nat.beq a 999 with
    | true => C ls st h
    | false => match st with
      | .inr (.inl q) :: st => hgK h q.1 q.2 (fun c => match c with | .inr (.inl o) => (match Nat.beq o.1 a with | true => hnK o.2 b (fun v => K ls (v :: st) h) | false => False) | _ => False)
      | _ => False
  | .putfield _ => match st with
    | v :: .inr (.inl q) :: st => hgK h q.1 q.2 (fun c => match c with | .inr (.inl o) => (match Nat.beq o.1 a with | true => okT (tyOf a b) v ∧ hpK o.2 b v (fun fs => hsK h q.1 q.2 (aO a fs) (fun h => K ls st h)) | false => False) | _ => False)
    | _ => False
  | .iaload => match st with | .inl (.int z) :: .inr (.inl q) :: st => hgK h q.1 q.2 (fun c => match c with | .inl (.int, N, .inl f) => vp_in z N ∧ K ls (vI (f z.toNatClampNeg) :: st) h | _ => False) | _ => C ls st h
  | .baload => match st with | .inl (.int z) :: .inr (.inl q) :: st => hgK h q.1 q.2 (fun c => match c with | .inl (.boolean, N, .inl f) => vp_in z N ∧ K ls (vI (f z.toNatClampNeg) :: st) h | .inl (.byte, N, .inl f) => vp_in z N ∧ K ls (vI (f z.toNatClampNeg) :: st) h | _ => False) | _ => C ls st h
  | .caload => match st with | .inl (.int z) :: .inr (.inl q) :: st => hgK h q.1 q.2 (fun c => match c with | .inl (.char, N, .inl f) => vp_in z N ∧ K ls (vI (f z.toNatClampNeg) :: st) h | _ => False) | _ => False
  | .laload => match st with | .inl (.int z) :: .inr (.inl q) :: st => hgK h q.1 q.2 (fun c => match c with | .inl (.long, N, .inr (.inl f)) => vp_in z N ∧ K ls (vL (f z.toNatClampNeg) :: st) h | _ => False) | _ => False
  | .daload => match st with | .inl (.int z) :: .inr (.inl q) :: st => hgK h q.1 q.2 (fun c => match c with | .inl (.double, N, .inr (.inr (.inl f))) => vp_in z N ∧ K ls (vD (f z.toNatClampNeg) :: st) h | _ => False) | _ => False
  | .aaload => match st with | .inl (.int z) :: .inr (.inl q) :: st => hgK h q.1 q.2 (fun c => match c with | .inl (ty, N, .inr (.inr (.inr f))) => (match ty.isReference with | true => vp_in z N ∧ K ls (f z.toNatClampNeg :: st) h | false => False) | _ => False) | _ => C ls st h
  | .iastore => match st with | .inl (.int y) :: .inl (.int z) :: .inr (.inl q) :: st => hgK h q.1 q.2 (fun c => match c with | .inl (.int, N, .inl f) => vp_in z N ∧ hsK h q.1 q.2 (aI N (upd f z.toNatClampNeg y)) (fun h => K ls st h) | _ => False) | _ => False
  | .bastore => match st with | .inl (.int y) :: .inl (.int z) :: .inr (.inl q) :: st => hgK h q.1 q.2 (fun c => match c with | .inl (.boolean, N, .inl f) => vp_in z N ∧ (y = 0 ∨ y = 1) ∧ hsK h q.1 q.2 (.inl (.boolean, N, .inl (upd f z.toNatClampNeg y))) (fun h => K ls st h) | .inl (.byte, N, .inl f) => vp_in z N ∧ hsK h q.1 q.2 (.inl (.byte, N, .inl (upd f z.toNatClampNeg y.toInt8.toInt32))) (fun h => K ls st h) | _ => False) | _ => False
  | .castore => match st with | .inl (.int y) :: .inl (.int z) :: .inr (.inl q) :: st => hgK h q.1 q.2 (fun c => match c with | .inl (.char, N, .inl f) => vp_in z N ∧ hsK h q.1 q.2 (.inl (.char, N, .inl (upd f z.toNatClampNeg y.toUInt32.toUInt16.toUInt32.toInt32))) (fun h => K ls st h) | _ => False) | _ => False
  | .lastore => match st with | .inl (.long y) :: .inl (.int z) :: .inr (.inl q) :: st => hgK h q.1 q.2 (fun c => match c with | .inl (.long, N, .inr (.inl f)) => vp_in z N ∧ hsK h q.1 q.2 (.inl (.long, N, .inr (.inl (vp_updL f z.toNatClampNeg y)))) (fun h => K ls st h) | _ => False) | _ => False
  | .dastore => match st with | .inl (.double y) :: .inl (.int z) :: .inr (.inl q) :: st => hgK h q.1 q.2 (fun c => match c with | .inl (.double, N, .inr (.inr (.inl f))) => vp_in z N ∧ hsK h q.1 q.2 (.inl (.double, N, .inr (.inr (.inl (vf_upd f z.toNatClampNeg y))))) (fun h => K ls st h) | _ => False) | _ => False
  | .arraylength => match st with | .inr (.inl q) :: st => hgK h q.1 q.2 (fun c => match c with | .inl (_, N, _) => K ls (vI (nI N) :: st) h | _ => False) | _ => C ls st h
  | .ireturn => match st with | [.inl (.int z)] => (match rt with | some .int => R (some (vI z)) h | some .boolean => (z = 0 ∨ z = 1) ∧ R (some (vI z)) h | some .char => narrow .char (.int z) = .int z ∧ R (some (vI z)) h | _ => False) | _ => False
  | .lreturn => match st with | [.inl (.long z)] => (match rt with | some .long => R (some (vL z)) h | _ => False) | _ => False
  | .areturn => match st with | [v] => (match isRf v with | true => (match rt with | some (.object _) => R (some v) h | some (.array _) => R (some v) h | _ => False) | false => False) | _ => False
  | .return_ => match st with | [] => (match rt with | none => R none h | _ => False) | _ => False
  | _ => C ls st h
def ctK : List (Nat × List Nat) → Nat → Option (List Nat)
  | [], _ => none
  | q :: l, t => match Nat.beq q.1 t with
    | true => some q.2
    | false => ctK l t
def seek : List IE → Nat → List IE
  | [], _ => []
  | e :: l, t => match Nat.beq e.1 t with
    | true => e :: l
    | false => seek l t
/-- from the head of the list on: at most f instructions -/
def wp (γ : CX) (σ : Nat → Nat → Nat) (k n : Nat) (R : Option AV → AHp → Prop) (rt : Option FieldType) (mL : Nat) (ct : List (Nat × List Nat)) (code : List IE) : Nat → List IE → LK
  | 0, _, _, _, _ => False
  | _ + 1, [], _, _, _ => False
  | f + 1, e :: rest, ls, st, h => stI R rt mL e.2.1 e.2.2.1 e.2.2.2.1 e.2.2.2.2 (fun ls st h => At γ σ k n e.1 ls st h)
      (fun ls st h => match ctK ct e.2.2.1 with
        | some ks => pkK ks ls (fun ls => At γ σ k n e.2.2.1 ls st h)
        | none => wp γ σ k n R rt mL ct code f (seek code e.2.2.1) ls st h)
      (fun ls st h => match rest with
        | [] => False
        | e2 :: _ => (match ctK ct e2.1 with
          | some ks => pkK ks ls (fun ls => At γ σ k n e2.1 ls st h)
          | none => wp γ σ k n R rt mL ct code f rest ls st h)) ls st h
end
section
/-! ===== the run is the machine's ===== -/
def okX (ini : Bool) (o : Nat) (e : IE) : Bool := match e.2.1 with
  | .ifCond _ off => (e.1 : Int) + off == (e.2.2.1 : Int)
  | .if_icmp _ off => (e.1 : Int) + off == (e.2.2.1 : Int)
  | .goto off => (e.1 : Int) + off == (e.2.2.1 : Int)
  | .iconst i => Int32.ofInt i == e.2.2.2.2
  | .bipush i => (Int8.ofInt i).toInt32 == e.2.2.2.2
  | .sipush i => (Int16.ofInt i).toInt32 == e.2.2.2.2
  | .iinc _ c => Int32.ofInt c == e.2.2.2.2
  | .getfield ix => Nat.beq e.2.2.1 999 || FLq.any (fun q => q.1 == o && q.2.1 == ix && q.2.2.1 == e.2.2.1 && q.2.2.2 == e.2.2.2.1)
  | .putfield ix => FLq.any (fun q => q.1 == o && q.2.1 == ix && q.2.2.1 == e.2.2.1 && q.2.2.2 == e.2.2.2.1) && (match vwCl[e.2.2.1]? with | some z => (z.2.1 e.2.2.2.1).2.2.2 == false || (ini && (z.2.1 e.2.2.2.1).1 == cn o) | none => false)
  | _ => true
def iln : Instr → Nat
  | .iload _ => 2 | .aload _ => 2 | .istore _ => 2 | .astore _ => 2 | .iinc _ _ => 3 | .bipush _ => 2 | .sipush _ => 3 | .goto _ => 3 | .ifCond _ _ => 3 | .if_icmp _ _ => 3 | .getfield _ => 3 | .putfield _ => 3
  | _ => 1
/-- the instruction stands there, its length is that of its kind where the run goes on behind it -/
def okD (cc : ByteArray) (e : IE) : Bool := match decode cc e.1 with
  | .ok (i, len) => decide (i = e.2.1) && (match e.2.1 with
    | .invokevirtual _ => len == 3 | .invokestatic _ => len == 3 | .invokespecial _ => len == 3 | .getstatic _ => len == 3 | .new _ => len == 3 | .ldc _ => len == 2 | .ldc_w _ => len == 3 | .anewarray _ => len == 3 | .newarray _ => len == 2 | .if_acmp _ _ => len == 3 | .ifnull _ => len == 3 | .ifnonnull _ => len == 3
    | .tableswitch .. => true | .lookupswitch .. => true | .multianewarray .. => true | .dload _ => len == 2 | .fload _ => len == 2 | .dstore _ => len == 2 | .fstore _ => len == 2
    | j => len == iln j)
  | _ => false
def nonK : Instr → Bool
  | .goto _ => true | .ireturn => true | .lreturn => true | .areturn => true | .return_ => true | .athrow => true | .invokevirtual _ => true | .invokestatic _ => true | .invokespecial _ => true | .getstatic _ => true | .new _ => true | .ldc _ => true | .ldc_w _ => true | .anewarray _ => true | .newarray _ => true | .if_acmp _ _ => true | .ifnull _ => true | .ifnonnull _ => true | .tableswitch .. => true | .lookupswitch .. => true | .multianewarray .. => true | .dload _ => true | .fload _ => true | .dstore _ => true | .fstore _ => true
  | _ => false
def okL (ini : Bool) (o : Nat) (cc : ByteArray) : List IE → Bool
  | [] => true
  | e :: l => okD cc e && okX ini o e && (match l with | [] => true | e2 :: _ => nonK e.2.1 || e2.1 == e.1 + iln e.2.1) && okL ini o cc l
theorem okL_tail {ini : Bool} {o : Nat} {cc : ByteArray} {e : IE} {l : List IE} (h : okL ini o cc (e :: l) = true) : okL ini o cc l = true := by
  unfold okL at h
  simp only [Bool.and_eq_true] at h
  exact h.2
theorem seek_ok {ini : Bool} {o : Nat} {cc : ByteArray} {t : Nat} : ∀ {l : List IE}, okL ini o cc l = true → okL ini o cc (seek l t) = true ∧ ∀ e l2, seek l t = e :: l2 → e.1 = t
  | [], _ => ⟨rfl, fun _ _ h => by cases h⟩
  | e :: l, h => by
    unfold seek
    cases he : Nat.beq e.1 t with
    | true =>
      refine ⟨h, fun e2 l2 h2 => ?_⟩
      cases h2
      exact Nat.eq_of_beq_eq_true he
    | false => exact seek_ok (okL_tail h)
/-- an entry where a call, a throw or another row of its own stands -/
def dec_of (l : List IE) (pc : Nat) : Option Instr := match seek l pc with
  | [] => none
  | e :: _ => some e.2.1
theorem okL_dec {ini : Bool} {o : Nat} {cc : ByteArray} {l : List IE} (h : okL ini o cc l = true) {pc : Nat} {i : Instr} (hd : dec_of l pc = some i) : ∃ e : IE, e.1 = pc ∧ e.2.1 = i ∧ okD cc e = true ∧ okX ini o e = true := by
  unfold dec_of at hd
  obtain ⟨h1, h2⟩ := seek_ok (t := pc) h
  cases hs : seek l pc with
  | nil => rw [hs] at hd; cases hd
  | cons e l2 =>
    rw [hs] at hd h1
    cases hd
    unfold okL at h1
    simp only [Bool.and_eq_true] at h1
    exact ⟨e, h2 e l2 hs, rfl, h1.1.1.1, h1.1.1.2⟩
theorem okD_spec {cc : ByteArray} {e : IE} (h : okD cc e = true) : ∃ len, decode cc e.1 = .ok (e.2.1, len) ∧ (match e.2.1 with
    | .invokevirtual _ => len == 3 | .invokestatic _ => len == 3 | .invokespecial _ => len == 3 | .getstatic _ => len == 3 | .new _ => len == 3 | .ldc _ => len == 2 | .ldc_w _ => len == 3 | .anewarray _ => len == 3 | .newarray _ => len == 2 | .if_acmp _ _ => len == 3 | .ifnull _ => len == 3 | .ifnonnull _ => len == 3
    | .tableswitch .. => true | .lookupswitch .. => true | .multianewarray .. => true | .dload _ => len == 2 | .fload _ => len == 2 | .dstore _ => len == 2 | .fstore _ => len == 2
    | j => len == iln j) = true := by
  unfold okD at h
  cases hd : decode cc e.1 with
  | error z => rw [hd] at h; cases h
  | ok z =>
    rw [hd] at h
    obtain ⟨i, len⟩ := z
    simp only [Bool.and_eq_true, decide_eq_true_eq] at h
    exact ⟨len, by rw [h.1], h.2⟩
theorem FLq_mem {o ix ci fk : Nat} (h : FLq.any (fun q => q.1 == o && q.2.1 == ix && q.2.2.1 == ci && q.2.2.2 == fk) = true) : (o, ix, ci, fk) ∈ FLq := by
  obtain ⟨q, hq, h2⟩ := List.any_eq_true.mp h
  simp only [Bool.and_eq_true, beq_iff_eq] at h2
  obtain ⟨⟨⟨e1, e2⟩, e3⟩, e4⟩ := h2
  obtain ⟨q1, q2, q3, q4⟩ := q
  simp only at e1 e2 e3 e4
  subst e1; subst e2; subst e3; subst e4
  exact hq
theorem tr_cat1' {v : AV} {σ : Nat → Nat → Nat} {κ : Nat → Nat} (h : is2 v = false) : (tr σ κ v).category = 1 := by
  have h2 := is2_cat (σ := σ) (κ := κ) h
  revert h2
  cases (tr σ κ v) <;> simp [Value.category]
theorem hpK_some {α : Type} : ∀ {l : List α} {n : Nat} {y : α} {K : List α → Prop}, hpK l n y K → ∃ x, hnth l n = some x
  | [], _, _, _, h => False.elim h
  | x :: _, 0, _, _, _ => ⟨x, rfl⟩
  | _ :: l, n + 1, _, _, h => hpK_some (l := l) h
section SND
variable {γ : CX} {o : Nat} {cc : ByteArray} {σ : Nat → Nat → Nat} {k n : Nat} {R : Option AV → AHp → Prop} {rt : Option FieldType} {ini : Bool}
/-- what a return's row needs -/
def RK (γ : CX) (σ : Nat → Nat → Nat) (k n : Nat) (cc : ByteArray) (rt : Option FieldType) (R : Option AV → AHp → Prop) : Prop :=
  (∀ pc ls h x ty, decode cc pc = .ok (.ireturn, 1) → rt = some ty → narrow ty (.int x) = .int x → R (some (vI x)) h → At γ σ k n pc ls [vI x] h) ∧
  (∀ pc ls h x, decode cc pc = .ok (.lreturn, 1) → rt = some .long → R (some (vL x)) h → At γ σ k n pc ls [vL x] h) ∧
  (∀ pc ls h v ty, decode cc pc = .ok (.areturn, 1) → rt = some ty → ((∃ n, ty = .object n) ∨ ∃ t, ty = .array t) → isRf v = true → R (some v) h → At γ σ k n pc ls [v] h) ∧
  (∀ pc ls h, decode cc pc = .ok (.return_, 1) → rt = none → R none h → At γ σ k n pc ls [] h)
theorem stI_ok (O : OK γ (cn o) cc) (hin : ini = true → (cY γ).name = "<init>") (hRK : RK γ σ k n cc rt R) {e : IE} {C J K : LK} {ls : List (Nat × AV)} {st : List AV} {h : AHp} (hd : okD cc e = true) (hx : okX ini o e = true)
    (hC : ∀ ls st h, C ls st h → At γ σ k n e.1 ls st h) (hJ : (∃ off, (e.1 : Int) + off = (e.2.2.1 : Int)) → ∀ ls st h, J ls st h → At γ σ k n e.2.2.1 ls st h) (hK : ∀ ls st h, K ls st h → At γ σ k n (e.1 + iln e.2.1) ls st h)
    (hw : stI R rt (cC γ).maxLocals e.2.1 e.2.2.1 e.2.2.2.1 e.2.2.2.2 C J K ls st h) : At γ σ k n e.1 ls st h := by
  obtain ⟨pc, i, a, b, x⟩ := e
  obtain ⟨len, hdc, hlen⟩ := okD_spec hd
  dsimp only at hdc hlen hC hJ hK hw hx
  unfold stI at hw
  cases i
  case iload j =>
    obtain ⟨v, h1, h2⟩ := lgK_iff hw
    rcases v with v | v
    · cases v with
      | int z => exact At.iload O (by rw [hdc, beq_iff_eq.mp hlen]; rfl) h1 (hK _ _ _ h2)
      | _ => exact False.elim h2
    · exact False.elim h2
  case iload_n j =>
    obtain ⟨v, h1, h2⟩ := lgK_iff hw
    rcases v with v | v
    · cases v with
      | int z => exact At.iload_n O (by rw [hdc, beq_iff_eq.mp hlen]; rfl) h1 (hK _ _ _ h2)
      | _ => exact False.elim h2
    · exact False.elim h2
  case aload j =>
    obtain ⟨v, h1, h2⟩ := lgK_iff hw
    cases hr : isRf v with
    | true => rw [hr] at h2; exact At.aload O (by rw [hdc, beq_iff_eq.mp hlen]; rfl) h1 hr (hK _ _ _ h2)
    | false => rw [hr] at h2; exact False.elim h2
  case aload_n j =>
    obtain ⟨v, h1, h2⟩ := lgK_iff hw
    cases hr : isRf v with
    | true => rw [hr] at h2; exact At.aload_n O (by rw [hdc, beq_iff_eq.mp hlen]; rfl) h1 hr (hK _ _ _ h2)
    | false => rw [hr] at h2; exact False.elim h2
  case istore j =>
    dsimp only at hw
    split at hw
    · obtain ⟨h1, h2, h3⟩ := lsK_iff hw
      exact At.istore O (by rw [hdc, beq_iff_eq.mp hlen]; rfl) h2 h1 (hK _ _ _ h3)
    · exact False.elim hw
  case istore_n j =>
    dsimp only at hw
    split at hw
    · obtain ⟨h1, h2, h3⟩ := lsK_iff hw
      exact At.istore_n O (by rw [hdc, beq_iff_eq.mp hlen]; rfl) h2 h1 (hK _ _ _ h3)
    · exact False.elim hw
  case astore j =>
    dsimp only at hw
    split at hw
    · rename_i v st
      cases hr : isRf v with
      | true =>
        rw [hr] at hw
        obtain ⟨h1, h2, h3⟩ := lsK_iff hw
        exact At.astore O (by rw [hdc, beq_iff_eq.mp hlen]; rfl) hr h2 h1 (hK _ _ _ h3)
      | false => rw [hr] at hw; exact False.elim hw
    · exact False.elim hw
  case astore_n j =>
    dsimp only at hw
    split at hw
    · rename_i v st
      cases hr : isRf v with
      | true =>
        rw [hr] at hw
        obtain ⟨h1, h2, h3⟩ := lsK_iff hw
        exact At.astore_n O (by rw [hdc, beq_iff_eq.mp hlen]; rfl) hr h2 h1 (hK _ _ _ h3)
      | false => rw [hr] at hw; exact False.elim hw
    · exact False.elim hw
  case iinc j c =>
    dsimp only at hw
    obtain ⟨v, h1, h2⟩ := lgK_iff hw
    rcases v with v | v
    · cases v with
      | int z =>
        obtain ⟨h3, h4, h5⟩ := lsK_iff h2
        exact At.iinc O (by rw [hdc, beq_iff_eq.mp hlen]; rfl) (beq_iff_eq.mp hx) h1 h4 h3 (hK _ _ _ h5)
      | _ => exact False.elim h2
    · exact False.elim h2
  case iconst j =>
    dsimp only at hw
    exact At.iconst O (by rw [hdc, beq_iff_eq.mp hlen]; rfl) (beq_iff_eq.mp hx) (hK _ _ _ hw)
  case bipush j =>
    dsimp only at hw
    exact At.bipush O (by rw [hdc, beq_iff_eq.mp hlen]; rfl) (beq_iff_eq.mp hx) (hK _ _ _ hw)
  case sipush j =>
    dsimp only at hw
    exact At.sipush O (by rw [hdc, beq_iff_eq.mp hlen]; rfl) (beq_iff_eq.mp hx) (hK _ _ _ hw)
  case lconst j =>
    dsimp only at hw
    exact At.lconst O (by rw [hdc, beq_iff_eq.mp hlen]; rfl) rfl (hK _ _ _ hw)
  case iadd =>
    dsimp only at hw
    split at hw
    · exact At.iadd O (by rw [hdc, beq_iff_eq.mp hlen]; rfl) (hK _ _ _ hw)
    · exact False.elim hw
  case isub =>
    dsimp only at hw
    split at hw
    · exact At.isub O (by rw [hdc, beq_iff_eq.mp hlen]; rfl) (hK _ _ _ hw)
    · exact False.elim hw
  case imul =>
    dsimp only at hw
    split at hw
    · exact At.imul O (by rw [hdc, beq_iff_eq.mp hlen]; rfl) (hK _ _ _ hw)
    · exact False.elim hw
  case iand =>
    dsimp only at hw
    split at hw
    · exact At.iand O (by rw [hdc, beq_iff_eq.mp hlen]; rfl) (hK _ _ _ hw)
    · exact False.elim hw
  case ior =>
    dsimp only at hw
    split at hw
    · exact At.ior O (by rw [hdc, beq_iff_eq.mp hlen]; rfl) (hK _ _ _ hw)
    · exact False.elim hw
  case ishl =>
    dsimp only at hw
    split at hw
    · exact At.ishl O (by rw [hdc, beq_iff_eq.mp hlen]; rfl) (hK _ _ _ hw)
    · exact False.elim hw
  case ishr =>
    dsimp only at hw
    split at hw
    · exact At.ishr O (by rw [hdc, beq_iff_eq.mp hlen]; rfl) (hK _ _ _ hw)
    · exact False.elim hw
  case ladd =>
    dsimp only at hw
    split at hw
    · exact At.ladd O (by rw [hdc, beq_iff_eq.mp hlen]; rfl) (hK _ _ _ hw)
    · exact False.elim hw
  case lcmp =>
    dsimp only at hw
    split at hw
    · exact At.lcmp O (by rw [hdc, beq_iff_eq.mp hlen]; rfl) (hK _ _ _ hw)
    · exact False.elim hw
  case ineg =>
    dsimp only at hw
    split at hw
    · exact At.ineg O (by rw [hdc, beq_iff_eq.mp hlen]; rfl) (hK _ _ _ hw)
    · exact False.elim hw
  case i2l =>
    dsimp only at hw
    split at hw
    · exact At.i2l O (by rw [hdc, beq_iff_eq.mp hlen]; rfl) (hK _ _ _ hw)
    · exact False.elim hw
  case i2c =>
    dsimp only at hw
    split at hw
    · exact At.i2c O (by rw [hdc, beq_iff_eq.mp hlen]; rfl) (hK _ _ _ hw)
    · exact False.elim hw
  case i2b =>
    dsimp only at hw
    split at hw
    · exact At.i2b O (by rw [hdc, beq_iff_eq.mp hlen]; rfl) (hK _ _ _ hw)
    · exact False.elim hw
  case idiv =>
    dsimp only at hw
    split at hw
    · exact At.idiv O (by rw [hdc, beq_iff_eq.mp hlen]; rfl) hw.1 (hK _ _ _ hw.2)
    · exact False.elim hw
  case irem =>
    dsimp only at hw
    split at hw
    · exact At.irem O (by rw [hdc, beq_iff_eq.mp hlen]; rfl) hw.1 (hK _ _ _ hw.2)
    · exact False.elim hw
  case dup =>
    dsimp only at hw
    split at hw
    · rename_i v st
      cases hr : is2 v with
      | true => rw [hr] at hw; exact False.elim hw
      | false =>
        rw [hr] at hw
        have h2 := tr_cat1' (σ := σ) (κ := cκ γ) hr
        exact At.dup O (by rw [hdc, beq_iff_eq.mp hlen]; rfl) h2 (hK _ _ _ hw)
    · exact False.elim hw
  case pop =>
    dsimp only at hw
    split at hw
    · rename_i v st
      cases hr : is2 v with
      | true => rw [hr] at hw; exact False.elim hw
      | false =>
        rw [hr] at hw
        have h2 := tr_cat1' (σ := σ) (κ := cκ γ) hr
        exact At.pop O (by rw [hdc, beq_iff_eq.mp hlen]; rfl) h2 (hK _ _ _ hw)
    · exact False.elim hw
  case dup_x1 =>
    dsimp only at hw
    split at hw
    · rename_i v w st
      cases hr : is2 v with
      | true => rw [hr] at hw; exact False.elim hw
      | false =>
        cases hr2 : is2 w with
        | true => rw [hr, hr2] at hw; exact False.elim hw
        | false =>
          rw [hr, hr2] at hw
          exact At.dup_x1 O (by rw [hdc, beq_iff_eq.mp hlen]; rfl) (tr_cat1' hr) (tr_cat1' hr2) (hK _ _ _ hw)
    · exact False.elim hw
  case dup2 =>
    dsimp only at hw
    split at hw
    · rename_i v w st
      cases hr : is2 v with
      | true => rw [hr] at hw; exact False.elim hw
      | false =>
        cases hr2 : is2 w with
        | true => rw [hr, hr2] at hw; exact False.elim hw
        | false =>
          rw [hr, hr2] at hw
          exact At.dup2 O (by rw [hdc, beq_iff_eq.mp hlen]; rfl) (tr_cat1' hr) (tr_cat1' hr2) (hK _ _ _ hw)
    · exact False.elim hw
  case goto off =>
    dsimp only at hw
    have h1 : (pc : Int) + off = (a : Int) := beq_iff_eq.mp hx
    exact At.goto O (by rw [hdc, beq_iff_eq.mp hlen]; rfl) h1 (hJ ⟨off, h1⟩ _ _ _ hw)
  case ifCond c off =>
    dsimp only at hw
    have h1 : (pc : Int) + off = (a : Int) := beq_iff_eq.mp hx
    split at hw
    · refine At.ifc O (by rw [hdc, beq_iff_eq.mp hlen]; rfl) h1 _ rfl (fun q => ?_) (fun q => ?_)
      · refine hJ ⟨off, h1⟩ _ _ _ ?_
        cases c <;> first | exact hw.1 q | exact hw.2 q
      · refine hK _ _ _ ?_
        cases c <;> first | exact hw.2 q | exact hw.1 (Decidable.not_not.mp q)
    · exact False.elim hw
  case if_icmp c off =>
    dsimp only at hw
    have h1 : (pc : Int) + off = (a : Int) := beq_iff_eq.mp hx
    split at hw
    · refine At.icmp O (by rw [hdc, beq_iff_eq.mp hlen]; rfl) h1 _ rfl (fun q => ?_) (fun q => ?_)
      · refine hJ ⟨off, h1⟩ _ _ _ ?_
        cases c <;> first | exact hw.1 q | exact hw.2 q
      · refine hK _ _ _ ?_
        cases c <;> first | exact hw.2 q | exact hw.1 (Decidable.not_not.mp q)
    · exact False.elim hw
  case getfield ix =>
    dsimp only at hw
    have hx : (Nat.beq a 999 || FLq.any (fun q => q.1 == o && q.2.1 == ix && q.2.2.1 == a && q.2.2.2 == b)) = true := hx
    cases h9 : Nat.beq a 999 with
    | true => rw [h9] at hw; exact hC _ _ _ hw
    | false =>
      rw [h9] at hw hx
      dsimp only at hw
      have hF := FLq_mem (by simpa using hx)
      split at hw
      · rename_i q st
        obtain ⟨c, h1, h2⟩ := hgK_iff hw
        rcases c with c | c | c
        · exact False.elim h2
        · have h2 : (match Nat.beq c.1 a with | true => hnK c.2 b (fun v => K ls (v :: st) h) | false => False) := h2
          cases hb : Nat.beq c.1 a with
          | false => rw [hb] at h2; exact False.elim h2
          | true =>
            rw [hb] at h2
            obtain ⟨v, h3, h4⟩ := hnK_iff h2
            obtain ⟨ci, fs⟩ := c
            have := Nat.eq_of_beq_eq_true hb
            simp only at this h3
            subst this
            exact At.getf O (by rw [hdc, beq_iff_eq.mp hlen]; rfl) hF h1 h3 (hK _ _ _ h4)
        · exact False.elim h2
      · exact False.elim hw
  case putfield ix =>
    dsimp only at hw
    have hx : (FLq.any (fun q => q.1 == o && q.2.1 == ix && q.2.2.1 == a && q.2.2.2 == b) && (match vwCl[a]? with | some z => (z.2.1 b).2.2.2 == false || (ini && (z.2.1 b).1 == cn o) | none => false)) = true := hx
    rw [Bool.and_eq_true] at hx
    have hF := FLq_mem hx.1
    have hfin : ∀ C T N, vwCl[a]? = some (C, T, N) → (T b).2.2.2 = false ∨ ((cY γ).name = "<init>" ∧ (T b).1 = cn o) := by
      intro C T N hc
      have h9 := hx.2
      rw [hc] at h9
      simp only [Bool.or_eq_true, Bool.and_eq_true, beq_iff_eq] at h9
      rcases h9 with h9 | h9
      · exact Or.inl h9
      · exact Or.inr ⟨hin h9.1, h9.2⟩
    split at hw
    · rename_i v q st
      obtain ⟨c, h1, h2⟩ := hgK_iff hw
      rcases c with c | c | c
      · exact False.elim h2
      · have h2 : (match Nat.beq c.1 a with | true => okT (tyOf a b) v ∧ hpK c.2 b v (fun fs => hsK h q.1 q.2 (aO a fs) (fun h => K ls st h)) | false => False) := h2
        cases hb : Nat.beq c.1 a with
        | false => rw [hb] at h2; exact False.elim h2
        | true =>
          rw [hb] at h2
          obtain ⟨h3, h4⟩ := h2
          obtain ⟨ci, fs⟩ := c
          have := Nat.eq_of_beq_eq_true hb
          simp only at this h4
          subst this
          have h5 := hpK_iff h4
          have h6 := hsK_iff h5
          obtain ⟨v0, hv0⟩ := hpK_some h4
          exact At.putf O (by rw [hdc, beq_iff_eq.mp hlen]; rfl) hF h1 hv0 h3 hfin (hK _ _ _ h6)
      · exact False.elim h2
    · exact False.elim hw
  case iaload =>
    dsimp only at hw
    split at hw
    · rename_i z q st
      obtain ⟨c, h1, h2⟩ := hgK_iff hw
      rcases c with ⟨ty, N, f | f | f | f⟩ | c | c
      · cases ty with
        | int => exact At.iald O (by rw [hdc, beq_iff_eq.mp hlen]; rfl) h1 h2.1 (hK _ _ _ h2.2)
        | _ => exact False.elim h2
      · cases ty <;> exact False.elim h2
      · cases ty <;> exact False.elim h2
      · cases ty <;> exact False.elim h2
      · exact False.elim h2
      · exact False.elim h2
    · exact hC _ _ _ hw
  case caload =>
    dsimp only at hw
    split at hw
    · rename_i z q st
      obtain ⟨c, h1, h2⟩ := hgK_iff hw
      rcases c with ⟨ty, N, f | f | f | f⟩ | c | c
      · cases ty with
        | char => exact At.cald O (by rw [hdc, beq_iff_eq.mp hlen]; rfl) h1 h2.1 (hK _ _ _ h2.2)
        | _ => exact False.elim h2
      · cases ty <;> exact False.elim h2
      · cases ty <;> exact False.elim h2
      · cases ty <;> exact False.elim h2
      · exact False.elim h2
      · exact False.elim h2
    · exact False.elim hw
  case laload =>
    dsimp only at hw
    split at hw
    · rename_i z q st
      obtain ⟨c, h1, h2⟩ := hgK_iff hw
      rcases c with ⟨ty, N, f | f | f | f⟩ | c | c
      · cases ty <;> exact False.elim h2
      · cases ty with
        | long => exact At.lald O (by rw [hdc, beq_iff_eq.mp hlen]; rfl) h1 h2.1 (hK _ _ _ h2.2)
        | _ => exact False.elim h2
      · cases ty <;> exact False.elim h2
      · cases ty <;> exact False.elim h2
      · exact False.elim h2
      · exact False.elim h2
    · exact False.elim hw
  case daload =>
    dsimp only at hw
    split at hw
    · rename_i z q st
      obtain ⟨c, h1, h2⟩ := hgK_iff hw
      rcases c with ⟨ty, N, f | f | f | f⟩ | c | c
      · cases ty <;> exact False.elim h2
      · cases ty <;> exact False.elim h2
      · cases ty with
        | double => exact At.dald O (by rw [hdc, beq_iff_eq.mp hlen]; rfl) h1 h2.1 (hK _ _ _ h2.2)
        | _ => exact False.elim h2
      · cases ty <;> exact False.elim h2
      · exact False.elim h2
      · exact False.elim h2
    · exact False.elim hw
  case baload =>
    dsimp only at hw
    split at hw
    · rename_i z q st
      obtain ⟨c, h1, h2⟩ := hgK_iff hw
      rcases c with ⟨ty, N, f | f | f | f⟩ | c | c
      · cases ty with
        | boolean => exact At.zald O (by rw [hdc, beq_iff_eq.mp hlen]; rfl) h1 h2.1 (hK _ _ _ h2.2)
        | byte => exact At.bald O (by rw [hdc, beq_iff_eq.mp hlen]; rfl) h1 h2.1 (hK _ _ _ h2.2)
        | _ => exact False.elim h2
      · cases ty <;> exact False.elim h2
      · cases ty <;> exact False.elim h2
      · cases ty <;> exact False.elim h2
      · exact False.elim h2
      · exact False.elim h2
    · exact hC _ _ _ hw
  case aaload =>
    dsimp only at hw
    split at hw
    · rename_i z q st
      obtain ⟨c, h1, h2⟩ := hgK_iff hw
      rcases c with ⟨ty, N, f | f | f | f⟩ | c | c
      · exact False.elim h2
      · exact False.elim h2
      · exact False.elim h2
      · have h2 : (match ty.isReference with | true => vp_in z N ∧ K ls (f z.toNatClampNeg :: st) h | false => False) := h2
        cases hr : ty.isReference with
        | false => rw [hr] at h2; exact False.elim h2
        | true =>
          rw [hr] at h2
          exact At.aald O hr (by rw [hdc, beq_iff_eq.mp hlen]; rfl) h1 h2.1 (hK _ _ _ h2.2)
      · exact False.elim h2
      · exact False.elim h2
    · exact hC _ _ _ hw
  case iastore =>
    dsimp only at hw
    split at hw
    · rename_i y z q st
      obtain ⟨c, h1, h2⟩ := hgK_iff hw
      rcases c with ⟨ty, N, f | f | f | f⟩ | c | c
      · cases ty with
        | int => exact At.iast O (by rw [hdc, beq_iff_eq.mp hlen]; rfl) h1 h2.1 (hK _ _ _ (hsK_iff h2.2))
        | _ => exact False.elim h2
      · cases ty <;> exact False.elim h2
      · cases ty <;> exact False.elim h2
      · cases ty <;> exact False.elim h2
      · exact False.elim h2
      · exact False.elim h2
    · exact False.elim hw
  case castore =>
    dsimp only at hw
    split at hw
    · rename_i y z q st
      obtain ⟨c, h1, h2⟩ := hgK_iff hw
      rcases c with ⟨ty, N, f | f | f | f⟩ | c | c
      · cases ty with
        | char => exact At.cast O (by rw [hdc, beq_iff_eq.mp hlen]; rfl) h1 h2.1 (hK _ _ _ (hsK_iff h2.2))
        | _ => exact False.elim h2
      · cases ty <;> exact False.elim h2
      · cases ty <;> exact False.elim h2
      · cases ty <;> exact False.elim h2
      · exact False.elim h2
      · exact False.elim h2
    · exact False.elim hw
  case lastore =>
    dsimp only at hw
    split at hw
    · rename_i y z q st
      obtain ⟨c, h1, h2⟩ := hgK_iff hw
      rcases c with ⟨ty, N, f | f | f | f⟩ | c | c
      · cases ty <;> exact False.elim h2
      · cases ty with
        | long => exact At.last O (by rw [hdc, beq_iff_eq.mp hlen]; rfl) h1 h2.1 (hK _ _ _ (hsK_iff h2.2))
        | _ => exact False.elim h2
      · cases ty <;> exact False.elim h2
      · cases ty <;> exact False.elim h2
      · exact False.elim h2
      · exact False.elim h2
    · exact False.elim hw
  case dastore =>
    dsimp only at hw
    split at hw
    · rename_i y z q st
      obtain ⟨c, h1, h2⟩ := hgK_iff hw
      rcases c with ⟨ty, N, f | f | f | f⟩ | c | c
      · cases ty <;> exact False.elim h2
      · cases ty <;> exact False.elim h2
      · cases ty with
        | double => exact At.dast O (by rw [hdc, beq_iff_eq.mp hlen]; rfl) h1 h2.1 (hK _ _ _ (hsK_iff h2.2))
        | _ => exact False.elim h2
      · cases ty <;> exact False.elim h2
      · exact False.elim h2
      · exact False.elim h2
    · exact False.elim hw
  case bastore =>
    dsimp only at hw
    split at hw
    · rename_i y z q st
      obtain ⟨c, h1, h2⟩ := hgK_iff hw
      rcases c with ⟨ty, N, f | f | f | f⟩ | c | c
      · cases ty with
        | boolean => exact At.zast O h2.2.1 (by rw [hdc, beq_iff_eq.mp hlen]; rfl) h1 h2.1 (hK _ _ _ (hsK_iff h2.2.2))
        | byte => exact At.bast O (by rw [hdc, beq_iff_eq.mp hlen]; rfl) h1 h2.1 (hK _ _ _ (hsK_iff h2.2))
        | _ => exact False.elim h2
      · cases ty <;> exact False.elim h2
      · cases ty <;> exact False.elim h2
      · cases ty <;> exact False.elim h2
      · exact False.elim h2
      · exact False.elim h2
    · exact False.elim hw
  case arraylength =>
    dsimp only at hw
    split at hw
    · rename_i q st
      obtain ⟨c, h1, h2⟩ := hgK_iff hw
      rcases c with ⟨ty, N, f⟩ | c | c
      · exact At.alen O (by rw [hdc, beq_iff_eq.mp hlen]; rfl) h1 (hK _ _ _ h2)
      · exact False.elim h2
      · exact False.elim h2
    · exact hC _ _ _ hw
  case ireturn =>
    dsimp only at hw
    split at hw
    · split at hw
      · exact hRK.1 _ _ _ _ .int (by rw [hdc, beq_iff_eq.mp hlen]; rfl) rfl rfl hw
      · obtain ⟨h1, h2⟩ := hw
        exact hRK.1 _ _ _ _ .boolean (by rw [hdc, beq_iff_eq.mp hlen]; rfl) rfl (by rcases h1 with rfl | rfl <;> rfl) h2
      · exact hRK.1 _ _ _ _ .char (by rw [hdc, beq_iff_eq.mp hlen]; rfl) rfl hw.1 hw.2
      · exact False.elim hw
    · exact False.elim hw
  case lreturn =>
    dsimp only at hw
    split at hw
    · split at hw
      · exact hRK.2.1 _ _ _ _ (by rw [hdc, beq_iff_eq.mp hlen]; rfl) rfl hw
      · exact False.elim hw
    · exact False.elim hw
  case areturn =>
    dsimp only at hw
    split at hw
    · rename_i v
      cases hr : isRf v with
      | false => rw [hr] at hw; exact False.elim hw
      | true =>
        rw [hr] at hw
        simp only at hw
        split at hw
        · exact hRK.2.2.1 _ _ _ _ _ (by rw [hdc, beq_iff_eq.mp hlen]; rfl) rfl (Or.inl ⟨_, rfl⟩) hr hw
        · exact hRK.2.2.1 _ _ _ _ _ (by rw [hdc, beq_iff_eq.mp hlen]; rfl) rfl (Or.inr ⟨_, rfl⟩) hr hw
        · exact False.elim hw
    · exact False.elim hw
  case return_ =>
    dsimp only at hw
    split at hw
    · split at hw
      · exact hRK.2.2.2 _ _ _ (by rw [hdc, beq_iff_eq.mp hlen]; rfl) rfl hw
      · exact False.elim hw
    · exact False.elim hw
  all_goals exact hC _ _ _ hw
theorem stI_K {mL : Nat} {i : Instr} {a b : Nat} {x : Int32} {C J K : LK} {ls : List (Nat × AV)} {st : List AV} {h : AHp} (hn : nonK i = true) (hw : stI R rt mL i a b x C J K ls st h) : stI R rt mL i a b x C J (fun _ _ _ => False) ls st h := by
  cases i <;> first
    | exact hw
    | cases hn
theorem wp_ok (O : OK γ (cn o) cc) (hin : ini = true → (cY γ).name = "<init>") (hRK : RK γ σ k n cc rt R) {code : List IE} {ct : List (Nat × List Nat)} {mL : Nat} (hmL : (cC γ).maxLocals = mL) (hcode : okL ini o cc code = true) :
    ∀ (f : Nat) (e : IE) (rest : List IE) (ls : List (Nat × AV)) (st : List AV) (h : AHp), okL ini o cc (e :: rest) = true → wp γ σ k n R rt mL ct code f (e :: rest) ls st h → At γ σ k n e.1 ls st h := by
  subst hmL
  intro f
  induction f with
  | zero => exact fun _ _ _ _ _ _ hw => False.elim hw
  | succ f ih =>
    intro e rest ls st h hok hw
    have hok2 := hok
    unfold okL at hok2
    simp only [Bool.and_eq_true] at hok2
    obtain ⟨⟨⟨hd, hx⟩, hnx⟩, hrest⟩ := hok2
    have hJ : (∃ off, (e.1 : Int) + off = (e.2.2.1 : Int)) → ∀ ls st h, (match ctK ct e.2.2.1 with | some ks => pkK ks ls (fun ls => At γ σ k n e.2.2.1 ls st h) | none => wp γ σ k n R rt (cC γ).maxLocals ct code f (seek code e.2.2.1) ls st h) → At γ σ k n e.2.2.1 ls st h := by
      intro _ ls st h hj
      cases hc : ctK ct e.2.2.1 with
      | some ks =>
        rw [hc] at hj
        obtain ⟨l2, h1, h2⟩ := pkK_iff hj
        exact At.drop h2 h1
      | none =>
        rw [hc] at hj
        obtain ⟨q1, q2⟩ := seek_ok (t := e.2.2.1) hcode
        cases hs : seek code e.2.2.1 with
        | nil =>
          have hj : wp γ σ k n R rt (cC γ).maxLocals ct code f (seek code e.2.2.1) ls st h := hj
          rw [hs] at hj
          cases f <;> exact False.elim hj
        | cons e2 l2 =>
          have hj : wp γ σ k n R rt (cC γ).maxLocals ct code f (seek code e.2.2.1) ls st h := hj
          rw [hs] at hj q1
          have := ih e2 l2 ls st h q1 hj
          rw [q2 e2 l2 hs] at this
          exact this
    cases hk : nonK e.2.1 with
    | true => exact stI_ok O hin hRK hd hx (fun _ _ _ h => h) hJ (fun _ _ _ h => False.elim h) (stI_K hk hw)
    | false =>
      refine stI_ok O hin hRK hd hx (fun _ _ _ h => h) hJ (fun ls st h hj => ?_) hw
      cases rest with
      | nil => exact False.elim hj
      | cons e2 l2 =>
        have he : e2.1 = e.1 + iln e.2.1 := by
          have h9 : (nonK e.2.1 || e2.1 == e.1 + iln e.2.1) = true := hnx
          rw [hk] at h9
          exact beq_iff_eq.mp h9
        rw [← he]
        have hj : (match ctK ct e2.1 with | some ks => pkK ks ls (fun ls => At γ σ k n e2.1 ls st h) | none => wp γ σ k n R rt (cC γ).maxLocals ct code f (e2 :: l2) ls st h) := hj
        cases hc : ctK ct e2.1 with
        | some ks =>
          rw [hc] at hj
          obtain ⟨l3, h1, h2⟩ := pkK_iff hj
          exact At.drop h2 h1
        | none =>
          rw [hc] at hj
          exact ih e2 l2 ls st h hrest hj
end SND
/-! ===== A METHOD'S BODY, as its proof has it ===== -/
/-- M with its instructions; the returns' predicate from Fin -/
def Bd (γ : CX) (σ : Nat → Nat → Nat) (ini : Bool) (M : MR) (d mc ms N0 : Nat) (Po : Out → AHp → Prop) : Prop :=
  OK γ (cn (mO M)) (mB M) ∧ Fin γ σ N0 mc ms (mZ M) Po ∧ (cC γ).maxLocals = mL M ∧ cR γ = rmD d mc ms ∧ (ini = true → (cY γ).name = "<init>")
def RF (k n mc ms : Nat) (Po : Out → AHp → Prop) : Option AV → AHp → Prop := fun v h => Po (.inl v) h ∧ k ≤ mc ∧ n ≤ ms
theorem RK_of {γ : CX} {σ : Nat → Nat → Nat} {own : String} {cc : ByteArray} {N0 mc ms k n : Nat} {rt : Option FieldType} {Po : Out → AHp → Prop} (O : OK γ own cc) (F : Fin γ σ N0 mc ms rt Po) : RK γ σ k n cc rt (RF k n mc ms Po) :=
  ⟨fun pc ls h x ty d hr hn hp => At.iret O F d hr hn hp.2.1 hp.2.2 (Or.inl rfl) hp.1, fun pc ls h x d hr hp => At.lret O F d hr hp.2.1 hp.2.2 (Or.inl rfl) hp.1,
   fun pc ls h v ty d hr ht hv hp => At.aret O F d hr ht (Or.inl hv) hp.2.1 hp.2.2 (Or.inl rfl) hp.1, fun pc ls h d hr hp => At.vret O F d hr hp.2.1 hp.2.2 (Or.inl rfl) hp.1⟩
/-- from a place of the code on -/
theorem Bd.run {γ : CX} {σ : Nat → Nat → Nat} {ini : Bool} {M : MR} {d mc ms N0 k n : Nat} {Po : Out → AHp → Prop} (B : Bd γ σ ini M d mc ms N0 Po) {code : List IE} (hc : okL ini (mO M) (mB M) code = true) (ct : List (Nat × List Nat)) (f : Nat) {pc : Nat} {ls : List (Nat × AV)} {st : List AV} {h : AHp}
    (hw : wp γ σ k n (RF k n mc ms Po) (mZ M) (mL M) ct code f (seek code pc) ls st h) : At γ σ k n pc ls st h := by
  obtain ⟨O, F, hml, hR, hin⟩ := B
  obtain ⟨q1, q2⟩ := seek_ok (t := pc) hc
  cases hs : seek code pc with
  | nil =>
    rw [hs] at hw
    cases f <;> exact False.elim hw
  | cons e l =>
    rw [hs] at hw q1
    have := wp_ok O hin (RK_of O F) hml hc f e l ls st h q1 hw
    rw [q2 e l hs] at this
    exact this
theorem Sp.of' {M : MR} {d mc ms : Nat} {args : List AV} {h : AHp} {Po : Out → AHp → Prop} (ini : Bool) (hi : ini = true → (mY M).name = "<init>") (hpl : plainName (mY M).cls = true) (hcls : (mY M).cls = cn (mO M)) (h2 : args.all (fun v => !(is2 v)) = true) (hlen : args.length ≤ mL M)
    (body : ∀ (γ : CX) (σ : Nat → Nat → Nat), Bd γ σ ini M d mc ms h.length Po → At γ σ 0 0 0 (avargs 0 args) [] h) : Sp d mc ms M args h Po :=
  Sp.of hpl hcls (fun v hv => by simpa using List.all_eq_true.mp h2 v hv) hlen fun γ σ O F hml hR hn => body γ σ ⟨O, F, hml, hR, fun z => hn.trans (hi z)⟩
end
section
/-! ===== decoding at a place, small ends, ghost stores ===== -/
theorem dcV {ini : Bool} {o : Nat} {cc : ByteArray} {l : List IE} (h : okL ini o cc l = true) {pc ix : Nat} (hd : dec_of l pc = some (.invokevirtual ix)) : decode cc pc = .ok (.invokevirtual ix, 3) := by
  obtain ⟨e, rfl, e2, h1, -⟩ := okL_dec h hd
  obtain ⟨len, h3, h4⟩ := okD_spec h1
  rw [e2] at h3 h4
  rw [h3, beq_iff_eq.mp h4]
theorem dcS {ini : Bool} {o : Nat} {cc : ByteArray} {l : List IE} (h : okL ini o cc l = true) {pc ix : Nat} (hd : dec_of l pc = some (.invokestatic ix)) : decode cc pc = .ok (.invokestatic ix, 3) := by
  obtain ⟨e, rfl, e2, h1, -⟩ := okL_dec h hd
  obtain ⟨len, h3, h4⟩ := okD_spec h1
  rw [e2] at h3 h4
  rw [h3, beq_iff_eq.mp h4]
theorem dcI {ini : Bool} {o : Nat} {cc : ByteArray} {l : List IE} (h : okL ini o cc l = true) {pc ix : Nat} (hd : dec_of l pc = some (.invokespecial ix)) : decode cc pc = .ok (.invokespecial ix, 3) := by
  obtain ⟨e, rfl, e2, h1, -⟩ := okL_dec h hd
  obtain ⟨len, h3, h4⟩ := okD_spec h1
  rw [e2] at h3 h4
  rw [h3, beq_iff_eq.mp h4]
theorem dcG {ini : Bool} {o : Nat} {cc : ByteArray} {l : List IE} (h : okL ini o cc l = true) {pc ix : Nat} (hd : dec_of l pc = some (.getstatic ix)) : decode cc pc = .ok (.getstatic ix, 3) := by
  obtain ⟨e, rfl, e2, h1, -⟩ := okL_dec h hd
  obtain ⟨len, h3, h4⟩ := okD_spec h1
  rw [e2] at h3 h4
  rw [h3, beq_iff_eq.mp h4]
theorem dcN {ini : Bool} {o : Nat} {cc : ByteArray} {l : List IE} (h : okL ini o cc l = true) {pc ix : Nat} (hd : dec_of l pc = some (.new ix)) : decode cc pc = .ok (.new ix, 3) := by
  obtain ⟨e, rfl, e2, h1, -⟩ := okL_dec h hd
  obtain ⟨len, h3, h4⟩ := okD_spec h1
  rw [e2] at h3 h4
  rw [h3, beq_iff_eq.mp h4]
theorem dcL {ini : Bool} {o : Nat} {cc : ByteArray} {l : List IE} (h : okL ini o cc l = true) {pc ix : Nat} (hd : dec_of l pc = some (.ldc ix)) : decode cc pc = .ok (.ldc ix, 2) := by
  obtain ⟨e, rfl, e2, h1, -⟩ := okL_dec h hd
  obtain ⟨len, h3, h4⟩ := okD_spec h1
  rw [e2] at h3 h4
  rw [h3, beq_iff_eq.mp h4]
theorem dcW {ini : Bool} {o : Nat} {cc : ByteArray} {l : List IE} (h : okL ini o cc l = true) {pc ix : Nat} (hd : dec_of l pc = some (.ldc_w ix)) : decode cc pc = .ok (.ldc_w ix, 3) := by
  obtain ⟨e, rfl, e2, h1, -⟩ := okL_dec h hd
  obtain ⟨len, h3, h4⟩ := okD_spec h1
  rw [e2] at h3 h4
  rw [h3, beq_iff_eq.mp h4]
theorem dcA {ini : Bool} {o : Nat} {cc : ByteArray} {l : List IE} (h : okL ini o cc l = true) {pc : Nat} {off : Int} (hd : dec_of l pc = some (.if_acmp .ne off)) : decode cc pc = .ok (.if_acmp .ne off, 3) := by
  obtain ⟨e, rfl, e2, h1, -⟩ := okL_dec h hd
  obtain ⟨len, h3, h4⟩ := okD_spec h1
  rw [e2] at h3 h4
  rw [h3, beq_iff_eq.mp h4]
theorem dc1 {ini : Bool} {o : Nat} {cc : ByteArray} {l : List IE} (h : okL ini o cc l = true) {pc : Nat} {i : Instr} (hd : dec_of l pc = some i) (hi : i = .dup ∨ i = .athrow) : decode cc pc = .ok (i, 1) := by
  obtain ⟨e, rfl, e2, h1, -⟩ := okL_dec h hd
  obtain ⟨len, h3, h4⟩ := okD_spec h1
  rw [e2] at h3 h4
  rcases hi with rfl | rfl <;> rw [h3, beq_iff_eq.mp h4] <;> rfl
def PoI (x : Int32) (h0 : AHp) : Out → AHp → Prop := fun o h => o = .inl (some (vI x)) ∧ h = h0
def PoV (h0 : AHp) : Out → AHp → Prop := fun o h => o = .inl none ∧ h = h0
theorem rI {mc ms : Nat} {x y : Int32} {h h0 : AHp} (e : x = y) (eh : h = h0 := by rfl) : RF 0 0 mc ms (PoI y h0) (some (vI x)) h := ⟨⟨by rw [e], eh⟩, Nat.zero_le _, Nat.zero_le _⟩
theorem rV {mc ms : Nat} {h h0 : AHp} (eh : h = h0 := by rfl) : RF 0 0 mc ms (PoV h0) none h := ⟨⟨rfl, eh⟩, Nat.zero_le _, Nat.zero_le _⟩
def b2 : Bool → Int32
  | true => 1
  | false => 0
theorem rT {mc ms : Nat} {b : Bool} {h h0 : AHp} (e : b = true) (eh : h = h0 := by rfl) : ((1 : Int32) = 0 ∨ (1 : Int32) = 1) ∧ RF 0 0 mc ms (PoI (b2 b) h0) (some (vI 1)) h := ⟨Or.inr rfl, rI (by rw [e]; rfl) eh⟩
theorem rFa {mc ms : Nat} {b : Bool} {h h0 : AHp} (e : b = false) (eh : h = h0 := by rfl) : ((0 : Int32) = 0 ∨ (0 : Int32) = 1) ∧ RF 0 0 mc ms (PoI (b2 b) h0) (some (vI 0)) h := ⟨Or.inl rfl, rI (by rw [e]; rfl) eh⟩
def sumI (f : Nat → Int32) : Nat → Int32
  | 0 => 0
  | n + 1 => sumI f n + f n
def ctB (p : Nat → Bool) : Nat → Nat
  | 0 => 0
  | n + 1 => ctB p n + (if p n = true then 1 else 0)
theorem ctB_le (p : Nat → Bool) : ∀ n, ctB p n ≤ n
  | 0 => Nat.le_refl _
  | n + 1 => by
    have := ctB_le p n
    unfold ctB
    split <;> omega
theorem le8 {a b : Nat} (h : a < b) (hb : b ≤ 8) : vp_in (nI a) 8 := vp_in_nI (by omega) (by decide)
theorem le16 {a b : Nat} (h : a < b) (hb : b ≤ 16) : vp_in (nI a) 16 := vp_in_nI (by omega) (by decide)
theorem le6 {a b : Nat} (h : a < b) (hb : b ≤ 6) : vp_in (nI a) 6 := vp_in_nI (by omega) (by decide)
theorem arrV_congr {cA : ClassId} {N : Nat} {f g : Nat → Value} (h : ∀ j, j < N → f j = g j) : arrV cA N f = arrV cA N g := by
  unfold arrV
  congr 1
  congr 1
  funext j
  exact h j.val j.isLt
/-- an int array is what stands within its length -/
theorem At.gho {γ : CX} {σ : Nat → Nat → Nat} {k n pc : Nat} {ls : List (Nat × AV)} {st : List AV} {h : AHp} (r o : Nat) {N : Nat} {ty : FieldType} {f : Nat → Int32} (f2 : Nat → Int32) (hg : hget h r o = some (.inl (ty, N, .inl f))) (he : ∀ j, j < N → f j = f2 j) (g : At γ σ k n pc ls st (hset h r o (.inl (ty, N, .inl f2)))) : At γ σ k n pc ls st h := fun η H locs lsA a b c => by
  refine g η H locs lsA (a.set hg rfl rfl ?_ fun _ _ => rfl) b c
  obtain ⟨cA, e1, e2, e3⟩ := a.1 r o _ hg
  exact ⟨cA, by rw [e1]; exact congrArg some (arrV_congr fun j hj => by show Value.int (f j) = Value.int (f2 j); rw [he j hj]), e2, e3⟩
theorem kmin : KM Lib.Math.min.name Lib.Math.min.code 2 := ⟨st_J9_min_7cf53, in_J9, cd_J9_min_7cf53⟩
theorem kmax : KM Lib.Math.max.name Lib.Math.max.code 2 := ⟨st_J9_max_7cf53, in_J9, cd_J9_max_7cf53⟩
theorem kabs : KM Lib.Math.abs.name Lib.Math.abs.code 1 := ⟨st_J9_abs_0f7a4, in_J9, cd_J9_abs_0f7a4⟩
theorem Bd.fit {γ : CX} {σ : Nat → Nat → Nat} {ini : Bool} {M : MR} {d mc ms N0 k n d2 mc2 ms2 : Nat} {Po : Out → AHp → Prop} (B : Bd γ σ ini M d mc ms N0 Po) (h1 : d2 < d) (h2 : k + mc2 ≤ mc) (h3 : n + ms2 ≤ ms) : Fit γ k n d2 mc2 ms2 := Fit.of B.2.2.2.1 h1 h2 h3
end
section
/-! ===== words of System.arraycopy ===== -/
theorem ac_X5 : Cond.methodLink RX5 35 arraycopyName ∈ GT := mT 462 (by decide +kernel) rfl
theorem ac_X1 : Cond.methodLink RX1 28 arraycopyName ∈ GT := mT 469 (by decide +kernel) rfl
theorem ac_X9 : Cond.methodLink RX9 25 arraycopyName ∈ GT := mT 474 (by decide +kernel) rfl
theorem ac_st : Cond.static arraycopyName ∈ GT := mT 463 (by decide +kernel) rfl
theorem ac_na : Cond.native arraycopyName ∈ GT := mT 464 (by decide +kernel) rfl
theorem ac_in : Cond.initialized "java/lang/System" ∈ GT := mT 24 (by decide +kernel) rfl
theorem cpy0 {f g : Nat → Int32} {N j : Nat} (hj : j < N) {m : Int32} (hm : m.toNatClampNeg = N) : va_cpy f g (0 : Int32).toNatClampNeg (0 : Int32).toNatClampNeg m.toNatClampNeg j = f j := by
  rw [hm]
  exact sb_cpy0 hj
end
section
/-! ===== calls of methods whose end is one value and one heap ===== -/
section ATQ
variable {γ : CX} {own : String} {cc : ByteArray} {σ : Nat → Nat → Nat} {k n pc : Nat} {ls : List (Nat × AV)} {st : List AV} {h hC hC2 : AHp} {mc2 ms2 d2 ix : Nat} {M : MR} {na : Nat}
theorem At.cVI (P : List Nat) (As rest : List AV) (O : OK γ own cc) {r o ci : Nat} {fs : List AV} {T : u_T} {N : Nat} {x : Int32} (S : Sp d2 mc2 ms2 M (vR r o :: As) hC (PoI x hC2)) (K : KV M na) (w : Cond.methodLink own ix (mY M) ∈ GT) (F : Fits P P hC h) (hf : Fit γ k n d2 mc2 ms2) (d : decode cc pc = .ok (.invokevirtual ix, 3))
    (g : At γ σ (k + mc2) (n + ms2) (pc + 3) ls (vI x :: rest) (plug P P hC2 h)) (hn : va_nd P = true := by rfl) (hg : hget hC r o = some (aO ci fs) := by rfl) (hc : vwCl[ci]? = some ((mY M).cls, T, N) := by rfl) (hna : As.length = na := by rfl) (hrw : wsum rest ≤ 8 := by exact Nat.le_of_ble_eq_true rfl) (hst : st = (As.map (ren P)).reverse ++ vR (rn P r) o :: rest := by rfl) (hl : hC2.length = hC.length := by rfl) : At γ σ k n pc ls st h :=
  At.callV O S K w hn F hg hc hna hf hrw d hst (fun v h2 hp => by
    obtain ⟨hv, rfl⟩ := hp
    cases hv
    exact ⟨hl, g⟩) (fun E h2 hp => by cases hp.1)
theorem At.cVV (P : List Nat) (As rest : List AV) (O : OK γ own cc) {r o ci : Nat} {fs : List AV} {T : u_T} {N : Nat} (S : Sp d2 mc2 ms2 M (vR r o :: As) hC (PoV hC2)) (K : KV M na) (w : Cond.methodLink own ix (mY M) ∈ GT) (F : Fits P P hC h) (hf : Fit γ k n d2 mc2 ms2) (d : decode cc pc = .ok (.invokevirtual ix, 3))
    (g : At γ σ (k + mc2) (n + ms2) (pc + 3) ls rest (plug P P hC2 h)) (hn : va_nd P = true := by rfl) (hg : hget hC r o = some (aO ci fs) := by rfl) (hc : vwCl[ci]? = some ((mY M).cls, T, N) := by rfl) (hna : As.length = na := by rfl) (hrw : wsum rest ≤ 8 := by exact Nat.le_of_ble_eq_true rfl) (hst : st = (As.map (ren P)).reverse ++ vR (rn P r) o :: rest := by rfl) (hl : hC2.length = hC.length := by rfl) : At γ σ k n pc ls st h :=
  At.callV O S K w hn F hg hc hna hf hrw d hst (fun v h2 hp => by
    obtain ⟨hv, rfl⟩ := hp
    cases hv
    exact ⟨hl, g⟩) (fun E h2 hp => by cases hp.1)
theorem At.cSI (P : List Nat) (As rest : List AV) (O : OK γ own cc) {x : Int32} (S : Sp d2 mc2 ms2 M As hC (PoI x hC2)) (K : KS M na) (w : Cond.methodLink own ix (mY M) ∈ GT) (F : Fits P P hC h) (hf : Fit γ k n d2 mc2 ms2) (d : decode cc pc = .ok (.invokestatic ix, 3))
    (g : At γ σ (k + mc2) (n + ms2) (pc + 3) ls (vI x :: rest) (plug P P hC2 h)) (hn : va_nd P = true := by rfl) (hna : As.length = na := by rfl) (hrw : wsum rest ≤ 8 := by exact Nat.le_of_ble_eq_true rfl) (hst : st = (As.map (ren P)).reverse ++ rest := by rfl) (hl : hC2.length = hC.length := by rfl) : At γ σ k n pc ls st h :=
  At.callS O S K w hn F hna hf hrw d hst (fun v h2 hp => by
    obtain ⟨hv, rfl⟩ := hp
    cases hv
    exact ⟨hl, g⟩) (fun E h2 hp => by cases hp.1)
theorem At.cNI (P : List Nat) (As rest : List AV) (O : OK γ own cc) {x : Int32} (S : Sp d2 mc2 ms2 M As hC (PoI x hC2)) (K : KS M na) (w : (own, ix, mY M) ∈ NWm) (F : Fits P P hC h) (hf : Fit γ k n d2 mc2 ms2) (d : decode cc pc = .ok (.invokestatic ix, 3))
    (g : At γ σ (k + mc2) (n + ms2) (pc + 3) ls (vI x :: rest) (plug P P hC2 h)) (hn : va_nd P = true := by rfl) (hna : As.length = na := by rfl) (hrw : wsum rest ≤ 8 := by exact Nat.le_of_ble_eq_true rfl) (hst : st = (As.map (ren P)).reverse ++ rest := by rfl) (hl : hC2.length = hC.length := by rfl) : At γ σ k n pc ls st h :=
  At.callSN O S K w hn F hna hf hrw d hst (fun v h2 hp => by
    obtain ⟨hv, rfl⟩ := hp
    cases hv
    exact ⟨hl, g⟩) (fun E h2 hp => by cases hp.1)
end ATQ
end
section
/-! ===== instructions of the methods of X5 (by program) ===== -/
def mX5_init : MR := (7, yX5_init, cX5_init, 1, none)
def iX5_init : List IE := [(0, .aload_n 0, 0, 0, 0), (1, .invokespecial 3, 0, 0, 0), (4, .aload_n 0, 0, 0, 0), (5, .bipush 8, 0, 0, 8), (7, .newarray .int, 0, 0, 0), (9, .putfield 9, 7, 1, 0), (12, .aload_n 0, 0, 0, 0), (13, .bipush 8, 0, 0, 8), (15, .newarray .int, 0, 0, 0), (17, .putfield 15, 7, 2, 0), (20, .aload_n 0, 0, 0, 0), (21, .bipush 8, 0, 0, 8), (23, .newarray .int, 0, 0, 0), (25, .putfield 18, 7, 3, 0), (28, .aload_n 0, 0, 0, 0), (29, .bipush 8, 0, 0, 8), (31, .newarray .int, 0, 0, 0), (33, .putfield 21, 7, 4, 0), (36, .aload_n 0, 0, 0, 0), (37, .bipush 8, 0, 0, 8), (39, .newarray .int, 0, 0, 0), (41, .putfield 24, 7, 5, 0), (44, .aload_n 0, 0, 0, 0), (45, .bipush 8, 0, 0, 8), (47, .newarray .boolean, 0, 0, 0), (49, .putfield 27, 7, 6, 0), (52, .return_, 0, 0, 0)]
theorem okX5_init : okL true 7 cX5_init iX5_init = true := by decide +kernel
theorem kX5_init : KI mX5_init 0 := ⟨⟨in_X5, cd_X5_init, ⟨by decide +kernel, by decide +kernel, by decide +kernel⟩, by decide⟩, im_X5_init, rfl, rfl⟩
def mX5_totalWater : MR := (7, yX5_totalWater, cX5_totalWater, 3, (some (.int)))
def iX5_totalWater : List IE := [(0, .iconst 0, 0, 0, 0), (1, .istore_n 1, 0, 0, 0), (2, .iconst 0, 0, 0, 0), (3, .istore_n 2, 0, 0, 0), (4, .iload_n 2, 0, 0, 0), (5, .aload_n 0, 0, 0, 0), (6, .getfield 31, 7, 0, 0), (9, .if_icmp .ge 18, 27, 0, 0), (12, .iload_n 1, 0, 0, 0), (13, .aload_n 0, 0, 0, 0), (14, .getfield 18, 7, 3, 0), (17, .iload_n 2, 0, 0, 0), (18, .iaload, 0, 0, 0), (19, .iadd, 0, 0, 0), (20, .istore_n 1, 0, 0, 0), (21, .iinc 2 1, 0, 0, 1), (24, .goto (-20), 4, 0, 0), (27, .iload_n 1, 0, 0, 0), (28, .ireturn, 0, 0, 0)]
theorem okX5_totalWater : okL false 7 cX5_totalWater iX5_totalWater = true := by decide +kernel
theorem kX5_totalWater : KV mX5_totalWater 0 := ⟨⟨in_X5, cd_X5_totalWater, ⟨by decide +kernel, by decide +kernel, by decide +kernel⟩, by decide⟩, im_X5_totalWater, se_X5_totalWater⟩
def mX5_canMove : MR := (7, yX5_canMove, cX5_canMove, 4, (some (.boolean)))
def iX5_canMove : List IE := [(0, .iload_n 1, 0, 0, 0), (1, .iload_n 2, 0, 0, 0), (2, .if_icmp .eq 34, 36, 0, 0), (5, .aload_n 0, 0, 0, 0), (6, .getfield 18, 7, 3, 0), (9, .iload_n 1, 0, 0, 0), (10, .iaload, 0, 0, 0), (11, .iload_n 3, 0, 0, 0), (12, .if_icmp .lt 24, 36, 0, 0), (15, .aload_n 0, 0, 0, 0), (16, .getfield 18, 7, 3, 0), (19, .iload_n 2, 0, 0, 0), (20, .iaload, 0, 0, 0), (21, .iload_n 3, 0, 0, 0), (22, .iadd, 0, 0, 0), (23, .aload_n 0, 0, 0, 0), (24, .getfield 15, 7, 2, 0), (27, .iload_n 2, 0, 0, 0), (28, .iaload, 0, 0, 0), (29, .if_icmp .gt 7, 36, 0, 0), (32, .iconst 1, 0, 0, 1), (33, .goto 4, 37, 0, 0), (36, .iconst 0, 0, 0, 0), (37, .ireturn, 0, 0, 0)]
theorem okX5_canMove : okL false 7 cX5_canMove iX5_canMove = true := by decide +kernel
theorem kX5_canMove : KV mX5_canMove 3 := ⟨⟨in_X5, cd_X5_canMove, ⟨by decide +kernel, by decide +kernel, by decide +kernel⟩, by decide⟩, im_X5_canMove, se_X5_canMove⟩
def mX5_copyFrom : MR := (7, yX5_copyFrom, cX5_copyFrom, 2, none)
def iX5_copyFrom : List IE := [(0, .aload_n 0, 0, 0, 0), (1, .aload_n 1, 0, 0, 0), (2, .getfield 31, 7, 0, 0), (5, .putfield 31, 7, 0, 0), (8, .aload_n 1, 0, 0, 0), (9, .getfield 9, 7, 1, 0), (12, .iconst 0, 0, 0, 0), (13, .aload_n 0, 0, 0, 0), (14, .getfield 9, 7, 1, 0), (17, .iconst 0, 0, 0, 0), (18, .bipush 8, 0, 0, 8), (20, .invokestatic 35, 0, 0, 0), (23, .aload_n 1, 0, 0, 0), (24, .getfield 15, 7, 2, 0), (27, .iconst 0, 0, 0, 0), (28, .aload_n 0, 0, 0, 0), (29, .getfield 15, 7, 2, 0), (32, .iconst 0, 0, 0, 0), (33, .bipush 8, 0, 0, 8), (35, .invokestatic 35, 0, 0, 0), (38, .aload_n 1, 0, 0, 0), (39, .getfield 18, 7, 3, 0), (42, .iconst 0, 0, 0, 0), (43, .aload_n 0, 0, 0, 0), (44, .getfield 18, 7, 3, 0), (47, .iconst 0, 0, 0, 0), (48, .bipush 8, 0, 0, 8), (50, .invokestatic 35, 0, 0, 0), (53, .aload_n 1, 0, 0, 0), (54, .getfield 21, 7, 4, 0), (57, .iconst 0, 0, 0, 0), (58, .aload_n 0, 0, 0, 0), (59, .getfield 21, 7, 4, 0), (62, .iconst 0, 0, 0, 0), (63, .bipush 8, 0, 0, 8), (65, .invokestatic 35, 0, 0, 0), (68, .aload_n 1, 0, 0, 0), (69, .getfield 24, 7, 5, 0), (72, .iconst 0, 0, 0, 0), (73, .aload_n 0, 0, 0, 0), (74, .getfield 24, 7, 5, 0), (77, .iconst 0, 0, 0, 0), (78, .bipush 8, 0, 0, 8), (80, .invokestatic 35, 0, 0, 0), (83, .return_, 0, 0, 0)]
theorem okX5_copyFrom : okL false 7 cX5_copyFrom iX5_copyFrom = true := by decide +kernel
theorem kX5_copyFrom : KV mX5_copyFrom 1 := ⟨⟨in_X5, cd_X5_copyFrom, ⟨by decide +kernel, by decide +kernel, by decide +kernel⟩, by decide⟩, im_X5_copyFrom, se_X5_copyFrom⟩
def mX5_move : MR := (7, yX5_move, cX5_move, 4, none)
def iX5_move : List IE := [(0, .aload_n 0, 0, 0, 0), (1, .getfield 18, 7, 3, 0), (4, .iload_n 1, 0, 0, 0), (5, .dup2, 0, 0, 0), (6, .iaload, 0, 0, 0), (7, .iload_n 3, 0, 0, 0), (8, .isub, 0, 0, 0), (9, .iastore, 0, 0, 0), (10, .aload_n 0, 0, 0, 0), (11, .getfield 18, 7, 3, 0), (14, .iload_n 2, 0, 0, 0), (15, .dup2, 0, 0, 0), (16, .iaload, 0, 0, 0), (17, .iload_n 3, 0, 0, 0), (18, .iadd, 0, 0, 0), (19, .iastore, 0, 0, 0), (20, .return_, 0, 0, 0)]
theorem okX5_move : okL false 7 cX5_move iX5_move = true := by decide +kernel
theorem kX5_move : KV mX5_move 3 := ⟨⟨in_X5, cd_X5_move, ⟨by decide +kernel, by decide +kernel, by decide +kernel⟩, by decide⟩, im_X5_move, se_X5_move⟩
def mX5_overflows : MR := (7, yX5_overflows, cX5_overflows, 2, (some (.boolean)))
def iX5_overflows : List IE := [(0, .iconst 0, 0, 0, 0), (1, .istore_n 1, 0, 0, 0), (2, .iload_n 1, 0, 0, 0), (3, .aload_n 0, 0, 0, 0), (4, .getfield 31, 7, 0, 0), (7, .if_icmp .ge 26, 33, 0, 0), (10, .aload_n 0, 0, 0, 0), (11, .getfield 18, 7, 3, 0), (14, .iload_n 1, 0, 0, 0), (15, .iaload, 0, 0, 0), (16, .aload_n 0, 0, 0, 0), (17, .getfield 15, 7, 2, 0), (20, .iload_n 1, 0, 0, 0), (21, .iaload, 0, 0, 0), (22, .if_icmp .le 5, 27, 0, 0), (25, .iconst 1, 0, 0, 1), (26, .ireturn, 0, 0, 0), (27, .iinc 1 1, 0, 0, 1), (30, .goto (-28), 2, 0, 0), (33, .iconst 0, 0, 0, 0), (34, .ireturn, 0, 0, 0)]
theorem okX5_overflows : okL false 7 cX5_overflows iX5_overflows = true := by decide +kernel
theorem kX5_overflows : KV mX5_overflows 0 := ⟨⟨in_X5, cd_X5_overflows, ⟨by decide +kernel, by decide +kernel, by decide +kernel⟩, by decide⟩, im_X5_overflows, se_X5_overflows⟩
def mX5_add : MR := (7, yX5_add, cX5_add, 4, (some (.int)))
def iX5_add : List IE := [(0, .aload_n 0, 0, 0, 0), (1, .getfield 31, 7, 0, 0), (4, .istore_n 3, 0, 0, 0), (5, .aload_n 0, 0, 0, 0), (6, .getfield 9, 7, 1, 0), (9, .iload_n 3, 0, 0, 0), (10, .iload_n 1, 0, 0, 0), (11, .iastore, 0, 0, 0), (12, .aload_n 0, 0, 0, 0), (13, .getfield 15, 7, 2, 0), (16, .iload_n 3, 0, 0, 0), (17, .iload_n 2, 0, 0, 0), (18, .iastore, 0, 0, 0), (19, .aload_n 0, 0, 0, 0), (20, .getfield 18, 7, 3, 0), (23, .iload_n 3, 0, 0, 0), (24, .iconst 0, 0, 0, 0), (25, .iastore, 0, 0, 0), (26, .aload_n 0, 0, 0, 0), (27, .getfield 21, 7, 4, 0), (30, .iload_n 3, 0, 0, 0), (31, .iconst 0, 0, 0, 0), (32, .iastore, 0, 0, 0), (33, .aload_n 0, 0, 0, 0), (34, .getfield 24, 7, 5, 0), (37, .iload_n 3, 0, 0, 0), (38, .iconst 5, 0, 0, 5), (39, .iastore, 0, 0, 0), (40, .aload_n 0, 0, 0, 0), (41, .dup, 0, 0, 0), (42, .getfield 31, 7, 0, 0), (45, .iconst 1, 0, 0, 1), (46, .iadd, 0, 0, 0), (47, .putfield 31, 7, 0, 0), (50, .iload_n 3, 0, 0, 0), (51, .ireturn, 0, 0, 0)]
theorem okX5_add : okL false 7 cX5_add iX5_add = true := by decide +kernel
theorem kX5_add : KV mX5_add 2 := ⟨⟨in_X5, cd_X5_add, ⟨by decide +kernel, by decide +kernel, by decide +kernel⟩, by decide⟩, im_X5_add, se_X5_add⟩
def mX5_has : MR := (7, yX5_has, cX5_has, 2, (some (.boolean)))
def iX5_has : List IE := [(0, .iload_n 1, 0, 0, 0), (1, .ifCond .lt 15, 16, 0, 0), (4, .iload_n 1, 0, 0, 0), (5, .aload_n 0, 0, 0, 0), (6, .getfield 31, 7, 0, 0), (9, .if_icmp .ge 7, 16, 0, 0), (12, .iconst 1, 0, 0, 1), (13, .goto 4, 17, 0, 0), (16, .iconst 0, 0, 0, 0), (17, .ireturn, 0, 0, 0)]
theorem okX5_has : okL false 7 cX5_has iX5_has = true := by decide +kernel
theorem kX5_has : KV mX5_has 1 := ⟨⟨in_X5, cd_X5_has, ⟨by decide +kernel, by decide +kernel, by decide +kernel⟩, by decide⟩, im_X5_has, se_X5_has⟩
def mX5_takeInLeaks : MR := (7, yX5_takeInLeaks, cX5_takeInLeaks, 2, none)
def iX5_takeInLeaks : List IE := [(0, .iconst 0, 0, 0, 0), (1, .istore_n 1, 0, 0, 0), (2, .iload_n 1, 0, 0, 0), (3, .aload_n 0, 0, 0, 0), (4, .getfield 31, 7, 0, 0), (7, .if_icmp .ge 37, 44, 0, 0), (10, .aload_n 0, 0, 0, 0), (11, .getfield 18, 7, 3, 0), (14, .iload_n 1, 0, 0, 0), (15, .aload_n 0, 0, 0, 0), (16, .getfield 18, 7, 3, 0), (19, .iload_n 1, 0, 0, 0), (20, .iaload, 0, 0, 0), (21, .aload_n 0, 0, 0, 0), (22, .getfield 21, 7, 4, 0), (25, .iload_n 1, 0, 0, 0), (26, .iaload, 0, 0, 0), (27, .iadd, 0, 0, 0), (28, .aload_n 0, 0, 0, 0), (29, .getfield 15, 7, 2, 0), (32, .iload_n 1, 0, 0, 0), (33, .iaload, 0, 0, 0), (34, .invokestatic 41, 0, 0, 0), (37, .iastore, 0, 0, 0), (38, .iinc 1 1, 0, 0, 1), (41, .goto (-39), 2, 0, 0), (44, .return_, 0, 0, 0)]
theorem okX5_takeInLeaks : okL false 7 cX5_takeInLeaks iX5_takeInLeaks = true := by decide +kernel
theorem kX5_takeInLeaks : KV mX5_takeInLeaks 0 := ⟨⟨in_X5, cd_X5_takeInLeaks, ⟨by decide +kernel, by decide +kernel, by decide +kernel⟩, by decide⟩, im_X5_takeInLeaks, se_X5_takeInLeaks⟩
def mX5_pumpOut : MR := (7, yX5_pumpOut, cX5_pumpOut, 5, (some (.int)))
def iX5_pumpOut : List IE := [(0, .iconst 0, 0, 0, 0), (1, .istore_n 2, 0, 0, 0), (2, .iload_n 2, 0, 0, 0), (3, .aload_n 0, 0, 0, 0), (4, .getfield 31, 7, 0, 0), (7, .if_icmp .ge 21, 28, 0, 0), (10, .aload_n 0, 0, 0, 0), (11, .getfield 27, 7, 6, 0), (14, .iload_n 2, 0, 0, 0), (15, .aload_n 0, 0, 0, 0), (16, .iload_n 2, 0, 0, 0), (17, .iload_n 1, 0, 0, 0), (18, .invokevirtual 59, 0, 0, 0), (21, .bastore, 0, 0, 0), (22, .iinc 2 1, 0, 0, 1), (25, .goto (-23), 2, 0, 0), (28, .iconst 0, 0, 0, 0), (29, .istore_n 2, 0, 0, 0), (30, .iconst 0, 0, 0, 0), (31, .istore_n 3, 0, 0, 0), (32, .iload_n 3, 0, 0, 0), (33, .aload_n 0, 0, 0, 0), (34, .getfield 31, 7, 0, 0), (37, .if_icmp .ge 51, 88, 0, 0), (40, .aload_n 0, 0, 0, 0), (41, .getfield 27, 7, 6, 0), (44, .iload_n 3, 0, 0, 0), (45, .baload, 0, 0, 0), (46, .ifCond .eq 36, 82, 0, 0), (49, .aload_n 0, 0, 0, 0), (50, .getfield 24, 7, 5, 0), (53, .iload_n 3, 0, 0, 0), (54, .iaload, 0, 0, 0), (55, .aload_n 0, 0, 0, 0), (56, .getfield 18, 7, 3, 0), (59, .iload_n 3, 0, 0, 0), (60, .iaload, 0, 0, 0), (61, .invokestatic 41, 0, 0, 0), (64, .istore 4, 0, 0, 0), (66, .aload_n 0, 0, 0, 0), (67, .getfield 18, 7, 3, 0), (70, .iload_n 3, 0, 0, 0), (71, .dup2, 0, 0, 0), (72, .iaload, 0, 0, 0), (73, .iload 4, 0, 0, 0), (75, .isub, 0, 0, 0), (76, .iastore, 0, 0, 0), (77, .iload_n 2, 0, 0, 0), (78, .iload 4, 0, 0, 0), (80, .iadd, 0, 0, 0), (81, .istore_n 2, 0, 0, 0), (82, .iinc 3 1, 0, 0, 1), (85, .goto (-53), 32, 0, 0), (88, .iload_n 2, 0, 0, 0), (89, .ireturn, 0, 0, 0)]
theorem okX5_pumpOut : okL false 7 cX5_pumpOut iX5_pumpOut = true := by decide +kernel
theorem kX5_pumpOut : KV mX5_pumpOut 1 := ⟨⟨in_X5, cd_X5_pumpOut, ⟨by decide +kernel, by decide +kernel, by decide +kernel⟩, by decide⟩, im_X5_pumpOut, se_X5_pumpOut⟩
def mX5_hasPower : MR := (7, yX5_hasPower, cX5_hasPower, 3, (some (.boolean)))
def iX5_hasPower : List IE := [(0, .aload_n 0, 0, 0, 0), (1, .iload_n 1, 0, 0, 0), (2, .invokevirtual 47, 0, 0, 0), (5, .ifCond .eq 16, 21, 0, 0), (8, .aload_n 0, 0, 0, 0), (9, .iload_n 1, 0, 0, 0), (10, .invokevirtual 55, 0, 0, 0), (13, .iload_n 2, 0, 0, 0), (14, .if_icmp .ge 7, 21, 0, 0), (17, .iconst 1, 0, 0, 1), (18, .goto 4, 22, 0, 0), (21, .iconst 0, 0, 0, 0), (22, .ireturn, 0, 0, 0)]
theorem okX5_hasPower : okL false 7 cX5_hasPower iX5_hasPower = true := by decide +kernel
theorem kX5_hasPower : KV mX5_hasPower 2 := ⟨⟨in_X5, cd_X5_hasPower, ⟨by decide +kernel, by decide +kernel, by decide +kernel⟩, by decide⟩, im_X5_hasPower, se_X5_hasPower⟩
def mX5_canPump : MR := (7, yX5_canPump, cX5_canPump, 2, (some (.boolean)))
def iX5_canPump : List IE := [(0, .aload_n 0, 0, 0, 0), (1, .getfield 24, 7, 5, 0), (4, .iload_n 1, 0, 0, 0), (5, .iaload, 0, 0, 0), (6, .ifCond .le 16, 22, 0, 0), (9, .aload_n 0, 0, 0, 0), (10, .getfield 18, 7, 3, 0), (13, .iload_n 1, 0, 0, 0), (14, .iaload, 0, 0, 0), (15, .ifCond .le 7, 22, 0, 0), (18, .iconst 1, 0, 0, 1), (19, .goto 4, 23, 0, 0), (22, .iconst 0, 0, 0, 0), (23, .ireturn, 0, 0, 0)]
theorem okX5_canPump : okL false 7 cX5_canPump iX5_canPump = true := by decide +kernel
theorem kX5_canPump : KV mX5_canPump 1 := ⟨⟨in_X5, cd_X5_canPump, ⟨by decide +kernel, by decide +kernel, by decide +kernel⟩, by decide⟩, im_X5_canPump, se_X5_canPump⟩
def mX5_pumpRank : MR := (7, yX5_pumpRank, cX5_pumpRank, 4, (some (.int)))
def iX5_pumpRank : List IE := [(0, .iconst 0, 0, 0, 0), (1, .istore_n 2, 0, 0, 0), (2, .iconst 0, 0, 0, 0), (3, .istore_n 3, 0, 0, 0), (4, .iload_n 3, 0, 0, 0), (5, .aload_n 0, 0, 0, 0), (6, .getfield 31, 7, 0, 0), (9, .if_icmp .ge 29, 38, 0, 0), (12, .aload_n 0, 0, 0, 0), (13, .iload_n 3, 0, 0, 0), (14, .invokevirtual 47, 0, 0, 0), (17, .ifCond .eq 15, 32, 0, 0), (20, .aload_n 0, 0, 0, 0), (21, .iload_n 3, 0, 0, 0), (22, .iload_n 1, 0, 0, 0), (23, .invokevirtual 51, 0, 0, 0), (26, .ifCond .eq 6, 32, 0, 0), (29, .iinc 2 1, 0, 0, 1), (32, .iinc 3 1, 0, 0, 1), (35, .goto (-31), 4, 0, 0), (38, .iload_n 2, 0, 0, 0), (39, .ireturn, 0, 0, 0)]
theorem okX5_pumpRank : okL false 7 cX5_pumpRank iX5_pumpRank = true := by decide +kernel
theorem kX5_pumpRank : KV mX5_pumpRank 1 := ⟨⟨in_X5, cd_X5_pumpRank, ⟨by decide +kernel, by decide +kernel, by decide +kernel⟩, by decide⟩, im_X5_pumpRank, se_X5_pumpRank⟩
def mX5_pumpsBefore : MR := (7, yX5_pumpsBefore, cX5_pumpsBefore, 3, (some (.boolean)))
def iX5_pumpsBefore : List IE := [(0, .aload_n 0, 0, 0, 0), (1, .getfield 18, 7, 3, 0), (4, .iload_n 1, 0, 0, 0), (5, .iaload, 0, 0, 0), (6, .aload_n 0, 0, 0, 0), (7, .getfield 18, 7, 3, 0), (10, .iload_n 2, 0, 0, 0), (11, .iaload, 0, 0, 0), (12, .if_icmp .gt 23, 35, 0, 0), (15, .aload_n 0, 0, 0, 0), (16, .getfield 18, 7, 3, 0), (19, .iload_n 1, 0, 0, 0), (20, .iaload, 0, 0, 0), (21, .aload_n 0, 0, 0, 0), (22, .getfield 18, 7, 3, 0), (25, .iload_n 2, 0, 0, 0), (26, .iaload, 0, 0, 0), (27, .if_icmp .ne 12, 39, 0, 0), (30, .iload_n 1, 0, 0, 0), (31, .iload_n 2, 0, 0, 0), (32, .if_icmp .ge 7, 39, 0, 0), (35, .iconst 1, 0, 0, 1), (36, .goto 4, 40, 0, 0), (39, .iconst 0, 0, 0, 0), (40, .ireturn, 0, 0, 0)]
theorem okX5_pumpsBefore : okL false 7 cX5_pumpsBefore iX5_pumpsBefore = true := by decide +kernel
theorem kX5_pumpsBefore : KV mX5_pumpsBefore 2 := ⟨⟨in_X5, cd_X5_pumpsBefore, ⟨by decide +kernel, by decide +kernel, by decide +kernel⟩, by decide⟩, im_X5_pumpsBefore, se_X5_pumpsBefore⟩
def mX5_totalCapacity : MR := (7, yX5_totalCapacity, cX5_totalCapacity, 3, (some (.int)))
def iX5_totalCapacity : List IE := [(0, .iconst 0, 0, 0, 0), (1, .istore_n 1, 0, 0, 0), (2, .iconst 0, 0, 0, 0), (3, .istore_n 2, 0, 0, 0), (4, .iload_n 2, 0, 0, 0), (5, .aload_n 0, 0, 0, 0), (6, .getfield 31, 7, 0, 0), (9, .if_icmp .ge 18, 27, 0, 0), (12, .iload_n 1, 0, 0, 0), (13, .aload_n 0, 0, 0, 0), (14, .getfield 15, 7, 2, 0), (17, .iload_n 2, 0, 0, 0), (18, .iaload, 0, 0, 0), (19, .iadd, 0, 0, 0), (20, .istore_n 1, 0, 0, 0), (21, .iinc 2 1, 0, 0, 1), (24, .goto (-20), 4, 0, 0), (27, .iload_n 1, 0, 0, 0), (28, .ireturn, 0, 0, 0)]
theorem okX5_totalCapacity : okL false 7 cX5_totalCapacity iX5_totalCapacity = true := by decide +kernel
theorem kX5_totalCapacity : KV mX5_totalCapacity 0 := ⟨⟨in_X5, cd_X5_totalCapacity, ⟨by decide +kernel, by decide +kernel, by decide +kernel⟩, by decide⟩, im_X5_totalCapacity, se_X5_totalCapacity⟩
end
section
/-! ===== Hold ===== -/
/-- count, arm, capacity, water, leak, pump, running -/
def rH (r : Nat) (c : Int32) (ar cp w l u g : Nat → Int32) : List ACell := [aO 7 [vI c, vR r 1, vR r 2, vR r 3, vR r 4, vR r 5, vR r 6], aI 8 ar, aI 8 cp, aI 8 w, aI 8 l, aI 8 u, .inl (.boolean, 8, .inl g)]
theorem s_has (c : Nat) (hc : c ≤ 8) (ar cp w l u g : Nat → Int32) (x : Int32) : Sp 0 0 0 mX5_has [vR 0 0, vI x] [rH 0 (nI c) ar cp w l u g]
    (PoI (if x < 0 then 0 else if nI c ≤ x then 0 else 1) [rH 0 (nI c) ar cp w l u g]) := by
  refine Sp.of' false (fun h => by cases h) (by decide) rfl rfl (Nat.le_of_ble_eq_true rfl) fun γ σ B => ?_
  refine B.run okX5_has [] 60 ?_
  constructor
  · intro h1
    exact ⟨Or.inl rfl, ⟨by rw [if_pos h1], rfl⟩, Nat.le_refl _, Nat.le_refl _⟩
  · intro h1
    constructor
    · intro h2
      exact ⟨Or.inl rfl, ⟨by rw [if_neg h1, if_pos h2], rfl⟩, Nat.le_refl _, Nat.le_refl _⟩
    · intro h2
      exact ⟨Or.inr rfl, ⟨by rw [if_neg h1, if_neg h2], rfl⟩, Nat.le_refl _, Nat.le_refl _⟩
theorem s_canMove (c : Int32) (ar cp w l u g : Nat → Int32) (s t a : Int32) (hs : vp_in s 8) (ht : vp_in t 8) : Sp 0 0 0 mX5_canMove [vR 0 0, vI s, vI t, vI a] [rH 0 c ar cp w l u g]
    (PoI (if s = t then 0 else if w s.toNatClampNeg < a then 0 else if w t.toNatClampNeg + a ≤ cp t.toNatClampNeg then 1 else 0) [rH 0 c ar cp w l u g]) := by
  refine Sp.of' false (fun h => by cases h) (by decide) rfl rfl (Nat.le_of_ble_eq_true rfl) fun γ σ B => ?_
  refine B.run okX5_canMove [] 60 ?_
  constructor
  · intro h1
    exact ⟨Or.inl rfl, ⟨by rw [if_pos h1], rfl⟩, Nat.le_refl _, Nat.le_refl _⟩
  · intro h1
    refine ⟨hs, ?_⟩
    constructor
    · intro h2
      exact ⟨Or.inl rfl, ⟨by rw [if_neg h1, if_pos h2], rfl⟩, Nat.le_refl _, Nat.le_refl _⟩
    · intro h2
      refine ⟨ht, ht, ?_⟩
      constructor
      · intro h3
        exact ⟨Or.inl rfl, ⟨by rw [if_neg h1, if_neg h2, if_neg (Int32.not_le.mpr h3)], rfl⟩, Nat.le_refl _, Nat.le_refl _⟩
      · intro h3
        exact ⟨Or.inr rfl, ⟨by rw [if_neg h1, if_neg h2, if_pos (Int32.not_lt.mp h3)], rfl⟩, Nat.le_refl _, Nat.le_refl _⟩
theorem s_totalWater (c : Nat) (hc : c ≤ 8) (ar cp w l u g : Nat → Int32) : Sp 0 0 0 mX5_totalWater [vR 0 0] [rH 0 (nI c) ar cp w l u g] (PoI (sumI w c) [rH 0 (nI c) ar cp w l u g]) := by
  refine Sp.of' false (fun h => by cases h) (by decide) rfl rfl (Nat.le_of_ble_eq_true rfl) fun γ σ B => ?_
  have loop : ∀ (m i : Nat), i + m = c → At γ σ 0 0 4 [(0, vR 0 0), (1, vI (sumI w i)), (2, vI (nI i))] [] [rH 0 (nI c) ar cp w l u g] := by
    intro m
    induction m with
    | zero =>
      intro i hi
      have hi : i = c := by omega
      subst hi
      refine B.run okX5_totalWater [(4, [0, 1, 2])] 60 ?_
      constructor
      · intro _
        exact ⟨⟨rfl, rfl⟩, Nat.le_refl _, Nat.le_refl _⟩
      · intro h
        exact absurd (nI_le (Nat.le_refl _) (by omega)) h
    | succ m ih =>
      intro i hi
      refine B.run okX5_totalWater [(4, [0, 1, 2])] 60 ?_
      constructor
      · intro h
        exact absurd h (nI_ge (by omega) (by omega))
      · intro _
        refine ⟨le8 (by omega) hc, ?_⟩
        show At γ σ 0 0 4 _ _ _
        have := ih (i + 1) (by omega)
        rw [nI_clamp (by omega), nI_1]
        exact this
  refine B.run okX5_totalWater [(4, [0, 1, 2])] 60 ?_
  exact loop c 0 (by omega)
theorem s_totalCapacity (c : Nat) (hc : c ≤ 8) (ar cp w l u g : Nat → Int32) : Sp 0 0 0 mX5_totalCapacity [vR 0 0] [rH 0 (nI c) ar cp w l u g] (PoI (sumI cp c) [rH 0 (nI c) ar cp w l u g]) := by
  refine Sp.of' false (fun h => by cases h) (by decide) rfl rfl (Nat.le_of_ble_eq_true rfl) fun γ σ B => ?_
  have loop : ∀ (m i : Nat), i + m = c → At γ σ 0 0 4 [(0, vR 0 0), (1, vI (sumI cp i)), (2, vI (nI i))] [] [rH 0 (nI c) ar cp w l u g] := by
    intro m
    induction m with
    | zero =>
      intro i hi
      have hi : i = c := by omega
      subst hi
      refine B.run okX5_totalCapacity [(4, [0, 1, 2])] 60 ?_
      constructor
      · intro _
        exact rI rfl
      · intro h
        exact absurd (nI_le (Nat.le_refl _) (by omega)) h
    | succ m ih =>
      intro i hi
      refine B.run okX5_totalCapacity [(4, [0, 1, 2])] 60 ?_
      constructor
      · intro h
        exact absurd h (nI_ge (by omega) (by omega))
      · intro _
        refine ⟨le8 (by omega) hc, ?_⟩
        show At γ σ 0 0 4 _ _ _
        have := ih (i + 1) (by omega)
        rw [nI_clamp (by omega), nI_1]
        exact this
  refine B.run okX5_totalCapacity [(4, [0, 1, 2])] 60 ?_
  exact loop c 0 (by omega)
/-- some compartment below c holds more than its capacity -/
def ovB (cp w : Nat → Int32) : Nat → Bool
  | 0 => false
  | n + 1 => ovB cp w n || decide (cp n < w n)
theorem s_overflows (c : Nat) (hc : c ≤ 8) (ar cp w l u g : Nat → Int32) : Sp 0 0 0 mX5_overflows [vR 0 0] [rH 0 (nI c) ar cp w l u g] (PoI (b2 (ovB cp w c)) [rH 0 (nI c) ar cp w l u g]) := by
  refine Sp.of' false (fun h => by cases h) (by decide) rfl rfl (Nat.le_of_ble_eq_true rfl) fun γ σ B => ?_
  have mono : ∀ (m i : Nat), ovB cp w i = true → ovB cp w (i + m) = true := by
    intro m
    induction m with
    | zero => intro i h; exact h
    | succ m ih =>
      intro i h
      show (ovB cp w (i + m) || _) = true
      rw [ih i h]; rfl
  have loop : ∀ (m i : Nat), i + m = c → ovB cp w i = false → At γ σ 0 0 2 [(0, vR 0 0), (1, vI (nI i))] [] [rH 0 (nI c) ar cp w l u g] := by
    intro m
    induction m with
    | zero =>
      intro i hi ho
      have hi : i = c := by omega
      subst hi
      refine B.run okX5_overflows [(2, [0, 1])] 60 ?_
      constructor
      · intro _
        exact rFa ho
      · intro h
        exact absurd (nI_le (Nat.le_refl _) (by omega)) h
    | succ m ih =>
      intro i hi ho
      refine B.run okX5_overflows [(2, [0, 1])] 60 ?_
      constructor
      · intro h
        exact absurd h (nI_ge (by omega) (by omega))
      · intro _
        refine ⟨le8 (by omega) hc, le8 (by omega) hc, ?_⟩
        constructor
        · intro h
          rw [nI_clamp (by omega)] at h
          show At γ σ 0 0 2 _ _ _
          rw [nI_1]
          exact ih (i + 1) (by omega) (by
            show (ovB cp w i || _) = false
            rw [ho, decide_eq_false (Int32.not_lt.mpr h)]; rfl)
        · intro h
          rw [nI_clamp (by omega)] at h
          refine rT ?_
          have := mono m (i + 1) (by
            show (ovB cp w i || _) = true
            rw [decide_eq_true (Int32.not_le.mp h)]; simp)
          rw [← this]; congr 1; omega
  refine B.run okX5_overflows [(2, [0, 1])] 60 ?_
  exact loop c 0 (by omega) rfl
/-- a compartment's pump has a rate and water -/
def cpB (u w : Nat → Int32) (i : Nat) : Bool := decide (0 < u i) && decide (0 < w i)
/-- i pumps before j -/
def pbB (w : Nat → Int32) (i j : Nat) : Bool := decide (w j < w i) || (decide (w i = w j) && decide (i < j))
theorem s_canPump (c : Int32) (ar cp w l u g : Nat → Int32) (i : Nat) (hi : i < 8) : Sp 0 0 0 mX5_canPump [vR 0 0, vI (nI i)] [rH 0 c ar cp w l u g] (PoI (b2 (cpB u w i)) [rH 0 c ar cp w l u g]) := by
  refine Sp.of' false (fun h => by cases h) (by decide) rfl rfl (Nat.le_of_ble_eq_true rfl) fun γ σ B => ?_
  refine B.run okX5_canPump [] 60 ?_
  have hv : vp_in (nI i) 8 := le8 hi (Nat.le_refl _)
  refine ⟨hv, ?_⟩
  rw [nI_clamp (by omega)]
  constructor
  · intro h
    exact rFa (by unfold cpB; rw [decide_eq_false (Int32.not_lt.mpr h)]; rfl)
  · intro h
    refine ⟨hv, ?_⟩
    constructor
    · intro h2
      rw [nI_clamp (by omega)] at h2
      exact rFa (by unfold cpB; rw [decide_eq_false (Int32.not_lt.mpr h2)]; simp)
    · intro h2
      rw [nI_clamp (by omega)] at h2
      exact rT (by unfold cpB; rw [decide_eq_true (Int32.not_le.mp h), decide_eq_true (Int32.not_le.mp h2)]; rfl)
theorem s_pumpsBefore (c : Int32) (ar cp w l u g : Nat → Int32) (i j : Nat) (hi : i < 8) (hj : j < 8) : Sp 0 0 0 mX5_pumpsBefore [vR 0 0, vI (nI i), vI (nI j)] [rH 0 c ar cp w l u g] (PoI (b2 (pbB w i j)) [rH 0 c ar cp w l u g]) := by
  refine Sp.of' false (fun h => by cases h) (by decide) rfl rfl (Nat.le_of_ble_eq_true rfl) fun γ σ B => ?_
  refine B.run okX5_pumpsBefore [] 60 ?_
  have hv : vp_in (nI i) 8 := le8 hi (Nat.le_refl _)
  have hw : vp_in (nI j) 8 := le8 hj (Nat.le_refl _)
  refine ⟨hv, hw, ?_⟩
  rw [nI_clamp (by omega), nI_clamp (by omega)]
  constructor
  · intro h
    exact rT (by unfold pbB; rw [decide_eq_true h]; rfl)
  · intro h
    refine ⟨hv, hw, ?_⟩
    constructor
    · intro h2
      rw [nI_clamp (by omega), nI_clamp (by omega)] at h2
      constructor
      · intro h3
        refine rFa ?_
        have h3 : ¬ i < j := fun q => nI_ge q (by omega) h3
        unfold pbB
        rw [decide_eq_false h, decide_eq_false h3]; simp
      · intro h3
        refine rT ?_
        have h3 : i < j := by
          rcases Nat.lt_or_ge i j with q | q
          · exact q
          · exact absurd (nI_le q (by omega)) h3
        unfold pbB
        rw [decide_eq_true h2, decide_eq_true h3]; simp
    · intro h2
      rw [nI_clamp (by omega), nI_clamp (by omega)] at h2
      refine rFa ?_
      unfold pbB
      rw [decide_eq_false h, decide_eq_false h2]; rfl
end
section
/-! ===== Hold, with calls ===== -/
theorem b2_eq0 {b : Bool} : b2 b = 0 ↔ b = false := by cases b <;> decide
theorem b2_ne0 {b : Bool} : ¬ b2 b = 0 ↔ b = true := by cases b <;> decide
/-- how many of the first n pump before j -/
def rkN (u w : Nat → Int32) (j n : Nat) : Nat := ctB (fun i => cpB u w i && pbB w i j) n
theorem s_pumpRank (c : Nat) (hc : c ≤ 8) (ar cp w l u g : Nat → Int32) (j : Nat) (hj : j < 8) : Sp 1 0 0 mX5_pumpRank [vR 0 0, vI (nI j)] [rH 0 (nI c) ar cp w l u g] (PoI (nI (rkN u w j c)) [rH 0 (nI c) ar cp w l u g]) := by
  refine Sp.of' false (fun h => by cases h) (by decide) rfl rfl (Nat.le_of_ble_eq_true rfl) fun γ σ B => ?_
  have loop : ∀ (m i : Nat), i + m = c → At γ σ 0 0 4 [(0, vR 0 0), (1, vI (nI j)), (2, vI (nI (rkN u w j i))), (3, vI (nI i))] [] [rH 0 (nI c) ar cp w l u g] := by
    intro m
    induction m with
    | zero =>
      intro i hi
      have hi : i = c := by omega
      subst hi
      refine B.run okX5_pumpRank [(4, [0, 1, 2, 3])] 60 ?_
      constructor
      · intro _
        exact rI rfl
      · intro h
        exact absurd (nI_le (Nat.le_refl _) (by omega)) h
    | succ m ih =>
      intro i hi
      have next : ∀ (r : Nat), r = rkN u w j (i + 1) → At γ σ 0 0 32 [(0, vR 0 0), (1, vI (nI j)), (2, vI (nI r)), (3, vI (nI i))] [] [rH 0 (nI c) ar cp w l u g] := by
        intro r hr
        refine B.run okX5_pumpRank [(4, [0, 1, 2, 3])] 60 ?_
        show At γ σ 0 0 4 _ _ _
        rw [nI_1, hr]
        exact ih (i + 1) (by omega)
      have hrk : rkN u w j (i + 1) = rkN u w j i + (if (cpB u w i && pbB w i j) = true then 1 else 0) := rfl
      refine B.run okX5_pumpRank [(4, [0, 1, 2, 3])] 60 ?_
      constructor
      · intro h
        exact absurd h (nI_ge (by omega) (by omega))
      · intro _
        refine At.cVI [0] [vI (nI i)] [] B.1 (s_canPump (nI c) ar cp w l u g i (by omega)) kX5_canPump ln_X5_47 ⟨rfl, trivial⟩ (B.fit (by decide) (Nat.zero_le _) (Nat.zero_le _)) (dcV okX5_pumpRank rfl) ?_
        refine B.run okX5_pumpRank [(4, [0, 1, 2, 3]), (32, [0, 1, 2, 3])] 60 ?_
        constructor
        · intro h
          have h := b2_eq0.mp h
          exact next _ (by rw [hrk, h]; rfl)
        · intro h
          have h := b2_ne0.mp h
          refine At.cVI [0] [vI (nI i), vI (nI j)] [] B.1 (s_pumpsBefore (nI c) ar cp w l u g i j (by omega) hj) kX5_pumpsBefore ln_X5_51 ⟨rfl, trivial⟩ (B.fit (by decide) (Nat.zero_le _) (Nat.zero_le _)) (dcV okX5_pumpRank rfl) ?_
          refine B.run okX5_pumpRank [(4, [0, 1, 2, 3]), (32, [0, 1, 2, 3])] 60 ?_
          constructor
          · intro h2
            have h2 := b2_eq0.mp h2
            exact next _ (by rw [hrk, h, h2]; rfl)
          · intro h2
            have h2 := b2_ne0.mp h2
            show At γ σ 0 0 32 _ _ _
            rw [nI_1]
            exact next _ (by rw [hrk, h, h2]; rfl)
  refine B.run okX5_pumpRank [(4, [0, 1, 2, 3])] 60 ?_
  exact loop c 0 (by omega)
/-- a pump that runs, of a power of pw -/
def rnB (u w : Nat → Int32) (c : Nat) (pw : Int32) (j : Nat) : Bool := cpB u w j && decide (nI (rkN u w j c) < pw)
theorem s_hasPower (c : Nat) (hc : c ≤ 8) (ar cp w l u g : Nat → Int32) (j : Nat) (hj : j < 8) (pw : Int32) : Sp 2 0 0 mX5_hasPower [vR 0 0, vI (nI j), vI pw] [rH 0 (nI c) ar cp w l u g] (PoI (b2 (rnB u w c pw j)) [rH 0 (nI c) ar cp w l u g]) := by
  refine Sp.of' false (fun h => by cases h) (by decide) rfl rfl (Nat.le_of_ble_eq_true rfl) fun γ σ B => ?_
  refine B.run okX5_hasPower [] 60 ?_
  refine At.cVI [0] [vI (nI j)] [] B.1 (s_canPump (nI c) ar cp w l u g j hj) kX5_canPump ln_X5_47 ⟨rfl, trivial⟩ (B.fit (by decide) (Nat.zero_le _) (Nat.zero_le _)) (dcV okX5_hasPower rfl) ?_
  refine B.run okX5_hasPower [] 60 ?_
  constructor
  · intro h
    have h := b2_eq0.mp h
    exact rFa (by unfold rnB; rw [h]; rfl)
  · intro h
    have h := b2_ne0.mp h
    refine At.cVI [0] [vI (nI j)] [] B.1 (s_pumpRank c hc ar cp w l u g j hj) kX5_pumpRank ln_X5_55 ⟨rfl, trivial⟩ (B.fit (by decide) (Nat.zero_le _) (Nat.zero_le _)) (dcV okX5_hasPower rfl) ?_
    refine B.run okX5_hasPower [] 60 ?_
    constructor
    · intro h2
      exact rFa (by unfold rnB; rw [h, decide_eq_false (Int32.not_lt.mpr h2)]; rfl)
    · intro h2
      exact rT (by unfold rnB; rw [h, decide_eq_true (Int32.not_le.mp h2)]; rfl)
/-- the first n places by f, the others by g -/
def fill {α : Type} (n : Nat) (f g : Nat → α) : Nat → α := fun j => if j < n then f j else g j
theorem fill_upd (n : Nat) (f g : Nat → Int32) (x : Int32) (h : x = f n) : upd (fill n f g) n x = fill (n + 1) f g := by
  funext j
  unfold upd fill
  by_cases e : j = n
  · subst e
    rw [if_pos rfl, if_pos (by omega), h]
  · rw [if_neg e]
    by_cases e2 : j < n
    · rw [if_pos e2, if_pos (by omega)]
    · rw [if_neg e2, if_neg (by omega)]
theorem fill_0 {α : Type} (f g : Nat → α) : fill 0 f g = g := by
  funext j
  unfold fill
  rw [if_neg (Nat.not_lt_zero _)]
theorem fill_at {α : Type} {n j : Nat} (f g : Nat → α) (h : n ≤ j) : fill n f g j = g j := by
  unfold fill
  rw [if_neg (by omega)]
theorem fill_in {α : Type} {n j : Nat} (f g : Nat → α) (h : j < n) : fill n f g j = f j := by
  unfold fill
  rw [if_pos h]
def minI (x y : Int32) : Int32 := if y < x then y else x
def lkI (cp w l : Nat → Int32) (i : Nat) : Int32 := minI (w i + l i) (cp i)
theorem s_takeInLeaks (c : Nat) (hc : c ≤ 8) (ar cp w l u g : Nat → Int32) : Sp 1 0 0 mX5_takeInLeaks [vR 0 0] [rH 0 (nI c) ar cp w l u g] (PoV [rH 0 (nI c) ar cp (fill c (lkI cp w l) w) l u g]) := by
  refine Sp.of' false (fun h => by cases h) (by decide) rfl rfl (Nat.le_of_ble_eq_true rfl) fun γ σ B => ?_
  have loop : ∀ (m i : Nat), i + m = c → At γ σ 0 0 2 [(0, vR 0 0), (1, vI (nI i))] [] [rH 0 (nI c) ar cp (fill i (lkI cp w l) w) l u g] := by
    intro m
    induction m with
    | zero =>
      intro i hi
      have hi : i = c := by omega
      subst hi
      refine B.run okX5_takeInLeaks [(2, [0, 1])] 60 ?_
      constructor
      · intro _
        exact rV
      · intro h
        exact absurd (nI_le (Nat.le_refl _) (by omega)) h
    | succ m ih =>
      intro i hi
      refine B.run okX5_takeInLeaks [(2, [0, 1])] 60 ?_
      constructor
      · intro h
        exact absurd h (nI_ge (by omega) (by omega))
      · intro _
        have hv := le8 (a := i) (by omega) hc
        refine ⟨hv, hv, hv, ?_⟩
        rw [nI_clamp (by omega)]
        refine At.mmin B.1 kmin ln_X5_41 (B.fit (by decide) (Nat.zero_le _) (Nat.zero_le _)) (Nat.le_of_ble_eq_true rfl) (dcS okX5_takeInLeaks rfl) ?_
        refine B.run okX5_takeInLeaks [(2, [0, 1])] 60 ?_
        refine ⟨hv, ?_⟩
        show At γ σ 0 0 2 _ _ _
        rw [nI_clamp (by omega), fill_upd i (lkI cp w l) w _ (by rw [fill_at _ _ (Nat.le_refl i)]; rfl), nI_1]
        exact ih (i + 1) (by omega)
  refine B.run okX5_takeInLeaks [(2, [0, 1])] 60 ?_
  have := loop c 0 (by omega)
  rw [fill_0] at this
  exact this
/-- what runs out of j -/
def outI (u w : Nat → Int32) (c : Nat) (pw : Int32) (j : Nat) : Int32 := if rnB u w c pw j = true then minI (u j) (w j) else 0
def pmI (u w : Nat → Int32) (c : Nat) (pw : Int32) (j : Nat) : Int32 := if rnB u w c pw j = true then w j - minI (u j) (w j) else w j
theorem s_pumpOut (c : Nat) (hc : c ≤ 8) (ar cp w l u g : Nat → Int32) (pw : Int32) : Sp 3 0 0 mX5_pumpOut [vR 0 0, vI pw] [rH 0 (nI c) ar cp w l u g] (PoI (sumI (outI u w c pw) c) [rH 0 (nI c) ar cp (fill c (pmI u w c pw) w) l u (fill c (fun j => b2 (rnB u w c pw j)) g)]) := by
  refine Sp.of' false (fun h => by cases h) (by decide) rfl rfl (Nat.le_of_ble_eq_true rfl) fun γ σ B => ?_
  have loop2 : ∀ (m i : Nat), i + m = c → At γ σ 0 0 32 [(0, vR 0 0), (1, vI pw), (2, vI (sumI (outI u w c pw) i)), (3, vI (nI i))] [] [rH 0 (nI c) ar cp (fill i (pmI u w c pw) w) l u (fill c (fun j => b2 (rnB u w c pw j)) g)] := by
    intro m
    induction m with
    | zero =>
      intro i hi
      have hi : i = c := by omega
      subst hi
      refine B.run okX5_pumpOut [(32, [0, 1, 2, 3])] 60 ?_
      constructor
      · intro _
        exact rI rfl
      · intro h
        exact absurd (nI_le (Nat.le_refl _) (by omega)) h
    | succ m ih =>
      intro i hi
      have hv := le8 (a := i) (by omega) hc
      refine B.run okX5_pumpOut [(32, [0, 1, 2, 3])] 60 ?_
      constructor
      · intro h
        exact absurd h (nI_ge (by omega) (by omega))
      · intro _
        refine ⟨hv, ?_⟩
        rw [nI_clamp (by omega), fill_in _ _ (show i < c by omega)]
        constructor
        · intro h
          have h := b2_eq0.mp h
          show At γ σ 0 0 32 _ _ _
          have e1 : fill (i + 1) (pmI u w c pw) w = fill i (pmI u w c pw) w := by
            rw [← fill_upd i (pmI u w c pw) w (w i) (by unfold pmI; rw [h]; rfl)]
            funext j
            unfold upd
            by_cases e : j = i
            · rw [if_pos e, e, fill_at _ _ (Nat.le_refl i)]
            · rw [if_neg e]
          have e2 : sumI (outI u w c pw) (i + 1) = sumI (outI u w c pw) i := by
            show sumI _ i + outI u w c pw i = _
            unfold outI
            rw [h]
            exact Int32.add_zero _
          have := ih (i + 1) (by omega)
          rw [e1, e2] at this
          rw [nI_1]
          exact this
        · intro h
          have h := b2_ne0.mp h
          refine ⟨hv, hv, ?_⟩
          refine At.mmin B.1 kmin ln_X5_41 (B.fit (by decide) (Nat.zero_le _) (Nat.zero_le _)) (Nat.le_of_ble_eq_true rfl) (dcS okX5_pumpOut rfl) ?_
          refine B.run okX5_pumpOut [(32, [0, 1, 2, 3])] 60 ?_
          refine ⟨hv, hv, ?_⟩
          show At γ σ 0 0 32 _ _ _
          rw [nI_clamp (by omega), fill_at _ _ (Nat.le_refl i), fill_upd i (pmI u w c pw) w _ (by unfold pmI; rw [h]; rfl), nI_1]
          have e2 : sumI (outI u w c pw) i + (if w i < u i then w i else u i) = sumI (outI u w c pw) (i + 1) := by
            show _ = sumI _ i + outI u w c pw i
            unfold outI
            rw [h]
            rfl
          rw [e2]
          exact ih (i + 1) (by omega)
  have loop1 : ∀ (m i : Nat), i + m = c → At γ σ 0 0 2 [(0, vR 0 0), (1, vI pw), (2, vI (nI i))] [] [rH 0 (nI c) ar cp w l u (fill i (fun j => b2 (rnB u w c pw j)) g)] := by
    intro m
    induction m with
    | zero =>
      intro i hi
      have hi : i = c := by omega
      subst hi
      refine B.run okX5_pumpOut [(2, [0, 1, 2]), (32, [0, 1, 2, 3])] 60 ?_
      constructor
      · intro _
        have := loop2 i 0 (by omega)
        rw [fill_0] at this
        exact this
      · intro h
        exact absurd (nI_le (Nat.le_refl _) (by omega)) h
    | succ m ih =>
      intro i hi
      have hv := le8 (a := i) (by omega) hc
      refine B.run okX5_pumpOut [(2, [0, 1, 2]), (32, [0, 1, 2, 3])] 60 ?_
      constructor
      · intro h
        exact absurd h (nI_ge (by omega) (by omega))
      · intro _
        refine At.cVI [0] [vI (nI i), vI pw] [vI (nI i), vR 0 6] B.1 (s_hasPower c hc ar cp w l u _ i (by omega) pw) kX5_hasPower ln_X5_59 ⟨rfl, trivial⟩ (B.fit (by decide) (Nat.zero_le _) (Nat.zero_le _)) (dcV okX5_pumpOut rfl) ?_
        refine B.run okX5_pumpOut [(2, [0, 1, 2]), (32, [0, 1, 2, 3])] 60 ?_
        refine ⟨hv, ?_, ?_⟩
        · cases rnB u w c pw i
          · exact Or.inl rfl
          · exact Or.inr rfl
        · show At γ σ 0 0 2 _ _ _
          rw [nI_clamp (by omega), fill_upd i (fun j => b2 (rnB u w c pw j)) g _ rfl, nI_1]
          exact ih (i + 1) (by omega)
  refine B.run okX5_pumpOut [(2, [0, 1, 2]), (32, [0, 1, 2, 3])] 60 ?_
  have := loop1 c 0 (by omega)
  rw [fill_0] at this
  exact this
theorem s_add (c : Nat) (hc : c < 8) (ar cp w l u g : Nat → Int32) (x y : Int32) : Sp 0 0 0 mX5_add [vR 0 0, vI x, vI y] [rH 0 (nI c) ar cp w l u g] (PoI (nI c) [rH 0 (nI (c + 1)) (upd ar c x) (upd cp c y) (upd w c 0) (upd l c 0) (upd u c 5) g]) := by
  refine Sp.of' false (fun h => by cases h) (by decide) rfl rfl (Nat.le_of_ble_eq_true rfl) fun γ σ B => ?_
  have hv := le8 (a := c) hc (Nat.le_refl _)
  refine B.run okX5_add [] 60 ?_
  refine ⟨hv, hv, hv, hv, hv, trivial, ?_⟩
  rw [nI_clamp (by omega), nI_1]
  exact rI rfl
theorem s_move (c : Int32) (ar cp w l u g : Nat → Int32) (s t : Nat) (hs : s < 8) (ht : t < 8) (a : Int32) : Sp 0 0 0 mX5_move [vR 0 0, vI (nI s), vI (nI t), vI a] [rH 0 c ar cp w l u g] (PoV [rH 0 c ar cp (upd (upd w s (w s - a)) t (upd w s (w s - a) t + a)) l u g]) := by
  refine Sp.of' false (fun h => by cases h) (by decide) rfl rfl (Nat.le_of_ble_eq_true rfl) fun γ σ B => ?_
  have hv := le8 hs (Nat.le_refl _)
  have hw := le8 ht (Nat.le_refl _)
  refine B.run okX5_move [] 60 ?_
  refine ⟨hv, hv, hw, hw, ?_⟩
  rw [nI_clamp (by omega), nI_clamp (by omega)]
  exact rV
theorem s_hcopy (c1 c2 : Int32) (ar cp w l u g ar2 cp2 w2 l2 u2 g2 : Nat → Int32) : Sp 1 0 0 mX5_copyFrom [vR 0 0, vR 1 0] [rH 0 c1 ar cp w l u g, rH 1 c2 ar2 cp2 w2 l2 u2 g2] (PoV [rH 0 c2 ar2 cp2 w2 l2 u2 g, rH 1 c2 ar2 cp2 w2 l2 u2 g2]) := by
  refine Sp.of' false (fun h => by cases h) (by decide) rfl rfl (Nat.le_of_ble_eq_true rfl) fun γ σ B => ?_
  have F : Fit γ 0 0 0 0 0 := B.fit (by decide) (Nat.zero_le _) (Nat.zero_le _)
  refine B.run okX5_copyFrom [] 60 ?_
  refine ⟨trivial, ?_⟩
  refine At.copyi B.1 ac_X5 ac_na ac_st ac_in (r0 := 1) (o0 := 1) (r1 := 0) (o1 := 1) rfl rfl (by decide) (by decide) (by decide) (by decide) (by decide) F (Nat.le_of_ble_eq_true rfl) (dcS okX5_copyFrom rfl) ?_
  refine At.gho 0 1 ar2 rfl (fun j hj => cpy0 hj rfl) ?_
  show At γ σ 0 0 23 [(0, vR 0 0), (1, vR 1 0)] [] [rH 0 c2 ar2 cp w l u g, rH 1 c2 ar2 cp2 w2 l2 u2 g2]
  refine B.run okX5_copyFrom [] 60 ?_
  refine At.copyi B.1 ac_X5 ac_na ac_st ac_in (r0 := 1) (o0 := 2) (r1 := 0) (o1 := 2) rfl rfl (by decide) (by decide) (by decide) (by decide) (by decide) F (Nat.le_of_ble_eq_true rfl) (dcS okX5_copyFrom rfl) ?_
  refine At.gho 0 2 cp2 rfl (fun j hj => cpy0 hj rfl) ?_
  show At γ σ 0 0 38 [(0, vR 0 0), (1, vR 1 0)] [] [rH 0 c2 ar2 cp2 w l u g, rH 1 c2 ar2 cp2 w2 l2 u2 g2]
  refine B.run okX5_copyFrom [] 60 ?_
  refine At.copyi B.1 ac_X5 ac_na ac_st ac_in (r0 := 1) (o0 := 3) (r1 := 0) (o1 := 3) rfl rfl (by decide) (by decide) (by decide) (by decide) (by decide) F (Nat.le_of_ble_eq_true rfl) (dcS okX5_copyFrom rfl) ?_
  refine At.gho 0 3 w2 rfl (fun j hj => cpy0 hj rfl) ?_
  show At γ σ 0 0 53 [(0, vR 0 0), (1, vR 1 0)] [] [rH 0 c2 ar2 cp2 w2 l u g, rH 1 c2 ar2 cp2 w2 l2 u2 g2]
  refine B.run okX5_copyFrom [] 60 ?_
  refine At.copyi B.1 ac_X5 ac_na ac_st ac_in (r0 := 1) (o0 := 4) (r1 := 0) (o1 := 4) rfl rfl (by decide) (by decide) (by decide) (by decide) (by decide) F (Nat.le_of_ble_eq_true rfl) (dcS okX5_copyFrom rfl) ?_
  refine At.gho 0 4 l2 rfl (fun j hj => cpy0 hj rfl) ?_
  show At γ σ 0 0 68 [(0, vR 0 0), (1, vR 1 0)] [] [rH 0 c2 ar2 cp2 w2 l2 u g, rH 1 c2 ar2 cp2 w2 l2 u2 g2]
  refine B.run okX5_copyFrom [] 60 ?_
  refine At.copyi B.1 ac_X5 ac_na ac_st ac_in (r0 := 1) (o0 := 5) (r1 := 0) (o1 := 5) rfl rfl (by decide) (by decide) (by decide) (by decide) (by decide) F (Nat.le_of_ble_eq_true rfl) (dcS okX5_copyFrom rfl) ?_
  refine At.gho 0 5 u2 rfl (fun j hj => cpy0 hj rfl) ?_
  show At γ σ 0 0 83 [(0, vR 0 0), (1, vR 1 0)] [] [rH 0 c2 ar2 cp2 w2 l2 u2 g, rH 1 c2 ar2 cp2 w2 l2 u2 g2]
  refine B.run okX5_copyFrom [] 60 ?_
  exact rV
end
