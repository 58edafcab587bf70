/-! ===== instructions of the law's static methods (by program) ===== -/
def mL_pumpAt : MR := (34, yL_pumpAt, cL_pumpAt, 3, some .int)
def hL_pumpAt : HH := [(0, 5, 6, 35)]
def iL_pumpAt : List IE := [(0, .aload_n 0, 0, 0, 0), (1, .iload_n 1, 0, 0, 0), (2, .invokevirtual 69, 0, 0, 0), (5, .ireturn, 0, 0, 0), (6, .astore_n 2, 0, 0, 0), (7, .ldc 37, 0, 0, 0), (9, .ireturn, 0, 0, 0)]
theorem okL_pumpAt : okL false 34 cL_pumpAt iL_pumpAt = true := by decide +kernel
theorem kL_pumpAt : KSH mL_pumpAt hL_pumpAt 2 := ⟨in_L, mT 1018 (by decide +kernel) rfl, ⟨by decide +kernel, by decide +kernel, by decide +kernel⟩, by decide, st_L_pumpAt⟩
def mL_minutesUntilFull : MR := (34, yL_minutesUntilFull, cL_minutesUntilFull, 3, some .int)
def hL_minutesUntilFull : HH := [(0, 5, 6, 28), (0, 5, 10, 35)]
def iL_minutesUntilFull : List IE := [(0, .aload_n 0, 0, 0, 0), (1, .iload_n 1, 0, 0, 0), (2, .invokevirtual 72, 0, 0, 0), (5, .ireturn, 0, 0, 0), (6, .astore_n 2, 0, 0, 0), (7, .ldc 30, 0, 0, 0), (9, .ireturn, 0, 0, 0), (10, .astore_n 2, 0, 0, 0), (11, .ldc 37, 0, 0, 0), (13, .ireturn, 0, 0, 0)]
theorem okL_minutesUntilFull : okL false 34 cL_minutesUntilFull iL_minutesUntilFull = true := by decide +kernel
theorem kL_minutesUntilFull : KSH mL_minutesUntilFull hL_minutesUntilFull 2 := ⟨in_L, mT 1023 (by decide +kernel) rfl, ⟨by decide +kernel, by decide +kernel, by decide +kernel⟩, by decide, st_L_minutesUntilFull⟩
def mL_idAt : MR := (34, yL_idAt, cL_idAt, 3, some .int)
def hL_idAt : HH := [(0, 5, 6, 28)]
def iL_idAt : List IE := [(0, .aload_n 0, 0, 0, 0), (1, .iload_n 1, 0, 0, 0), (2, .invokevirtual 75, 0, 0, 0), (5, .ireturn, 0, 0, 0), (6, .astore_n 2, 0, 0, 0), (7, .ldc 30, 0, 0, 0), (9, .ireturn, 0, 0, 0)]
theorem okL_idAt : okL false 34 cL_idAt iL_idAt = true := by decide +kernel
theorem kL_idAt : KSH mL_idAt hL_idAt 2 := ⟨in_L, mT 1035 (by decide +kernel) rfl, ⟨by decide +kernel, by decide +kernel, by decide +kernel⟩, by decide, st_L_idAt⟩
def mL_heaviestPiece : MR := (34, yL_heaviestPiece, cL_heaviestPiece, 2, some .int)
def hL_heaviestPiece : HH := [(0, 4, 5, 35)]
def iL_heaviestPiece : List IE := [(0, .aload_n 0, 0, 0, 0), (1, .invokevirtual 78, 0, 0, 0), (4, .ireturn, 0, 0, 0), (5, .astore_n 1, 0, 0, 0), (6, .ldc 37, 0, 0, 0), (8, .ireturn, 0, 0, 0)]
theorem okL_heaviestPiece : okL false 34 cL_heaviestPiece iL_heaviestPiece = true := by decide +kernel
theorem kL_heaviestPiece : KSH mL_heaviestPiece hL_heaviestPiece 1 := ⟨in_L, mT 1038 (by decide +kernel) rfl, ⟨by decide +kernel, by decide +kernel, by decide +kernel⟩, by decide, st_L_heaviestPiece⟩
def mL_bestSource : MR := (34, yL_bestSource, cL_bestSource, 3, some .int)
def hL_bestSource : HH := [(0, 5, 6, 19), (0, 5, 10, 35)]
def iL_bestSource : List IE := [(0, .aload_n 0, 0, 0, 0), (1, .iload_n 1, 0, 0, 0), (2, .invokevirtual 82, 0, 0, 0), (5, .ireturn, 0, 0, 0), (6, .astore_n 2, 0, 0, 0), (7, .ldc 21, 0, 0, 0), (9, .ireturn, 0, 0, 0), (10, .astore_n 2, 0, 0, 0), (11, .ldc 37, 0, 0, 0), (13, .ireturn, 0, 0, 0)]
theorem okL_bestSource : okL false 34 cL_bestSource iL_bestSource = true := by decide +kernel
theorem kL_bestSource : KSH mL_bestSource hL_bestSource 2 := ⟨in_L, mT 1046 (by decide +kernel) rfl, ⟨by decide +kernel, by decide +kernel, by decide +kernel⟩, by decide, st_L_bestSource⟩
def mL_bestTarget : MR := (34, yL_bestTarget, cL_bestTarget, 3, some .int)
def hL_bestTarget : HH := [(0, 5, 6, 19), (0, 5, 10, 35)]
def iL_bestTarget : List IE := [(0, .aload_n 0, 0, 0, 0), (1, .iload_n 1, 0, 0, 0), (2, .invokevirtual 85, 0, 0, 0), (5, .ireturn, 0, 0, 0), (6, .astore_n 2, 0, 0, 0), (7, .ldc 21, 0, 0, 0), (9, .ireturn, 0, 0, 0), (10, .astore_n 2, 0, 0, 0), (11, .ldc 37, 0, 0, 0), (13, .ireturn, 0, 0, 0)]
theorem okL_bestTarget : okL false 34 cL_bestTarget iL_bestTarget = true := by decide +kernel
theorem kL_bestTarget : KSH mL_bestTarget hL_bestTarget 2 := ⟨in_L, mT 1098 (by decide +kernel) rfl, ⟨by decide +kernel, by decide +kernel, by decide +kernel⟩, by decide, st_L_bestTarget⟩
def mL_bestMoment : MR := (34, yL_bestMoment, cL_bestMoment, 3, some .int)
def hL_bestMoment : HH := [(0, 5, 6, 19), (0, 5, 10, 35)]
def iL_bestMoment : List IE := [(0, .aload_n 0, 0, 0, 0), (1, .iload_n 1, 0, 0, 0), (2, .invokevirtual 88, 0, 0, 0), (5, .ireturn, 0, 0, 0), (6, .astore_n 2, 0, 0, 0), (7, .ldc 21, 0, 0, 0), (9, .ireturn, 0, 0, 0), (10, .astore_n 2, 0, 0, 0), (11, .ldc 37, 0, 0, 0), (13, .ireturn, 0, 0, 0)]
theorem okL_bestMoment : okL false 34 cL_bestMoment iL_bestMoment = true := by decide +kernel
theorem kL_bestMoment : KSH mL_bestMoment hL_bestMoment 2 := ⟨in_L, mT 1105 (by decide +kernel) rfl, ⟨by decide +kernel, by decide +kernel, by decide +kernel⟩, by decide, st_L_bestMoment⟩
def mL_transfersToBalance : MR := (34, yL_transfersToBalance, cL_transfersToBalance, 3, some .int)
def hL_transfersToBalance : HH := [(0, 5, 6, 19), (0, 5, 10, 35)]
def iL_transfersToBalance : List IE := [(0, .aload_n 0, 0, 0, 0), (1, .iload_n 1, 0, 0, 0), (2, .invokevirtual 91, 0, 0, 0), (5, .ireturn, 0, 0, 0), (6, .astore_n 2, 0, 0, 0), (7, .ldc 21, 0, 0, 0), (9, .ireturn, 0, 0, 0), (10, .astore_n 2, 0, 0, 0), (11, .ldc 37, 0, 0, 0), (13, .ireturn, 0, 0, 0)]
theorem okL_transfersToBalance : okL false 34 cL_transfersToBalance iL_transfersToBalance = true := by decide +kernel
theorem kL_transfersToBalance : KSH mL_transfersToBalance hL_transfersToBalance 2 := ⟨in_L, mT 1112 (by decide +kernel) rfl, ⟨by decide +kernel, by decide +kernel, by decide +kernel⟩, by decide, st_L_transfersToBalance⟩
def mL_bestShiftPiece : MR := (34, yL_bestShiftPiece, cL_bestShiftPiece, 2, some .int)
def hL_bestShiftPiece : HH := [(0, 4, 5, 35)]
def iL_bestShiftPiece : List IE := [(0, .aload_n 0, 0, 0, 0), (1, .invokevirtual 94, 0, 0, 0), (4, .ireturn, 0, 0, 0), (5, .astore_n 1, 0, 0, 0), (6, .ldc 37, 0, 0, 0), (8, .ireturn, 0, 0, 0)]
theorem okL_bestShiftPiece : okL false 34 cL_bestShiftPiece iL_bestShiftPiece = true := by decide +kernel
theorem kL_bestShiftPiece : KSH mL_bestShiftPiece hL_bestShiftPiece 1 := ⟨in_L, mT 1125 (by decide +kernel) rfl, ⟨by decide +kernel, by decide +kernel, by decide +kernel⟩, by decide, st_L_bestShiftPiece⟩
def mL_bestShiftCompartment : MR := (34, yL_bestShiftCompartment, cL_bestShiftCompartment, 2, some .int)
def hL_bestShiftCompartment : HH := [(0, 4, 5, 35)]
def iL_bestShiftCompartment : List IE := [(0, .aload_n 0, 0, 0, 0), (1, .invokevirtual 97, 0, 0, 0), (4, .ireturn, 0, 0, 0), (5, .astore_n 1, 0, 0, 0), (6, .ldc 37, 0, 0, 0), (8, .ireturn, 0, 0, 0)]
theorem okL_bestShiftCompartment : okL false 34 cL_bestShiftCompartment iL_bestShiftCompartment = true := by decide +kernel
theorem kL_bestShiftCompartment : KSH mL_bestShiftCompartment hL_bestShiftCompartment 1 := ⟨in_L, mT 1143 (by decide +kernel) rfl, ⟨by decide +kernel, by decide +kernel, by decide +kernel⟩, by decide, st_L_bestShiftCompartment⟩
def mL_momentAfter : MR := (34, yL_momentAfter, cL_momentAfter, 3, some .int)
def hL_momentAfter : HH := [(0, 5, 6, 19)]
def iL_momentAfter : List IE := [(0, .aload_n 0, 0, 0, 0), (1, .iload_n 1, 0, 0, 0), (2, .invokevirtual 100, 0, 0, 0), (5, .ireturn, 0, 0, 0), (6, .astore_n 2, 0, 0, 0), (7, .ldc 21, 0, 0, 0), (9, .ireturn, 0, 0, 0)]
theorem okL_momentAfter : okL false 34 cL_momentAfter iL_momentAfter = true := by decide +kernel
theorem kL_momentAfter : KSH mL_momentAfter hL_momentAfter 2 := ⟨in_L, mT 1150 (by decide +kernel) rfl, ⟨by decide +kernel, by decide +kernel, by decide +kernel⟩, by decide, st_L_momentAfter⟩
def mL_compartmentByLoad : MR := (34, yL_compartmentByLoad, cL_compartmentByLoad, 3, some .int)
def hL_compartmentByLoad : HH := [(0, 5, 6, 35)]
def iL_compartmentByLoad : List IE := [(0, .aload_n 0, 0, 0, 0), (1, .iload_n 1, 0, 0, 0), (2, .invokevirtual 103, 0, 0, 0), (5, .ireturn, 0, 0, 0), (6, .astore_n 2, 0, 0, 0), (7, .ldc 37, 0, 0, 0), (9, .ireturn, 0, 0, 0)]
theorem okL_compartmentByLoad : okL false 34 cL_compartmentByLoad iL_compartmentByLoad = true := by decide +kernel
theorem kL_compartmentByLoad : KSH mL_compartmentByLoad hL_compartmentByLoad 2 := ⟨in_L, mT 1195 (by decide +kernel) rfl, ⟨by decide +kernel, by decide +kernel, by decide +kernel⟩, by decide, st_L_compartmentByLoad⟩
def mL_nextStorm : MR := (34, yL_nextStorm, cL_nextStorm, 2, some .int)
def hL_nextStorm : HH := [(0, 4, 5, 35)]
def iL_nextStorm : List IE := [(0, .aload_n 0, 0, 0, 0), (1, .invokevirtual 106, 0, 0, 0), (4, .ireturn, 0, 0, 0), (5, .astore_n 1, 0, 0, 0), (6, .ldc 37, 0, 0, 0), (8, .ireturn, 0, 0, 0)]
theorem okL_nextStorm : okL false 34 cL_nextStorm iL_nextStorm = true := by decide +kernel
theorem kL_nextStorm : KSH mL_nextStorm hL_nextStorm 1 := ⟨in_L, mT 1198 (by decide +kernel) rfl, ⟨by decide +kernel, by decide +kernel, by decide +kernel⟩, by decide, st_L_nextStorm⟩
def mL_strengthAt : MR := (34, yL_strengthAt, cL_strengthAt, 3, some .int)
def hL_strengthAt : HH := [(0, 5, 6, 35)]
def iL_strengthAt : List IE := [(0, .aload_n 0, 0, 0, 0), (1, .iload_n 1, 0, 0, 0), (2, .invokevirtual 109, 0, 0, 0), (5, .ireturn, 0, 0, 0), (6, .astore_n 2, 0, 0, 0), (7, .ldc 37, 0, 0, 0), (9, .ireturn, 0, 0, 0)]
theorem okL_strengthAt : okL false 34 cL_strengthAt iL_strengthAt = true := by decide +kernel
theorem kL_strengthAt : KSH mL_strengthAt hL_strengthAt 2 := ⟨in_L, mT 1206 (by decide +kernel) rfl, ⟨by decide +kernel, by decide +kernel, by decide +kernel⟩, by decide, st_L_strengthAt⟩
def mL_addCompartment : MR := (34, yL_addCompartment, cL_addCompartment, 4, some .int)
def hL_addCompartment : HH := [(0, 6, 7, 19), (0, 6, 11, 22)]
def iL_addCompartment : List IE := [(0, .aload_n 0, 0, 0, 0), (1, .iload_n 1, 0, 0, 0), (2, .iload_n 2, 0, 0, 0), (3, .invokevirtual 13, 0, 0, 0), (6, .ireturn, 0, 0, 0), (7, .astore_n 3, 0, 0, 0), (8, .ldc 21, 0, 0, 0), (10, .ireturn, 0, 0, 0), (11, .astore_n 3, 0, 0, 0), (12, .ldc 24, 0, 0, 0), (14, .ireturn, 0, 0, 0)]
theorem okL_addCompartment : okL false 34 cL_addCompartment iL_addCompartment = true := by decide +kernel
theorem kL_addCompartment : KSH mL_addCompartment hL_addCompartment 3 := ⟨in_L, mT 1222 (by decide +kernel) rfl, ⟨by decide +kernel, by decide +kernel, by decide +kernel⟩, by decide, st_L_addCompartment⟩
def mL_load : MR := (34, yL_load, cL_load, 4, some .int)
def hL_load : HH := [(0, 6, 7, 28), (0, 6, 11, 19), (0, 6, 15, 22)]
def iL_load : List IE := [(0, .aload_n 0, 0, 0, 0), (1, .iload_n 1, 0, 0, 0), (2, .iload_n 2, 0, 0, 0), (3, .invokevirtual 25, 0, 0, 0), (6, .ireturn, 0, 0, 0), (7, .astore_n 3, 0, 0, 0), (8, .ldc 30, 0, 0, 0), (10, .ireturn, 0, 0, 0), (11, .astore_n 3, 0, 0, 0), (12, .ldc 21, 0, 0, 0), (14, .ireturn, 0, 0, 0), (15, .astore_n 3, 0, 0, 0), (16, .ldc 24, 0, 0, 0), (18, .ireturn, 0, 0, 0)]
theorem okL_load : okL false 34 cL_load iL_load = true := by decide +kernel
theorem kL_load : KSH mL_load hL_load 3 := ⟨in_L, mT 1249 (by decide +kernel) rfl, ⟨by decide +kernel, by decide +kernel, by decide +kernel⟩, by decide, st_L_load⟩
def mL_setLeak : MR := (34, yL_setLeak, cL_setLeak, 4, some .int)
def hL_setLeak : HH := [(0, 6, 7, 28), (0, 6, 11, 19)]
def iL_setLeak : List IE := [(0, .aload_n 0, 0, 0, 0), (1, .iload_n 1, 0, 0, 0), (2, .iload_n 2, 0, 0, 0), (3, .invokevirtual 41, 0, 0, 0), (6, .ireturn, 0, 0, 0), (7, .astore_n 3, 0, 0, 0), (8, .ldc 30, 0, 0, 0), (10, .ireturn, 0, 0, 0), (11, .astore_n 3, 0, 0, 0), (12, .ldc 21, 0, 0, 0), (14, .ireturn, 0, 0, 0)]
theorem okL_setLeak : okL false 34 cL_setLeak iL_setLeak = true := by decide +kernel
theorem kL_setLeak : KSH mL_setLeak hL_setLeak 3 := ⟨in_L, mT 1266 (by decide +kernel) rfl, ⟨by decide +kernel, by decide +kernel, by decide +kernel⟩, by decide, st_L_setLeak⟩
def mL_unload : MR := (34, yL_unload, cL_unload, 3, some .int)
def hL_unload : HH := [(0, 5, 6, 35)]
def iL_unload : List IE := [(0, .aload_n 0, 0, 0, 0), (1, .iload_n 1, 0, 0, 0), (2, .invokevirtual 31, 0, 0, 0), (5, .ireturn, 0, 0, 0), (6, .astore_n 2, 0, 0, 0), (7, .ldc 37, 0, 0, 0), (9, .ireturn, 0, 0, 0)]
theorem okL_unload : okL false 34 cL_unload iL_unload = true := by decide +kernel
theorem kL_unload : KSH mL_unload hL_unload 2 := ⟨in_L, mT 1280 (by decide +kernel) rfl, ⟨by decide +kernel, by decide +kernel, by decide +kernel⟩, by decide, st_L_unload⟩
def mL_shift : MR := (34, yL_shift, cL_shift, 4, some .int)
def hL_shift : HH := [(0, 6, 7, 35), (0, 6, 11, 28), (0, 6, 15, 22)]
def iL_shift : List IE := [(0, .aload_n 0, 0, 0, 0), (1, .iload_n 1, 0, 0, 0), (2, .iload_n 2, 0, 0, 0), (3, .invokevirtual 38, 0, 0, 0), (6, .ireturn, 0, 0, 0), (7, .astore_n 3, 0, 0, 0), (8, .ldc 37, 0, 0, 0), (10, .ireturn, 0, 0, 0), (11, .astore_n 3, 0, 0, 0), (12, .ldc 30, 0, 0, 0), (14, .ireturn, 0, 0, 0), (15, .astore_n 3, 0, 0, 0), (16, .ldc 24, 0, 0, 0), (18, .ireturn, 0, 0, 0)]
theorem okL_shift : okL false 34 cL_shift iL_shift = true := by decide +kernel
theorem kL_shift : KSH mL_shift hL_shift 3 := ⟨in_L, mT 1298 (by decide +kernel) rfl, ⟨by decide +kernel, by decide +kernel, by decide +kernel⟩, by decide, st_L_shift⟩
def mL_setPump : MR := (34, yL_setPump, cL_setPump, 4, some .int)
def hL_setPump : HH := [(0, 6, 7, 28), (0, 6, 11, 19)]
def iL_setPump : List IE := [(0, .aload_n 0, 0, 0, 0), (1, .iload_n 1, 0, 0, 0), (2, .iload_n 2, 0, 0, 0), (3, .invokevirtual 44, 0, 0, 0), (6, .ireturn, 0, 0, 0), (7, .astore_n 3, 0, 0, 0), (8, .ldc 30, 0, 0, 0), (10, .ireturn, 0, 0, 0), (11, .astore_n 3, 0, 0, 0), (12, .ldc 21, 0, 0, 0), (14, .ireturn, 0, 0, 0)]
theorem okL_setPump : okL false 34 cL_setPump iL_setPump = true := by decide +kernel
theorem kL_setPump : KSH mL_setPump hL_setPump 3 := ⟨in_L, mT 1313 (by decide +kernel) rfl, ⟨by decide +kernel, by decide +kernel, by decide +kernel⟩, by decide, st_L_setPump⟩
def mL_transfer : MR := (34, yL_transfer, cL_transfer, 5, some .int)
def hL_transfer : HH := [(0, 7, 8, 28), (0, 7, 13, 19), (0, 7, 18, 22)]
def iL_transfer : List IE := [(0, .aload_n 0, 0, 0, 0), (1, .iload_n 1, 0, 0, 0), (2, .iload_n 2, 0, 0, 0), (3, .iload_n 3, 0, 0, 0), (4, .invokevirtual 47, 0, 0, 0), (7, .ireturn, 0, 0, 0), (8, .astore 4, 0, 0, 0), (10, .ldc 30, 0, 0, 0), (12, .ireturn, 0, 0, 0), (13, .astore 4, 0, 0, 0), (15, .ldc 21, 0, 0, 0), (17, .ireturn, 0, 0, 0), (18, .astore 4, 0, 0, 0), (20, .ldc 24, 0, 0, 0), (22, .ireturn, 0, 0, 0)]
theorem okL_transfer : okL false 34 cL_transfer iL_transfer = true := by decide +kernel
theorem kL_transfer : KSH mL_transfer hL_transfer 4 := ⟨in_L, mT 1320 (by decide +kernel) rfl, ⟨by decide +kernel, by decide +kernel, by decide +kernel⟩, by decide, st_L_transfer⟩
def mL_balance : MR := (34, yL_balance, cL_balance, 3, some .int)
def hL_balance : HH := [(0, 5, 6, 19), (0, 5, 10, 22)]
def iL_balance : List IE := [(0, .aload_n 0, 0, 0, 0), (1, .iload_n 1, 0, 0, 0), (2, .invokevirtual 51, 0, 0, 0), (5, .ireturn, 0, 0, 0), (6, .astore_n 2, 0, 0, 0), (7, .ldc 21, 0, 0, 0), (9, .ireturn, 0, 0, 0), (10, .astore_n 2, 0, 0, 0), (11, .ldc 24, 0, 0, 0), (13, .ireturn, 0, 0, 0)]
theorem okL_balance : okL false 34 cL_balance iL_balance = true := by decide +kernel
theorem kL_balance : KSH mL_balance hL_balance 2 := ⟨in_L, mT 1332 (by decide +kernel) rfl, ⟨by decide +kernel, by decide +kernel, by decide +kernel⟩, by decide, st_L_balance⟩
def mL_setPower : MR := (34, yL_setPower, cL_setPower, 3, some .int)
def hL_setPower : HH := [(0, 5, 6, 19)]
def iL_setPower : List IE := [(0, .aload_n 0, 0, 0, 0), (1, .iload_n 1, 0, 0, 0), (2, .invokevirtual 54, 0, 0, 0), (5, .ireturn, 0, 0, 0), (6, .astore_n 2, 0, 0, 0), (7, .ldc 21, 0, 0, 0), (9, .ireturn, 0, 0, 0)]
theorem okL_setPower : okL false 34 cL_setPower iL_setPower = true := by decide +kernel
theorem kL_setPower : KSH mL_setPower hL_setPower 2 := ⟨in_L, mT 1340 (by decide +kernel) rfl, ⟨by decide +kernel, by decide +kernel, by decide +kernel⟩, by decide, st_L_setPower⟩
def mL_setLimit : MR := (34, yL_setLimit, cL_setLimit, 3, some .int)
def hL_setLimit : HH := [(0, 5, 6, 19)]
def iL_setLimit : List IE := [(0, .aload_n 0, 0, 0, 0), (1, .iload_n 1, 0, 0, 0), (2, .invokevirtual 57, 0, 0, 0), (5, .ireturn, 0, 0, 0), (6, .astore_n 2, 0, 0, 0), (7, .ldc 21, 0, 0, 0), (9, .ireturn, 0, 0, 0)]
theorem okL_setLimit : okL false 34 cL_setLimit iL_setLimit = true := by decide +kernel
theorem kL_setLimit : KSH mL_setLimit hL_setLimit 2 := ⟨in_L, mT 1351 (by decide +kernel) rfl, ⟨by decide +kernel, by decide +kernel, by decide +kernel⟩, by decide, st_L_setLimit⟩
def mL_schedule : MR := (34, yL_schedule, cL_schedule, 4, some .int)
def hL_schedule : HH := [(0, 6, 7, 19), (0, 6, 11, 22)]
def iL_schedule : List IE := [(0, .aload_n 0, 0, 0, 0), (1, .iload_n 1, 0, 0, 0), (2, .iload_n 2, 0, 0, 0), (3, .invokevirtual 60, 0, 0, 0), (6, .ireturn, 0, 0, 0), (7, .astore_n 3, 0, 0, 0), (8, .ldc 21, 0, 0, 0), (10, .ireturn, 0, 0, 0), (11, .astore_n 3, 0, 0, 0), (12, .ldc 24, 0, 0, 0), (14, .ireturn, 0, 0, 0)]
theorem okL_schedule : okL false 34 cL_schedule iL_schedule = true := by decide +kernel
theorem kL_schedule : KSH mL_schedule hL_schedule 3 := ⟨in_L, mT 1359 (by decide +kernel) rfl, ⟨by decide +kernel, by decide +kernel, by decide +kernel⟩, by decide, st_L_schedule⟩
def mL_cancelStorm : MR := (34, yL_cancelStorm, cL_cancelStorm, 3, some .int)
def hL_cancelStorm : HH := [(0, 5, 6, 35)]
def iL_cancelStorm : List IE := [(0, .aload_n 0, 0, 0, 0), (1, .iload_n 1, 0, 0, 0), (2, .invokevirtual 63, 0, 0, 0), (5, .ireturn, 0, 0, 0), (6, .astore_n 2, 0, 0, 0), (7, .ldc 37, 0, 0, 0), (9, .ireturn, 0, 0, 0)]
theorem okL_cancelStorm : okL false 34 cL_cancelStorm iL_cancelStorm = true := by decide +kernel
theorem kL_cancelStorm : KSH mL_cancelStorm hL_cancelStorm 2 := ⟨in_L, mT 1374 (by decide +kernel) rfl, ⟨by decide +kernel, by decide +kernel, by decide +kernel⟩, by decide, st_L_cancelStorm⟩
def mL_pass : MR := (34, yL_pass, cL_pass, 3, some .int)
def hL_pass : HH := [(0, 5, 6, 19), (0, 5, 10, 22)]
def iL_pass : List IE := [(0, .aload_n 0, 0, 0, 0), (1, .iload_n 1, 0, 0, 0), (2, .invokevirtual 66, 0, 0, 0), (5, .ireturn, 0, 0, 0), (6, .astore_n 2, 0, 0, 0), (7, .ldc 21, 0, 0, 0), (9, .ireturn, 0, 0, 0), (10, .astore_n 2, 0, 0, 0), (11, .ldc 24, 0, 0, 0), (13, .ireturn, 0, 0, 0)]
theorem okL_pass : okL false 34 cL_pass iL_pass = true := by decide +kernel
theorem kL_pass : KSH mL_pass hL_pass 2 := ⟨in_L, mT 1382 (by decide +kernel) rfl, ⟨by decide +kernel, by decide +kernel, by decide +kernel⟩, by decide, st_L_pass⟩
