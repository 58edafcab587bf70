/-! ===== instructions of the law's static methods (by program) ===== -/
def mL_addCompartment : MR := (34, yL_addCompartment, cL_addCompartment, 5, some .int)
def hL_addCompartment : HH := [(0, 10, 13, 13), (0, 10, 17, 15)]
def iL_addCompartment : List IE := [(0, .aload_n 3, 0, 0, 0), (1, .iconst 0, 0, 0, 0), (2, .aload_n 0, 0, 0, 0), (3, .iload_n 1, 0, 0, 0), (4, .iload_n 2, 0, 0, 0), (5, .invokevirtual 7, 0, 0, 0), (8, .i2l, 0, 0, 0), (9, .lastore, 0, 0, 0), (10, .goto 11, 21, 0, 0), (13, .astore 4, 0, 0, 0), (15, .iconst 1, 0, 0, 1), (16, .ireturn, 0, 0, 0), (17, .astore 4, 0, 0, 0), (19, .iconst 2, 0, 0, 2), (20, .ireturn, 0, 0, 0), (21, .iconst 0, 0, 0, 0), (22, .ireturn, 0, 0, 0)]
theorem okL_addCompartment : okL false 34 cL_addCompartment iL_addCompartment = true := by decide +kernel
theorem kL_addCompartment : KSH mL_addCompartment hL_addCompartment 4 := ⟨in_L, mT 877 (by decide +kernel) rfl, ⟨by decide +kernel, by decide +kernel, by decide +kernel⟩, by decide, st_L_addCompartment⟩
def mL_load : MR := (34, yL_load, cL_load, 5, some .int)
def hL_load : HH := [(0, 10, 13, 20), (0, 10, 17, 13), (0, 10, 21, 15)]
def iL_load : List IE := [(0, .aload_n 3, 0, 0, 0), (1, .iconst 0, 0, 0, 0), (2, .aload_n 0, 0, 0, 0), (3, .iload_n 1, 0, 0, 0), (4, .iload_n 2, 0, 0, 0), (5, .invokevirtual 17, 0, 0, 0), (8, .i2l, 0, 0, 0), (9, .lastore, 0, 0, 0), (10, .goto 15, 25, 0, 0), (13, .astore 4, 0, 0, 0), (15, .iconst 1, 0, 0, 1), (16, .ireturn, 0, 0, 0), (17, .astore 4, 0, 0, 0), (19, .iconst 2, 0, 0, 2), (20, .ireturn, 0, 0, 0), (21, .astore 4, 0, 0, 0), (23, .iconst 3, 0, 0, 3), (24, .ireturn, 0, 0, 0), (25, .iconst 0, 0, 0, 0), (26, .ireturn, 0, 0, 0)]
theorem okL_load : okL false 34 cL_load iL_load = true := by decide +kernel
theorem kL_load : KSH mL_load hL_load 4 := ⟨in_L, mT 966 (by decide +kernel) rfl, ⟨by decide +kernel, by decide +kernel, by decide +kernel⟩, by decide, st_L_load⟩
def mL_unload : MR := (34, yL_unload, cL_unload, 4, some .int)
def hL_unload : HH := [(0, 9, 12, 26)]
def iL_unload : List IE := [(0, .aload_n 2, 0, 0, 0), (1, .iconst 0, 0, 0, 0), (2, .aload_n 0, 0, 0, 0), (3, .iload_n 1, 0, 0, 0), (4, .invokevirtual 22, 0, 0, 0), (7, .i2l, 0, 0, 0), (8, .lastore, 0, 0, 0), (9, .goto 6, 15, 0, 0), (12, .astore_n 3, 0, 0, 0), (13, .iconst 1, 0, 0, 1), (14, .ireturn, 0, 0, 0), (15, .iconst 0, 0, 0, 0), (16, .ireturn, 0, 0, 0)]
theorem okL_unload : okL false 34 cL_unload iL_unload = true := by decide +kernel
theorem kL_unload : KSH mL_unload hL_unload 3 := ⟨in_L, mT 987 (by decide +kernel) rfl, ⟨by decide +kernel, by decide +kernel, by decide +kernel⟩, by decide, st_L_unload⟩
def mL_shift : MR := (34, yL_shift, cL_shift, 5, some .int)
def hL_shift : HH := [(0, 10, 13, 26), (0, 10, 17, 20), (0, 10, 21, 15)]
def iL_shift : List IE := [(0, .aload_n 3, 0, 0, 0), (1, .iconst 0, 0, 0, 0), (2, .aload_n 0, 0, 0, 0), (3, .iload_n 1, 0, 0, 0), (4, .iload_n 2, 0, 0, 0), (5, .invokevirtual 28, 0, 0, 0), (8, .i2l, 0, 0, 0), (9, .lastore, 0, 0, 0), (10, .goto 15, 25, 0, 0), (13, .astore 4, 0, 0, 0), (15, .iconst 1, 0, 0, 1), (16, .ireturn, 0, 0, 0), (17, .astore 4, 0, 0, 0), (19, .iconst 2, 0, 0, 2), (20, .ireturn, 0, 0, 0), (21, .astore 4, 0, 0, 0), (23, .iconst 3, 0, 0, 3), (24, .ireturn, 0, 0, 0), (25, .iconst 0, 0, 0, 0), (26, .ireturn, 0, 0, 0)]
theorem okL_shift : okL false 34 cL_shift iL_shift = true := by decide +kernel
theorem kL_shift : KSH mL_shift hL_shift 4 := ⟨in_L, mT 1009 (by decide +kernel) rfl, ⟨by decide +kernel, by decide +kernel, by decide +kernel⟩, by decide, st_L_shift⟩
def mL_setLeak : MR := (34, yL_setLeak, cL_setLeak, 5, some .int)
def hL_setLeak : HH := [(0, 10, 13, 20), (0, 10, 17, 13)]
def iL_setLeak : List IE := [(0, .aload_n 3, 0, 0, 0), (1, .iconst 0, 0, 0, 0), (2, .aload_n 0, 0, 0, 0), (3, .iload_n 1, 0, 0, 0), (4, .iload_n 2, 0, 0, 0), (5, .invokevirtual 31, 0, 0, 0), (8, .i2l, 0, 0, 0), (9, .lastore, 0, 0, 0), (10, .goto 11, 21, 0, 0), (13, .astore 4, 0, 0, 0), (15, .iconst 1, 0, 0, 1), (16, .ireturn, 0, 0, 0), (17, .astore 4, 0, 0, 0), (19, .iconst 2, 0, 0, 2), (20, .ireturn, 0, 0, 0), (21, .iconst 0, 0, 0, 0), (22, .ireturn, 0, 0, 0)]
theorem okL_setLeak : okL false 34 cL_setLeak iL_setLeak = true := by decide +kernel
theorem kL_setLeak : KSH mL_setLeak hL_setLeak 4 := ⟨in_L, mT 1024 (by decide +kernel) rfl, ⟨by decide +kernel, by decide +kernel, by decide +kernel⟩, by decide, st_L_setLeak⟩
def mL_setPump : MR := (34, yL_setPump, cL_setPump, 5, some .int)
def hL_setPump : HH := [(0, 10, 13, 20), (0, 10, 17, 13)]
def iL_setPump : List IE := [(0, .aload_n 3, 0, 0, 0), (1, .iconst 0, 0, 0, 0), (2, .aload_n 0, 0, 0, 0), (3, .iload_n 1, 0, 0, 0), (4, .iload_n 2, 0, 0, 0), (5, .invokevirtual 34, 0, 0, 0), (8, .i2l, 0, 0, 0), (9, .lastore, 0, 0, 0), (10, .goto 11, 21, 0, 0), (13, .astore 4, 0, 0, 0), (15, .iconst 1, 0, 0, 1), (16, .ireturn, 0, 0, 0), (17, .astore 4, 0, 0, 0), (19, .iconst 2, 0, 0, 2), (20, .ireturn, 0, 0, 0), (21, .iconst 0, 0, 0, 0), (22, .ireturn, 0, 0, 0)]
theorem okL_setPump : okL false 34 cL_setPump iL_setPump = true := by decide +kernel
theorem kL_setPump : KSH mL_setPump hL_setPump 4 := ⟨in_L, mT 1035 (by decide +kernel) rfl, ⟨by decide +kernel, by decide +kernel, by decide +kernel⟩, by decide, st_L_setPump⟩
def mL_transfer : MR := (34, yL_transfer, cL_transfer, 6, some .int)
def hL_transfer : HH := [(0, 12, 15, 20), (0, 12, 19, 13), (0, 12, 23, 15)]
def iL_transfer : List IE := [(0, .aload 4, 0, 0, 0), (2, .iconst 0, 0, 0, 0), (3, .aload_n 0, 0, 0, 0), (4, .iload_n 1, 0, 0, 0), (5, .iload_n 2, 0, 0, 0), (6, .iload_n 3, 0, 0, 0), (7, .invokevirtual 37, 0, 0, 0), (10, .i2l, 0, 0, 0), (11, .lastore, 0, 0, 0), (12, .goto 15, 27, 0, 0), (15, .astore 5, 0, 0, 0), (17, .iconst 1, 0, 0, 1), (18, .ireturn, 0, 0, 0), (19, .astore 5, 0, 0, 0), (21, .iconst 2, 0, 0, 2), (22, .ireturn, 0, 0, 0), (23, .astore 5, 0, 0, 0), (25, .iconst 3, 0, 0, 3), (26, .ireturn, 0, 0, 0), (27, .iconst 0, 0, 0, 0), (28, .ireturn, 0, 0, 0)]
theorem okL_transfer : okL false 34 cL_transfer iL_transfer = true := by decide +kernel
theorem kL_transfer : KSH mL_transfer hL_transfer 5 := ⟨in_L, mT 1042 (by decide +kernel) rfl, ⟨by decide +kernel, by decide +kernel, by decide +kernel⟩, by decide, st_L_transfer⟩
def mL_balance : MR := (34, yL_balance, cL_balance, 4, some .int)
def hL_balance : HH := [(0, 9, 12, 13), (0, 9, 15, 15)]
def iL_balance : List IE := [(0, .aload_n 2, 0, 0, 0), (1, .iconst 0, 0, 0, 0), (2, .aload_n 0, 0, 0, 0), (3, .iload_n 1, 0, 0, 0), (4, .invokevirtual 41, 0, 0, 0), (7, .i2l, 0, 0, 0), (8, .lastore, 0, 0, 0), (9, .goto 9, 18, 0, 0), (12, .astore_n 3, 0, 0, 0), (13, .iconst 1, 0, 0, 1), (14, .ireturn, 0, 0, 0), (15, .astore_n 3, 0, 0, 0), (16, .iconst 2, 0, 0, 2), (17, .ireturn, 0, 0, 0), (18, .iconst 0, 0, 0, 0), (19, .ireturn, 0, 0, 0)]
theorem okL_balance : okL false 34 cL_balance iL_balance = true := by decide +kernel
theorem kL_balance : KSH mL_balance hL_balance 3 := ⟨in_L, mT 1054 (by decide +kernel) rfl, ⟨by decide +kernel, by decide +kernel, by decide +kernel⟩, by decide, st_L_balance⟩
def mL_setPower : MR := (34, yL_setPower, cL_setPower, 4, some .int)
def hL_setPower : HH := [(0, 9, 12, 13)]
def iL_setPower : List IE := [(0, .aload_n 2, 0, 0, 0), (1, .iconst 0, 0, 0, 0), (2, .aload_n 0, 0, 0, 0), (3, .iload_n 1, 0, 0, 0), (4, .invokevirtual 44, 0, 0, 0), (7, .i2l, 0, 0, 0), (8, .lastore, 0, 0, 0), (9, .goto 6, 15, 0, 0), (12, .astore_n 3, 0, 0, 0), (13, .iconst 1, 0, 0, 1), (14, .ireturn, 0, 0, 0), (15, .iconst 0, 0, 0, 0), (16, .ireturn, 0, 0, 0)]
theorem okL_setPower : okL false 34 cL_setPower iL_setPower = true := by decide +kernel
theorem kL_setPower : KSH mL_setPower hL_setPower 3 := ⟨in_L, mT 1071 (by decide +kernel) rfl, ⟨by decide +kernel, by decide +kernel, by decide +kernel⟩, by decide, st_L_setPower⟩
def mL_setLimit : MR := (34, yL_setLimit, cL_setLimit, 4, some .int)
def hL_setLimit : HH := [(0, 9, 12, 13)]
def iL_setLimit : List IE := [(0, .aload_n 2, 0, 0, 0), (1, .iconst 0, 0, 0, 0), (2, .aload_n 0, 0, 0, 0), (3, .iload_n 1, 0, 0, 0), (4, .invokevirtual 47, 0, 0, 0), (7, .i2l, 0, 0, 0), (8, .lastore, 0, 0, 0), (9, .goto 6, 15, 0, 0), (12, .astore_n 3, 0, 0, 0), (13, .iconst 1, 0, 0, 1), (14, .ireturn, 0, 0, 0), (15, .iconst 0, 0, 0, 0), (16, .ireturn, 0, 0, 0)]
theorem okL_setLimit : okL false 34 cL_setLimit iL_setLimit = true := by decide +kernel
theorem kL_setLimit : KSH mL_setLimit hL_setLimit 3 := ⟨in_L, mT 1082 (by decide +kernel) rfl, ⟨by decide +kernel, by decide +kernel, by decide +kernel⟩, by decide, st_L_setLimit⟩
def mL_schedule : MR := (34, yL_schedule, cL_schedule, 5, some .int)
def hL_schedule : HH := [(0, 10, 13, 13), (0, 10, 17, 15)]
def iL_schedule : List IE := [(0, .aload_n 3, 0, 0, 0), (1, .iconst 0, 0, 0, 0), (2, .aload_n 0, 0, 0, 0), (3, .iload_n 1, 0, 0, 0), (4, .iload_n 2, 0, 0, 0), (5, .invokevirtual 50, 0, 0, 0), (8, .i2l, 0, 0, 0), (9, .lastore, 0, 0, 0), (10, .goto 11, 21, 0, 0), (13, .astore 4, 0, 0, 0), (15, .iconst 1, 0, 0, 1), (16, .ireturn, 0, 0, 0), (17, .astore 4, 0, 0, 0), (19, .iconst 2, 0, 0, 2), (20, .ireturn, 0, 0, 0), (21, .iconst 0, 0, 0, 0), (22, .ireturn, 0, 0, 0)]
theorem okL_schedule : okL false 34 cL_schedule iL_schedule = true := by decide +kernel
theorem kL_schedule : KSH mL_schedule hL_schedule 4 := ⟨in_L, mT 1090 (by decide +kernel) rfl, ⟨by decide +kernel, by decide +kernel, by decide +kernel⟩, by decide, st_L_schedule⟩
def mL_cancelStorm : MR := (34, yL_cancelStorm, cL_cancelStorm, 4, some .int)
def hL_cancelStorm : HH := [(0, 9, 12, 26)]
def iL_cancelStorm : List IE := [(0, .aload_n 2, 0, 0, 0), (1, .iconst 0, 0, 0, 0), (2, .aload_n 0, 0, 0, 0), (3, .iload_n 1, 0, 0, 0), (4, .invokevirtual 53, 0, 0, 0), (7, .i2l, 0, 0, 0), (8, .lastore, 0, 0, 0), (9, .goto 6, 15, 0, 0), (12, .astore_n 3, 0, 0, 0), (13, .iconst 1, 0, 0, 1), (14, .ireturn, 0, 0, 0), (15, .iconst 0, 0, 0, 0), (16, .ireturn, 0, 0, 0)]
theorem okL_cancelStorm : okL false 34 cL_cancelStorm iL_cancelStorm = true := by decide +kernel
theorem kL_cancelStorm : KSH mL_cancelStorm hL_cancelStorm 3 := ⟨in_L, mT 1109 (by decide +kernel) rfl, ⟨by decide +kernel, by decide +kernel, by decide +kernel⟩, by decide, st_L_cancelStorm⟩
def mL_pass : MR := (34, yL_pass, cL_pass, 4, some .int)
def hL_pass : HH := [(0, 9, 12, 13), (0, 9, 15, 15)]
def iL_pass : List IE := [(0, .aload_n 2, 0, 0, 0), (1, .iconst 0, 0, 0, 0), (2, .aload_n 0, 0, 0, 0), (3, .iload_n 1, 0, 0, 0), (4, .invokevirtual 56, 0, 0, 0), (7, .i2l, 0, 0, 0), (8, .lastore, 0, 0, 0), (9, .goto 9, 18, 0, 0), (12, .astore_n 3, 0, 0, 0), (13, .iconst 1, 0, 0, 1), (14, .ireturn, 0, 0, 0), (15, .astore_n 3, 0, 0, 0), (16, .iconst 2, 0, 0, 2), (17, .ireturn, 0, 0, 0), (18, .iconst 0, 0, 0, 0), (19, .ireturn, 0, 0, 0)]
theorem okL_pass : okL false 34 cL_pass iL_pass = true := by decide +kernel
theorem kL_pass : KSH mL_pass hL_pass 3 := ⟨in_L, mT 1126 (by decide +kernel) rfl, ⟨by decide +kernel, by decide +kernel, by decide +kernel⟩, by decide, st_L_pass⟩
def mL_arm : MR := (34, yL_arm, cL_arm, 4, some .int)
def hL_arm : HH := [(0, 9, 12, 20)]
def iL_arm : List IE := [(0, .aload_n 2, 0, 0, 0), (1, .iconst 0, 0, 0, 0), (2, .aload_n 0, 0, 0, 0), (3, .iload_n 1, 0, 0, 0), (4, .invokevirtual 59, 0, 0, 0), (7, .i2l, 0, 0, 0), (8, .lastore, 0, 0, 0), (9, .goto 6, 15, 0, 0), (12, .astore_n 3, 0, 0, 0), (13, .iconst 1, 0, 0, 1), (14, .ireturn, 0, 0, 0), (15, .iconst 0, 0, 0, 0), (16, .ireturn, 0, 0, 0)]
theorem okL_arm : okL false 34 cL_arm iL_arm = true := by decide +kernel
theorem kL_arm : KSH mL_arm hL_arm 3 := ⟨in_L, mT 1181 (by decide +kernel) rfl, ⟨by decide +kernel, by decide +kernel, by decide +kernel⟩, by decide, st_L_arm⟩
def mL_capacity : MR := (34, yL_capacity, cL_capacity, 4, some .int)
def hL_capacity : HH := [(0, 9, 12, 20)]
def iL_capacity : List IE := [(0, .aload_n 2, 0, 0, 0), (1, .iconst 0, 0, 0, 0), (2, .aload_n 0, 0, 0, 0), (3, .iload_n 1, 0, 0, 0), (4, .invokevirtual 62, 0, 0, 0), (7, .i2l, 0, 0, 0), (8, .lastore, 0, 0, 0), (9, .goto 6, 15, 0, 0), (12, .astore_n 3, 0, 0, 0), (13, .iconst 1, 0, 0, 1), (14, .ireturn, 0, 0, 0), (15, .iconst 0, 0, 0, 0), (16, .ireturn, 0, 0, 0)]
theorem okL_capacity : okL false 34 cL_capacity iL_capacity = true := by decide +kernel
theorem kL_capacity : KSH mL_capacity hL_capacity 3 := ⟨in_L, mT 1193 (by decide +kernel) rfl, ⟨by decide +kernel, by decide +kernel, by decide +kernel⟩, by decide, st_L_capacity⟩
def mL_water : MR := (34, yL_water, cL_water, 4, some .int)
def hL_water : HH := [(0, 9, 12, 20)]
def iL_water : List IE := [(0, .aload_n 2, 0, 0, 0), (1, .iconst 0, 0, 0, 0), (2, .aload_n 0, 0, 0, 0), (3, .iload_n 1, 0, 0, 0), (4, .invokevirtual 65, 0, 0, 0), (7, .i2l, 0, 0, 0), (8, .lastore, 0, 0, 0), (9, .goto 6, 15, 0, 0), (12, .astore_n 3, 0, 0, 0), (13, .iconst 1, 0, 0, 1), (14, .ireturn, 0, 0, 0), (15, .iconst 0, 0, 0, 0), (16, .ireturn, 0, 0, 0)]
theorem okL_water : okL false 34 cL_water iL_water = true := by decide +kernel
theorem kL_water : KSH mL_water hL_water 3 := ⟨in_L, mT 1200 (by decide +kernel) rfl, ⟨by decide +kernel, by decide +kernel, by decide +kernel⟩, by decide, st_L_water⟩
def mL_leak : MR := (34, yL_leak, cL_leak, 4, some .int)
def hL_leak : HH := [(0, 9, 12, 20)]
def iL_leak : List IE := [(0, .aload_n 2, 0, 0, 0), (1, .iconst 0, 0, 0, 0), (2, .aload_n 0, 0, 0, 0), (3, .iload_n 1, 0, 0, 0), (4, .invokevirtual 68, 0, 0, 0), (7, .i2l, 0, 0, 0), (8, .lastore, 0, 0, 0), (9, .goto 6, 15, 0, 0), (12, .astore_n 3, 0, 0, 0), (13, .iconst 1, 0, 0, 1), (14, .ireturn, 0, 0, 0), (15, .iconst 0, 0, 0, 0), (16, .ireturn, 0, 0, 0)]
theorem okL_leak : okL false 34 cL_leak iL_leak = true := by decide +kernel
theorem kL_leak : KSH mL_leak hL_leak 3 := ⟨in_L, mT 1207 (by decide +kernel) rfl, ⟨by decide +kernel, by decide +kernel, by decide +kernel⟩, by decide, st_L_leak⟩
def mL_loadOf : MR := (34, yL_loadOf, cL_loadOf, 4, some .int)
def hL_loadOf : HH := [(0, 9, 12, 20)]
def iL_loadOf : List IE := [(0, .aload_n 2, 0, 0, 0), (1, .iconst 0, 0, 0, 0), (2, .aload_n 0, 0, 0, 0), (3, .iload_n 1, 0, 0, 0), (4, .invokevirtual 71, 0, 0, 0), (7, .i2l, 0, 0, 0), (8, .lastore, 0, 0, 0), (9, .goto 6, 15, 0, 0), (12, .astore_n 3, 0, 0, 0), (13, .iconst 1, 0, 0, 1), (14, .ireturn, 0, 0, 0), (15, .iconst 0, 0, 0, 0), (16, .ireturn, 0, 0, 0)]
theorem okL_loadOf : okL false 34 cL_loadOf iL_loadOf = true := by decide +kernel
theorem kL_loadOf : KSH mL_loadOf hL_loadOf 3 := ⟨in_L, mT 1214 (by decide +kernel) rfl, ⟨by decide +kernel, by decide +kernel, by decide +kernel⟩, by decide, st_L_loadOf⟩
def mL_wouldPump : MR := (34, yL_wouldPump, cL_wouldPump, 4, some .int)
def hL_wouldPump : HH := [(0, 16, 19, 20)]
def iL_wouldPump : List IE := [(0, .aload_n 2, 0, 0, 0), (1, .iconst 0, 0, 0, 0), (2, .aload_n 0, 0, 0, 0), (3, .iload_n 1, 0, 0, 0), (4, .invokevirtual 74, 0, 0, 0), (7, .ifCond .eq 7, 14, 0, 0), (10, .lconst 1, 0, 0, 0), (11, .goto 4, 15, 0, 0), (14, .lconst 0, 0, 0, 0), (15, .lastore, 0, 0, 0), (16, .goto 6, 22, 0, 0), (19, .astore_n 3, 0, 0, 0), (20, .iconst 1, 0, 0, 1), (21, .ireturn, 0, 0, 0), (22, .iconst 0, 0, 0, 0), (23, .ireturn, 0, 0, 0)]
theorem okL_wouldPump : okL false 34 cL_wouldPump iL_wouldPump = true := by decide +kernel
theorem kL_wouldPump : KSH mL_wouldPump hL_wouldPump 3 := ⟨in_L, mT 1222 (by decide +kernel) rfl, ⟨by decide +kernel, by decide +kernel, by decide +kernel⟩, by decide, st_L_wouldPump⟩
def mL_pumpAt : MR := (34, yL_pumpAt, cL_pumpAt, 4, some .int)
def hL_pumpAt : HH := [(0, 9, 12, 26)]
def iL_pumpAt : List IE := [(0, .aload_n 2, 0, 0, 0), (1, .iconst 0, 0, 0, 0), (2, .aload_n 0, 0, 0, 0), (3, .iload_n 1, 0, 0, 0), (4, .invokevirtual 78, 0, 0, 0), (7, .i2l, 0, 0, 0), (8, .lastore, 0, 0, 0), (9, .goto 6, 15, 0, 0), (12, .astore_n 3, 0, 0, 0), (13, .iconst 1, 0, 0, 1), (14, .ireturn, 0, 0, 0), (15, .iconst 0, 0, 0, 0), (16, .ireturn, 0, 0, 0)]
theorem okL_pumpAt : okL false 34 cL_pumpAt iL_pumpAt = true := by decide +kernel
theorem kL_pumpAt : KSH mL_pumpAt hL_pumpAt 3 := ⟨in_L, mT 1230 (by decide +kernel) rfl, ⟨by decide +kernel, by decide +kernel, by decide +kernel⟩, by decide, st_L_pumpAt⟩
def mL_minutesUntilFull : MR := (34, yL_minutesUntilFull, cL_minutesUntilFull, 4, some .int)
def hL_minutesUntilFull : HH := [(0, 9, 12, 20), (0, 9, 15, 26)]
def iL_minutesUntilFull : List IE := [(0, .aload_n 2, 0, 0, 0), (1, .iconst 0, 0, 0, 0), (2, .aload_n 0, 0, 0, 0), (3, .iload_n 1, 0, 0, 0), (4, .invokevirtual 81, 0, 0, 0), (7, .i2l, 0, 0, 0), (8, .lastore, 0, 0, 0), (9, .goto 9, 18, 0, 0), (12, .astore_n 3, 0, 0, 0), (13, .iconst 1, 0, 0, 1), (14, .ireturn, 0, 0, 0), (15, .astore_n 3, 0, 0, 0), (16, .iconst 2, 0, 0, 2), (17, .ireturn, 0, 0, 0), (18, .iconst 0, 0, 0, 0), (19, .ireturn, 0, 0, 0)]
theorem okL_minutesUntilFull : okL false 34 cL_minutesUntilFull iL_minutesUntilFull = true := by decide +kernel
theorem kL_minutesUntilFull : KSH mL_minutesUntilFull hL_minutesUntilFull 3 := ⟨in_L, mT 1240 (by decide +kernel) rfl, ⟨by decide +kernel, by decide +kernel, by decide +kernel⟩, by decide, st_L_minutesUntilFull⟩
def mL_idAt : MR := (34, yL_idAt, cL_idAt, 4, some .int)
def hL_idAt : HH := [(0, 9, 12, 20)]
def iL_idAt : List IE := [(0, .aload_n 2, 0, 0, 0), (1, .iconst 0, 0, 0, 0), (2, .aload_n 0, 0, 0, 0), (3, .iload_n 1, 0, 0, 0), (4, .invokevirtual 84, 0, 0, 0), (7, .i2l, 0, 0, 0), (8, .lastore, 0, 0, 0), (9, .goto 6, 15, 0, 0), (12, .astore_n 3, 0, 0, 0), (13, .iconst 1, 0, 0, 1), (14, .ireturn, 0, 0, 0), (15, .iconst 0, 0, 0, 0), (16, .ireturn, 0, 0, 0)]
theorem okL_idAt : okL false 34 cL_idAt iL_idAt = true := by decide +kernel
theorem kL_idAt : KSH mL_idAt hL_idAt 3 := ⟨in_L, mT 1248 (by decide +kernel) rfl, ⟨by decide +kernel, by decide +kernel, by decide +kernel⟩, by decide, st_L_idAt⟩
def mL_weightOf : MR := (34, yL_weightOf, cL_weightOf, 4, some .int)
def hL_weightOf : HH := [(0, 9, 12, 26)]
def iL_weightOf : List IE := [(0, .aload_n 2, 0, 0, 0), (1, .iconst 0, 0, 0, 0), (2, .aload_n 0, 0, 0, 0), (3, .iload_n 1, 0, 0, 0), (4, .invokevirtual 87, 0, 0, 0), (7, .i2l, 0, 0, 0), (8, .lastore, 0, 0, 0), (9, .goto 6, 15, 0, 0), (12, .astore_n 3, 0, 0, 0), (13, .iconst 1, 0, 0, 1), (14, .ireturn, 0, 0, 0), (15, .iconst 0, 0, 0, 0), (16, .ireturn, 0, 0, 0)]
theorem okL_weightOf : okL false 34 cL_weightOf iL_weightOf = true := by decide +kernel
theorem kL_weightOf : KSH mL_weightOf hL_weightOf 3 := ⟨in_L, mT 1256 (by decide +kernel) rfl, ⟨by decide +kernel, by decide +kernel, by decide +kernel⟩, by decide, st_L_weightOf⟩
def mL_compartmentOf : MR := (34, yL_compartmentOf, cL_compartmentOf, 4, some .int)
def hL_compartmentOf : HH := [(0, 9, 12, 26)]
def iL_compartmentOf : List IE := [(0, .aload_n 2, 0, 0, 0), (1, .iconst 0, 0, 0, 0), (2, .aload_n 0, 0, 0, 0), (3, .iload_n 1, 0, 0, 0), (4, .invokevirtual 90, 0, 0, 0), (7, .i2l, 0, 0, 0), (8, .lastore, 0, 0, 0), (9, .goto 6, 15, 0, 0), (12, .astore_n 3, 0, 0, 0), (13, .iconst 1, 0, 0, 1), (14, .ireturn, 0, 0, 0), (15, .iconst 0, 0, 0, 0), (16, .ireturn, 0, 0, 0)]
theorem okL_compartmentOf : okL false 34 cL_compartmentOf iL_compartmentOf = true := by decide +kernel
theorem kL_compartmentOf : KSH mL_compartmentOf hL_compartmentOf 3 := ⟨in_L, mT 1268 (by decide +kernel) rfl, ⟨by decide +kernel, by decide +kernel, by decide +kernel⟩, by decide, st_L_compartmentOf⟩
def mL_heaviestPiece : MR := (34, yL_heaviestPiece, cL_heaviestPiece, 3, some .int)
def hL_heaviestPiece : HH := [(0, 8, 11, 26)]
def iL_heaviestPiece : List IE := [(0, .aload_n 1, 0, 0, 0), (1, .iconst 0, 0, 0, 0), (2, .aload_n 0, 0, 0, 0), (3, .invokevirtual 93, 0, 0, 0), (6, .i2l, 0, 0, 0), (7, .lastore, 0, 0, 0), (8, .goto 6, 14, 0, 0), (11, .astore_n 2, 0, 0, 0), (12, .iconst 1, 0, 0, 1), (13, .ireturn, 0, 0, 0), (14, .iconst 0, 0, 0, 0), (15, .ireturn, 0, 0, 0)]
theorem okL_heaviestPiece : okL false 34 cL_heaviestPiece iL_heaviestPiece = true := by decide +kernel
theorem kL_heaviestPiece : KSH mL_heaviestPiece hL_heaviestPiece 2 := ⟨in_L, mT 1275 (by decide +kernel) rfl, ⟨by decide +kernel, by decide +kernel, by decide +kernel⟩, by decide, st_L_heaviestPiece⟩
def mL_bestSource : MR := (34, yL_bestSource, cL_bestSource, 4, some .int)
def hL_bestSource : HH := [(0, 9, 12, 13), (0, 9, 15, 26)]
def iL_bestSource : List IE := [(0, .aload_n 2, 0, 0, 0), (1, .iconst 0, 0, 0, 0), (2, .aload_n 0, 0, 0, 0), (3, .iload_n 1, 0, 0, 0), (4, .invokevirtual 97, 0, 0, 0), (7, .i2l, 0, 0, 0), (8, .lastore, 0, 0, 0), (9, .goto 9, 18, 0, 0), (12, .astore_n 3, 0, 0, 0), (13, .iconst 1, 0, 0, 1), (14, .ireturn, 0, 0, 0), (15, .astore_n 3, 0, 0, 0), (16, .iconst 2, 0, 0, 2), (17, .ireturn, 0, 0, 0), (18, .iconst 0, 0, 0, 0), (19, .ireturn, 0, 0, 0)]
theorem okL_bestSource : okL false 34 cL_bestSource iL_bestSource = true := by decide +kernel
theorem kL_bestSource : KSH mL_bestSource hL_bestSource 3 := ⟨in_L, mT 1283 (by decide +kernel) rfl, ⟨by decide +kernel, by decide +kernel, by decide +kernel⟩, by decide, st_L_bestSource⟩
def mL_bestTarget : MR := (34, yL_bestTarget, cL_bestTarget, 4, some .int)
def hL_bestTarget : HH := [(0, 9, 12, 13), (0, 9, 15, 26)]
def iL_bestTarget : List IE := [(0, .aload_n 2, 0, 0, 0), (1, .iconst 0, 0, 0, 0), (2, .aload_n 0, 0, 0, 0), (3, .iload_n 1, 0, 0, 0), (4, .invokevirtual 100, 0, 0, 0), (7, .i2l, 0, 0, 0), (8, .lastore, 0, 0, 0), (9, .goto 9, 18, 0, 0), (12, .astore_n 3, 0, 0, 0), (13, .iconst 1, 0, 0, 1), (14, .ireturn, 0, 0, 0), (15, .astore_n 3, 0, 0, 0), (16, .iconst 2, 0, 0, 2), (17, .ireturn, 0, 0, 0), (18, .iconst 0, 0, 0, 0), (19, .ireturn, 0, 0, 0)]
theorem okL_bestTarget : okL false 34 cL_bestTarget iL_bestTarget = true := by decide +kernel
theorem kL_bestTarget : KSH mL_bestTarget hL_bestTarget 3 := ⟨in_L, mT 1295 (by decide +kernel) rfl, ⟨by decide +kernel, by decide +kernel, by decide +kernel⟩, by decide, st_L_bestTarget⟩
def mL_bestMoment : MR := (34, yL_bestMoment, cL_bestMoment, 4, some .int)
def hL_bestMoment : HH := [(0, 9, 12, 13), (0, 9, 15, 26)]
def iL_bestMoment : List IE := [(0, .aload_n 2, 0, 0, 0), (1, .iconst 0, 0, 0, 0), (2, .aload_n 0, 0, 0, 0), (3, .iload_n 1, 0, 0, 0), (4, .invokevirtual 103, 0, 0, 0), (7, .i2l, 0, 0, 0), (8, .lastore, 0, 0, 0), (9, .goto 9, 18, 0, 0), (12, .astore_n 3, 0, 0, 0), (13, .iconst 1, 0, 0, 1), (14, .ireturn, 0, 0, 0), (15, .astore_n 3, 0, 0, 0), (16, .iconst 2, 0, 0, 2), (17, .ireturn, 0, 0, 0), (18, .iconst 0, 0, 0, 0), (19, .ireturn, 0, 0, 0)]
theorem okL_bestMoment : okL false 34 cL_bestMoment iL_bestMoment = true := by decide +kernel
theorem kL_bestMoment : KSH mL_bestMoment hL_bestMoment 3 := ⟨in_L, mT 1302 (by decide +kernel) rfl, ⟨by decide +kernel, by decide +kernel, by decide +kernel⟩, by decide, st_L_bestMoment⟩
def mL_transfersToBalance : MR := (34, yL_transfersToBalance, cL_transfersToBalance, 4, some .int)
def hL_transfersToBalance : HH := [(0, 9, 12, 13), (0, 9, 15, 26)]
def iL_transfersToBalance : List IE := [(0, .aload_n 2, 0, 0, 0), (1, .iconst 0, 0, 0, 0), (2, .aload_n 0, 0, 0, 0), (3, .iload_n 1, 0, 0, 0), (4, .invokevirtual 106, 0, 0, 0), (7, .i2l, 0, 0, 0), (8, .lastore, 0, 0, 0), (9, .goto 9, 18, 0, 0), (12, .astore_n 3, 0, 0, 0), (13, .iconst 1, 0, 0, 1), (14, .ireturn, 0, 0, 0), (15, .astore_n 3, 0, 0, 0), (16, .iconst 2, 0, 0, 2), (17, .ireturn, 0, 0, 0), (18, .iconst 0, 0, 0, 0), (19, .ireturn, 0, 0, 0)]
theorem okL_transfersToBalance : okL false 34 cL_transfersToBalance iL_transfersToBalance = true := by decide +kernel
theorem kL_transfersToBalance : KSH mL_transfersToBalance hL_transfersToBalance 3 := ⟨in_L, mT 1309 (by decide +kernel) rfl, ⟨by decide +kernel, by decide +kernel, by decide +kernel⟩, by decide, st_L_transfersToBalance⟩
def mL_bestShiftPiece : MR := (34, yL_bestShiftPiece, cL_bestShiftPiece, 3, some .int)
def hL_bestShiftPiece : HH := [(0, 8, 11, 26)]
def iL_bestShiftPiece : List IE := [(0, .aload_n 1, 0, 0, 0), (1, .iconst 0, 0, 0, 0), (2, .aload_n 0, 0, 0, 0), (3, .invokevirtual 109, 0, 0, 0), (6, .i2l, 0, 0, 0), (7, .lastore, 0, 0, 0), (8, .goto 6, 14, 0, 0), (11, .astore_n 2, 0, 0, 0), (12, .iconst 1, 0, 0, 1), (13, .ireturn, 0, 0, 0), (14, .iconst 0, 0, 0, 0), (15, .ireturn, 0, 0, 0)]
theorem okL_bestShiftPiece : okL false 34 cL_bestShiftPiece iL_bestShiftPiece = true := by decide +kernel
theorem kL_bestShiftPiece : KSH mL_bestShiftPiece hL_bestShiftPiece 2 := ⟨in_L, mT 1318 (by decide +kernel) rfl, ⟨by decide +kernel, by decide +kernel, by decide +kernel⟩, by decide, st_L_bestShiftPiece⟩
def mL_bestShiftCompartment : MR := (34, yL_bestShiftCompartment, cL_bestShiftCompartment, 3, some .int)
def hL_bestShiftCompartment : HH := [(0, 8, 11, 26)]
def iL_bestShiftCompartment : List IE := [(0, .aload_n 1, 0, 0, 0), (1, .iconst 0, 0, 0, 0), (2, .aload_n 0, 0, 0, 0), (3, .invokevirtual 112, 0, 0, 0), (6, .i2l, 0, 0, 0), (7, .lastore, 0, 0, 0), (8, .goto 6, 14, 0, 0), (11, .astore_n 2, 0, 0, 0), (12, .iconst 1, 0, 0, 1), (13, .ireturn, 0, 0, 0), (14, .iconst 0, 0, 0, 0), (15, .ireturn, 0, 0, 0)]
theorem okL_bestShiftCompartment : okL false 34 cL_bestShiftCompartment iL_bestShiftCompartment = true := by decide +kernel
theorem kL_bestShiftCompartment : KSH mL_bestShiftCompartment hL_bestShiftCompartment 2 := ⟨in_L, mT 1336 (by decide +kernel) rfl, ⟨by decide +kernel, by decide +kernel, by decide +kernel⟩, by decide, st_L_bestShiftCompartment⟩
def mL_momentAfter : MR := (34, yL_momentAfter, cL_momentAfter, 4, some .int)
def hL_momentAfter : HH := [(0, 9, 12, 13)]
def iL_momentAfter : List IE := [(0, .aload_n 2, 0, 0, 0), (1, .iconst 0, 0, 0, 0), (2, .aload_n 0, 0, 0, 0), (3, .iload_n 1, 0, 0, 0), (4, .invokevirtual 115, 0, 0, 0), (7, .i2l, 0, 0, 0), (8, .lastore, 0, 0, 0), (9, .goto 6, 15, 0, 0), (12, .astore_n 3, 0, 0, 0), (13, .iconst 1, 0, 0, 1), (14, .ireturn, 0, 0, 0), (15, .iconst 0, 0, 0, 0), (16, .ireturn, 0, 0, 0)]
theorem okL_momentAfter : okL false 34 cL_momentAfter iL_momentAfter = true := by decide +kernel
theorem kL_momentAfter : KSH mL_momentAfter hL_momentAfter 3 := ⟨in_L, mT 1343 (by decide +kernel) rfl, ⟨by decide +kernel, by decide +kernel, by decide +kernel⟩, by decide, st_L_momentAfter⟩
def mL_minutesUntilSunk : MR := (34, yL_minutesUntilSunk, cL_minutesUntilSunk, 3, some .int)
def hL_minutesUntilSunk : HH := [(0, 8, 11, 26)]
def iL_minutesUntilSunk : List IE := [(0, .aload_n 1, 0, 0, 0), (1, .iconst 0, 0, 0, 0), (2, .aload_n 0, 0, 0, 0), (3, .invokevirtual 118, 0, 0, 0), (6, .i2l, 0, 0, 0), (7, .lastore, 0, 0, 0), (8, .goto 6, 14, 0, 0), (11, .astore_n 2, 0, 0, 0), (12, .iconst 1, 0, 0, 1), (13, .ireturn, 0, 0, 0), (14, .iconst 0, 0, 0, 0), (15, .ireturn, 0, 0, 0)]
theorem okL_minutesUntilSunk : okL false 34 cL_minutesUntilSunk iL_minutesUntilSunk = true := by decide +kernel
theorem kL_minutesUntilSunk : KSH mL_minutesUntilSunk hL_minutesUntilSunk 2 := ⟨in_L, mT 1351 (by decide +kernel) rfl, ⟨by decide +kernel, by decide +kernel, by decide +kernel⟩, by decide, st_L_minutesUntilSunk⟩
def mL_compartmentByLoad : MR := (34, yL_compartmentByLoad, cL_compartmentByLoad, 4, some .int)
def hL_compartmentByLoad : HH := [(0, 9, 12, 26)]
def iL_compartmentByLoad : List IE := [(0, .aload_n 2, 0, 0, 0), (1, .iconst 0, 0, 0, 0), (2, .aload_n 0, 0, 0, 0), (3, .iload_n 1, 0, 0, 0), (4, .invokevirtual 121, 0, 0, 0), (7, .i2l, 0, 0, 0), (8, .lastore, 0, 0, 0), (9, .goto 6, 15, 0, 0), (12, .astore_n 3, 0, 0, 0), (13, .iconst 1, 0, 0, 1), (14, .ireturn, 0, 0, 0), (15, .iconst 0, 0, 0, 0), (16, .ireturn, 0, 0, 0)]
theorem okL_compartmentByLoad : okL false 34 cL_compartmentByLoad iL_compartmentByLoad = true := by decide +kernel
theorem kL_compartmentByLoad : KSH mL_compartmentByLoad hL_compartmentByLoad 3 := ⟨in_L, mT 1359 (by decide +kernel) rfl, ⟨by decide +kernel, by decide +kernel, by decide +kernel⟩, by decide, st_L_compartmentByLoad⟩
def mL_nextStorm : MR := (34, yL_nextStorm, cL_nextStorm, 3, some .int)
def hL_nextStorm : HH := [(0, 8, 11, 26)]
def iL_nextStorm : List IE := [(0, .aload_n 1, 0, 0, 0), (1, .iconst 0, 0, 0, 0), (2, .aload_n 0, 0, 0, 0), (3, .invokevirtual 124, 0, 0, 0), (6, .i2l, 0, 0, 0), (7, .lastore, 0, 0, 0), (8, .goto 6, 14, 0, 0), (11, .astore_n 2, 0, 0, 0), (12, .iconst 1, 0, 0, 1), (13, .ireturn, 0, 0, 0), (14, .iconst 0, 0, 0, 0), (15, .ireturn, 0, 0, 0)]
theorem okL_nextStorm : okL false 34 cL_nextStorm iL_nextStorm = true := by decide +kernel
theorem kL_nextStorm : KSH mL_nextStorm hL_nextStorm 2 := ⟨in_L, mT 1374 (by decide +kernel) rfl, ⟨by decide +kernel, by decide +kernel, by decide +kernel⟩, by decide, st_L_nextStorm⟩
def mL_strengthAt : MR := (34, yL_strengthAt, cL_strengthAt, 4, some .int)
def hL_strengthAt : HH := [(0, 9, 12, 26)]
def iL_strengthAt : List IE := [(0, .aload_n 2, 0, 0, 0), (1, .iconst 0, 0, 0, 0), (2, .aload_n 0, 0, 0, 0), (3, .iload_n 1, 0, 0, 0), (4, .invokevirtual 127, 0, 0, 0), (7, .i2l, 0, 0, 0), (8, .lastore, 0, 0, 0), (9, .goto 6, 15, 0, 0), (12, .astore_n 3, 0, 0, 0), (13, .iconst 1, 0, 0, 1), (14, .ireturn, 0, 0, 0), (15, .iconst 0, 0, 0, 0), (16, .ireturn, 0, 0, 0)]
theorem okL_strengthAt : okL false 34 cL_strengthAt iL_strengthAt = true := by decide +kernel
theorem kL_strengthAt : KSH mL_strengthAt hL_strengthAt 3 := ⟨in_L, mT 1382 (by decide +kernel) rfl, ⟨by decide +kernel, by decide +kernel, by decide +kernel⟩, by decide, st_L_strengthAt⟩
def mL_loggedMinute : MR := (34, yL_loggedMinute, cL_loggedMinute, 4, some .int)
def hL_loggedMinute : HH := [(0, 9, 12, 26)]
def iL_loggedMinute : List IE := [(0, .aload_n 2, 0, 0, 0), (1, .iconst 0, 0, 0, 0), (2, .aload_n 0, 0, 0, 0), (3, .iload_n 1, 0, 0, 0), (4, .invokevirtual 130, 0, 0, 0), (7, .i2l, 0, 0, 0), (8, .lastore, 0, 0, 0), (9, .goto 6, 15, 0, 0), (12, .astore_n 3, 0, 0, 0), (13, .iconst 1, 0, 0, 1), (14, .ireturn, 0, 0, 0), (15, .iconst 0, 0, 0, 0), (16, .ireturn, 0, 0, 0)]
theorem okL_loggedMinute : okL false 34 cL_loggedMinute iL_loggedMinute = true := by decide +kernel
theorem kL_loggedMinute : KSH mL_loggedMinute hL_loggedMinute 3 := ⟨in_L, mT 1389 (by decide +kernel) rfl, ⟨by decide +kernel, by decide +kernel, by decide +kernel⟩, by decide, st_L_loggedMinute⟩
def mL_meanWater : MR := (34, yL_meanWater, cL_meanWater, 3, some .int)
def hL_meanWater : HH := [(0, 7, 10, 137)]
def iL_meanWater : List IE := [(0, .aload_n 1, 0, 0, 0), (1, .iconst 0, 0, 0, 0), (2, .aload_n 0, 0, 0, 0), (3, .invokevirtual 133, 0, 0, 0), (6, .dastore, 0, 0, 0), (7, .goto 6, 13, 0, 0), (10, .astore_n 2, 0, 0, 0), (11, .iconst 1, 0, 0, 1), (12, .ireturn, 0, 0, 0), (13, .iconst 0, 0, 0, 0), (14, .ireturn, 0, 0, 0)]
theorem okL_meanWater : okL false 34 cL_meanWater iL_meanWater = true := by decide +kernel
theorem kL_meanWater : KSH mL_meanWater hL_meanWater 2 := ⟨in_L, mT 1397 (by decide +kernel) rfl, ⟨by decide +kernel, by decide +kernel, by decide +kernel⟩, by decide, st_L_meanWater⟩
def mL_fillShare : MR := (34, yL_fillShare, cL_fillShare, 3, some .int)
def hL_fillShare : HH := [(0, 8, 11, 137)]
def iL_fillShare : List IE := [(0, .aload_n 1, 0, 0, 0), (1, .iconst 0, 0, 0, 0), (2, .aload_n 0, 0, 0, 0), (3, .invokevirtual 139, 0, 0, 0), (6, .f2d, 0, 0, 0), (7, .dastore, 0, 0, 0), (8, .goto 6, 14, 0, 0), (11, .astore_n 2, 0, 0, 0), (12, .iconst 1, 0, 0, 1), (13, .ireturn, 0, 0, 0), (14, .iconst 0, 0, 0, 0), (15, .ireturn, 0, 0, 0)]
theorem okL_fillShare : okL false 34 cL_fillShare iL_fillShare = true := by decide +kernel
theorem kL_fillShare : KSH mL_fillShare hL_fillShare 2 := ⟨in_L, mT 1426 (by decide +kernel) rfl, ⟨by decide +kernel, by decide +kernel, by decide +kernel⟩, by decide, st_L_fillShare⟩
def mL_formatCompartment : MR := (34, yL_formatCompartment, cL_formatCompartment, 4, some .int)
def hL_formatCompartment : HH := [(0, 9, 12, 20)]
def iL_formatCompartment : List IE := [(0, .aload_n 2, 0, 0, 0), (1, .iconst 0, 0, 0, 0), (2, .aload_n 0, 0, 0, 0), (3, .iload_n 1, 0, 0, 0), (4, .invokevirtual 143, 0, 0, 0), (7, .i2l, 0, 0, 0), (8, .lastore, 0, 0, 0), (9, .goto 6, 15, 0, 0), (12, .astore_n 3, 0, 0, 0), (13, .iconst 1, 0, 0, 1), (14, .ireturn, 0, 0, 0), (15, .iconst 0, 0, 0, 0), (16, .ireturn, 0, 0, 0)]
theorem okL_formatCompartment : okL false 34 cL_formatCompartment iL_formatCompartment = true := by decide +kernel
theorem kL_formatCompartment : KSH mL_formatCompartment hL_formatCompartment 3 := ⟨in_L, mT 1437 (by decide +kernel) rfl, ⟨by decide +kernel, by decide +kernel, by decide +kernel⟩, by decide, st_L_formatCompartment⟩
def mL_formatCargo : MR := (34, yL_formatCargo, cL_formatCargo, 4, some .int)
def hL_formatCargo : HH := [(0, 9, 12, 20)]
def iL_formatCargo : List IE := [(0, .aload_n 2, 0, 0, 0), (1, .iconst 0, 0, 0, 0), (2, .aload_n 0, 0, 0, 0), (3, .iload_n 1, 0, 0, 0), (4, .invokevirtual 146, 0, 0, 0), (7, .i2l, 0, 0, 0), (8, .lastore, 0, 0, 0), (9, .goto 6, 15, 0, 0), (12, .astore_n 3, 0, 0, 0), (13, .iconst 1, 0, 0, 1), (14, .ireturn, 0, 0, 0), (15, .iconst 0, 0, 0, 0), (16, .ireturn, 0, 0, 0)]
theorem okL_formatCargo : okL false 34 cL_formatCargo iL_formatCargo = true := by decide +kernel
theorem kL_formatCargo : KSH mL_formatCargo hL_formatCargo 3 := ⟨in_L, mT 1449 (by decide +kernel) rfl, ⟨by decide +kernel, by decide +kernel, by decide +kernel⟩, by decide, st_L_formatCargo⟩
def mL_lineChar : MR := (34, yL_lineChar, cL_lineChar, 4, some .int)
def hL_lineChar : HH := [(0, 9, 12, 20)]
def iL_lineChar : List IE := [(0, .aload_n 2, 0, 0, 0), (1, .iconst 0, 0, 0, 0), (2, .aload_n 0, 0, 0, 0), (3, .iload_n 1, 0, 0, 0), (4, .invokevirtual 149, 0, 0, 0), (7, .i2l, 0, 0, 0), (8, .lastore, 0, 0, 0), (9, .goto 6, 15, 0, 0), (12, .astore_n 3, 0, 0, 0), (13, .iconst 1, 0, 0, 1), (14, .ireturn, 0, 0, 0), (15, .iconst 0, 0, 0, 0), (16, .ireturn, 0, 0, 0)]
theorem okL_lineChar : okL false 34 cL_lineChar iL_lineChar = true := by decide +kernel
theorem kL_lineChar : KSH mL_lineChar hL_lineChar 3 := ⟨in_L, mT 1456 (by decide +kernel) rfl, ⟨by decide +kernel, by decide +kernel, by decide +kernel⟩, by decide, st_L_lineChar⟩
def mL_append : MR := (34, yL_append, cL_append, 4, some .int)
def hL_append : HH := [(0, 9, 12, 13), (0, 9, 15, 15)]
def iL_append : List IE := [(0, .aload_n 2, 0, 0, 0), (1, .iconst 0, 0, 0, 0), (2, .aload_n 0, 0, 0, 0), (3, .iload_n 1, 0, 0, 0), (4, .invokevirtual 153, 0, 0, 0), (7, .i2l, 0, 0, 0), (8, .lastore, 0, 0, 0), (9, .goto 9, 18, 0, 0), (12, .astore_n 3, 0, 0, 0), (13, .iconst 1, 0, 0, 1), (14, .ireturn, 0, 0, 0), (15, .astore_n 3, 0, 0, 0), (16, .iconst 2, 0, 0, 2), (17, .ireturn, 0, 0, 0), (18, .iconst 0, 0, 0, 0), (19, .ireturn, 0, 0, 0)]
theorem okL_append : okL false 34 cL_append iL_append = true := by decide +kernel
theorem kL_append : KSH mL_append hL_append 3 := ⟨in_L, mT 1474 (by decide +kernel) rfl, ⟨by decide +kernel, by decide +kernel, by decide +kernel⟩, by decide, st_L_append⟩
def mL_run : MR := (34, yL_run, cL_run, 3, some .int)
def hL_run : HH := [(0, 8, 11, 13), (0, 8, 14, 15)]
def iL_run : List IE := [(0, .aload_n 1, 0, 0, 0), (1, .iconst 0, 0, 0, 0), (2, .aload_n 0, 0, 0, 0), (3, .invokevirtual 157, 0, 0, 0), (6, .i2l, 0, 0, 0), (7, .lastore, 0, 0, 0), (8, .goto 9, 17, 0, 0), (11, .astore_n 2, 0, 0, 0), (12, .iconst 1, 0, 0, 1), (13, .ireturn, 0, 0, 0), (14, .astore_n 2, 0, 0, 0), (15, .iconst 2, 0, 0, 2), (16, .ireturn, 0, 0, 0), (17, .iconst 0, 0, 0, 0), (18, .ireturn, 0, 0, 0)]
theorem okL_run : okL false 34 cL_run iL_run = true := by decide +kernel
theorem kL_run : KSH mL_run hL_run 2 := ⟨in_L, mT 1483 (by decide +kernel) rfl, ⟨by decide +kernel, by decide +kernel, by decide +kernel⟩, by decide, st_L_run⟩
def mL_errorPosition : MR := (34, yL_errorPosition, cL_errorPosition, 3, some .int)
def hL_errorPosition : HH := [(0, 8, 11, 26)]
def iL_errorPosition : List IE := [(0, .aload_n 1, 0, 0, 0), (1, .iconst 0, 0, 0, 0), (2, .aload_n 0, 0, 0, 0), (3, .invokevirtual 160, 0, 0, 0), (6, .i2l, 0, 0, 0), (7, .lastore, 0, 0, 0), (8, .goto 6, 14, 0, 0), (11, .astore_n 2, 0, 0, 0), (12, .iconst 1, 0, 0, 1), (13, .ireturn, 0, 0, 0), (14, .iconst 0, 0, 0, 0), (15, .ireturn, 0, 0, 0)]
theorem okL_errorPosition : okL false 34 cL_errorPosition iL_errorPosition = true := by decide +kernel
theorem kL_errorPosition : KSH mL_errorPosition hL_errorPosition 2 := ⟨in_L, mT 1561 (by decide +kernel) rfl, ⟨by decide +kernel, by decide +kernel, by decide +kernel⟩, by decide, st_L_errorPosition⟩
def mL_failedCommand : MR := (34, yL_failedCommand, cL_failedCommand, 3, some .int)
def hL_failedCommand : HH := [(0, 8, 11, 26)]
def iL_failedCommand : List IE := [(0, .aload_n 1, 0, 0, 0), (1, .iconst 0, 0, 0, 0), (2, .aload_n 0, 0, 0, 0), (3, .invokevirtual 163, 0, 0, 0), (6, .i2l, 0, 0, 0), (7, .lastore, 0, 0, 0), (8, .goto 6, 14, 0, 0), (11, .astore_n 2, 0, 0, 0), (12, .iconst 1, 0, 0, 1), (13, .ireturn, 0, 0, 0), (14, .iconst 0, 0, 0, 0), (15, .ireturn, 0, 0, 0)]
theorem okL_failedCommand : okL false 34 cL_failedCommand iL_failedCommand = true := by decide +kernel
theorem kL_failedCommand : KSH mL_failedCommand hL_failedCommand 2 := ⟨in_L, mT 1569 (by decide +kernel) rfl, ⟨by decide +kernel, by decide +kernel, by decide +kernel⟩, by decide, st_L_failedCommand⟩
def mL_undo : MR := (34, yL_undo, cL_undo, 3, some .int)
def hL_undo : HH := [(0, 8, 11, 15)]
def iL_undo : List IE := [(0, .aload_n 1, 0, 0, 0), (1, .iconst 0, 0, 0, 0), (2, .aload_n 0, 0, 0, 0), (3, .invokevirtual 166, 0, 0, 0), (6, .i2l, 0, 0, 0), (7, .lastore, 0, 0, 0), (8, .goto 6, 14, 0, 0), (11, .astore_n 2, 0, 0, 0), (12, .iconst 1, 0, 0, 1), (13, .ireturn, 0, 0, 0), (14, .iconst 0, 0, 0, 0), (15, .ireturn, 0, 0, 0)]
theorem okL_undo : okL false 34 cL_undo iL_undo = true := by decide +kernel
theorem kL_undo : KSH mL_undo hL_undo 2 := ⟨in_L, mT 1577 (by decide +kernel) rfl, ⟨by decide +kernel, by decide +kernel, by decide +kernel⟩, by decide, st_L_undo⟩
def mL_restore : MR := (34, yL_restore, cL_restore, 3, some .int)
def hL_restore : HH := [(0, 8, 11, 15)]
def iL_restore : List IE := [(0, .aload_n 1, 0, 0, 0), (1, .iconst 0, 0, 0, 0), (2, .aload_n 0, 0, 0, 0), (3, .invokevirtual 169, 0, 0, 0), (6, .i2l, 0, 0, 0), (7, .lastore, 0, 0, 0), (8, .goto 6, 14, 0, 0), (11, .astore_n 2, 0, 0, 0), (12, .iconst 1, 0, 0, 1), (13, .ireturn, 0, 0, 0), (14, .iconst 0, 0, 0, 0), (15, .ireturn, 0, 0, 0)]
theorem okL_restore : okL false 34 cL_restore iL_restore = true := by decide +kernel
theorem kL_restore : KSH mL_restore hL_restore 2 := ⟨in_L, mT 1589 (by decide +kernel) rfl, ⟨by decide +kernel, by decide +kernel, by decide +kernel⟩, by decide, st_L_restore⟩
