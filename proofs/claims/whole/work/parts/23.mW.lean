/-! methods, instructions, what a caller asks -/
def M_W_addShip : mM := (⟨"FloatingDockLaw", "addShip", "(LFloatingDock;III[J)I"⟩, method_3_code, 6, (some .int), [(0, 12, 15, 13), (0, 12, 19, 15)])
theorem d_W_addShip_0 : decode (mMc M_W_addShip) 0 = .ok (.aload 4, 2) := by decide +kernel
theorem d_W_addShip_2 : decode (mMc M_W_addShip) 2 = .ok (.iconst 0, 1) := by decide +kernel
theorem d_W_addShip_3 : decode (mMc M_W_addShip) 3 = .ok (.aload_n 0, 1) := by decide +kernel
theorem d_W_addShip_4 : decode (mMc M_W_addShip) 4 = .ok (.iload_n 1, 1) := by decide +kernel
theorem d_W_addShip_5 : decode (mMc M_W_addShip) 5 = .ok (.iload_n 2, 1) := by decide +kernel
theorem d_W_addShip_6 : decode (mMc M_W_addShip) 6 = .ok (.iload_n 3, 1) := by decide +kernel
theorem d_W_addShip_7 : decode (mMc M_W_addShip) 7 = .ok (.invokevirtual 7, 3) := by decide +kernel
theorem d_W_addShip_10 : decode (mMc M_W_addShip) 10 = .ok (.i2l, 1) := by decide +kernel
theorem d_W_addShip_11 : decode (mMc M_W_addShip) 11 = .ok (.lastore, 1) := by decide +kernel
theorem d_W_addShip_12 : decode (mMc M_W_addShip) 12 = .ok (.goto 11, 3) := by decide +kernel
theorem d_W_addShip_15 : decode (mMc M_W_addShip) 15 = .ok (.astore 5, 2) := by decide +kernel
theorem d_W_addShip_17 : decode (mMc M_W_addShip) 17 = .ok (.iconst 1, 1) := by decide +kernel
theorem d_W_addShip_18 : decode (mMc M_W_addShip) 18 = .ok (.ireturn, 1) := by decide +kernel
theorem d_W_addShip_19 : decode (mMc M_W_addShip) 19 = .ok (.astore 5, 2) := by decide +kernel
theorem d_W_addShip_21 : decode (mMc M_W_addShip) 21 = .ok (.iconst 2, 1) := by decide +kernel
theorem d_W_addShip_22 : decode (mMc M_W_addShip) 22 = .ok (.ireturn, 1) := by decide +kernel
theorem d_W_addShip_23 : decode (mMc M_W_addShip) 23 = .ok (.iconst 0, 1) := by decide +kernel
theorem d_W_addShip_24 : decode (mMc M_W_addShip) 24 = .ok (.ireturn, 1) := by decide +kernel
theorem k_W_addShip : mCd M_W_addShip 5 := ⟨by decide, by decide, by decide +kernel, by decide, mG (4, 201) (by decide +kernel), mG (1, 0) (by decide +kernel)⟩
def M_W_removeShip : mM := (⟨"FloatingDockLaw", "removeShip", "(LFloatingDock;I[J)I"⟩, method_4_code, 4, (some .int), [(0, 9, 12, 21), (0, 9, 15, 15)])
theorem d_W_removeShip_0 : decode (mMc M_W_removeShip) 0 = .ok (.aload_n 2, 1) := by decide +kernel
theorem d_W_removeShip_1 : decode (mMc M_W_removeShip) 1 = .ok (.iconst 0, 1) := by decide +kernel
theorem d_W_removeShip_2 : decode (mMc M_W_removeShip) 2 = .ok (.aload_n 0, 1) := by decide +kernel
theorem d_W_removeShip_3 : decode (mMc M_W_removeShip) 3 = .ok (.iload_n 1, 1) := by decide +kernel
theorem d_W_removeShip_4 : decode (mMc M_W_removeShip) 4 = .ok (.invokevirtual 17, 3) := by decide +kernel
theorem d_W_removeShip_7 : decode (mMc M_W_removeShip) 7 = .ok (.i2l, 1) := by decide +kernel
theorem d_W_removeShip_8 : decode (mMc M_W_removeShip) 8 = .ok (.lastore, 1) := by decide +kernel
theorem d_W_removeShip_9 : decode (mMc M_W_removeShip) 9 = .ok (.goto 9, 3) := by decide +kernel
theorem d_W_removeShip_12 : decode (mMc M_W_removeShip) 12 = .ok (.astore_n 3, 1) := by decide +kernel
theorem d_W_removeShip_13 : decode (mMc M_W_removeShip) 13 = .ok (.iconst 1, 1) := by decide +kernel
theorem d_W_removeShip_14 : decode (mMc M_W_removeShip) 14 = .ok (.ireturn, 1) := by decide +kernel
theorem d_W_removeShip_15 : decode (mMc M_W_removeShip) 15 = .ok (.astore_n 3, 1) := by decide +kernel
theorem d_W_removeShip_16 : decode (mMc M_W_removeShip) 16 = .ok (.iconst 2, 1) := by decide +kernel
theorem d_W_removeShip_17 : decode (mMc M_W_removeShip) 17 = .ok (.ireturn, 1) := by decide +kernel
theorem d_W_removeShip_18 : decode (mMc M_W_removeShip) 18 = .ok (.iconst 0, 1) := by decide +kernel
theorem d_W_removeShip_19 : decode (mMc M_W_removeShip) 19 = .ok (.ireturn, 1) := by decide +kernel
theorem k_W_removeShip : mCd M_W_removeShip 3 := ⟨by decide, by decide, by decide +kernel, by decide, mG (5, 7) (by decide +kernel), mG (1, 0) (by decide +kernel)⟩
def M_W_enter : mM := (⟨"FloatingDockLaw", "enter", "(LFloatingDock;II[J)I"⟩, method_5_code, 5, (some .int), [(0, 10, 13, 21), (0, 10, 17, 13), (0, 10, 21, 15), (0, 10, 25, 27)])
theorem d_W_enter_0 : decode (mMc M_W_enter) 0 = .ok (.aload_n 3, 1) := by decide +kernel
theorem d_W_enter_1 : decode (mMc M_W_enter) 1 = .ok (.iconst 0, 1) := by decide +kernel
theorem d_W_enter_2 : decode (mMc M_W_enter) 2 = .ok (.aload_n 0, 1) := by decide +kernel
theorem d_W_enter_3 : decode (mMc M_W_enter) 3 = .ok (.iload_n 1, 1) := by decide +kernel
theorem d_W_enter_4 : decode (mMc M_W_enter) 4 = .ok (.iload_n 2, 1) := by decide +kernel
theorem d_W_enter_5 : decode (mMc M_W_enter) 5 = .ok (.invokevirtual 23, 3) := by decide +kernel
theorem d_W_enter_8 : decode (mMc M_W_enter) 8 = .ok (.i2l, 1) := by decide +kernel
theorem d_W_enter_9 : decode (mMc M_W_enter) 9 = .ok (.lastore, 1) := by decide +kernel
theorem d_W_enter_10 : decode (mMc M_W_enter) 10 = .ok (.goto 19, 3) := by decide +kernel
theorem d_W_enter_13 : decode (mMc M_W_enter) 13 = .ok (.astore 4, 2) := by decide +kernel
theorem d_W_enter_15 : decode (mMc M_W_enter) 15 = .ok (.iconst 1, 1) := by decide +kernel
theorem d_W_enter_16 : decode (mMc M_W_enter) 16 = .ok (.ireturn, 1) := by decide +kernel
theorem d_W_enter_17 : decode (mMc M_W_enter) 17 = .ok (.astore 4, 2) := by decide +kernel
theorem d_W_enter_19 : decode (mMc M_W_enter) 19 = .ok (.iconst 2, 1) := by decide +kernel
theorem d_W_enter_20 : decode (mMc M_W_enter) 20 = .ok (.ireturn, 1) := by decide +kernel
theorem d_W_enter_21 : decode (mMc M_W_enter) 21 = .ok (.astore 4, 2) := by decide +kernel
theorem d_W_enter_23 : decode (mMc M_W_enter) 23 = .ok (.iconst 3, 1) := by decide +kernel
theorem d_W_enter_24 : decode (mMc M_W_enter) 24 = .ok (.ireturn, 1) := by decide +kernel
theorem d_W_enter_25 : decode (mMc M_W_enter) 25 = .ok (.astore 4, 2) := by decide +kernel
theorem d_W_enter_27 : decode (mMc M_W_enter) 27 = .ok (.iconst 4, 1) := by decide +kernel
theorem d_W_enter_28 : decode (mMc M_W_enter) 28 = .ok (.ireturn, 1) := by decide +kernel
theorem d_W_enter_29 : decode (mMc M_W_enter) 29 = .ok (.iconst 0, 1) := by decide +kernel
theorem d_W_enter_30 : decode (mMc M_W_enter) 30 = .ok (.ireturn, 1) := by decide +kernel
theorem k_W_enter : mCd M_W_enter 4 := ⟨by decide, by decide, by decide +kernel, by decide, mG (5, 44) (by decide +kernel), mG (1, 0) (by decide +kernel)⟩
def M_W_leave : mM := (⟨"FloatingDockLaw", "leave", "(LFloatingDock;I[J)I"⟩, method_6_code, 4, (some .int), [(0, 9, 12, 21), (0, 9, 15, 15), (0, 9, 18, 27)])
theorem d_W_leave_0 : decode (mMc M_W_leave) 0 = .ok (.aload_n 2, 1) := by decide +kernel
theorem d_W_leave_1 : decode (mMc M_W_leave) 1 = .ok (.iconst 0, 1) := by decide +kernel
theorem d_W_leave_2 : decode (mMc M_W_leave) 2 = .ok (.aload_n 0, 1) := by decide +kernel
theorem d_W_leave_3 : decode (mMc M_W_leave) 3 = .ok (.iload_n 1, 1) := by decide +kernel
theorem d_W_leave_4 : decode (mMc M_W_leave) 4 = .ok (.invokevirtual 29, 3) := by decide +kernel
theorem d_W_leave_7 : decode (mMc M_W_leave) 7 = .ok (.i2l, 1) := by decide +kernel
theorem d_W_leave_8 : decode (mMc M_W_leave) 8 = .ok (.lastore, 1) := by decide +kernel
theorem d_W_leave_9 : decode (mMc M_W_leave) 9 = .ok (.goto 12, 3) := by decide +kernel
theorem d_W_leave_12 : decode (mMc M_W_leave) 12 = .ok (.astore_n 3, 1) := by decide +kernel
theorem d_W_leave_13 : decode (mMc M_W_leave) 13 = .ok (.iconst 1, 1) := by decide +kernel
theorem d_W_leave_14 : decode (mMc M_W_leave) 14 = .ok (.ireturn, 1) := by decide +kernel
theorem d_W_leave_15 : decode (mMc M_W_leave) 15 = .ok (.astore_n 3, 1) := by decide +kernel
theorem d_W_leave_16 : decode (mMc M_W_leave) 16 = .ok (.iconst 2, 1) := by decide +kernel
theorem d_W_leave_17 : decode (mMc M_W_leave) 17 = .ok (.ireturn, 1) := by decide +kernel
theorem d_W_leave_18 : decode (mMc M_W_leave) 18 = .ok (.astore_n 3, 1) := by decide +kernel
theorem d_W_leave_19 : decode (mMc M_W_leave) 19 = .ok (.iconst 3, 1) := by decide +kernel
theorem d_W_leave_20 : decode (mMc M_W_leave) 20 = .ok (.ireturn, 1) := by decide +kernel
theorem d_W_leave_21 : decode (mMc M_W_leave) 21 = .ok (.iconst 0, 1) := by decide +kernel
theorem d_W_leave_22 : decode (mMc M_W_leave) 22 = .ok (.ireturn, 1) := by decide +kernel
theorem k_W_leave : mCd M_W_leave 3 := ⟨by decide, by decide, by decide +kernel, by decide, mG (5, 99) (by decide +kernel), mG (1, 0) (by decide +kernel)⟩
def M_W_setCleaning : mM := (⟨"FloatingDockLaw", "setCleaning", "(LFloatingDock;IZ[J)I"⟩, method_7_code, 5, (some .int), [(0, 17, 20, 21), (0, 17, 24, 15)])
theorem d_W_setCleaning_0 : decode (mMc M_W_setCleaning) 0 = .ok (.aload_n 3, 1) := by decide +kernel
theorem d_W_setCleaning_1 : decode (mMc M_W_setCleaning) 1 = .ok (.iconst 0, 1) := by decide +kernel
theorem d_W_setCleaning_2 : decode (mMc M_W_setCleaning) 2 = .ok (.aload_n 0, 1) := by decide +kernel
theorem d_W_setCleaning_3 : decode (mMc M_W_setCleaning) 3 = .ok (.iload_n 1, 1) := by decide +kernel
theorem d_W_setCleaning_4 : decode (mMc M_W_setCleaning) 4 = .ok (.iload_n 2, 1) := by decide +kernel
theorem d_W_setCleaning_5 : decode (mMc M_W_setCleaning) 5 = .ok (.invokevirtual 32, 3) := by decide +kernel
theorem d_W_setCleaning_8 : decode (mMc M_W_setCleaning) 8 = .ok (.ifCond .eq 7, 3) := by decide +kernel
theorem d_W_setCleaning_11 : decode (mMc M_W_setCleaning) 11 = .ok (.lconst 1, 1) := by decide +kernel
theorem d_W_setCleaning_12 : decode (mMc M_W_setCleaning) 12 = .ok (.goto 4, 3) := by decide +kernel
theorem d_W_setCleaning_15 : decode (mMc M_W_setCleaning) 15 = .ok (.lconst 0, 1) := by decide +kernel
theorem d_W_setCleaning_16 : decode (mMc M_W_setCleaning) 16 = .ok (.lastore, 1) := by decide +kernel
theorem d_W_setCleaning_17 : decode (mMc M_W_setCleaning) 17 = .ok (.goto 11, 3) := by decide +kernel
theorem d_W_setCleaning_20 : decode (mMc M_W_setCleaning) 20 = .ok (.astore 4, 2) := by decide +kernel
theorem d_W_setCleaning_22 : decode (mMc M_W_setCleaning) 22 = .ok (.iconst 1, 1) := by decide +kernel
theorem d_W_setCleaning_23 : decode (mMc M_W_setCleaning) 23 = .ok (.ireturn, 1) := by decide +kernel
theorem d_W_setCleaning_24 : decode (mMc M_W_setCleaning) 24 = .ok (.astore 4, 2) := by decide +kernel
theorem d_W_setCleaning_26 : decode (mMc M_W_setCleaning) 26 = .ok (.iconst 2, 1) := by decide +kernel
theorem d_W_setCleaning_27 : decode (mMc M_W_setCleaning) 27 = .ok (.ireturn, 1) := by decide +kernel
theorem d_W_setCleaning_28 : decode (mMc M_W_setCleaning) 28 = .ok (.iconst 0, 1) := by decide +kernel
theorem d_W_setCleaning_29 : decode (mMc M_W_setCleaning) 29 = .ok (.ireturn, 1) := by decide +kernel
theorem k_W_setCleaning : mCd M_W_setCleaning 4 := ⟨by decide, by decide, by decide +kernel, by decide, mG (5, 129) (by decide +kernel), mG (1, 0) (by decide +kernel)⟩
def M_W_shipAt : mM := (⟨"FloatingDockLaw", "shipAt", "(LFloatingDock;I[J)I"⟩, method_8_code, 4, (some .int), [(0, 9, 12, 39)])
theorem d_W_shipAt_0 : decode (mMc M_W_shipAt) 0 = .ok (.aload_n 2, 1) := by decide +kernel
theorem d_W_shipAt_1 : decode (mMc M_W_shipAt) 1 = .ok (.iconst 0, 1) := by decide +kernel
theorem d_W_shipAt_2 : decode (mMc M_W_shipAt) 2 = .ok (.aload_n 0, 1) := by decide +kernel
theorem d_W_shipAt_3 : decode (mMc M_W_shipAt) 3 = .ok (.iload_n 1, 1) := by decide +kernel
theorem d_W_shipAt_4 : decode (mMc M_W_shipAt) 4 = .ok (.invokevirtual 36, 3) := by decide +kernel
theorem d_W_shipAt_7 : decode (mMc M_W_shipAt) 7 = .ok (.i2l, 1) := by decide +kernel
theorem d_W_shipAt_8 : decode (mMc M_W_shipAt) 8 = .ok (.lastore, 1) := by decide +kernel
theorem d_W_shipAt_9 : decode (mMc M_W_shipAt) 9 = .ok (.goto 6, 3) := by decide +kernel
theorem d_W_shipAt_12 : decode (mMc M_W_shipAt) 12 = .ok (.astore_n 3, 1) := by decide +kernel
theorem d_W_shipAt_13 : decode (mMc M_W_shipAt) 13 = .ok (.iconst 1, 1) := by decide +kernel
theorem d_W_shipAt_14 : decode (mMc M_W_shipAt) 14 = .ok (.ireturn, 1) := by decide +kernel
theorem d_W_shipAt_15 : decode (mMc M_W_shipAt) 15 = .ok (.iconst 0, 1) := by decide +kernel
theorem d_W_shipAt_16 : decode (mMc M_W_shipAt) 16 = .ok (.ireturn, 1) := by decide +kernel
theorem k_W_shipAt : mCd M_W_shipAt 3 := ⟨by decide, by decide, by decide +kernel, by decide, mG (5, 140) (by decide +kernel), mG (1, 0) (by decide +kernel)⟩
def M_W_isInDock : mM := (⟨"FloatingDockLaw", "isInDock", "(LFloatingDock;I[J)I"⟩, method_9_code, 4, (some .int), [(0, 16, 19, 21)])
theorem d_W_isInDock_0 : decode (mMc M_W_isInDock) 0 = .ok (.aload_n 2, 1) := by decide +kernel
theorem d_W_isInDock_1 : decode (mMc M_W_isInDock) 1 = .ok (.iconst 0, 1) := by decide +kernel
theorem d_W_isInDock_2 : decode (mMc M_W_isInDock) 2 = .ok (.aload_n 0, 1) := by decide +kernel
theorem d_W_isInDock_3 : decode (mMc M_W_isInDock) 3 = .ok (.iload_n 1, 1) := by decide +kernel
theorem d_W_isInDock_4 : decode (mMc M_W_isInDock) 4 = .ok (.invokevirtual 41, 3) := by decide +kernel
theorem d_W_isInDock_7 : decode (mMc M_W_isInDock) 7 = .ok (.ifCond .eq 7, 3) := by decide +kernel
theorem d_W_isInDock_10 : decode (mMc M_W_isInDock) 10 = .ok (.lconst 1, 1) := by decide +kernel
theorem d_W_isInDock_11 : decode (mMc M_W_isInDock) 11 = .ok (.goto 4, 3) := by decide +kernel
theorem d_W_isInDock_14 : decode (mMc M_W_isInDock) 14 = .ok (.lconst 0, 1) := by decide +kernel
theorem d_W_isInDock_15 : decode (mMc M_W_isInDock) 15 = .ok (.lastore, 1) := by decide +kernel
theorem d_W_isInDock_16 : decode (mMc M_W_isInDock) 16 = .ok (.goto 6, 3) := by decide +kernel
theorem d_W_isInDock_19 : decode (mMc M_W_isInDock) 19 = .ok (.astore_n 3, 1) := by decide +kernel
theorem d_W_isInDock_20 : decode (mMc M_W_isInDock) 20 = .ok (.iconst 1, 1) := by decide +kernel
theorem d_W_isInDock_21 : decode (mMc M_W_isInDock) 21 = .ok (.ireturn, 1) := by decide +kernel
theorem d_W_isInDock_22 : decode (mMc M_W_isInDock) 22 = .ok (.iconst 0, 1) := by decide +kernel
theorem d_W_isInDock_23 : decode (mMc M_W_isInDock) 23 = .ok (.ireturn, 1) := by decide +kernel
theorem k_W_isInDock : mCd M_W_isInDock 3 := ⟨by decide, by decide, by decide +kernel, by decide, mG (5, 163) (by decide +kernel), mG (1, 0) (by decide +kernel)⟩
def M_W_positionOf : mM := (⟨"FloatingDockLaw", "positionOf", "(LFloatingDock;I[J)I"⟩, method_10_code, 4, (some .int), [(0, 9, 12, 21), (0, 9, 15, 15)])
theorem d_W_positionOf_0 : decode (mMc M_W_positionOf) 0 = .ok (.aload_n 2, 1) := by decide +kernel
theorem d_W_positionOf_1 : decode (mMc M_W_positionOf) 1 = .ok (.iconst 0, 1) := by decide +kernel
theorem d_W_positionOf_2 : decode (mMc M_W_positionOf) 2 = .ok (.aload_n 0, 1) := by decide +kernel
theorem d_W_positionOf_3 : decode (mMc M_W_positionOf) 3 = .ok (.iload_n 1, 1) := by decide +kernel
theorem d_W_positionOf_4 : decode (mMc M_W_positionOf) 4 = .ok (.invokevirtual 45, 3) := by decide +kernel
theorem d_W_positionOf_7 : decode (mMc M_W_positionOf) 7 = .ok (.i2l, 1) := by decide +kernel
theorem d_W_positionOf_8 : decode (mMc M_W_positionOf) 8 = .ok (.lastore, 1) := by decide +kernel
theorem d_W_positionOf_9 : decode (mMc M_W_positionOf) 9 = .ok (.goto 9, 3) := by decide +kernel
theorem d_W_positionOf_12 : decode (mMc M_W_positionOf) 12 = .ok (.astore_n 3, 1) := by decide +kernel
theorem d_W_positionOf_13 : decode (mMc M_W_positionOf) 13 = .ok (.iconst 1, 1) := by decide +kernel
theorem d_W_positionOf_14 : decode (mMc M_W_positionOf) 14 = .ok (.ireturn, 1) := by decide +kernel
theorem d_W_positionOf_15 : decode (mMc M_W_positionOf) 15 = .ok (.astore_n 3, 1) := by decide +kernel
theorem d_W_positionOf_16 : decode (mMc M_W_positionOf) 16 = .ok (.iconst 2, 1) := by decide +kernel
theorem d_W_positionOf_17 : decode (mMc M_W_positionOf) 17 = .ok (.ireturn, 1) := by decide +kernel
theorem d_W_positionOf_18 : decode (mMc M_W_positionOf) 18 = .ok (.iconst 0, 1) := by decide +kernel
theorem d_W_positionOf_19 : decode (mMc M_W_positionOf) 19 = .ok (.ireturn, 1) := by decide +kernel
theorem k_W_positionOf : mCd M_W_positionOf 3 := ⟨by decide, by decide, by decide +kernel, by decide, mG (5, 172) (by decide +kernel), mG (1, 0) (by decide +kernel)⟩
def M_W_dirtOf : mM := (⟨"FloatingDockLaw", "dirtOf", "(LFloatingDock;I[J)I"⟩, method_11_code, 4, (some .int), [(0, 9, 12, 21)])
theorem d_W_dirtOf_0 : decode (mMc M_W_dirtOf) 0 = .ok (.aload_n 2, 1) := by decide +kernel
theorem d_W_dirtOf_1 : decode (mMc M_W_dirtOf) 1 = .ok (.iconst 0, 1) := by decide +kernel
theorem d_W_dirtOf_2 : decode (mMc M_W_dirtOf) 2 = .ok (.aload_n 0, 1) := by decide +kernel
theorem d_W_dirtOf_3 : decode (mMc M_W_dirtOf) 3 = .ok (.iload_n 1, 1) := by decide +kernel
theorem d_W_dirtOf_4 : decode (mMc M_W_dirtOf) 4 = .ok (.invokevirtual 48, 3) := by decide +kernel
theorem d_W_dirtOf_7 : decode (mMc M_W_dirtOf) 7 = .ok (.i2l, 1) := by decide +kernel
theorem d_W_dirtOf_8 : decode (mMc M_W_dirtOf) 8 = .ok (.lastore, 1) := by decide +kernel
theorem d_W_dirtOf_9 : decode (mMc M_W_dirtOf) 9 = .ok (.goto 6, 3) := by decide +kernel
theorem d_W_dirtOf_12 : decode (mMc M_W_dirtOf) 12 = .ok (.astore_n 3, 1) := by decide +kernel
theorem d_W_dirtOf_13 : decode (mMc M_W_dirtOf) 13 = .ok (.iconst 1, 1) := by decide +kernel
theorem d_W_dirtOf_14 : decode (mMc M_W_dirtOf) 14 = .ok (.ireturn, 1) := by decide +kernel
theorem d_W_dirtOf_15 : decode (mMc M_W_dirtOf) 15 = .ok (.iconst 0, 1) := by decide +kernel
theorem d_W_dirtOf_16 : decode (mMc M_W_dirtOf) 16 = .ok (.ireturn, 1) := by decide +kernel
theorem k_W_dirtOf : mCd M_W_dirtOf 3 := ⟨by decide, by decide, by decide +kernel, by decide, mG (5, 180) (by decide +kernel), mG (1, 0) (by decide +kernel)⟩
def M_W_damageOf : mM := (⟨"FloatingDockLaw", "damageOf", "(LFloatingDock;I[J)I"⟩, method_12_code, 4, (some .int), [(0, 9, 12, 21)])
theorem d_W_damageOf_0 : decode (mMc M_W_damageOf) 0 = .ok (.aload_n 2, 1) := by decide +kernel
theorem d_W_damageOf_1 : decode (mMc M_W_damageOf) 1 = .ok (.iconst 0, 1) := by decide +kernel
theorem d_W_damageOf_2 : decode (mMc M_W_damageOf) 2 = .ok (.aload_n 0, 1) := by decide +kernel
theorem d_W_damageOf_3 : decode (mMc M_W_damageOf) 3 = .ok (.iload_n 1, 1) := by decide +kernel
theorem d_W_damageOf_4 : decode (mMc M_W_damageOf) 4 = .ok (.invokevirtual 51, 3) := by decide +kernel
theorem d_W_damageOf_7 : decode (mMc M_W_damageOf) 7 = .ok (.i2l, 1) := by decide +kernel
theorem d_W_damageOf_8 : decode (mMc M_W_damageOf) 8 = .ok (.lastore, 1) := by decide +kernel
theorem d_W_damageOf_9 : decode (mMc M_W_damageOf) 9 = .ok (.goto 6, 3) := by decide +kernel
theorem d_W_damageOf_12 : decode (mMc M_W_damageOf) 12 = .ok (.astore_n 3, 1) := by decide +kernel
theorem d_W_damageOf_13 : decode (mMc M_W_damageOf) 13 = .ok (.iconst 1, 1) := by decide +kernel
theorem d_W_damageOf_14 : decode (mMc M_W_damageOf) 14 = .ok (.ireturn, 1) := by decide +kernel
theorem d_W_damageOf_15 : decode (mMc M_W_damageOf) 15 = .ok (.iconst 0, 1) := by decide +kernel
theorem d_W_damageOf_16 : decode (mMc M_W_damageOf) 16 = .ok (.ireturn, 1) := by decide +kernel
theorem k_W_damageOf : mCd M_W_damageOf 3 := ⟨by decide, by decide, by decide +kernel, by decide, mG (5, 187) (by decide +kernel), mG (1, 0) (by decide +kernel)⟩
def M_W_hoursAfloat : mM := (⟨"FloatingDockLaw", "hoursAfloat", "(LFloatingDock;I[J)I"⟩, method_13_code, 4, (some .int), [(0, 9, 12, 21)])
theorem d_W_hoursAfloat_0 : decode (mMc M_W_hoursAfloat) 0 = .ok (.aload_n 2, 1) := by decide +kernel
theorem d_W_hoursAfloat_1 : decode (mMc M_W_hoursAfloat) 1 = .ok (.iconst 0, 1) := by decide +kernel
theorem d_W_hoursAfloat_2 : decode (mMc M_W_hoursAfloat) 2 = .ok (.aload_n 0, 1) := by decide +kernel
theorem d_W_hoursAfloat_3 : decode (mMc M_W_hoursAfloat) 3 = .ok (.iload_n 1, 1) := by decide +kernel
theorem d_W_hoursAfloat_4 : decode (mMc M_W_hoursAfloat) 4 = .ok (.invokevirtual 54, 3) := by decide +kernel
theorem d_W_hoursAfloat_7 : decode (mMc M_W_hoursAfloat) 7 = .ok (.i2l, 1) := by decide +kernel
theorem d_W_hoursAfloat_8 : decode (mMc M_W_hoursAfloat) 8 = .ok (.lastore, 1) := by decide +kernel
theorem d_W_hoursAfloat_9 : decode (mMc M_W_hoursAfloat) 9 = .ok (.goto 6, 3) := by decide +kernel
theorem d_W_hoursAfloat_12 : decode (mMc M_W_hoursAfloat) 12 = .ok (.astore_n 3, 1) := by decide +kernel
theorem d_W_hoursAfloat_13 : decode (mMc M_W_hoursAfloat) 13 = .ok (.iconst 1, 1) := by decide +kernel
theorem d_W_hoursAfloat_14 : decode (mMc M_W_hoursAfloat) 14 = .ok (.ireturn, 1) := by decide +kernel
theorem d_W_hoursAfloat_15 : decode (mMc M_W_hoursAfloat) 15 = .ok (.iconst 0, 1) := by decide +kernel
theorem d_W_hoursAfloat_16 : decode (mMc M_W_hoursAfloat) 16 = .ok (.ireturn, 1) := by decide +kernel
theorem k_W_hoursAfloat : mCd M_W_hoursAfloat 3 := ⟨by decide, by decide, by decide +kernel, by decide, mG (5, 194) (by decide +kernel), mG (1, 0) (by decide +kernel)⟩
def M_W_isAfloat : mM := (⟨"FloatingDockLaw", "isAfloat", "(LFloatingDock;I[J)I"⟩, method_14_code, 4, (some .int), [(0, 16, 19, 21)])
theorem d_W_isAfloat_0 : decode (mMc M_W_isAfloat) 0 = .ok (.aload_n 2, 1) := by decide +kernel
theorem d_W_isAfloat_1 : decode (mMc M_W_isAfloat) 1 = .ok (.iconst 0, 1) := by decide +kernel
theorem d_W_isAfloat_2 : decode (mMc M_W_isAfloat) 2 = .ok (.aload_n 0, 1) := by decide +kernel
theorem d_W_isAfloat_3 : decode (mMc M_W_isAfloat) 3 = .ok (.iload_n 1, 1) := by decide +kernel
theorem d_W_isAfloat_4 : decode (mMc M_W_isAfloat) 4 = .ok (.invokevirtual 57, 3) := by decide +kernel
theorem d_W_isAfloat_7 : decode (mMc M_W_isAfloat) 7 = .ok (.ifCond .eq 7, 3) := by decide +kernel
theorem d_W_isAfloat_10 : decode (mMc M_W_isAfloat) 10 = .ok (.lconst 1, 1) := by decide +kernel
theorem d_W_isAfloat_11 : decode (mMc M_W_isAfloat) 11 = .ok (.goto 4, 3) := by decide +kernel
theorem d_W_isAfloat_14 : decode (mMc M_W_isAfloat) 14 = .ok (.lconst 0, 1) := by decide +kernel
theorem d_W_isAfloat_15 : decode (mMc M_W_isAfloat) 15 = .ok (.lastore, 1) := by decide +kernel
theorem d_W_isAfloat_16 : decode (mMc M_W_isAfloat) 16 = .ok (.goto 6, 3) := by decide +kernel
theorem d_W_isAfloat_19 : decode (mMc M_W_isAfloat) 19 = .ok (.astore_n 3, 1) := by decide +kernel
theorem d_W_isAfloat_20 : decode (mMc M_W_isAfloat) 20 = .ok (.iconst 1, 1) := by decide +kernel
theorem d_W_isAfloat_21 : decode (mMc M_W_isAfloat) 21 = .ok (.ireturn, 1) := by decide +kernel
theorem d_W_isAfloat_22 : decode (mMc M_W_isAfloat) 22 = .ok (.iconst 0, 1) := by decide +kernel
theorem d_W_isAfloat_23 : decode (mMc M_W_isAfloat) 23 = .ok (.ireturn, 1) := by decide +kernel
theorem k_W_isAfloat : mCd M_W_isAfloat 3 := ⟨by decide, by decide, by decide +kernel, by decide, mG (5, 201) (by decide +kernel), mG (1, 0) (by decide +kernel)⟩
def M_W_refusalReason : mM := (⟨"FloatingDockLaw", "refusalReason", "(LFloatingDock;[J)I"⟩, method_15_code, 3, (some .int), [(0, 8, 11, 21)])
theorem d_W_refusalReason_0 : decode (mMc M_W_refusalReason) 0 = .ok (.aload_n 1, 1) := by decide +kernel
theorem d_W_refusalReason_1 : decode (mMc M_W_refusalReason) 1 = .ok (.iconst 0, 1) := by decide +kernel
theorem d_W_refusalReason_2 : decode (mMc M_W_refusalReason) 2 = .ok (.aload_n 0, 1) := by decide +kernel
theorem d_W_refusalReason_3 : decode (mMc M_W_refusalReason) 3 = .ok (.invokevirtual 60, 3) := by decide +kernel
theorem d_W_refusalReason_6 : decode (mMc M_W_refusalReason) 6 = .ok (.i2l, 1) := by decide +kernel
theorem d_W_refusalReason_7 : decode (mMc M_W_refusalReason) 7 = .ok (.lastore, 1) := by decide +kernel
theorem d_W_refusalReason_8 : decode (mMc M_W_refusalReason) 8 = .ok (.goto 6, 3) := by decide +kernel
theorem d_W_refusalReason_11 : decode (mMc M_W_refusalReason) 11 = .ok (.astore_n 2, 1) := by decide +kernel
theorem d_W_refusalReason_12 : decode (mMc M_W_refusalReason) 12 = .ok (.iconst 1, 1) := by decide +kernel
theorem d_W_refusalReason_13 : decode (mMc M_W_refusalReason) 13 = .ok (.ireturn, 1) := by decide +kernel
theorem d_W_refusalReason_14 : decode (mMc M_W_refusalReason) 14 = .ok (.iconst 0, 1) := by decide +kernel
theorem d_W_refusalReason_15 : decode (mMc M_W_refusalReason) 15 = .ok (.ireturn, 1) := by decide +kernel
theorem k_W_refusalReason : mCd M_W_refusalReason 2 := ⟨by decide, by decide, by decide +kernel, by decide, mG (5, 209) (by decide +kernel), mG (1, 0) (by decide +kernel)⟩
def M_W_setGate : mM := (⟨"FloatingDockLaw", "setGate", "(LFloatingDock;Z[J)I"⟩, method_16_code, 4, (some .int), [(0, 16, 19, 27)])
theorem d_W_setGate_0 : decode (mMc M_W_setGate) 0 = .ok (.aload_n 2, 1) := by decide +kernel
theorem d_W_setGate_1 : decode (mMc M_W_setGate) 1 = .ok (.iconst 0, 1) := by decide +kernel
theorem d_W_setGate_2 : decode (mMc M_W_setGate) 2 = .ok (.aload_n 0, 1) := by decide +kernel
theorem d_W_setGate_3 : decode (mMc M_W_setGate) 3 = .ok (.iload_n 1, 1) := by decide +kernel
theorem d_W_setGate_4 : decode (mMc M_W_setGate) 4 = .ok (.invokevirtual 64, 3) := by decide +kernel
theorem d_W_setGate_7 : decode (mMc M_W_setGate) 7 = .ok (.ifCond .eq 7, 3) := by decide +kernel
theorem d_W_setGate_10 : decode (mMc M_W_setGate) 10 = .ok (.lconst 1, 1) := by decide +kernel
theorem d_W_setGate_11 : decode (mMc M_W_setGate) 11 = .ok (.goto 4, 3) := by decide +kernel
theorem d_W_setGate_14 : decode (mMc M_W_setGate) 14 = .ok (.lconst 0, 1) := by decide +kernel
theorem d_W_setGate_15 : decode (mMc M_W_setGate) 15 = .ok (.lastore, 1) := by decide +kernel
theorem d_W_setGate_16 : decode (mMc M_W_setGate) 16 = .ok (.goto 6, 3) := by decide +kernel
theorem d_W_setGate_19 : decode (mMc M_W_setGate) 19 = .ok (.astore_n 3, 1) := by decide +kernel
theorem d_W_setGate_20 : decode (mMc M_W_setGate) 20 = .ok (.iconst 1, 1) := by decide +kernel
theorem d_W_setGate_21 : decode (mMc M_W_setGate) 21 = .ok (.ireturn, 1) := by decide +kernel
theorem d_W_setGate_22 : decode (mMc M_W_setGate) 22 = .ok (.iconst 0, 1) := by decide +kernel
theorem d_W_setGate_23 : decode (mMc M_W_setGate) 23 = .ok (.ireturn, 1) := by decide +kernel
theorem k_W_setGate : mCd M_W_setGate 3 := ⟨by decide, by decide, by decide +kernel, by decide, mG (5, 219) (by decide +kernel), mG (1, 0) (by decide +kernel)⟩
def M_W_setPump : mM := (⟨"FloatingDockLaw", "setPump", "(LFloatingDock;I[J)I"⟩, method_17_code, 4, (some .int), [(0, 9, 12, 13)])
theorem d_W_setPump_0 : decode (mMc M_W_setPump) 0 = .ok (.aload_n 2, 1) := by decide +kernel
theorem d_W_setPump_1 : decode (mMc M_W_setPump) 1 = .ok (.iconst 0, 1) := by decide +kernel
theorem d_W_setPump_2 : decode (mMc M_W_setPump) 2 = .ok (.aload_n 0, 1) := by decide +kernel
theorem d_W_setPump_3 : decode (mMc M_W_setPump) 3 = .ok (.iload_n 1, 1) := by decide +kernel
theorem d_W_setPump_4 : decode (mMc M_W_setPump) 4 = .ok (.invokevirtual 68, 3) := by decide +kernel
theorem d_W_setPump_7 : decode (mMc M_W_setPump) 7 = .ok (.i2l, 1) := by decide +kernel
theorem d_W_setPump_8 : decode (mMc M_W_setPump) 8 = .ok (.lastore, 1) := by decide +kernel
theorem d_W_setPump_9 : decode (mMc M_W_setPump) 9 = .ok (.goto 6, 3) := by decide +kernel
theorem d_W_setPump_12 : decode (mMc M_W_setPump) 12 = .ok (.astore_n 3, 1) := by decide +kernel
theorem d_W_setPump_13 : decode (mMc M_W_setPump) 13 = .ok (.iconst 1, 1) := by decide +kernel
theorem d_W_setPump_14 : decode (mMc M_W_setPump) 14 = .ok (.ireturn, 1) := by decide +kernel
theorem d_W_setPump_15 : decode (mMc M_W_setPump) 15 = .ok (.iconst 0, 1) := by decide +kernel
theorem d_W_setPump_16 : decode (mMc M_W_setPump) 16 = .ok (.ireturn, 1) := by decide +kernel
theorem k_W_setPump : mCd M_W_setPump 3 := ⟨by decide, by decide, by decide +kernel, by decide, mG (5, 237) (by decide +kernel), mG (1, 0) (by decide +kernel)⟩
def M_W_seaLevel : mM := (⟨"FloatingDockLaw", "seaLevel", "(LFloatingDock;I[J)I"⟩, method_18_code, 4, (some .int), [(0, 9, 12, 13)])
theorem d_W_seaLevel_0 : decode (mMc M_W_seaLevel) 0 = .ok (.aload_n 2, 1) := by decide +kernel
theorem d_W_seaLevel_1 : decode (mMc M_W_seaLevel) 1 = .ok (.iconst 0, 1) := by decide +kernel
theorem d_W_seaLevel_2 : decode (mMc M_W_seaLevel) 2 = .ok (.aload_n 0, 1) := by decide +kernel
theorem d_W_seaLevel_3 : decode (mMc M_W_seaLevel) 3 = .ok (.iload_n 1, 1) := by decide +kernel
theorem d_W_seaLevel_4 : decode (mMc M_W_seaLevel) 4 = .ok (.invokevirtual 71, 3) := by decide +kernel
theorem d_W_seaLevel_7 : decode (mMc M_W_seaLevel) 7 = .ok (.i2l, 1) := by decide +kernel
theorem d_W_seaLevel_8 : decode (mMc M_W_seaLevel) 8 = .ok (.lastore, 1) := by decide +kernel
theorem d_W_seaLevel_9 : decode (mMc M_W_seaLevel) 9 = .ok (.goto 6, 3) := by decide +kernel
theorem d_W_seaLevel_12 : decode (mMc M_W_seaLevel) 12 = .ok (.astore_n 3, 1) := by decide +kernel
theorem d_W_seaLevel_13 : decode (mMc M_W_seaLevel) 13 = .ok (.iconst 1, 1) := by decide +kernel
theorem d_W_seaLevel_14 : decode (mMc M_W_seaLevel) 14 = .ok (.ireturn, 1) := by decide +kernel
theorem d_W_seaLevel_15 : decode (mMc M_W_seaLevel) 15 = .ok (.iconst 0, 1) := by decide +kernel
theorem d_W_seaLevel_16 : decode (mMc M_W_seaLevel) 16 = .ok (.ireturn, 1) := by decide +kernel
theorem k_W_seaLevel : mCd M_W_seaLevel 3 := ⟨by decide, by decide, by decide +kernel, by decide, mG (6, 9) (by decide +kernel), mG (1, 0) (by decide +kernel)⟩
def M_W_seaLevelByHours : mM := (⟨"FloatingDockLaw", "seaLevelByHours", "(LFloatingDock;I[J)I"⟩, method_19_code, 4, (some .int), [(0, 9, 12, 13)])
theorem d_W_seaLevelByHours_0 : decode (mMc M_W_seaLevelByHours) 0 = .ok (.aload_n 2, 1) := by decide +kernel
theorem d_W_seaLevelByHours_1 : decode (mMc M_W_seaLevelByHours) 1 = .ok (.iconst 0, 1) := by decide +kernel
theorem d_W_seaLevelByHours_2 : decode (mMc M_W_seaLevelByHours) 2 = .ok (.aload_n 0, 1) := by decide +kernel
theorem d_W_seaLevelByHours_3 : decode (mMc M_W_seaLevelByHours) 3 = .ok (.iload_n 1, 1) := by decide +kernel
theorem d_W_seaLevelByHours_4 : decode (mMc M_W_seaLevelByHours) 4 = .ok (.invokevirtual 74, 3) := by decide +kernel
theorem d_W_seaLevelByHours_7 : decode (mMc M_W_seaLevelByHours) 7 = .ok (.i2l, 1) := by decide +kernel
theorem d_W_seaLevelByHours_8 : decode (mMc M_W_seaLevelByHours) 8 = .ok (.lastore, 1) := by decide +kernel
theorem d_W_seaLevelByHours_9 : decode (mMc M_W_seaLevelByHours) 9 = .ok (.goto 6, 3) := by decide +kernel
theorem d_W_seaLevelByHours_12 : decode (mMc M_W_seaLevelByHours) 12 = .ok (.astore_n 3, 1) := by decide +kernel
theorem d_W_seaLevelByHours_13 : decode (mMc M_W_seaLevelByHours) 13 = .ok (.iconst 1, 1) := by decide +kernel
theorem d_W_seaLevelByHours_14 : decode (mMc M_W_seaLevelByHours) 14 = .ok (.ireturn, 1) := by decide +kernel
theorem d_W_seaLevelByHours_15 : decode (mMc M_W_seaLevelByHours) 15 = .ok (.iconst 0, 1) := by decide +kernel
theorem d_W_seaLevelByHours_16 : decode (mMc M_W_seaLevelByHours) 16 = .ok (.ireturn, 1) := by decide +kernel
theorem k_W_seaLevelByHours : mCd M_W_seaLevelByHours 3 := ⟨by decide, by decide, by decide +kernel, by decide, mG (6, 23) (by decide +kernel), mG (1, 0) (by decide +kernel)⟩
def M_W_pass : mM := (⟨"FloatingDockLaw", "pass", "(LFloatingDock;I[J)I"⟩, method_20_code, 4, (some .int), [(0, 9, 12, 13)])
theorem d_W_pass_0 : decode (mMc M_W_pass) 0 = .ok (.aload_n 2, 1) := by decide +kernel
theorem d_W_pass_1 : decode (mMc M_W_pass) 1 = .ok (.iconst 0, 1) := by decide +kernel
theorem d_W_pass_2 : decode (mMc M_W_pass) 2 = .ok (.aload_n 0, 1) := by decide +kernel
theorem d_W_pass_3 : decode (mMc M_W_pass) 3 = .ok (.iload_n 1, 1) := by decide +kernel
theorem d_W_pass_4 : decode (mMc M_W_pass) 4 = .ok (.invokevirtual 77, 3) := by decide +kernel
theorem d_W_pass_7 : decode (mMc M_W_pass) 7 = .ok (.i2l, 1) := by decide +kernel
theorem d_W_pass_8 : decode (mMc M_W_pass) 8 = .ok (.lastore, 1) := by decide +kernel
theorem d_W_pass_9 : decode (mMc M_W_pass) 9 = .ok (.goto 6, 3) := by decide +kernel
theorem d_W_pass_12 : decode (mMc M_W_pass) 12 = .ok (.astore_n 3, 1) := by decide +kernel
theorem d_W_pass_13 : decode (mMc M_W_pass) 13 = .ok (.iconst 1, 1) := by decide +kernel
theorem d_W_pass_14 : decode (mMc M_W_pass) 14 = .ok (.ireturn, 1) := by decide +kernel
theorem d_W_pass_15 : decode (mMc M_W_pass) 15 = .ok (.iconst 0, 1) := by decide +kernel
theorem d_W_pass_16 : decode (mMc M_W_pass) 16 = .ok (.ireturn, 1) := by decide +kernel
theorem k_W_pass : mCd M_W_pass 3 := ⟨by decide, by decide, by decide +kernel, by decide, mG (6, 31) (by decide +kernel), mG (1, 0) (by decide +kernel)⟩
def M_W_levelAfter : mM := (⟨"FloatingDockLaw", "levelAfter", "(LFloatingDock;I[J)I"⟩, method_21_code, 4, (some .int), [(0, 9, 12, 13)])
theorem d_W_levelAfter_0 : decode (mMc M_W_levelAfter) 0 = .ok (.aload_n 2, 1) := by decide +kernel
theorem d_W_levelAfter_1 : decode (mMc M_W_levelAfter) 1 = .ok (.iconst 0, 1) := by decide +kernel
theorem d_W_levelAfter_2 : decode (mMc M_W_levelAfter) 2 = .ok (.aload_n 0, 1) := by decide +kernel
theorem d_W_levelAfter_3 : decode (mMc M_W_levelAfter) 3 = .ok (.iload_n 1, 1) := by decide +kernel
theorem d_W_levelAfter_4 : decode (mMc M_W_levelAfter) 4 = .ok (.invokevirtual 80, 3) := by decide +kernel
theorem d_W_levelAfter_7 : decode (mMc M_W_levelAfter) 7 = .ok (.i2l, 1) := by decide +kernel
theorem d_W_levelAfter_8 : decode (mMc M_W_levelAfter) 8 = .ok (.lastore, 1) := by decide +kernel
theorem d_W_levelAfter_9 : decode (mMc M_W_levelAfter) 9 = .ok (.goto 6, 3) := by decide +kernel
theorem d_W_levelAfter_12 : decode (mMc M_W_levelAfter) 12 = .ok (.astore_n 3, 1) := by decide +kernel
theorem d_W_levelAfter_13 : decode (mMc M_W_levelAfter) 13 = .ok (.iconst 1, 1) := by decide +kernel
theorem d_W_levelAfter_14 : decode (mMc M_W_levelAfter) 14 = .ok (.ireturn, 1) := by decide +kernel
theorem d_W_levelAfter_15 : decode (mMc M_W_levelAfter) 15 = .ok (.iconst 0, 1) := by decide +kernel
theorem d_W_levelAfter_16 : decode (mMc M_W_levelAfter) 16 = .ok (.ireturn, 1) := by decide +kernel
theorem k_W_levelAfter : mCd M_W_levelAfter 3 := ⟨by decide, by decide, by decide +kernel, by decide, mG (6, 62) (by decide +kernel), mG (1, 0) (by decide +kernel)⟩
def M_W_hoursUntilAfloat : mM := (⟨"FloatingDockLaw", "hoursUntilAfloat", "(LFloatingDock;I[J)I"⟩, method_22_code, 4, (some .int), [(0, 9, 12, 21), (0, 9, 15, 15)])
theorem d_W_hoursUntilAfloat_0 : decode (mMc M_W_hoursUntilAfloat) 0 = .ok (.aload_n 2, 1) := by decide +kernel
theorem d_W_hoursUntilAfloat_1 : decode (mMc M_W_hoursUntilAfloat) 1 = .ok (.iconst 0, 1) := by decide +kernel
theorem d_W_hoursUntilAfloat_2 : decode (mMc M_W_hoursUntilAfloat) 2 = .ok (.aload_n 0, 1) := by decide +kernel
theorem d_W_hoursUntilAfloat_3 : decode (mMc M_W_hoursUntilAfloat) 3 = .ok (.iload_n 1, 1) := by decide +kernel
theorem d_W_hoursUntilAfloat_4 : decode (mMc M_W_hoursUntilAfloat) 4 = .ok (.invokevirtual 83, 3) := by decide +kernel
theorem d_W_hoursUntilAfloat_7 : decode (mMc M_W_hoursUntilAfloat) 7 = .ok (.i2l, 1) := by decide +kernel
theorem d_W_hoursUntilAfloat_8 : decode (mMc M_W_hoursUntilAfloat) 8 = .ok (.lastore, 1) := by decide +kernel
theorem d_W_hoursUntilAfloat_9 : decode (mMc M_W_hoursUntilAfloat) 9 = .ok (.goto 9, 3) := by decide +kernel
theorem d_W_hoursUntilAfloat_12 : decode (mMc M_W_hoursUntilAfloat) 12 = .ok (.astore_n 3, 1) := by decide +kernel
theorem d_W_hoursUntilAfloat_13 : decode (mMc M_W_hoursUntilAfloat) 13 = .ok (.iconst 1, 1) := by decide +kernel
theorem d_W_hoursUntilAfloat_14 : decode (mMc M_W_hoursUntilAfloat) 14 = .ok (.ireturn, 1) := by decide +kernel
theorem d_W_hoursUntilAfloat_15 : decode (mMc M_W_hoursUntilAfloat) 15 = .ok (.astore_n 3, 1) := by decide +kernel
theorem d_W_hoursUntilAfloat_16 : decode (mMc M_W_hoursUntilAfloat) 16 = .ok (.iconst 2, 1) := by decide +kernel
theorem d_W_hoursUntilAfloat_17 : decode (mMc M_W_hoursUntilAfloat) 17 = .ok (.ireturn, 1) := by decide +kernel
theorem d_W_hoursUntilAfloat_18 : decode (mMc M_W_hoursUntilAfloat) 18 = .ok (.iconst 0, 1) := by decide +kernel
theorem d_W_hoursUntilAfloat_19 : decode (mMc M_W_hoursUntilAfloat) 19 = .ok (.ireturn, 1) := by decide +kernel
theorem k_W_hoursUntilAfloat : mCd M_W_hoursUntilAfloat 3 := ⟨by decide, by decide, by decide +kernel, by decide, mG (6, 73) (by decide +kernel), mG (1, 0) (by decide +kernel)⟩
def M_W_placeBlock : mM := (⟨"FloatingDockLaw", "placeBlock", "(LFloatingDock;I[J)I"⟩, method_23_code, 4, (some .int), [(0, 9, 12, 13), (0, 9, 15, 15), (0, 9, 18, 27)])
theorem d_W_placeBlock_0 : decode (mMc M_W_placeBlock) 0 = .ok (.aload_n 2, 1) := by decide +kernel
theorem d_W_placeBlock_1 : decode (mMc M_W_placeBlock) 1 = .ok (.iconst 0, 1) := by decide +kernel
theorem d_W_placeBlock_2 : decode (mMc M_W_placeBlock) 2 = .ok (.aload_n 0, 1) := by decide +kernel
theorem d_W_placeBlock_3 : decode (mMc M_W_placeBlock) 3 = .ok (.iload_n 1, 1) := by decide +kernel
theorem d_W_placeBlock_4 : decode (mMc M_W_placeBlock) 4 = .ok (.invokevirtual 86, 3) := by decide +kernel
theorem d_W_placeBlock_7 : decode (mMc M_W_placeBlock) 7 = .ok (.i2l, 1) := by decide +kernel
theorem d_W_placeBlock_8 : decode (mMc M_W_placeBlock) 8 = .ok (.lastore, 1) := by decide +kernel
theorem d_W_placeBlock_9 : decode (mMc M_W_placeBlock) 9 = .ok (.goto 12, 3) := by decide +kernel
theorem d_W_placeBlock_12 : decode (mMc M_W_placeBlock) 12 = .ok (.astore_n 3, 1) := by decide +kernel
theorem d_W_placeBlock_13 : decode (mMc M_W_placeBlock) 13 = .ok (.iconst 1, 1) := by decide +kernel
theorem d_W_placeBlock_14 : decode (mMc M_W_placeBlock) 14 = .ok (.ireturn, 1) := by decide +kernel
theorem d_W_placeBlock_15 : decode (mMc M_W_placeBlock) 15 = .ok (.astore_n 3, 1) := by decide +kernel
theorem d_W_placeBlock_16 : decode (mMc M_W_placeBlock) 16 = .ok (.iconst 2, 1) := by decide +kernel
theorem d_W_placeBlock_17 : decode (mMc M_W_placeBlock) 17 = .ok (.ireturn, 1) := by decide +kernel
theorem d_W_placeBlock_18 : decode (mMc M_W_placeBlock) 18 = .ok (.astore_n 3, 1) := by decide +kernel
theorem d_W_placeBlock_19 : decode (mMc M_W_placeBlock) 19 = .ok (.iconst 3, 1) := by decide +kernel
theorem d_W_placeBlock_20 : decode (mMc M_W_placeBlock) 20 = .ok (.ireturn, 1) := by decide +kernel
theorem d_W_placeBlock_21 : decode (mMc M_W_placeBlock) 21 = .ok (.iconst 0, 1) := by decide +kernel
theorem d_W_placeBlock_22 : decode (mMc M_W_placeBlock) 22 = .ok (.ireturn, 1) := by decide +kernel
theorem k_W_placeBlock : mCd M_W_placeBlock 3 := ⟨by decide, by decide, by decide +kernel, by decide, mG (6, 85) (by decide +kernel), mG (1, 0) (by decide +kernel)⟩
def M_W_removeBlock : mM := (⟨"FloatingDockLaw", "removeBlock", "(LFloatingDock;I[J)I"⟩, method_24_code, 4, (some .int), [(0, 9, 12, 13), (0, 9, 15, 21), (0, 9, 18, 27)])
theorem d_W_removeBlock_0 : decode (mMc M_W_removeBlock) 0 = .ok (.aload_n 2, 1) := by decide +kernel
theorem d_W_removeBlock_1 : decode (mMc M_W_removeBlock) 1 = .ok (.iconst 0, 1) := by decide +kernel
theorem d_W_removeBlock_2 : decode (mMc M_W_removeBlock) 2 = .ok (.aload_n 0, 1) := by decide +kernel
theorem d_W_removeBlock_3 : decode (mMc M_W_removeBlock) 3 = .ok (.iload_n 1, 1) := by decide +kernel
theorem d_W_removeBlock_4 : decode (mMc M_W_removeBlock) 4 = .ok (.invokevirtual 89, 3) := by decide +kernel
theorem d_W_removeBlock_7 : decode (mMc M_W_removeBlock) 7 = .ok (.i2l, 1) := by decide +kernel
theorem d_W_removeBlock_8 : decode (mMc M_W_removeBlock) 8 = .ok (.lastore, 1) := by decide +kernel
theorem d_W_removeBlock_9 : decode (mMc M_W_removeBlock) 9 = .ok (.goto 12, 3) := by decide +kernel
theorem d_W_removeBlock_12 : decode (mMc M_W_removeBlock) 12 = .ok (.astore_n 3, 1) := by decide +kernel
theorem d_W_removeBlock_13 : decode (mMc M_W_removeBlock) 13 = .ok (.iconst 1, 1) := by decide +kernel
theorem d_W_removeBlock_14 : decode (mMc M_W_removeBlock) 14 = .ok (.ireturn, 1) := by decide +kernel
theorem d_W_removeBlock_15 : decode (mMc M_W_removeBlock) 15 = .ok (.astore_n 3, 1) := by decide +kernel
theorem d_W_removeBlock_16 : decode (mMc M_W_removeBlock) 16 = .ok (.iconst 2, 1) := by decide +kernel
theorem d_W_removeBlock_17 : decode (mMc M_W_removeBlock) 17 = .ok (.ireturn, 1) := by decide +kernel
theorem d_W_removeBlock_18 : decode (mMc M_W_removeBlock) 18 = .ok (.astore_n 3, 1) := by decide +kernel
theorem d_W_removeBlock_19 : decode (mMc M_W_removeBlock) 19 = .ok (.iconst 3, 1) := by decide +kernel
theorem d_W_removeBlock_20 : decode (mMc M_W_removeBlock) 20 = .ok (.ireturn, 1) := by decide +kernel
theorem d_W_removeBlock_21 : decode (mMc M_W_removeBlock) 21 = .ok (.iconst 0, 1) := by decide +kernel
theorem d_W_removeBlock_22 : decode (mMc M_W_removeBlock) 22 = .ok (.ireturn, 1) := by decide +kernel
theorem k_W_removeBlock : mCd M_W_removeBlock 3 := ⟨by decide, by decide, by decide +kernel, by decide, mG (6, 117) (by decide +kernel), mG (1, 0) (by decide +kernel)⟩
def M_W_hasBlock : mM := (⟨"FloatingDockLaw", "hasBlock", "(LFloatingDock;I[J)I"⟩, method_25_code, 4, (some .int), [(0, 16, 19, 13)])
theorem d_W_hasBlock_0 : decode (mMc M_W_hasBlock) 0 = .ok (.aload_n 2, 1) := by decide +kernel
theorem d_W_hasBlock_1 : decode (mMc M_W_hasBlock) 1 = .ok (.iconst 0, 1) := by decide +kernel
theorem d_W_hasBlock_2 : decode (mMc M_W_hasBlock) 2 = .ok (.aload_n 0, 1) := by decide +kernel
theorem d_W_hasBlock_3 : decode (mMc M_W_hasBlock) 3 = .ok (.iload_n 1, 1) := by decide +kernel
theorem d_W_hasBlock_4 : decode (mMc M_W_hasBlock) 4 = .ok (.invokevirtual 92, 3) := by decide +kernel
theorem d_W_hasBlock_7 : decode (mMc M_W_hasBlock) 7 = .ok (.ifCond .eq 7, 3) := by decide +kernel
theorem d_W_hasBlock_10 : decode (mMc M_W_hasBlock) 10 = .ok (.lconst 1, 1) := by decide +kernel
theorem d_W_hasBlock_11 : decode (mMc M_W_hasBlock) 11 = .ok (.goto 4, 3) := by decide +kernel
theorem d_W_hasBlock_14 : decode (mMc M_W_hasBlock) 14 = .ok (.lconst 0, 1) := by decide +kernel
theorem d_W_hasBlock_15 : decode (mMc M_W_hasBlock) 15 = .ok (.lastore, 1) := by decide +kernel
theorem d_W_hasBlock_16 : decode (mMc M_W_hasBlock) 16 = .ok (.goto 6, 3) := by decide +kernel
theorem d_W_hasBlock_19 : decode (mMc M_W_hasBlock) 19 = .ok (.astore_n 3, 1) := by decide +kernel
theorem d_W_hasBlock_20 : decode (mMc M_W_hasBlock) 20 = .ok (.iconst 1, 1) := by decide +kernel
theorem d_W_hasBlock_21 : decode (mMc M_W_hasBlock) 21 = .ok (.ireturn, 1) := by decide +kernel
theorem d_W_hasBlock_22 : decode (mMc M_W_hasBlock) 22 = .ok (.iconst 0, 1) := by decide +kernel
theorem d_W_hasBlock_23 : decode (mMc M_W_hasBlock) 23 = .ok (.ireturn, 1) := by decide +kernel
theorem k_W_hasBlock : mCd M_W_hasBlock 3 := ⟨by decide, by decide, by decide +kernel, by decide, mG (6, 135) (by decide +kernel), mG (1, 0) (by decide +kernel)⟩
def M_W_blocksBeneath : mM := (⟨"FloatingDockLaw", "blocksBeneath", "(LFloatingDock;I[J)I"⟩, method_26_code, 4, (some .int), [(0, 9, 12, 21)])
theorem d_W_blocksBeneath_0 : decode (mMc M_W_blocksBeneath) 0 = .ok (.aload_n 2, 1) := by decide +kernel
theorem d_W_blocksBeneath_1 : decode (mMc M_W_blocksBeneath) 1 = .ok (.iconst 0, 1) := by decide +kernel
theorem d_W_blocksBeneath_2 : decode (mMc M_W_blocksBeneath) 2 = .ok (.aload_n 0, 1) := by decide +kernel
theorem d_W_blocksBeneath_3 : decode (mMc M_W_blocksBeneath) 3 = .ok (.iload_n 1, 1) := by decide +kernel
theorem d_W_blocksBeneath_4 : decode (mMc M_W_blocksBeneath) 4 = .ok (.invokevirtual 95, 3) := by decide +kernel
theorem d_W_blocksBeneath_7 : decode (mMc M_W_blocksBeneath) 7 = .ok (.i2l, 1) := by decide +kernel
theorem d_W_blocksBeneath_8 : decode (mMc M_W_blocksBeneath) 8 = .ok (.lastore, 1) := by decide +kernel
theorem d_W_blocksBeneath_9 : decode (mMc M_W_blocksBeneath) 9 = .ok (.goto 6, 3) := by decide +kernel
theorem d_W_blocksBeneath_12 : decode (mMc M_W_blocksBeneath) 12 = .ok (.astore_n 3, 1) := by decide +kernel
theorem d_W_blocksBeneath_13 : decode (mMc M_W_blocksBeneath) 13 = .ok (.iconst 1, 1) := by decide +kernel
theorem d_W_blocksBeneath_14 : decode (mMc M_W_blocksBeneath) 14 = .ok (.ireturn, 1) := by decide +kernel
theorem d_W_blocksBeneath_15 : decode (mMc M_W_blocksBeneath) 15 = .ok (.iconst 0, 1) := by decide +kernel
theorem d_W_blocksBeneath_16 : decode (mMc M_W_blocksBeneath) 16 = .ok (.ireturn, 1) := by decide +kernel
theorem k_W_blocksBeneath : mCd M_W_blocksBeneath 3 := ⟨by decide, by decide, by decide +kernel, by decide, mG (6, 144) (by decide +kernel), mG (1, 0) (by decide +kernel)⟩
def M_W_blocksBeneathByBlocks : mM := (⟨"FloatingDockLaw", "blocksBeneathByBlocks", "(LFloatingDock;I[J)I"⟩, method_27_code, 4, (some .int), [(0, 9, 12, 21)])
theorem d_W_blocksBeneathByBlocks_0 : decode (mMc M_W_blocksBeneathByBlocks) 0 = .ok (.aload_n 2, 1) := by decide +kernel
theorem d_W_blocksBeneathByBlocks_1 : decode (mMc M_W_blocksBeneathByBlocks) 1 = .ok (.iconst 0, 1) := by decide +kernel
theorem d_W_blocksBeneathByBlocks_2 : decode (mMc M_W_blocksBeneathByBlocks) 2 = .ok (.aload_n 0, 1) := by decide +kernel
theorem d_W_blocksBeneathByBlocks_3 : decode (mMc M_W_blocksBeneathByBlocks) 3 = .ok (.iload_n 1, 1) := by decide +kernel
theorem d_W_blocksBeneathByBlocks_4 : decode (mMc M_W_blocksBeneathByBlocks) 4 = .ok (.invokevirtual 98, 3) := by decide +kernel
theorem d_W_blocksBeneathByBlocks_7 : decode (mMc M_W_blocksBeneathByBlocks) 7 = .ok (.i2l, 1) := by decide +kernel
theorem d_W_blocksBeneathByBlocks_8 : decode (mMc M_W_blocksBeneathByBlocks) 8 = .ok (.lastore, 1) := by decide +kernel
theorem d_W_blocksBeneathByBlocks_9 : decode (mMc M_W_blocksBeneathByBlocks) 9 = .ok (.goto 6, 3) := by decide +kernel
theorem d_W_blocksBeneathByBlocks_12 : decode (mMc M_W_blocksBeneathByBlocks) 12 = .ok (.astore_n 3, 1) := by decide +kernel
theorem d_W_blocksBeneathByBlocks_13 : decode (mMc M_W_blocksBeneathByBlocks) 13 = .ok (.iconst 1, 1) := by decide +kernel
theorem d_W_blocksBeneathByBlocks_14 : decode (mMc M_W_blocksBeneathByBlocks) 14 = .ok (.ireturn, 1) := by decide +kernel
theorem d_W_blocksBeneathByBlocks_15 : decode (mMc M_W_blocksBeneathByBlocks) 15 = .ok (.iconst 0, 1) := by decide +kernel
theorem d_W_blocksBeneathByBlocks_16 : decode (mMc M_W_blocksBeneathByBlocks) 16 = .ok (.ireturn, 1) := by decide +kernel
theorem k_W_blocksBeneathByBlocks : mCd M_W_blocksBeneathByBlocks 3 := ⟨by decide, by decide, by decide +kernel, by decide, mG (6, 152) (by decide +kernel), mG (1, 0) (by decide +kernel)⟩
def M_W_shipAtPosition : mM := (⟨"FloatingDockLaw", "shipAtPosition", "(LFloatingDock;I[J)I"⟩, method_28_code, 4, (some .int), [(0, 9, 12, 13), (0, 9, 15, 21)])
theorem d_W_shipAtPosition_0 : decode (mMc M_W_shipAtPosition) 0 = .ok (.aload_n 2, 1) := by decide +kernel
theorem d_W_shipAtPosition_1 : decode (mMc M_W_shipAtPosition) 1 = .ok (.iconst 0, 1) := by decide +kernel
theorem d_W_shipAtPosition_2 : decode (mMc M_W_shipAtPosition) 2 = .ok (.aload_n 0, 1) := by decide +kernel
theorem d_W_shipAtPosition_3 : decode (mMc M_W_shipAtPosition) 3 = .ok (.iload_n 1, 1) := by decide +kernel
theorem d_W_shipAtPosition_4 : decode (mMc M_W_shipAtPosition) 4 = .ok (.invokevirtual 101, 3) := by decide +kernel
theorem d_W_shipAtPosition_7 : decode (mMc M_W_shipAtPosition) 7 = .ok (.i2l, 1) := by decide +kernel
theorem d_W_shipAtPosition_8 : decode (mMc M_W_shipAtPosition) 8 = .ok (.lastore, 1) := by decide +kernel
theorem d_W_shipAtPosition_9 : decode (mMc M_W_shipAtPosition) 9 = .ok (.goto 9, 3) := by decide +kernel
theorem d_W_shipAtPosition_12 : decode (mMc M_W_shipAtPosition) 12 = .ok (.astore_n 3, 1) := by decide +kernel
theorem d_W_shipAtPosition_13 : decode (mMc M_W_shipAtPosition) 13 = .ok (.iconst 1, 1) := by decide +kernel
theorem d_W_shipAtPosition_14 : decode (mMc M_W_shipAtPosition) 14 = .ok (.ireturn, 1) := by decide +kernel
theorem d_W_shipAtPosition_15 : decode (mMc M_W_shipAtPosition) 15 = .ok (.astore_n 3, 1) := by decide +kernel
theorem d_W_shipAtPosition_16 : decode (mMc M_W_shipAtPosition) 16 = .ok (.iconst 2, 1) := by decide +kernel
theorem d_W_shipAtPosition_17 : decode (mMc M_W_shipAtPosition) 17 = .ok (.ireturn, 1) := by decide +kernel
theorem d_W_shipAtPosition_18 : decode (mMc M_W_shipAtPosition) 18 = .ok (.iconst 0, 1) := by decide +kernel
theorem d_W_shipAtPosition_19 : decode (mMc M_W_shipAtPosition) 19 = .ok (.ireturn, 1) := by decide +kernel
theorem k_W_shipAtPosition : mCd M_W_shipAtPosition 3 := ⟨by decide, by decide, by decide +kernel, by decide, mG (6, 160) (by decide +kernel), mG (1, 0) (by decide +kernel)⟩
def M_W_firstGap : mM := (⟨"FloatingDockLaw", "firstGap", "(LFloatingDock;I[J)I"⟩, method_29_code, 4, (some .int), [(0, 9, 12, 13), (0, 9, 15, 21)])
theorem d_W_firstGap_0 : decode (mMc M_W_firstGap) 0 = .ok (.aload_n 2, 1) := by decide +kernel
theorem d_W_firstGap_1 : decode (mMc M_W_firstGap) 1 = .ok (.iconst 0, 1) := by decide +kernel
theorem d_W_firstGap_2 : decode (mMc M_W_firstGap) 2 = .ok (.aload_n 0, 1) := by decide +kernel
theorem d_W_firstGap_3 : decode (mMc M_W_firstGap) 3 = .ok (.iload_n 1, 1) := by decide +kernel
theorem d_W_firstGap_4 : decode (mMc M_W_firstGap) 4 = .ok (.invokevirtual 104, 3) := by decide +kernel
theorem d_W_firstGap_7 : decode (mMc M_W_firstGap) 7 = .ok (.i2l, 1) := by decide +kernel
theorem d_W_firstGap_8 : decode (mMc M_W_firstGap) 8 = .ok (.lastore, 1) := by decide +kernel
theorem d_W_firstGap_9 : decode (mMc M_W_firstGap) 9 = .ok (.goto 9, 3) := by decide +kernel
theorem d_W_firstGap_12 : decode (mMc M_W_firstGap) 12 = .ok (.astore_n 3, 1) := by decide +kernel
theorem d_W_firstGap_13 : decode (mMc M_W_firstGap) 13 = .ok (.iconst 1, 1) := by decide +kernel
theorem d_W_firstGap_14 : decode (mMc M_W_firstGap) 14 = .ok (.ireturn, 1) := by decide +kernel
theorem d_W_firstGap_15 : decode (mMc M_W_firstGap) 15 = .ok (.astore_n 3, 1) := by decide +kernel
theorem d_W_firstGap_16 : decode (mMc M_W_firstGap) 16 = .ok (.iconst 2, 1) := by decide +kernel
theorem d_W_firstGap_17 : decode (mMc M_W_firstGap) 17 = .ok (.ireturn, 1) := by decide +kernel
theorem d_W_firstGap_18 : decode (mMc M_W_firstGap) 18 = .ok (.iconst 0, 1) := by decide +kernel
theorem d_W_firstGap_19 : decode (mMc M_W_firstGap) 19 = .ok (.ireturn, 1) := by decide +kernel
theorem k_W_firstGap : mCd M_W_firstGap 3 := ⟨by decide, by decide, by decide +kernel, by decide, mG (6, 169) (by decide +kernel), mG (1, 0) (by decide +kernel)⟩
def M_W_firstGapByShips : mM := (⟨"FloatingDockLaw", "firstGapByShips", "(LFloatingDock;I[J)I"⟩, method_30_code, 4, (some .int), [(0, 9, 12, 13), (0, 9, 15, 21)])
theorem d_W_firstGapByShips_0 : decode (mMc M_W_firstGapByShips) 0 = .ok (.aload_n 2, 1) := by decide +kernel
theorem d_W_firstGapByShips_1 : decode (mMc M_W_firstGapByShips) 1 = .ok (.iconst 0, 1) := by decide +kernel
theorem d_W_firstGapByShips_2 : decode (mMc M_W_firstGapByShips) 2 = .ok (.aload_n 0, 1) := by decide +kernel
theorem d_W_firstGapByShips_3 : decode (mMc M_W_firstGapByShips) 3 = .ok (.iload_n 1, 1) := by decide +kernel
theorem d_W_firstGapByShips_4 : decode (mMc M_W_firstGapByShips) 4 = .ok (.invokevirtual 107, 3) := by decide +kernel
theorem d_W_firstGapByShips_7 : decode (mMc M_W_firstGapByShips) 7 = .ok (.i2l, 1) := by decide +kernel
theorem d_W_firstGapByShips_8 : decode (mMc M_W_firstGapByShips) 8 = .ok (.lastore, 1) := by decide +kernel
theorem d_W_firstGapByShips_9 : decode (mMc M_W_firstGapByShips) 9 = .ok (.goto 9, 3) := by decide +kernel
theorem d_W_firstGapByShips_12 : decode (mMc M_W_firstGapByShips) 12 = .ok (.astore_n 3, 1) := by decide +kernel
theorem d_W_firstGapByShips_13 : decode (mMc M_W_firstGapByShips) 13 = .ok (.iconst 1, 1) := by decide +kernel
theorem d_W_firstGapByShips_14 : decode (mMc M_W_firstGapByShips) 14 = .ok (.ireturn, 1) := by decide +kernel
theorem d_W_firstGapByShips_15 : decode (mMc M_W_firstGapByShips) 15 = .ok (.astore_n 3, 1) := by decide +kernel
theorem d_W_firstGapByShips_16 : decode (mMc M_W_firstGapByShips) 16 = .ok (.iconst 2, 1) := by decide +kernel
theorem d_W_firstGapByShips_17 : decode (mMc M_W_firstGapByShips) 17 = .ok (.ireturn, 1) := by decide +kernel
theorem d_W_firstGapByShips_18 : decode (mMc M_W_firstGapByShips) 18 = .ok (.iconst 0, 1) := by decide +kernel
theorem d_W_firstGapByShips_19 : decode (mMc M_W_firstGapByShips) 19 = .ok (.ireturn, 1) := by decide +kernel
theorem k_W_firstGapByShips : mCd M_W_firstGapByShips 3 := ⟨by decide, by decide, by decide +kernel, by decide, mG (6, 185) (by decide +kernel), mG (1, 0) (by decide +kernel)⟩
def M_W_billOf : mM := (⟨"FloatingDockLaw", "billOf", "(LFloatingDock;I[J)I"⟩, method_31_code, 4, (some .int), [(0, 9, 12, 21)])
theorem d_W_billOf_0 : decode (mMc M_W_billOf) 0 = .ok (.aload_n 2, 1) := by decide +kernel
theorem d_W_billOf_1 : decode (mMc M_W_billOf) 1 = .ok (.iconst 0, 1) := by decide +kernel
theorem d_W_billOf_2 : decode (mMc M_W_billOf) 2 = .ok (.aload_n 0, 1) := by decide +kernel
theorem d_W_billOf_3 : decode (mMc M_W_billOf) 3 = .ok (.iload_n 1, 1) := by decide +kernel
theorem d_W_billOf_4 : decode (mMc M_W_billOf) 4 = .ok (.invokevirtual 110, 3) := by decide +kernel
theorem d_W_billOf_7 : decode (mMc M_W_billOf) 7 = .ok (.i2l, 1) := by decide +kernel
theorem d_W_billOf_8 : decode (mMc M_W_billOf) 8 = .ok (.lastore, 1) := by decide +kernel
theorem d_W_billOf_9 : decode (mMc M_W_billOf) 9 = .ok (.goto 6, 3) := by decide +kernel
theorem d_W_billOf_12 : decode (mMc M_W_billOf) 12 = .ok (.astore_n 3, 1) := by decide +kernel
theorem d_W_billOf_13 : decode (mMc M_W_billOf) 13 = .ok (.iconst 1, 1) := by decide +kernel
theorem d_W_billOf_14 : decode (mMc M_W_billOf) 14 = .ok (.ireturn, 1) := by decide +kernel
theorem d_W_billOf_15 : decode (mMc M_W_billOf) 15 = .ok (.iconst 0, 1) := by decide +kernel
theorem d_W_billOf_16 : decode (mMc M_W_billOf) 16 = .ok (.ireturn, 1) := by decide +kernel
theorem k_W_billOf : mCd M_W_billOf 3 := ⟨by decide, by decide, by decide +kernel, by decide, mG (6, 193) (by decide +kernel), mG (1, 0) (by decide +kernel)⟩
def M_W_pay : mM := (⟨"FloatingDockLaw", "pay", "(LFloatingDock;II[J)I"⟩, method_32_code, 5, (some .int), [(0, 10, 13, 21), (0, 10, 17, 13), (0, 10, 21, 15)])
theorem d_W_pay_0 : decode (mMc M_W_pay) 0 = .ok (.aload_n 3, 1) := by decide +kernel
theorem d_W_pay_1 : decode (mMc M_W_pay) 1 = .ok (.iconst 0, 1) := by decide +kernel
theorem d_W_pay_2 : decode (mMc M_W_pay) 2 = .ok (.aload_n 0, 1) := by decide +kernel
theorem d_W_pay_3 : decode (mMc M_W_pay) 3 = .ok (.iload_n 1, 1) := by decide +kernel
theorem d_W_pay_4 : decode (mMc M_W_pay) 4 = .ok (.iload_n 2, 1) := by decide +kernel
theorem d_W_pay_5 : decode (mMc M_W_pay) 5 = .ok (.invokevirtual 113, 3) := by decide +kernel
theorem d_W_pay_8 : decode (mMc M_W_pay) 8 = .ok (.i2l, 1) := by decide +kernel
theorem d_W_pay_9 : decode (mMc M_W_pay) 9 = .ok (.lastore, 1) := by decide +kernel
theorem d_W_pay_10 : decode (mMc M_W_pay) 10 = .ok (.goto 15, 3) := by decide +kernel
theorem d_W_pay_13 : decode (mMc M_W_pay) 13 = .ok (.astore 4, 2) := by decide +kernel
theorem d_W_pay_15 : decode (mMc M_W_pay) 15 = .ok (.iconst 1, 1) := by decide +kernel
theorem d_W_pay_16 : decode (mMc M_W_pay) 16 = .ok (.ireturn, 1) := by decide +kernel
theorem d_W_pay_17 : decode (mMc M_W_pay) 17 = .ok (.astore 4, 2) := by decide +kernel
theorem d_W_pay_19 : decode (mMc M_W_pay) 19 = .ok (.iconst 2, 1) := by decide +kernel
theorem d_W_pay_20 : decode (mMc M_W_pay) 20 = .ok (.ireturn, 1) := by decide +kernel
theorem d_W_pay_21 : decode (mMc M_W_pay) 21 = .ok (.astore 4, 2) := by decide +kernel
theorem d_W_pay_23 : decode (mMc M_W_pay) 23 = .ok (.iconst 3, 1) := by decide +kernel
theorem d_W_pay_24 : decode (mMc M_W_pay) 24 = .ok (.ireturn, 1) := by decide +kernel
theorem d_W_pay_25 : decode (mMc M_W_pay) 25 = .ok (.iconst 0, 1) := by decide +kernel
theorem d_W_pay_26 : decode (mMc M_W_pay) 26 = .ok (.ireturn, 1) := by decide +kernel
theorem k_W_pay : mCd M_W_pay 4 := ⟨by decide, by decide, by decide +kernel, by decide, mG (6, 200) (by decide +kernel), mG (1, 0) (by decide +kernel)⟩
def M_W_shipAtRank : mM := (⟨"FloatingDockLaw", "shipAtRank", "(LFloatingDock;I[J)I"⟩, method_33_code, 4, (some .int), [(0, 9, 12, 39)])
theorem d_W_shipAtRank_0 : decode (mMc M_W_shipAtRank) 0 = .ok (.aload_n 2, 1) := by decide +kernel
theorem d_W_shipAtRank_1 : decode (mMc M_W_shipAtRank) 1 = .ok (.iconst 0, 1) := by decide +kernel
theorem d_W_shipAtRank_2 : decode (mMc M_W_shipAtRank) 2 = .ok (.aload_n 0, 1) := by decide +kernel
theorem d_W_shipAtRank_3 : decode (mMc M_W_shipAtRank) 3 = .ok (.iload_n 1, 1) := by decide +kernel
theorem d_W_shipAtRank_4 : decode (mMc M_W_shipAtRank) 4 = .ok (.invokevirtual 116, 3) := by decide +kernel
theorem d_W_shipAtRank_7 : decode (mMc M_W_shipAtRank) 7 = .ok (.i2l, 1) := by decide +kernel
theorem d_W_shipAtRank_8 : decode (mMc M_W_shipAtRank) 8 = .ok (.lastore, 1) := by decide +kernel
theorem d_W_shipAtRank_9 : decode (mMc M_W_shipAtRank) 9 = .ok (.goto 6, 3) := by decide +kernel
theorem d_W_shipAtRank_12 : decode (mMc M_W_shipAtRank) 12 = .ok (.astore_n 3, 1) := by decide +kernel
theorem d_W_shipAtRank_13 : decode (mMc M_W_shipAtRank) 13 = .ok (.iconst 1, 1) := by decide +kernel
theorem d_W_shipAtRank_14 : decode (mMc M_W_shipAtRank) 14 = .ok (.ireturn, 1) := by decide +kernel
theorem d_W_shipAtRank_15 : decode (mMc M_W_shipAtRank) 15 = .ok (.iconst 0, 1) := by decide +kernel
theorem d_W_shipAtRank_16 : decode (mMc M_W_shipAtRank) 16 = .ok (.ireturn, 1) := by decide +kernel
theorem k_W_shipAtRank : mCd M_W_shipAtRank 3 := ⟨by decide, by decide, by decide +kernel, by decide, mG (6, 213) (by decide +kernel), mG (1, 0) (by decide +kernel)⟩
def M_W_append : mM := (⟨"FloatingDockLaw", "append", "(LFloatingDock;C[J)I"⟩, method_34_code, 4, (some .int), [(0, 9, 12, 13), (0, 9, 15, 15)])
theorem d_W_append_0 : decode (mMc M_W_append) 0 = .ok (.aload_n 2, 1) := by decide +kernel
theorem d_W_append_1 : decode (mMc M_W_append) 1 = .ok (.iconst 0, 1) := by decide +kernel
theorem d_W_append_2 : decode (mMc M_W_append) 2 = .ok (.aload_n 0, 1) := by decide +kernel
theorem d_W_append_3 : decode (mMc M_W_append) 3 = .ok (.iload_n 1, 1) := by decide +kernel
theorem d_W_append_4 : decode (mMc M_W_append) 4 = .ok (.invokevirtual 119, 3) := by decide +kernel
theorem d_W_append_7 : decode (mMc M_W_append) 7 = .ok (.i2l, 1) := by decide +kernel
theorem d_W_append_8 : decode (mMc M_W_append) 8 = .ok (.lastore, 1) := by decide +kernel
theorem d_W_append_9 : decode (mMc M_W_append) 9 = .ok (.goto 9, 3) := by decide +kernel
theorem d_W_append_12 : decode (mMc M_W_append) 12 = .ok (.astore_n 3, 1) := by decide +kernel
theorem d_W_append_13 : decode (mMc M_W_append) 13 = .ok (.iconst 1, 1) := by decide +kernel
theorem d_W_append_14 : decode (mMc M_W_append) 14 = .ok (.ireturn, 1) := by decide +kernel
theorem d_W_append_15 : decode (mMc M_W_append) 15 = .ok (.astore_n 3, 1) := by decide +kernel
theorem d_W_append_16 : decode (mMc M_W_append) 16 = .ok (.iconst 2, 1) := by decide +kernel
theorem d_W_append_17 : decode (mMc M_W_append) 17 = .ok (.ireturn, 1) := by decide +kernel
theorem d_W_append_18 : decode (mMc M_W_append) 18 = .ok (.iconst 0, 1) := by decide +kernel
theorem d_W_append_19 : decode (mMc M_W_append) 19 = .ok (.ireturn, 1) := by decide +kernel
theorem k_W_append : mCd M_W_append 3 := ⟨by decide, by decide, by decide +kernel, by decide, mG (6, 233) (by decide +kernel), mG (1, 0) (by decide +kernel)⟩
def M_W_run : mM := (⟨"FloatingDockLaw", "run", "(LFloatingDock;[J)I"⟩, method_35_code, 3, (some .int), [(0, 8, 11, 13), (0, 8, 14, 15)])
theorem d_W_run_0 : decode (mMc M_W_run) 0 = .ok (.aload_n 1, 1) := by decide +kernel
theorem d_W_run_1 : decode (mMc M_W_run) 1 = .ok (.iconst 0, 1) := by decide +kernel
theorem d_W_run_2 : decode (mMc M_W_run) 2 = .ok (.aload_n 0, 1) := by decide +kernel
theorem d_W_run_3 : decode (mMc M_W_run) 3 = .ok (.invokevirtual 123, 3) := by decide +kernel
theorem d_W_run_6 : decode (mMc M_W_run) 6 = .ok (.i2l, 1) := by decide +kernel
theorem d_W_run_7 : decode (mMc M_W_run) 7 = .ok (.lastore, 1) := by decide +kernel
theorem d_W_run_8 : decode (mMc M_W_run) 8 = .ok (.goto 9, 3) := by decide +kernel
theorem d_W_run_11 : decode (mMc M_W_run) 11 = .ok (.astore_n 2, 1) := by decide +kernel
theorem d_W_run_12 : decode (mMc M_W_run) 12 = .ok (.iconst 1, 1) := by decide +kernel
theorem d_W_run_13 : decode (mMc M_W_run) 13 = .ok (.ireturn, 1) := by decide +kernel
theorem d_W_run_14 : decode (mMc M_W_run) 14 = .ok (.astore_n 2, 1) := by decide +kernel
theorem d_W_run_15 : decode (mMc M_W_run) 15 = .ok (.iconst 2, 1) := by decide +kernel
theorem d_W_run_16 : decode (mMc M_W_run) 16 = .ok (.ireturn, 1) := by decide +kernel
theorem d_W_run_17 : decode (mMc M_W_run) 17 = .ok (.iconst 0, 1) := by decide +kernel
theorem d_W_run_18 : decode (mMc M_W_run) 18 = .ok (.ireturn, 1) := by decide +kernel
theorem k_W_run : mCd M_W_run 2 := ⟨by decide, by decide, by decide +kernel, by decide, mG (7, 12) (by decide +kernel), mG (1, 0) (by decide +kernel)⟩
def M_W_errorPosition : mM := (⟨"FloatingDockLaw", "errorPosition", "(LFloatingDock;[J)I"⟩, method_36_code, 3, (some .int), [(0, 8, 11, 21)])
theorem d_W_errorPosition_0 : decode (mMc M_W_errorPosition) 0 = .ok (.aload_n 1, 1) := by decide +kernel
theorem d_W_errorPosition_1 : decode (mMc M_W_errorPosition) 1 = .ok (.iconst 0, 1) := by decide +kernel
theorem d_W_errorPosition_2 : decode (mMc M_W_errorPosition) 2 = .ok (.aload_n 0, 1) := by decide +kernel
theorem d_W_errorPosition_3 : decode (mMc M_W_errorPosition) 3 = .ok (.invokevirtual 126, 3) := by decide +kernel
theorem d_W_errorPosition_6 : decode (mMc M_W_errorPosition) 6 = .ok (.i2l, 1) := by decide +kernel
theorem d_W_errorPosition_7 : decode (mMc M_W_errorPosition) 7 = .ok (.lastore, 1) := by decide +kernel
theorem d_W_errorPosition_8 : decode (mMc M_W_errorPosition) 8 = .ok (.goto 6, 3) := by decide +kernel
theorem d_W_errorPosition_11 : decode (mMc M_W_errorPosition) 11 = .ok (.astore_n 2, 1) := by decide +kernel
theorem d_W_errorPosition_12 : decode (mMc M_W_errorPosition) 12 = .ok (.iconst 1, 1) := by decide +kernel
theorem d_W_errorPosition_13 : decode (mMc M_W_errorPosition) 13 = .ok (.ireturn, 1) := by decide +kernel
theorem d_W_errorPosition_14 : decode (mMc M_W_errorPosition) 14 = .ok (.iconst 0, 1) := by decide +kernel
theorem d_W_errorPosition_15 : decode (mMc M_W_errorPosition) 15 = .ok (.ireturn, 1) := by decide +kernel
theorem k_W_errorPosition : mCd M_W_errorPosition 2 := ⟨by decide, by decide, by decide +kernel, by decide, mG (7, 117) (by decide +kernel), mG (1, 0) (by decide +kernel)⟩
def M_W_failedCommand : mM := (⟨"FloatingDockLaw", "failedCommand", "(LFloatingDock;[J)I"⟩, method_37_code, 3, (some .int), [(0, 8, 11, 21)])
theorem d_W_failedCommand_0 : decode (mMc M_W_failedCommand) 0 = .ok (.aload_n 1, 1) := by decide +kernel
theorem d_W_failedCommand_1 : decode (mMc M_W_failedCommand) 1 = .ok (.iconst 0, 1) := by decide +kernel
theorem d_W_failedCommand_2 : decode (mMc M_W_failedCommand) 2 = .ok (.aload_n 0, 1) := by decide +kernel
theorem d_W_failedCommand_3 : decode (mMc M_W_failedCommand) 3 = .ok (.invokevirtual 129, 3) := by decide +kernel
theorem d_W_failedCommand_6 : decode (mMc M_W_failedCommand) 6 = .ok (.i2l, 1) := by decide +kernel
theorem d_W_failedCommand_7 : decode (mMc M_W_failedCommand) 7 = .ok (.lastore, 1) := by decide +kernel
theorem d_W_failedCommand_8 : decode (mMc M_W_failedCommand) 8 = .ok (.goto 6, 3) := by decide +kernel
theorem d_W_failedCommand_11 : decode (mMc M_W_failedCommand) 11 = .ok (.astore_n 2, 1) := by decide +kernel
theorem d_W_failedCommand_12 : decode (mMc M_W_failedCommand) 12 = .ok (.iconst 1, 1) := by decide +kernel
theorem d_W_failedCommand_13 : decode (mMc M_W_failedCommand) 13 = .ok (.ireturn, 1) := by decide +kernel
theorem d_W_failedCommand_14 : decode (mMc M_W_failedCommand) 14 = .ok (.iconst 0, 1) := by decide +kernel
theorem d_W_failedCommand_15 : decode (mMc M_W_failedCommand) 15 = .ok (.ireturn, 1) := by decide +kernel
theorem k_W_failedCommand : mCd M_W_failedCommand 2 := ⟨by decide, by decide, by decide +kernel, by decide, mG (7, 125) (by decide +kernel), mG (1, 0) (by decide +kernel)⟩
def M_W_describeBill : mM := (⟨"FloatingDockLaw", "describeBill", "(LFloatingDock;I[J)I"⟩, method_38_code, 4, (some .int), [(0, 9, 12, 21)])
theorem d_W_describeBill_0 : decode (mMc M_W_describeBill) 0 = .ok (.aload_n 2, 1) := by decide +kernel
theorem d_W_describeBill_1 : decode (mMc M_W_describeBill) 1 = .ok (.iconst 0, 1) := by decide +kernel
theorem d_W_describeBill_2 : decode (mMc M_W_describeBill) 2 = .ok (.aload_n 0, 1) := by decide +kernel
theorem d_W_describeBill_3 : decode (mMc M_W_describeBill) 3 = .ok (.iload_n 1, 1) := by decide +kernel
theorem d_W_describeBill_4 : decode (mMc M_W_describeBill) 4 = .ok (.invokevirtual 132, 3) := by decide +kernel
theorem d_W_describeBill_7 : decode (mMc M_W_describeBill) 7 = .ok (.i2l, 1) := by decide +kernel
theorem d_W_describeBill_8 : decode (mMc M_W_describeBill) 8 = .ok (.lastore, 1) := by decide +kernel
theorem d_W_describeBill_9 : decode (mMc M_W_describeBill) 9 = .ok (.goto 6, 3) := by decide +kernel
theorem d_W_describeBill_12 : decode (mMc M_W_describeBill) 12 = .ok (.astore_n 3, 1) := by decide +kernel
theorem d_W_describeBill_13 : decode (mMc M_W_describeBill) 13 = .ok (.iconst 1, 1) := by decide +kernel
theorem d_W_describeBill_14 : decode (mMc M_W_describeBill) 14 = .ok (.ireturn, 1) := by decide +kernel
theorem d_W_describeBill_15 : decode (mMc M_W_describeBill) 15 = .ok (.iconst 0, 1) := by decide +kernel
theorem d_W_describeBill_16 : decode (mMc M_W_describeBill) 16 = .ok (.ireturn, 1) := by decide +kernel
theorem k_W_describeBill : mCd M_W_describeBill 3 := ⟨by decide, by decide, by decide +kernel, by decide, mG (7, 133) (by decide +kernel), mG (1, 0) (by decide +kernel)⟩
def M_W_lineAt : mM := (⟨"FloatingDockLaw", "lineAt", "(LFloatingDock;I[J)I"⟩, method_39_code, 4, (some .int), [(0, 9, 12, 39)])
theorem d_W_lineAt_0 : decode (mMc M_W_lineAt) 0 = .ok (.aload_n 2, 1) := by decide +kernel
theorem d_W_lineAt_1 : decode (mMc M_W_lineAt) 1 = .ok (.iconst 0, 1) := by decide +kernel
theorem d_W_lineAt_2 : decode (mMc M_W_lineAt) 2 = .ok (.aload_n 0, 1) := by decide +kernel
theorem d_W_lineAt_3 : decode (mMc M_W_lineAt) 3 = .ok (.iload_n 1, 1) := by decide +kernel
theorem d_W_lineAt_4 : decode (mMc M_W_lineAt) 4 = .ok (.invokevirtual 135, 3) := by decide +kernel
theorem d_W_lineAt_7 : decode (mMc M_W_lineAt) 7 = .ok (.i2l, 1) := by decide +kernel
theorem d_W_lineAt_8 : decode (mMc M_W_lineAt) 8 = .ok (.lastore, 1) := by decide +kernel
theorem d_W_lineAt_9 : decode (mMc M_W_lineAt) 9 = .ok (.goto 6, 3) := by decide +kernel
theorem d_W_lineAt_12 : decode (mMc M_W_lineAt) 12 = .ok (.astore_n 3, 1) := by decide +kernel
theorem d_W_lineAt_13 : decode (mMc M_W_lineAt) 13 = .ok (.iconst 1, 1) := by decide +kernel
theorem d_W_lineAt_14 : decode (mMc M_W_lineAt) 14 = .ok (.ireturn, 1) := by decide +kernel
theorem d_W_lineAt_15 : decode (mMc M_W_lineAt) 15 = .ok (.iconst 0, 1) := by decide +kernel
theorem d_W_lineAt_16 : decode (mMc M_W_lineAt) 16 = .ok (.ireturn, 1) := by decide +kernel
theorem k_W_lineAt : mCd M_W_lineAt 3 := ⟨by decide, by decide, by decide +kernel, by decide, mG (7, 141) (by decide +kernel), mG (1, 0) (by decide +kernel)⟩
def M_W_meanDirt : mM := (⟨"FloatingDockLaw", "meanDirt", "(LFloatingDock;[D)I"⟩, method_40_code, 3, (some .int), [(0, 7, 10, 143)])
theorem d_W_meanDirt_0 : decode (mMc M_W_meanDirt) 0 = .ok (.aload_n 1, 1) := by decide +kernel
theorem d_W_meanDirt_1 : decode (mMc M_W_meanDirt) 1 = .ok (.iconst 0, 1) := by decide +kernel
theorem d_W_meanDirt_2 : decode (mMc M_W_meanDirt) 2 = .ok (.aload_n 0, 1) := by decide +kernel
theorem d_W_meanDirt_3 : decode (mMc M_W_meanDirt) 3 = .ok (.invokevirtual 139, 3) := by decide +kernel
theorem d_W_meanDirt_6 : decode (mMc M_W_meanDirt) 6 = .ok (.dastore, 1) := by decide +kernel
theorem d_W_meanDirt_7 : decode (mMc M_W_meanDirt) 7 = .ok (.goto 6, 3) := by decide +kernel
theorem d_W_meanDirt_10 : decode (mMc M_W_meanDirt) 10 = .ok (.astore_n 2, 1) := by decide +kernel
theorem d_W_meanDirt_11 : decode (mMc M_W_meanDirt) 11 = .ok (.iconst 1, 1) := by decide +kernel
theorem d_W_meanDirt_12 : decode (mMc M_W_meanDirt) 12 = .ok (.ireturn, 1) := by decide +kernel
theorem d_W_meanDirt_13 : decode (mMc M_W_meanDirt) 13 = .ok (.iconst 0, 1) := by decide +kernel
theorem d_W_meanDirt_14 : decode (mMc M_W_meanDirt) 14 = .ok (.ireturn, 1) := by decide +kernel
theorem k_W_meanDirt : mCd M_W_meanDirt 2 := ⟨by decide, by decide, by decide +kernel, by decide, mG (7, 150) (by decide +kernel), mG (1, 0) (by decide +kernel)⟩
def M_W_undo : mM := (⟨"FloatingDockLaw", "undo", "(LFloatingDock;[J)I"⟩, method_41_code, 3, (some .int), [(0, 8, 11, 15)])
theorem d_W_undo_0 : decode (mMc M_W_undo) 0 = .ok (.aload_n 1, 1) := by decide +kernel
theorem d_W_undo_1 : decode (mMc M_W_undo) 1 = .ok (.iconst 0, 1) := by decide +kernel
theorem d_W_undo_2 : decode (mMc M_W_undo) 2 = .ok (.aload_n 0, 1) := by decide +kernel
theorem d_W_undo_3 : decode (mMc M_W_undo) 3 = .ok (.invokevirtual 145, 3) := by decide +kernel
theorem d_W_undo_6 : decode (mMc M_W_undo) 6 = .ok (.i2l, 1) := by decide +kernel
theorem d_W_undo_7 : decode (mMc M_W_undo) 7 = .ok (.lastore, 1) := by decide +kernel
theorem d_W_undo_8 : decode (mMc M_W_undo) 8 = .ok (.goto 6, 3) := by decide +kernel
theorem d_W_undo_11 : decode (mMc M_W_undo) 11 = .ok (.astore_n 2, 1) := by decide +kernel
theorem d_W_undo_12 : decode (mMc M_W_undo) 12 = .ok (.iconst 1, 1) := by decide +kernel
theorem d_W_undo_13 : decode (mMc M_W_undo) 13 = .ok (.ireturn, 1) := by decide +kernel
theorem d_W_undo_14 : decode (mMc M_W_undo) 14 = .ok (.iconst 0, 1) := by decide +kernel
theorem d_W_undo_15 : decode (mMc M_W_undo) 15 = .ok (.ireturn, 1) := by decide +kernel
theorem k_W_undo : mCd M_W_undo 2 := ⟨by decide, by decide, by decide +kernel, by decide, mG (7, 178) (by decide +kernel), mG (1, 0) (by decide +kernel)⟩
def M_W_restore : mM := (⟨"FloatingDockLaw", "restore", "(LFloatingDock;[J)I"⟩, method_42_code, 3, (some .int), [(0, 8, 11, 15)])
theorem d_W_restore_0 : decode (mMc M_W_restore) 0 = .ok (.aload_n 1, 1) := by decide +kernel
theorem d_W_restore_1 : decode (mMc M_W_restore) 1 = .ok (.iconst 0, 1) := by decide +kernel
theorem d_W_restore_2 : decode (mMc M_W_restore) 2 = .ok (.aload_n 0, 1) := by decide +kernel
theorem d_W_restore_3 : decode (mMc M_W_restore) 3 = .ok (.invokevirtual 148, 3) := by decide +kernel
theorem d_W_restore_6 : decode (mMc M_W_restore) 6 = .ok (.i2l, 1) := by decide +kernel
theorem d_W_restore_7 : decode (mMc M_W_restore) 7 = .ok (.lastore, 1) := by decide +kernel
theorem d_W_restore_8 : decode (mMc M_W_restore) 8 = .ok (.goto 6, 3) := by decide +kernel
theorem d_W_restore_11 : decode (mMc M_W_restore) 11 = .ok (.astore_n 2, 1) := by decide +kernel
theorem d_W_restore_12 : decode (mMc M_W_restore) 12 = .ok (.iconst 1, 1) := by decide +kernel
theorem d_W_restore_13 : decode (mMc M_W_restore) 13 = .ok (.ireturn, 1) := by decide +kernel
theorem d_W_restore_14 : decode (mMc M_W_restore) 14 = .ok (.iconst 0, 1) := by decide +kernel
theorem d_W_restore_15 : decode (mMc M_W_restore) 15 = .ok (.ireturn, 1) := by decide +kernel
theorem k_W_restore : mCd M_W_restore 2 := ⟨by decide, by decide, by decide +kernel, by decide, mG (7, 191) (by decide +kernel), mG (1, 0) (by decide +kernel)⟩
def M_W_law : mM := (x, code, 10, (some .boolean), [])
theorem d_W_law_0 : decode (mMc M_W_law) 0 = .ok (.new 8, 3) := by decide +kernel
theorem d_W_law_3 : decode (mMc M_W_law) 3 = .ok (.dup, 1) := by decide +kernel
theorem d_W_law_4 : decode (mMc M_W_law) 4 = .ok (.invokespecial 151, 3) := by decide +kernel
theorem d_W_law_7 : decode (mMc M_W_law) 7 = .ok (.astore_n 1, 1) := by decide +kernel
theorem d_W_law_8 : decode (mMc M_W_law) 8 = .ok (.new 152, 3) := by decide +kernel
theorem d_W_law_11 : decode (mMc M_W_law) 11 = .ok (.dup, 1) := by decide +kernel
theorem d_W_law_12 : decode (mMc M_W_law) 12 = .ok (.invokespecial 154, 3) := by decide +kernel
theorem d_W_law_15 : decode (mMc M_W_law) 15 = .ok (.astore_n 2, 1) := by decide +kernel
theorem d_W_law_16 : decode (mMc M_W_law) 16 = .ok (.iconst 1, 1) := by decide +kernel
theorem d_W_law_17 : decode (mMc M_W_law) 17 = .ok (.newarray .long, 2) := by decide +kernel
theorem d_W_law_19 : decode (mMc M_W_law) 19 = .ok (.astore_n 3, 1) := by decide +kernel
theorem d_W_law_20 : decode (mMc M_W_law) 20 = .ok (.iconst 1, 1) := by decide +kernel
theorem d_W_law_21 : decode (mMc M_W_law) 21 = .ok (.newarray .double, 2) := by decide +kernel
theorem d_W_law_23 : decode (mMc M_W_law) 23 = .ok (.astore 4, 2) := by decide +kernel
theorem d_W_law_25 : decode (mMc M_W_law) 25 = .ok (.iconst 0, 1) := by decide +kernel
theorem d_W_law_26 : decode (mMc M_W_law) 26 = .ok (.istore 5, 2) := by decide +kernel
theorem d_W_law_28 : decode (mMc M_W_law) 28 = .ok (.iload 5, 2) := by decide +kernel
theorem d_W_law_30 : decode (mMc M_W_law) 30 = .ok (.aload_n 0, 1) := by decide +kernel
theorem d_W_law_31 : decode (mMc M_W_law) 31 = .ok (.arraylength, 1) := by decide +kernel
theorem d_W_law_32 : decode (mMc M_W_law) 32 = .ok (.iconst 4, 1) := by decide +kernel
theorem d_W_law_33 : decode (mMc M_W_law) 33 = .ok (.isub, 1) := by decide +kernel
theorem d_W_law_34 : decode (mMc M_W_law) 34 = .ok (.if_icmp .gt 2783, 3) := by decide +kernel
theorem d_W_law_37 : decode (mMc M_W_law) 37 = .ok (.aload_n 0, 1) := by decide +kernel
theorem d_W_law_38 : decode (mMc M_W_law) 38 = .ok (.iload 5, 2) := by decide +kernel
theorem d_W_law_40 : decode (mMc M_W_law) 40 = .ok (.iaload, 1) := by decide +kernel
theorem d_W_law_41 : decode (mMc M_W_law) 41 = .ok (.bipush 63, 2) := by decide +kernel
theorem d_W_law_43 : decode (mMc M_W_law) 43 = .ok (.iand, 1) := by decide +kernel
theorem d_W_law_44 : decode (mMc M_W_law) 44 = .ok (.tableswitch 2767 0 54 #[236, 316, 372, 440, 496, 587, 600, 656, 719, 775, 831, 887, 943, 1006, 1050, 1129, 1142, 1198, 1211, 1267, 1323, 1379, 1392, 1448, 1504, 1560, 1616, 1679, 1735, 1791, 1847, 1903, 1959, 1972, 1985, 1998, 2011, 2067, 2135, 2148, 2161, 2174, 2230, 2288, 2332, 2376, 2420, 2433, 2489, 2545, 2610, 2653, 2666, 2710, 2723], 236) := by decide +kernel
theorem d_W_law_280 : decode (mMc M_W_law) 280 = .ok (.aload_n 1, 1) := by decide +kernel
theorem d_W_law_281 : decode (mMc M_W_law) 281 = .ok (.aload_n 0, 1) := by decide +kernel
theorem d_W_law_282 : decode (mMc M_W_law) 282 = .ok (.iload 5, 2) := by decide +kernel
theorem d_W_law_284 : decode (mMc M_W_law) 284 = .ok (.iconst 1, 1) := by decide +kernel
theorem d_W_law_285 : decode (mMc M_W_law) 285 = .ok (.iadd, 1) := by decide +kernel
theorem d_W_law_286 : decode (mMc M_W_law) 286 = .ok (.iaload, 1) := by decide +kernel
theorem d_W_law_287 : decode (mMc M_W_law) 287 = .ok (.aload_n 0, 1) := by decide +kernel
theorem d_W_law_288 : decode (mMc M_W_law) 288 = .ok (.iload 5, 2) := by decide +kernel
theorem d_W_law_290 : decode (mMc M_W_law) 290 = .ok (.iconst 2, 1) := by decide +kernel
theorem d_W_law_291 : decode (mMc M_W_law) 291 = .ok (.iadd, 1) := by decide +kernel
theorem d_W_law_292 : decode (mMc M_W_law) 292 = .ok (.iaload, 1) := by decide +kernel
theorem d_W_law_293 : decode (mMc M_W_law) 293 = .ok (.aload_n 0, 1) := by decide +kernel
theorem d_W_law_294 : decode (mMc M_W_law) 294 = .ok (.iload 5, 2) := by decide +kernel
theorem d_W_law_296 : decode (mMc M_W_law) 296 = .ok (.iconst 3, 1) := by decide +kernel
theorem d_W_law_297 : decode (mMc M_W_law) 297 = .ok (.iadd, 1) := by decide +kernel
theorem d_W_law_298 : decode (mMc M_W_law) 298 = .ok (.iaload, 1) := by decide +kernel
theorem d_W_law_299 : decode (mMc M_W_law) 299 = .ok (.aload_n 3, 1) := by decide +kernel
theorem d_W_law_300 : decode (mMc M_W_law) 300 = .ok (.invokestatic 155, 3) := by decide +kernel
theorem d_W_law_303 : decode (mMc M_W_law) 303 = .ok (.istore 6, 2) := by decide +kernel
theorem d_W_law_305 : decode (mMc M_W_law) 305 = .ok (.aload_n 2, 1) := by decide +kernel
theorem d_W_law_306 : decode (mMc M_W_law) 306 = .ok (.aload_n 0, 1) := by decide +kernel
theorem d_W_law_307 : decode (mMc M_W_law) 307 = .ok (.iload 5, 2) := by decide +kernel
theorem d_W_law_309 : decode (mMc M_W_law) 309 = .ok (.iconst 1, 1) := by decide +kernel
theorem d_W_law_310 : decode (mMc M_W_law) 310 = .ok (.iadd, 1) := by decide +kernel
theorem d_W_law_311 : decode (mMc M_W_law) 311 = .ok (.iaload, 1) := by decide +kernel
theorem d_W_law_312 : decode (mMc M_W_law) 312 = .ok (.aload_n 0, 1) := by decide +kernel
theorem d_W_law_313 : decode (mMc M_W_law) 313 = .ok (.iload 5, 2) := by decide +kernel
theorem d_W_law_315 : decode (mMc M_W_law) 315 = .ok (.iconst 2, 1) := by decide +kernel
theorem d_W_law_316 : decode (mMc M_W_law) 316 = .ok (.iadd, 1) := by decide +kernel
theorem d_W_law_317 : decode (mMc M_W_law) 317 = .ok (.iaload, 1) := by decide +kernel
theorem d_W_law_318 : decode (mMc M_W_law) 318 = .ok (.aload_n 0, 1) := by decide +kernel
theorem d_W_law_319 : decode (mMc M_W_law) 319 = .ok (.iload 5, 2) := by decide +kernel
theorem d_W_law_321 : decode (mMc M_W_law) 321 = .ok (.iconst 3, 1) := by decide +kernel
theorem d_W_law_322 : decode (mMc M_W_law) 322 = .ok (.iadd, 1) := by decide +kernel
theorem d_W_law_323 : decode (mMc M_W_law) 323 = .ok (.iaload, 1) := by decide +kernel
theorem d_W_law_324 : decode (mMc M_W_law) 324 = .ok (.invokevirtual 160, 3) := by decide +kernel
theorem d_W_law_327 : decode (mMc M_W_law) 327 = .ok (.istore 7, 2) := by decide +kernel
theorem d_W_law_329 : decode (mMc M_W_law) 329 = .ok (.aload_n 2, 1) := by decide +kernel
theorem d_W_law_330 : decode (mMc M_W_law) 330 = .ok (.invokevirtual 161, 3) := by decide +kernel
theorem d_W_law_333 : decode (mMc M_W_law) 333 = .ok (.iload 6, 2) := by decide +kernel
theorem d_W_law_335 : decode (mMc M_W_law) 335 = .ok (.if_icmp .eq 5, 3) := by decide +kernel
theorem d_W_law_338 : decode (mMc M_W_law) 338 = .ok (.iconst 0, 1) := by decide +kernel
theorem d_W_law_339 : decode (mMc M_W_law) 339 = .ok (.ireturn, 1) := by decide +kernel
theorem d_W_law_340 : decode (mMc M_W_law) 340 = .ok (.iload 6, 2) := by decide +kernel
theorem d_W_law_342 : decode (mMc M_W_law) 342 = .ok (.ifCond .ne 15, 3) := by decide +kernel
theorem d_W_law_345 : decode (mMc M_W_law) 345 = .ok (.aload_n 3, 1) := by decide +kernel
theorem d_W_law_346 : decode (mMc M_W_law) 346 = .ok (.iconst 0, 1) := by decide +kernel
theorem d_W_law_347 : decode (mMc M_W_law) 347 = .ok (.laload, 1) := by decide +kernel
theorem d_W_law_348 : decode (mMc M_W_law) 348 = .ok (.iload 7, 2) := by decide +kernel
theorem d_W_law_350 : decode (mMc M_W_law) 350 = .ok (.i2l, 1) := by decide +kernel
theorem d_W_law_351 : decode (mMc M_W_law) 351 = .ok (.lcmp, 1) := by decide +kernel
theorem d_W_law_352 : decode (mMc M_W_law) 352 = .ok (.ifCond .eq 5, 3) := by decide +kernel
theorem d_W_law_355 : decode (mMc M_W_law) 355 = .ok (.iconst 0, 1) := by decide +kernel
theorem d_W_law_356 : decode (mMc M_W_law) 356 = .ok (.ireturn, 1) := by decide +kernel
theorem d_W_law_357 : decode (mMc M_W_law) 357 = .ok (.goto 2454, 3) := by decide +kernel
theorem d_W_law_360 : decode (mMc M_W_law) 360 = .ok (.aload_n 1, 1) := by decide +kernel
theorem d_W_law_361 : decode (mMc M_W_law) 361 = .ok (.aload_n 0, 1) := by decide +kernel
theorem d_W_law_362 : decode (mMc M_W_law) 362 = .ok (.iload 5, 2) := by decide +kernel
theorem d_W_law_364 : decode (mMc M_W_law) 364 = .ok (.iconst 1, 1) := by decide +kernel
theorem d_W_law_365 : decode (mMc M_W_law) 365 = .ok (.iadd, 1) := by decide +kernel
theorem d_W_law_366 : decode (mMc M_W_law) 366 = .ok (.iaload, 1) := by decide +kernel
theorem d_W_law_367 : decode (mMc M_W_law) 367 = .ok (.aload_n 3, 1) := by decide +kernel
theorem d_W_law_368 : decode (mMc M_W_law) 368 = .ok (.invokestatic 164, 3) := by decide +kernel
theorem d_W_law_371 : decode (mMc M_W_law) 371 = .ok (.istore 6, 2) := by decide +kernel
theorem d_W_law_373 : decode (mMc M_W_law) 373 = .ok (.aload_n 2, 1) := by decide +kernel
theorem d_W_law_374 : decode (mMc M_W_law) 374 = .ok (.aload_n 0, 1) := by decide +kernel
theorem d_W_law_375 : decode (mMc M_W_law) 375 = .ok (.iload 5, 2) := by decide +kernel
theorem d_W_law_377 : decode (mMc M_W_law) 377 = .ok (.iconst 1, 1) := by decide +kernel
theorem d_W_law_378 : decode (mMc M_W_law) 378 = .ok (.iadd, 1) := by decide +kernel
theorem d_W_law_379 : decode (mMc M_W_law) 379 = .ok (.iaload, 1) := by decide +kernel
theorem d_W_law_380 : decode (mMc M_W_law) 380 = .ok (.invokevirtual 167, 3) := by decide +kernel
theorem d_W_law_383 : decode (mMc M_W_law) 383 = .ok (.istore 7, 2) := by decide +kernel
theorem d_W_law_385 : decode (mMc M_W_law) 385 = .ok (.aload_n 2, 1) := by decide +kernel
theorem d_W_law_386 : decode (mMc M_W_law) 386 = .ok (.invokevirtual 161, 3) := by decide +kernel
theorem d_W_law_389 : decode (mMc M_W_law) 389 = .ok (.iload 6, 2) := by decide +kernel
theorem d_W_law_391 : decode (mMc M_W_law) 391 = .ok (.if_icmp .eq 5, 3) := by decide +kernel
theorem d_W_law_394 : decode (mMc M_W_law) 394 = .ok (.iconst 0, 1) := by decide +kernel
theorem d_W_law_395 : decode (mMc M_W_law) 395 = .ok (.ireturn, 1) := by decide +kernel
theorem d_W_law_396 : decode (mMc M_W_law) 396 = .ok (.iload 6, 2) := by decide +kernel
theorem d_W_law_398 : decode (mMc M_W_law) 398 = .ok (.ifCond .ne 15, 3) := by decide +kernel
theorem d_W_law_401 : decode (mMc M_W_law) 401 = .ok (.aload_n 3, 1) := by decide +kernel
theorem d_W_law_402 : decode (mMc M_W_law) 402 = .ok (.iconst 0, 1) := by decide +kernel
theorem d_W_law_403 : decode (mMc M_W_law) 403 = .ok (.laload, 1) := by decide +kernel
theorem d_W_law_404 : decode (mMc M_W_law) 404 = .ok (.iload 7, 2) := by decide +kernel
theorem d_W_law_406 : decode (mMc M_W_law) 406 = .ok (.i2l, 1) := by decide +kernel
theorem d_W_law_407 : decode (mMc M_W_law) 407 = .ok (.lcmp, 1) := by decide +kernel
theorem d_W_law_408 : decode (mMc M_W_law) 408 = .ok (.ifCond .eq 5, 3) := by decide +kernel
theorem d_W_law_411 : decode (mMc M_W_law) 411 = .ok (.iconst 0, 1) := by decide +kernel
theorem d_W_law_412 : decode (mMc M_W_law) 412 = .ok (.ireturn, 1) := by decide +kernel
theorem d_W_law_413 : decode (mMc M_W_law) 413 = .ok (.goto 2398, 3) := by decide +kernel
theorem d_W_law_416 : decode (mMc M_W_law) 416 = .ok (.aload_n 1, 1) := by decide +kernel
theorem d_W_law_417 : decode (mMc M_W_law) 417 = .ok (.aload_n 0, 1) := by decide +kernel
theorem d_W_law_418 : decode (mMc M_W_law) 418 = .ok (.iload 5, 2) := by decide +kernel
theorem d_W_law_420 : decode (mMc M_W_law) 420 = .ok (.iconst 1, 1) := by decide +kernel
theorem d_W_law_421 : decode (mMc M_W_law) 421 = .ok (.iadd, 1) := by decide +kernel
theorem d_W_law_422 : decode (mMc M_W_law) 422 = .ok (.iaload, 1) := by decide +kernel
theorem d_W_law_423 : decode (mMc M_W_law) 423 = .ok (.aload_n 0, 1) := by decide +kernel
theorem d_W_law_424 : decode (mMc M_W_law) 424 = .ok (.iload 5, 2) := by decide +kernel
theorem d_W_law_426 : decode (mMc M_W_law) 426 = .ok (.iconst 2, 1) := by decide +kernel
theorem d_W_law_427 : decode (mMc M_W_law) 427 = .ok (.iadd, 1) := by decide +kernel
theorem d_W_law_428 : decode (mMc M_W_law) 428 = .ok (.iaload, 1) := by decide +kernel
theorem d_W_law_429 : decode (mMc M_W_law) 429 = .ok (.aload_n 3, 1) := by decide +kernel
theorem d_W_law_430 : decode (mMc M_W_law) 430 = .ok (.invokestatic 168, 3) := by decide +kernel
theorem d_W_law_433 : decode (mMc M_W_law) 433 = .ok (.istore 6, 2) := by decide +kernel
theorem d_W_law_435 : decode (mMc M_W_law) 435 = .ok (.aload_n 2, 1) := by decide +kernel
theorem d_W_law_436 : decode (mMc M_W_law) 436 = .ok (.aload_n 0, 1) := by decide +kernel
theorem d_W_law_437 : decode (mMc M_W_law) 437 = .ok (.iload 5, 2) := by decide +kernel
theorem d_W_law_439 : decode (mMc M_W_law) 439 = .ok (.iconst 1, 1) := by decide +kernel
theorem d_W_law_440 : decode (mMc M_W_law) 440 = .ok (.iadd, 1) := by decide +kernel
theorem d_W_law_441 : decode (mMc M_W_law) 441 = .ok (.iaload, 1) := by decide +kernel
theorem d_W_law_442 : decode (mMc M_W_law) 442 = .ok (.aload_n 0, 1) := by decide +kernel
theorem d_W_law_443 : decode (mMc M_W_law) 443 = .ok (.iload 5, 2) := by decide +kernel
theorem d_W_law_445 : decode (mMc M_W_law) 445 = .ok (.iconst 2, 1) := by decide +kernel
theorem d_W_law_446 : decode (mMc M_W_law) 446 = .ok (.iadd, 1) := by decide +kernel
theorem d_W_law_447 : decode (mMc M_W_law) 447 = .ok (.iaload, 1) := by decide +kernel
theorem d_W_law_448 : decode (mMc M_W_law) 448 = .ok (.invokevirtual 171, 3) := by decide +kernel
theorem d_W_law_451 : decode (mMc M_W_law) 451 = .ok (.istore 7, 2) := by decide +kernel
theorem d_W_law_453 : decode (mMc M_W_law) 453 = .ok (.aload_n 2, 1) := by decide +kernel
theorem d_W_law_454 : decode (mMc M_W_law) 454 = .ok (.invokevirtual 161, 3) := by decide +kernel
theorem d_W_law_457 : decode (mMc M_W_law) 457 = .ok (.iload 6, 2) := by decide +kernel
theorem d_W_law_459 : decode (mMc M_W_law) 459 = .ok (.if_icmp .eq 5, 3) := by decide +kernel
theorem d_W_law_462 : decode (mMc M_W_law) 462 = .ok (.iconst 0, 1) := by decide +kernel
theorem d_W_law_463 : decode (mMc M_W_law) 463 = .ok (.ireturn, 1) := by decide +kernel
theorem d_W_law_464 : decode (mMc M_W_law) 464 = .ok (.iload 6, 2) := by decide +kernel
theorem d_W_law_466 : decode (mMc M_W_law) 466 = .ok (.ifCond .ne 15, 3) := by decide +kernel
theorem d_W_law_469 : decode (mMc M_W_law) 469 = .ok (.aload_n 3, 1) := by decide +kernel
theorem d_W_law_470 : decode (mMc M_W_law) 470 = .ok (.iconst 0, 1) := by decide +kernel
theorem d_W_law_471 : decode (mMc M_W_law) 471 = .ok (.laload, 1) := by decide +kernel
theorem d_W_law_472 : decode (mMc M_W_law) 472 = .ok (.iload 7, 2) := by decide +kernel
theorem d_W_law_474 : decode (mMc M_W_law) 474 = .ok (.i2l, 1) := by decide +kernel
theorem d_W_law_475 : decode (mMc M_W_law) 475 = .ok (.lcmp, 1) := by decide +kernel
theorem d_W_law_476 : decode (mMc M_W_law) 476 = .ok (.ifCond .eq 5, 3) := by decide +kernel
theorem d_W_law_479 : decode (mMc M_W_law) 479 = .ok (.iconst 0, 1) := by decide +kernel
theorem d_W_law_480 : decode (mMc M_W_law) 480 = .ok (.ireturn, 1) := by decide +kernel
theorem d_W_law_481 : decode (mMc M_W_law) 481 = .ok (.goto 2330, 3) := by decide +kernel
theorem d_W_law_484 : decode (mMc M_W_law) 484 = .ok (.aload_n 1, 1) := by decide +kernel
theorem d_W_law_485 : decode (mMc M_W_law) 485 = .ok (.aload_n 0, 1) := by decide +kernel
theorem d_W_law_486 : decode (mMc M_W_law) 486 = .ok (.iload 5, 2) := by decide +kernel
theorem d_W_law_488 : decode (mMc M_W_law) 488 = .ok (.iconst 1, 1) := by decide +kernel
theorem d_W_law_489 : decode (mMc M_W_law) 489 = .ok (.iadd, 1) := by decide +kernel
theorem d_W_law_490 : decode (mMc M_W_law) 490 = .ok (.iaload, 1) := by decide +kernel
theorem d_W_law_491 : decode (mMc M_W_law) 491 = .ok (.aload_n 3, 1) := by decide +kernel
theorem d_W_law_492 : decode (mMc M_W_law) 492 = .ok (.invokestatic 172, 3) := by decide +kernel
theorem d_W_law_495 : decode (mMc M_W_law) 495 = .ok (.istore 6, 2) := by decide +kernel
theorem d_W_law_497 : decode (mMc M_W_law) 497 = .ok (.aload_n 2, 1) := by decide +kernel
theorem d_W_law_498 : decode (mMc M_W_law) 498 = .ok (.aload_n 0, 1) := by decide +kernel
theorem d_W_law_499 : decode (mMc M_W_law) 499 = .ok (.iload 5, 2) := by decide +kernel
theorem d_W_law_501 : decode (mMc M_W_law) 501 = .ok (.iconst 1, 1) := by decide +kernel
theorem d_W_law_502 : decode (mMc M_W_law) 502 = .ok (.iadd, 1) := by decide +kernel
theorem d_W_law_503 : decode (mMc M_W_law) 503 = .ok (.iaload, 1) := by decide +kernel
theorem d_W_law_504 : decode (mMc M_W_law) 504 = .ok (.invokevirtual 174, 3) := by decide +kernel
theorem d_W_law_507 : decode (mMc M_W_law) 507 = .ok (.istore 7, 2) := by decide +kernel
theorem d_W_law_509 : decode (mMc M_W_law) 509 = .ok (.aload_n 2, 1) := by decide +kernel
theorem d_W_law_510 : decode (mMc M_W_law) 510 = .ok (.invokevirtual 161, 3) := by decide +kernel
theorem d_W_law_513 : decode (mMc M_W_law) 513 = .ok (.iload 6, 2) := by decide +kernel
theorem d_W_law_515 : decode (mMc M_W_law) 515 = .ok (.if_icmp .eq 5, 3) := by decide +kernel
theorem d_W_law_518 : decode (mMc M_W_law) 518 = .ok (.iconst 0, 1) := by decide +kernel
theorem d_W_law_519 : decode (mMc M_W_law) 519 = .ok (.ireturn, 1) := by decide +kernel
theorem d_W_law_520 : decode (mMc M_W_law) 520 = .ok (.iload 6, 2) := by decide +kernel
theorem d_W_law_522 : decode (mMc M_W_law) 522 = .ok (.ifCond .ne 15, 3) := by decide +kernel
theorem d_W_law_525 : decode (mMc M_W_law) 525 = .ok (.aload_n 3, 1) := by decide +kernel
theorem d_W_law_526 : decode (mMc M_W_law) 526 = .ok (.iconst 0, 1) := by decide +kernel
theorem d_W_law_527 : decode (mMc M_W_law) 527 = .ok (.laload, 1) := by decide +kernel
theorem d_W_law_528 : decode (mMc M_W_law) 528 = .ok (.iload 7, 2) := by decide +kernel
theorem d_W_law_530 : decode (mMc M_W_law) 530 = .ok (.i2l, 1) := by decide +kernel
theorem d_W_law_531 : decode (mMc M_W_law) 531 = .ok (.lcmp, 1) := by decide +kernel
theorem d_W_law_532 : decode (mMc M_W_law) 532 = .ok (.ifCond .eq 5, 3) := by decide +kernel
theorem d_W_law_535 : decode (mMc M_W_law) 535 = .ok (.iconst 0, 1) := by decide +kernel
theorem d_W_law_536 : decode (mMc M_W_law) 536 = .ok (.ireturn, 1) := by decide +kernel
theorem d_W_law_537 : decode (mMc M_W_law) 537 = .ok (.goto 2274, 3) := by decide +kernel
theorem d_W_law_540 : decode (mMc M_W_law) 540 = .ok (.aload_n 1, 1) := by decide +kernel
theorem d_W_law_541 : decode (mMc M_W_law) 541 = .ok (.aload_n 0, 1) := by decide +kernel
theorem d_W_law_542 : decode (mMc M_W_law) 542 = .ok (.iload 5, 2) := by decide +kernel
theorem d_W_law_544 : decode (mMc M_W_law) 544 = .ok (.iconst 1, 1) := by decide +kernel
theorem d_W_law_545 : decode (mMc M_W_law) 545 = .ok (.iadd, 1) := by decide +kernel
theorem d_W_law_546 : decode (mMc M_W_law) 546 = .ok (.iaload, 1) := by decide +kernel
theorem d_W_law_547 : decode (mMc M_W_law) 547 = .ok (.aload_n 0, 1) := by decide +kernel
theorem d_W_law_548 : decode (mMc M_W_law) 548 = .ok (.iload 5, 2) := by decide +kernel
theorem d_W_law_550 : decode (mMc M_W_law) 550 = .ok (.iconst 2, 1) := by decide +kernel
theorem d_W_law_551 : decode (mMc M_W_law) 551 = .ok (.iadd, 1) := by decide +kernel
theorem d_W_law_552 : decode (mMc M_W_law) 552 = .ok (.iaload, 1) := by decide +kernel
theorem d_W_law_553 : decode (mMc M_W_law) 553 = .ok (.ifCond .eq 7, 3) := by decide +kernel
theorem d_W_law_556 : decode (mMc M_W_law) 556 = .ok (.iconst 1, 1) := by decide +kernel
theorem d_W_law_557 : decode (mMc M_W_law) 557 = .ok (.goto 4, 3) := by decide +kernel
theorem d_W_law_560 : decode (mMc M_W_law) 560 = .ok (.iconst 0, 1) := by decide +kernel
theorem d_W_law_561 : decode (mMc M_W_law) 561 = .ok (.aload_n 3, 1) := by decide +kernel
theorem d_W_law_562 : decode (mMc M_W_law) 562 = .ok (.invokestatic 175, 3) := by decide +kernel
theorem d_W_law_565 : decode (mMc M_W_law) 565 = .ok (.istore 6, 2) := by decide +kernel
theorem d_W_law_567 : decode (mMc M_W_law) 567 = .ok (.aload_n 2, 1) := by decide +kernel
theorem d_W_law_568 : decode (mMc M_W_law) 568 = .ok (.aload_n 0, 1) := by decide +kernel
theorem d_W_law_569 : decode (mMc M_W_law) 569 = .ok (.iload 5, 2) := by decide +kernel
theorem d_W_law_571 : decode (mMc M_W_law) 571 = .ok (.iconst 1, 1) := by decide +kernel
theorem d_W_law_572 : decode (mMc M_W_law) 572 = .ok (.iadd, 1) := by decide +kernel
theorem d_W_law_573 : decode (mMc M_W_law) 573 = .ok (.iaload, 1) := by decide +kernel
theorem d_W_law_574 : decode (mMc M_W_law) 574 = .ok (.aload_n 0, 1) := by decide +kernel
theorem d_W_law_575 : decode (mMc M_W_law) 575 = .ok (.iload 5, 2) := by decide +kernel
theorem d_W_law_577 : decode (mMc M_W_law) 577 = .ok (.iconst 2, 1) := by decide +kernel
theorem d_W_law_578 : decode (mMc M_W_law) 578 = .ok (.iadd, 1) := by decide +kernel
theorem d_W_law_579 : decode (mMc M_W_law) 579 = .ok (.iaload, 1) := by decide +kernel
theorem d_W_law_580 : decode (mMc M_W_law) 580 = .ok (.ifCond .eq 7, 3) := by decide +kernel
theorem d_W_law_583 : decode (mMc M_W_law) 583 = .ok (.iconst 1, 1) := by decide +kernel
theorem d_W_law_584 : decode (mMc M_W_law) 584 = .ok (.goto 4, 3) := by decide +kernel
theorem d_W_law_587 : decode (mMc M_W_law) 587 = .ok (.iconst 0, 1) := by decide +kernel
theorem d_W_law_588 : decode (mMc M_W_law) 588 = .ok (.invokevirtual 178, 3) := by decide +kernel
theorem d_W_law_591 : decode (mMc M_W_law) 591 = .ok (.istore 7, 2) := by decide +kernel
theorem d_W_law_593 : decode (mMc M_W_law) 593 = .ok (.aload_n 2, 1) := by decide +kernel
theorem d_W_law_594 : decode (mMc M_W_law) 594 = .ok (.invokevirtual 161, 3) := by decide +kernel
theorem d_W_law_597 : decode (mMc M_W_law) 597 = .ok (.iload 6, 2) := by decide +kernel
theorem d_W_law_599 : decode (mMc M_W_law) 599 = .ok (.if_icmp .eq 5, 3) := by decide +kernel
theorem d_W_law_602 : decode (mMc M_W_law) 602 = .ok (.iconst 0, 1) := by decide +kernel
theorem d_W_law_603 : decode (mMc M_W_law) 603 = .ok (.ireturn, 1) := by decide +kernel
theorem d_W_law_604 : decode (mMc M_W_law) 604 = .ok (.iload 6, 2) := by decide +kernel
theorem d_W_law_606 : decode (mMc M_W_law) 606 = .ok (.ifCond .ne 22, 3) := by decide +kernel
theorem d_W_law_609 : decode (mMc M_W_law) 609 = .ok (.aload_n 3, 1) := by decide +kernel
theorem d_W_law_610 : decode (mMc M_W_law) 610 = .ok (.iconst 0, 1) := by decide +kernel
theorem d_W_law_611 : decode (mMc M_W_law) 611 = .ok (.laload, 1) := by decide +kernel
theorem d_W_law_612 : decode (mMc M_W_law) 612 = .ok (.iload 7, 2) := by decide +kernel
theorem d_W_law_614 : decode (mMc M_W_law) 614 = .ok (.ifCond .eq 7, 3) := by decide +kernel
theorem d_W_law_617 : decode (mMc M_W_law) 617 = .ok (.lconst 1, 1) := by decide +kernel
theorem d_W_law_618 : decode (mMc M_W_law) 618 = .ok (.goto 4, 3) := by decide +kernel
theorem d_W_law_621 : decode (mMc M_W_law) 621 = .ok (.lconst 0, 1) := by decide +kernel
theorem d_W_law_622 : decode (mMc M_W_law) 622 = .ok (.lcmp, 1) := by decide +kernel
theorem d_W_law_623 : decode (mMc M_W_law) 623 = .ok (.ifCond .eq 5, 3) := by decide +kernel
theorem d_W_law_626 : decode (mMc M_W_law) 626 = .ok (.iconst 0, 1) := by decide +kernel
theorem d_W_law_627 : decode (mMc M_W_law) 627 = .ok (.ireturn, 1) := by decide +kernel
theorem d_W_law_628 : decode (mMc M_W_law) 628 = .ok (.goto 2183, 3) := by decide +kernel
theorem d_W_law_631 : decode (mMc M_W_law) 631 = .ok (.aload_n 1, 1) := by decide +kernel
theorem d_W_law_632 : decode (mMc M_W_law) 632 = .ok (.invokevirtual 179, 3) := by decide +kernel
theorem d_W_law_635 : decode (mMc M_W_law) 635 = .ok (.aload_n 2, 1) := by decide +kernel
theorem d_W_law_636 : decode (mMc M_W_law) 636 = .ok (.invokevirtual 182, 3) := by decide +kernel
theorem d_W_law_639 : decode (mMc M_W_law) 639 = .ok (.if_icmp .eq 2172, 3) := by decide +kernel
theorem d_W_law_642 : decode (mMc M_W_law) 642 = .ok (.iconst 0, 1) := by decide +kernel
theorem d_W_law_643 : decode (mMc M_W_law) 643 = .ok (.ireturn, 1) := by decide +kernel
theorem d_W_law_644 : decode (mMc M_W_law) 644 = .ok (.aload_n 1, 1) := by decide +kernel
theorem d_W_law_645 : decode (mMc M_W_law) 645 = .ok (.aload_n 0, 1) := by decide +kernel
theorem d_W_law_646 : decode (mMc M_W_law) 646 = .ok (.iload 5, 2) := by decide +kernel
theorem d_W_law_648 : decode (mMc M_W_law) 648 = .ok (.iconst 1, 1) := by decide +kernel
theorem d_W_law_649 : decode (mMc M_W_law) 649 = .ok (.iadd, 1) := by decide +kernel
theorem d_W_law_650 : decode (mMc M_W_law) 650 = .ok (.iaload, 1) := by decide +kernel
theorem d_W_law_651 : decode (mMc M_W_law) 651 = .ok (.aload_n 3, 1) := by decide +kernel
theorem d_W_law_652 : decode (mMc M_W_law) 652 = .ok (.invokestatic 183, 3) := by decide +kernel
theorem d_W_law_655 : decode (mMc M_W_law) 655 = .ok (.istore 6, 2) := by decide +kernel
theorem d_W_law_657 : decode (mMc M_W_law) 657 = .ok (.aload_n 2, 1) := by decide +kernel
theorem d_W_law_658 : decode (mMc M_W_law) 658 = .ok (.aload_n 0, 1) := by decide +kernel
theorem d_W_law_659 : decode (mMc M_W_law) 659 = .ok (.iload 5, 2) := by decide +kernel
theorem d_W_law_661 : decode (mMc M_W_law) 661 = .ok (.iconst 1, 1) := by decide +kernel
theorem d_W_law_662 : decode (mMc M_W_law) 662 = .ok (.iadd, 1) := by decide +kernel
theorem d_W_law_663 : decode (mMc M_W_law) 663 = .ok (.iaload, 1) := by decide +kernel
theorem d_W_law_664 : decode (mMc M_W_law) 664 = .ok (.invokevirtual 185, 3) := by decide +kernel
theorem d_W_law_667 : decode (mMc M_W_law) 667 = .ok (.istore 7, 2) := by decide +kernel
theorem d_W_law_669 : decode (mMc M_W_law) 669 = .ok (.aload_n 2, 1) := by decide +kernel
theorem d_W_law_670 : decode (mMc M_W_law) 670 = .ok (.invokevirtual 161, 3) := by decide +kernel
theorem d_W_law_673 : decode (mMc M_W_law) 673 = .ok (.iload 6, 2) := by decide +kernel
theorem d_W_law_675 : decode (mMc M_W_law) 675 = .ok (.if_icmp .eq 5, 3) := by decide +kernel
theorem d_W_law_678 : decode (mMc M_W_law) 678 = .ok (.iconst 0, 1) := by decide +kernel
theorem d_W_law_679 : decode (mMc M_W_law) 679 = .ok (.ireturn, 1) := by decide +kernel
theorem d_W_law_680 : decode (mMc M_W_law) 680 = .ok (.iload 6, 2) := by decide +kernel
theorem d_W_law_682 : decode (mMc M_W_law) 682 = .ok (.ifCond .ne 15, 3) := by decide +kernel
theorem d_W_law_685 : decode (mMc M_W_law) 685 = .ok (.aload_n 3, 1) := by decide +kernel
theorem d_W_law_686 : decode (mMc M_W_law) 686 = .ok (.iconst 0, 1) := by decide +kernel
theorem d_W_law_687 : decode (mMc M_W_law) 687 = .ok (.laload, 1) := by decide +kernel
theorem d_W_law_688 : decode (mMc M_W_law) 688 = .ok (.iload 7, 2) := by decide +kernel
theorem d_W_law_690 : decode (mMc M_W_law) 690 = .ok (.i2l, 1) := by decide +kernel
theorem d_W_law_691 : decode (mMc M_W_law) 691 = .ok (.lcmp, 1) := by decide +kernel
theorem d_W_law_692 : decode (mMc M_W_law) 692 = .ok (.ifCond .eq 5, 3) := by decide +kernel
theorem d_W_law_695 : decode (mMc M_W_law) 695 = .ok (.iconst 0, 1) := by decide +kernel
theorem d_W_law_696 : decode (mMc M_W_law) 696 = .ok (.ireturn, 1) := by decide +kernel
theorem d_W_law_697 : decode (mMc M_W_law) 697 = .ok (.goto 2114, 3) := by decide +kernel
theorem d_W_law_700 : decode (mMc M_W_law) 700 = .ok (.aload_n 1, 1) := by decide +kernel
theorem d_W_law_701 : decode (mMc M_W_law) 701 = .ok (.aload_n 0, 1) := by decide +kernel
theorem d_W_law_702 : decode (mMc M_W_law) 702 = .ok (.iload 5, 2) := by decide +kernel
theorem d_W_law_704 : decode (mMc M_W_law) 704 = .ok (.iconst 1, 1) := by decide +kernel
theorem d_W_law_705 : decode (mMc M_W_law) 705 = .ok (.iadd, 1) := by decide +kernel
theorem d_W_law_706 : decode (mMc M_W_law) 706 = .ok (.iaload, 1) := by decide +kernel
theorem d_W_law_707 : decode (mMc M_W_law) 707 = .ok (.aload_n 3, 1) := by decide +kernel
theorem d_W_law_708 : decode (mMc M_W_law) 708 = .ok (.invokestatic 186, 3) := by decide +kernel
theorem d_W_law_711 : decode (mMc M_W_law) 711 = .ok (.istore 6, 2) := by decide +kernel
theorem d_W_law_713 : decode (mMc M_W_law) 713 = .ok (.aload_n 2, 1) := by decide +kernel
theorem d_W_law_714 : decode (mMc M_W_law) 714 = .ok (.aload_n 0, 1) := by decide +kernel
theorem d_W_law_715 : decode (mMc M_W_law) 715 = .ok (.iload 5, 2) := by decide +kernel
theorem d_W_law_717 : decode (mMc M_W_law) 717 = .ok (.iconst 1, 1) := by decide +kernel
theorem d_W_law_718 : decode (mMc M_W_law) 718 = .ok (.iadd, 1) := by decide +kernel
theorem d_W_law_719 : decode (mMc M_W_law) 719 = .ok (.iaload, 1) := by decide +kernel
theorem d_W_law_720 : decode (mMc M_W_law) 720 = .ok (.invokevirtual 188, 3) := by decide +kernel
theorem d_W_law_723 : decode (mMc M_W_law) 723 = .ok (.istore 7, 2) := by decide +kernel
theorem d_W_law_725 : decode (mMc M_W_law) 725 = .ok (.aload_n 2, 1) := by decide +kernel
theorem d_W_law_726 : decode (mMc M_W_law) 726 = .ok (.invokevirtual 161, 3) := by decide +kernel
theorem d_W_law_729 : decode (mMc M_W_law) 729 = .ok (.iload 6, 2) := by decide +kernel
theorem d_W_law_731 : decode (mMc M_W_law) 731 = .ok (.if_icmp .eq 5, 3) := by decide +kernel
theorem d_W_law_734 : decode (mMc M_W_law) 734 = .ok (.iconst 0, 1) := by decide +kernel
theorem d_W_law_735 : decode (mMc M_W_law) 735 = .ok (.ireturn, 1) := by decide +kernel
theorem d_W_law_736 : decode (mMc M_W_law) 736 = .ok (.iload 6, 2) := by decide +kernel
theorem d_W_law_738 : decode (mMc M_W_law) 738 = .ok (.ifCond .ne 22, 3) := by decide +kernel
theorem d_W_law_741 : decode (mMc M_W_law) 741 = .ok (.aload_n 3, 1) := by decide +kernel
theorem d_W_law_742 : decode (mMc M_W_law) 742 = .ok (.iconst 0, 1) := by decide +kernel
theorem d_W_law_743 : decode (mMc M_W_law) 743 = .ok (.laload, 1) := by decide +kernel
theorem d_W_law_744 : decode (mMc M_W_law) 744 = .ok (.iload 7, 2) := by decide +kernel
theorem d_W_law_746 : decode (mMc M_W_law) 746 = .ok (.ifCond .eq 7, 3) := by decide +kernel
theorem d_W_law_749 : decode (mMc M_W_law) 749 = .ok (.lconst 1, 1) := by decide +kernel
theorem d_W_law_750 : decode (mMc M_W_law) 750 = .ok (.goto 4, 3) := by decide +kernel
theorem d_W_law_753 : decode (mMc M_W_law) 753 = .ok (.lconst 0, 1) := by decide +kernel
theorem d_W_law_754 : decode (mMc M_W_law) 754 = .ok (.lcmp, 1) := by decide +kernel
theorem d_W_law_755 : decode (mMc M_W_law) 755 = .ok (.ifCond .eq 5, 3) := by decide +kernel
theorem d_W_law_758 : decode (mMc M_W_law) 758 = .ok (.iconst 0, 1) := by decide +kernel
theorem d_W_law_759 : decode (mMc M_W_law) 759 = .ok (.ireturn, 1) := by decide +kernel
theorem d_W_law_760 : decode (mMc M_W_law) 760 = .ok (.goto 2051, 3) := by decide +kernel
theorem d_W_law_763 : decode (mMc M_W_law) 763 = .ok (.aload_n 1, 1) := by decide +kernel
theorem d_W_law_764 : decode (mMc M_W_law) 764 = .ok (.aload_n 0, 1) := by decide +kernel
theorem d_W_law_765 : decode (mMc M_W_law) 765 = .ok (.iload 5, 2) := by decide +kernel
theorem d_W_law_767 : decode (mMc M_W_law) 767 = .ok (.iconst 1, 1) := by decide +kernel
theorem d_W_law_768 : decode (mMc M_W_law) 768 = .ok (.iadd, 1) := by decide +kernel
theorem d_W_law_769 : decode (mMc M_W_law) 769 = .ok (.iaload, 1) := by decide +kernel
theorem d_W_law_770 : decode (mMc M_W_law) 770 = .ok (.aload_n 3, 1) := by decide +kernel
theorem d_W_law_771 : decode (mMc M_W_law) 771 = .ok (.invokestatic 189, 3) := by decide +kernel
theorem d_W_law_774 : decode (mMc M_W_law) 774 = .ok (.istore 6, 2) := by decide +kernel
theorem d_W_law_776 : decode (mMc M_W_law) 776 = .ok (.aload_n 2, 1) := by decide +kernel
theorem d_W_law_777 : decode (mMc M_W_law) 777 = .ok (.aload_n 0, 1) := by decide +kernel
theorem d_W_law_778 : decode (mMc M_W_law) 778 = .ok (.iload 5, 2) := by decide +kernel
theorem d_W_law_780 : decode (mMc M_W_law) 780 = .ok (.iconst 1, 1) := by decide +kernel
theorem d_W_law_781 : decode (mMc M_W_law) 781 = .ok (.iadd, 1) := by decide +kernel
theorem d_W_law_782 : decode (mMc M_W_law) 782 = .ok (.iaload, 1) := by decide +kernel
theorem d_W_law_783 : decode (mMc M_W_law) 783 = .ok (.invokevirtual 191, 3) := by decide +kernel
theorem d_W_law_786 : decode (mMc M_W_law) 786 = .ok (.istore 7, 2) := by decide +kernel
theorem d_W_law_788 : decode (mMc M_W_law) 788 = .ok (.aload_n 2, 1) := by decide +kernel
theorem d_W_law_789 : decode (mMc M_W_law) 789 = .ok (.invokevirtual 161, 3) := by decide +kernel
theorem d_W_law_792 : decode (mMc M_W_law) 792 = .ok (.iload 6, 2) := by decide +kernel
theorem d_W_law_794 : decode (mMc M_W_law) 794 = .ok (.if_icmp .eq 5, 3) := by decide +kernel
theorem d_W_law_797 : decode (mMc M_W_law) 797 = .ok (.iconst 0, 1) := by decide +kernel
theorem d_W_law_798 : decode (mMc M_W_law) 798 = .ok (.ireturn, 1) := by decide +kernel
theorem d_W_law_799 : decode (mMc M_W_law) 799 = .ok (.iload 6, 2) := by decide +kernel
theorem d_W_law_801 : decode (mMc M_W_law) 801 = .ok (.ifCond .ne 15, 3) := by decide +kernel
theorem d_W_law_804 : decode (mMc M_W_law) 804 = .ok (.aload_n 3, 1) := by decide +kernel
theorem d_W_law_805 : decode (mMc M_W_law) 805 = .ok (.iconst 0, 1) := by decide +kernel
theorem d_W_law_806 : decode (mMc M_W_law) 806 = .ok (.laload, 1) := by decide +kernel
theorem d_W_law_807 : decode (mMc M_W_law) 807 = .ok (.iload 7, 2) := by decide +kernel
theorem d_W_law_809 : decode (mMc M_W_law) 809 = .ok (.i2l, 1) := by decide +kernel
theorem d_W_law_810 : decode (mMc M_W_law) 810 = .ok (.lcmp, 1) := by decide +kernel
theorem d_W_law_811 : decode (mMc M_W_law) 811 = .ok (.ifCond .eq 5, 3) := by decide +kernel
theorem d_W_law_814 : decode (mMc M_W_law) 814 = .ok (.iconst 0, 1) := by decide +kernel
theorem d_W_law_815 : decode (mMc M_W_law) 815 = .ok (.ireturn, 1) := by decide +kernel
theorem d_W_law_816 : decode (mMc M_W_law) 816 = .ok (.goto 1995, 3) := by decide +kernel
theorem d_W_law_819 : decode (mMc M_W_law) 819 = .ok (.aload_n 1, 1) := by decide +kernel
theorem d_W_law_820 : decode (mMc M_W_law) 820 = .ok (.aload_n 0, 1) := by decide +kernel
theorem d_W_law_821 : decode (mMc M_W_law) 821 = .ok (.iload 5, 2) := by decide +kernel
theorem d_W_law_823 : decode (mMc M_W_law) 823 = .ok (.iconst 1, 1) := by decide +kernel
theorem d_W_law_824 : decode (mMc M_W_law) 824 = .ok (.iadd, 1) := by decide +kernel
theorem d_W_law_825 : decode (mMc M_W_law) 825 = .ok (.iaload, 1) := by decide +kernel
theorem d_W_law_826 : decode (mMc M_W_law) 826 = .ok (.aload_n 3, 1) := by decide +kernel
theorem d_W_law_827 : decode (mMc M_W_law) 827 = .ok (.invokestatic 192, 3) := by decide +kernel
theorem d_W_law_830 : decode (mMc M_W_law) 830 = .ok (.istore 6, 2) := by decide +kernel
theorem d_W_law_832 : decode (mMc M_W_law) 832 = .ok (.aload_n 2, 1) := by decide +kernel
theorem d_W_law_833 : decode (mMc M_W_law) 833 = .ok (.aload_n 0, 1) := by decide +kernel
theorem d_W_law_834 : decode (mMc M_W_law) 834 = .ok (.iload 5, 2) := by decide +kernel
theorem d_W_law_836 : decode (mMc M_W_law) 836 = .ok (.iconst 1, 1) := by decide +kernel
theorem d_W_law_837 : decode (mMc M_W_law) 837 = .ok (.iadd, 1) := by decide +kernel
theorem d_W_law_838 : decode (mMc M_W_law) 838 = .ok (.iaload, 1) := by decide +kernel
theorem d_W_law_839 : decode (mMc M_W_law) 839 = .ok (.invokevirtual 194, 3) := by decide +kernel
theorem d_W_law_842 : decode (mMc M_W_law) 842 = .ok (.istore 7, 2) := by decide +kernel
theorem d_W_law_844 : decode (mMc M_W_law) 844 = .ok (.aload_n 2, 1) := by decide +kernel
theorem d_W_law_845 : decode (mMc M_W_law) 845 = .ok (.invokevirtual 161, 3) := by decide +kernel
theorem d_W_law_848 : decode (mMc M_W_law) 848 = .ok (.iload 6, 2) := by decide +kernel
theorem d_W_law_850 : decode (mMc M_W_law) 850 = .ok (.if_icmp .eq 5, 3) := by decide +kernel
theorem d_W_law_853 : decode (mMc M_W_law) 853 = .ok (.iconst 0, 1) := by decide +kernel
theorem d_W_law_854 : decode (mMc M_W_law) 854 = .ok (.ireturn, 1) := by decide +kernel
theorem d_W_law_855 : decode (mMc M_W_law) 855 = .ok (.iload 6, 2) := by decide +kernel
theorem d_W_law_857 : decode (mMc M_W_law) 857 = .ok (.ifCond .ne 15, 3) := by decide +kernel
theorem d_W_law_860 : decode (mMc M_W_law) 860 = .ok (.aload_n 3, 1) := by decide +kernel
theorem d_W_law_861 : decode (mMc M_W_law) 861 = .ok (.iconst 0, 1) := by decide +kernel
theorem d_W_law_862 : decode (mMc M_W_law) 862 = .ok (.laload, 1) := by decide +kernel
theorem d_W_law_863 : decode (mMc M_W_law) 863 = .ok (.iload 7, 2) := by decide +kernel
theorem d_W_law_865 : decode (mMc M_W_law) 865 = .ok (.i2l, 1) := by decide +kernel
theorem d_W_law_866 : decode (mMc M_W_law) 866 = .ok (.lcmp, 1) := by decide +kernel
theorem d_W_law_867 : decode (mMc M_W_law) 867 = .ok (.ifCond .eq 5, 3) := by decide +kernel
theorem d_W_law_870 : decode (mMc M_W_law) 870 = .ok (.iconst 0, 1) := by decide +kernel
theorem d_W_law_871 : decode (mMc M_W_law) 871 = .ok (.ireturn, 1) := by decide +kernel
theorem d_W_law_872 : decode (mMc M_W_law) 872 = .ok (.goto 1939, 3) := by decide +kernel
theorem d_W_law_875 : decode (mMc M_W_law) 875 = .ok (.aload_n 1, 1) := by decide +kernel
theorem d_W_law_876 : decode (mMc M_W_law) 876 = .ok (.aload_n 0, 1) := by decide +kernel
theorem d_W_law_877 : decode (mMc M_W_law) 877 = .ok (.iload 5, 2) := by decide +kernel
theorem d_W_law_879 : decode (mMc M_W_law) 879 = .ok (.iconst 1, 1) := by decide +kernel
theorem d_W_law_880 : decode (mMc M_W_law) 880 = .ok (.iadd, 1) := by decide +kernel
theorem d_W_law_881 : decode (mMc M_W_law) 881 = .ok (.iaload, 1) := by decide +kernel
theorem d_W_law_882 : decode (mMc M_W_law) 882 = .ok (.aload_n 3, 1) := by decide +kernel
theorem d_W_law_883 : decode (mMc M_W_law) 883 = .ok (.invokestatic 195, 3) := by decide +kernel
theorem d_W_law_886 : decode (mMc M_W_law) 886 = .ok (.istore 6, 2) := by decide +kernel
theorem d_W_law_888 : decode (mMc M_W_law) 888 = .ok (.aload_n 2, 1) := by decide +kernel
theorem d_W_law_889 : decode (mMc M_W_law) 889 = .ok (.aload_n 0, 1) := by decide +kernel
theorem d_W_law_890 : decode (mMc M_W_law) 890 = .ok (.iload 5, 2) := by decide +kernel
theorem d_W_law_892 : decode (mMc M_W_law) 892 = .ok (.iconst 1, 1) := by decide +kernel
theorem d_W_law_893 : decode (mMc M_W_law) 893 = .ok (.iadd, 1) := by decide +kernel
theorem d_W_law_894 : decode (mMc M_W_law) 894 = .ok (.iaload, 1) := by decide +kernel
theorem d_W_law_895 : decode (mMc M_W_law) 895 = .ok (.invokevirtual 197, 3) := by decide +kernel
theorem d_W_law_898 : decode (mMc M_W_law) 898 = .ok (.istore 7, 2) := by decide +kernel
theorem d_W_law_900 : decode (mMc M_W_law) 900 = .ok (.aload_n 2, 1) := by decide +kernel
theorem d_W_law_901 : decode (mMc M_W_law) 901 = .ok (.invokevirtual 161, 3) := by decide +kernel
theorem d_W_law_904 : decode (mMc M_W_law) 904 = .ok (.iload 6, 2) := by decide +kernel
theorem d_W_law_906 : decode (mMc M_W_law) 906 = .ok (.if_icmp .eq 5, 3) := by decide +kernel
theorem d_W_law_909 : decode (mMc M_W_law) 909 = .ok (.iconst 0, 1) := by decide +kernel
theorem d_W_law_910 : decode (mMc M_W_law) 910 = .ok (.ireturn, 1) := by decide +kernel
theorem d_W_law_911 : decode (mMc M_W_law) 911 = .ok (.iload 6, 2) := by decide +kernel
theorem d_W_law_913 : decode (mMc M_W_law) 913 = .ok (.ifCond .ne 15, 3) := by decide +kernel
theorem d_W_law_916 : decode (mMc M_W_law) 916 = .ok (.aload_n 3, 1) := by decide +kernel
theorem d_W_law_917 : decode (mMc M_W_law) 917 = .ok (.iconst 0, 1) := by decide +kernel
theorem d_W_law_918 : decode (mMc M_W_law) 918 = .ok (.laload, 1) := by decide +kernel
theorem d_W_law_919 : decode (mMc M_W_law) 919 = .ok (.iload 7, 2) := by decide +kernel
theorem d_W_law_921 : decode (mMc M_W_law) 921 = .ok (.i2l, 1) := by decide +kernel
theorem d_W_law_922 : decode (mMc M_W_law) 922 = .ok (.lcmp, 1) := by decide +kernel
theorem d_W_law_923 : decode (mMc M_W_law) 923 = .ok (.ifCond .eq 5, 3) := by decide +kernel
theorem d_W_law_926 : decode (mMc M_W_law) 926 = .ok (.iconst 0, 1) := by decide +kernel
theorem d_W_law_927 : decode (mMc M_W_law) 927 = .ok (.ireturn, 1) := by decide +kernel
theorem d_W_law_928 : decode (mMc M_W_law) 928 = .ok (.goto 1883, 3) := by decide +kernel
theorem d_W_law_931 : decode (mMc M_W_law) 931 = .ok (.aload_n 1, 1) := by decide +kernel
theorem d_W_law_932 : decode (mMc M_W_law) 932 = .ok (.aload_n 0, 1) := by decide +kernel
theorem d_W_law_933 : decode (mMc M_W_law) 933 = .ok (.iload 5, 2) := by decide +kernel
theorem d_W_law_935 : decode (mMc M_W_law) 935 = .ok (.iconst 1, 1) := by decide +kernel
theorem d_W_law_936 : decode (mMc M_W_law) 936 = .ok (.iadd, 1) := by decide +kernel
theorem d_W_law_937 : decode (mMc M_W_law) 937 = .ok (.iaload, 1) := by decide +kernel
theorem d_W_law_938 : decode (mMc M_W_law) 938 = .ok (.aload_n 3, 1) := by decide +kernel
theorem d_W_law_939 : decode (mMc M_W_law) 939 = .ok (.invokestatic 198, 3) := by decide +kernel
theorem d_W_law_942 : decode (mMc M_W_law) 942 = .ok (.istore 6, 2) := by decide +kernel
theorem d_W_law_944 : decode (mMc M_W_law) 944 = .ok (.aload_n 2, 1) := by decide +kernel
theorem d_W_law_945 : decode (mMc M_W_law) 945 = .ok (.aload_n 0, 1) := by decide +kernel
theorem d_W_law_946 : decode (mMc M_W_law) 946 = .ok (.iload 5, 2) := by decide +kernel
theorem d_W_law_948 : decode (mMc M_W_law) 948 = .ok (.iconst 1, 1) := by decide +kernel
theorem d_W_law_949 : decode (mMc M_W_law) 949 = .ok (.iadd, 1) := by decide +kernel
theorem d_W_law_950 : decode (mMc M_W_law) 950 = .ok (.iaload, 1) := by decide +kernel
theorem d_W_law_951 : decode (mMc M_W_law) 951 = .ok (.invokevirtual 200, 3) := by decide +kernel
theorem d_W_law_954 : decode (mMc M_W_law) 954 = .ok (.istore 7, 2) := by decide +kernel
theorem d_W_law_956 : decode (mMc M_W_law) 956 = .ok (.aload_n 2, 1) := by decide +kernel
theorem d_W_law_957 : decode (mMc M_W_law) 957 = .ok (.invokevirtual 161, 3) := by decide +kernel
theorem d_W_law_960 : decode (mMc M_W_law) 960 = .ok (.iload 6, 2) := by decide +kernel
theorem d_W_law_962 : decode (mMc M_W_law) 962 = .ok (.if_icmp .eq 5, 3) := by decide +kernel
theorem d_W_law_965 : decode (mMc M_W_law) 965 = .ok (.iconst 0, 1) := by decide +kernel
theorem d_W_law_966 : decode (mMc M_W_law) 966 = .ok (.ireturn, 1) := by decide +kernel
theorem d_W_law_967 : decode (mMc M_W_law) 967 = .ok (.iload 6, 2) := by decide +kernel
theorem d_W_law_969 : decode (mMc M_W_law) 969 = .ok (.ifCond .ne 15, 3) := by decide +kernel
theorem d_W_law_972 : decode (mMc M_W_law) 972 = .ok (.aload_n 3, 1) := by decide +kernel
theorem d_W_law_973 : decode (mMc M_W_law) 973 = .ok (.iconst 0, 1) := by decide +kernel
theorem d_W_law_974 : decode (mMc M_W_law) 974 = .ok (.laload, 1) := by decide +kernel
theorem d_W_law_975 : decode (mMc M_W_law) 975 = .ok (.iload 7, 2) := by decide +kernel
theorem d_W_law_977 : decode (mMc M_W_law) 977 = .ok (.i2l, 1) := by decide +kernel
theorem d_W_law_978 : decode (mMc M_W_law) 978 = .ok (.lcmp, 1) := by decide +kernel
theorem d_W_law_979 : decode (mMc M_W_law) 979 = .ok (.ifCond .eq 5, 3) := by decide +kernel
theorem d_W_law_982 : decode (mMc M_W_law) 982 = .ok (.iconst 0, 1) := by decide +kernel
theorem d_W_law_983 : decode (mMc M_W_law) 983 = .ok (.ireturn, 1) := by decide +kernel
theorem d_W_law_984 : decode (mMc M_W_law) 984 = .ok (.goto 1827, 3) := by decide +kernel
theorem d_W_law_987 : decode (mMc M_W_law) 987 = .ok (.aload_n 1, 1) := by decide +kernel
theorem d_W_law_988 : decode (mMc M_W_law) 988 = .ok (.aload_n 0, 1) := by decide +kernel
theorem d_W_law_989 : decode (mMc M_W_law) 989 = .ok (.iload 5, 2) := by decide +kernel
theorem d_W_law_991 : decode (mMc M_W_law) 991 = .ok (.iconst 1, 1) := by decide +kernel
theorem d_W_law_992 : decode (mMc M_W_law) 992 = .ok (.iadd, 1) := by decide +kernel
theorem d_W_law_993 : decode (mMc M_W_law) 993 = .ok (.iaload, 1) := by decide +kernel
theorem d_W_law_994 : decode (mMc M_W_law) 994 = .ok (.aload_n 3, 1) := by decide +kernel
theorem d_W_law_995 : decode (mMc M_W_law) 995 = .ok (.invokestatic 201, 3) := by decide +kernel
theorem d_W_law_998 : decode (mMc M_W_law) 998 = .ok (.istore 6, 2) := by decide +kernel
theorem d_W_law_1000 : decode (mMc M_W_law) 1000 = .ok (.aload_n 2, 1) := by decide +kernel
theorem d_W_law_1001 : decode (mMc M_W_law) 1001 = .ok (.aload_n 0, 1) := by decide +kernel
theorem d_W_law_1002 : decode (mMc M_W_law) 1002 = .ok (.iload 5, 2) := by decide +kernel
theorem d_W_law_1004 : decode (mMc M_W_law) 1004 = .ok (.iconst 1, 1) := by decide +kernel
theorem d_W_law_1005 : decode (mMc M_W_law) 1005 = .ok (.iadd, 1) := by decide +kernel
theorem d_W_law_1006 : decode (mMc M_W_law) 1006 = .ok (.iaload, 1) := by decide +kernel
theorem d_W_law_1007 : decode (mMc M_W_law) 1007 = .ok (.invokevirtual 203, 3) := by decide +kernel
theorem d_W_law_1010 : decode (mMc M_W_law) 1010 = .ok (.istore 7, 2) := by decide +kernel
theorem d_W_law_1012 : decode (mMc M_W_law) 1012 = .ok (.aload_n 2, 1) := by decide +kernel
theorem d_W_law_1013 : decode (mMc M_W_law) 1013 = .ok (.invokevirtual 161, 3) := by decide +kernel
theorem d_W_law_1016 : decode (mMc M_W_law) 1016 = .ok (.iload 6, 2) := by decide +kernel
theorem d_W_law_1018 : decode (mMc M_W_law) 1018 = .ok (.if_icmp .eq 5, 3) := by decide +kernel
theorem d_W_law_1021 : decode (mMc M_W_law) 1021 = .ok (.iconst 0, 1) := by decide +kernel
theorem d_W_law_1022 : decode (mMc M_W_law) 1022 = .ok (.ireturn, 1) := by decide +kernel
theorem d_W_law_1023 : decode (mMc M_W_law) 1023 = .ok (.iload 6, 2) := by decide +kernel
theorem d_W_law_1025 : decode (mMc M_W_law) 1025 = .ok (.ifCond .ne 22, 3) := by decide +kernel
theorem d_W_law_1028 : decode (mMc M_W_law) 1028 = .ok (.aload_n 3, 1) := by decide +kernel
theorem d_W_law_1029 : decode (mMc M_W_law) 1029 = .ok (.iconst 0, 1) := by decide +kernel
theorem d_W_law_1030 : decode (mMc M_W_law) 1030 = .ok (.laload, 1) := by decide +kernel
theorem d_W_law_1031 : decode (mMc M_W_law) 1031 = .ok (.iload 7, 2) := by decide +kernel
theorem d_W_law_1033 : decode (mMc M_W_law) 1033 = .ok (.ifCond .eq 7, 3) := by decide +kernel
theorem d_W_law_1036 : decode (mMc M_W_law) 1036 = .ok (.lconst 1, 1) := by decide +kernel
theorem d_W_law_1037 : decode (mMc M_W_law) 1037 = .ok (.goto 4, 3) := by decide +kernel
theorem d_W_law_1040 : decode (mMc M_W_law) 1040 = .ok (.lconst 0, 1) := by decide +kernel
theorem d_W_law_1041 : decode (mMc M_W_law) 1041 = .ok (.lcmp, 1) := by decide +kernel
theorem d_W_law_1042 : decode (mMc M_W_law) 1042 = .ok (.ifCond .eq 5, 3) := by decide +kernel
theorem d_W_law_1045 : decode (mMc M_W_law) 1045 = .ok (.iconst 0, 1) := by decide +kernel
theorem d_W_law_1046 : decode (mMc M_W_law) 1046 = .ok (.ireturn, 1) := by decide +kernel
theorem d_W_law_1047 : decode (mMc M_W_law) 1047 = .ok (.goto 1764, 3) := by decide +kernel
theorem d_W_law_1050 : decode (mMc M_W_law) 1050 = .ok (.aload_n 1, 1) := by decide +kernel
theorem d_W_law_1051 : decode (mMc M_W_law) 1051 = .ok (.aload_n 3, 1) := by decide +kernel
theorem d_W_law_1052 : decode (mMc M_W_law) 1052 = .ok (.invokestatic 204, 3) := by decide +kernel
theorem d_W_law_1055 : decode (mMc M_W_law) 1055 = .ok (.istore 6, 2) := by decide +kernel
theorem d_W_law_1057 : decode (mMc M_W_law) 1057 = .ok (.aload_n 2, 1) := by decide +kernel
theorem d_W_law_1058 : decode (mMc M_W_law) 1058 = .ok (.invokevirtual 207, 3) := by decide +kernel
theorem d_W_law_1061 : decode (mMc M_W_law) 1061 = .ok (.istore 7, 2) := by decide +kernel
theorem d_W_law_1063 : decode (mMc M_W_law) 1063 = .ok (.aload_n 2, 1) := by decide +kernel
theorem d_W_law_1064 : decode (mMc M_W_law) 1064 = .ok (.invokevirtual 161, 3) := by decide +kernel
theorem d_W_law_1067 : decode (mMc M_W_law) 1067 = .ok (.iload 6, 2) := by decide +kernel
theorem d_W_law_1069 : decode (mMc M_W_law) 1069 = .ok (.if_icmp .eq 5, 3) := by decide +kernel
theorem d_W_law_1072 : decode (mMc M_W_law) 1072 = .ok (.iconst 0, 1) := by decide +kernel
theorem d_W_law_1073 : decode (mMc M_W_law) 1073 = .ok (.ireturn, 1) := by decide +kernel
theorem d_W_law_1074 : decode (mMc M_W_law) 1074 = .ok (.iload 6, 2) := by decide +kernel
theorem d_W_law_1076 : decode (mMc M_W_law) 1076 = .ok (.ifCond .ne 15, 3) := by decide +kernel
theorem d_W_law_1079 : decode (mMc M_W_law) 1079 = .ok (.aload_n 3, 1) := by decide +kernel
theorem d_W_law_1080 : decode (mMc M_W_law) 1080 = .ok (.iconst 0, 1) := by decide +kernel
theorem d_W_law_1081 : decode (mMc M_W_law) 1081 = .ok (.laload, 1) := by decide +kernel
theorem d_W_law_1082 : decode (mMc M_W_law) 1082 = .ok (.iload 7, 2) := by decide +kernel
theorem d_W_law_1084 : decode (mMc M_W_law) 1084 = .ok (.i2l, 1) := by decide +kernel
theorem d_W_law_1085 : decode (mMc M_W_law) 1085 = .ok (.lcmp, 1) := by decide +kernel
theorem d_W_law_1086 : decode (mMc M_W_law) 1086 = .ok (.ifCond .eq 5, 3) := by decide +kernel
theorem d_W_law_1089 : decode (mMc M_W_law) 1089 = .ok (.iconst 0, 1) := by decide +kernel
theorem d_W_law_1090 : decode (mMc M_W_law) 1090 = .ok (.ireturn, 1) := by decide +kernel
theorem d_W_law_1091 : decode (mMc M_W_law) 1091 = .ok (.goto 1720, 3) := by decide +kernel
theorem d_W_law_1094 : decode (mMc M_W_law) 1094 = .ok (.aload_n 1, 1) := by decide +kernel
theorem d_W_law_1095 : decode (mMc M_W_law) 1095 = .ok (.aload_n 0, 1) := by decide +kernel
theorem d_W_law_1096 : decode (mMc M_W_law) 1096 = .ok (.iload 5, 2) := by decide +kernel
theorem d_W_law_1098 : decode (mMc M_W_law) 1098 = .ok (.iconst 1, 1) := by decide +kernel
theorem d_W_law_1099 : decode (mMc M_W_law) 1099 = .ok (.iadd, 1) := by decide +kernel
theorem d_W_law_1100 : decode (mMc M_W_law) 1100 = .ok (.iaload, 1) := by decide +kernel
theorem d_W_law_1101 : decode (mMc M_W_law) 1101 = .ok (.ifCond .eq 7, 3) := by decide +kernel
theorem d_W_law_1104 : decode (mMc M_W_law) 1104 = .ok (.iconst 1, 1) := by decide +kernel
theorem d_W_law_1105 : decode (mMc M_W_law) 1105 = .ok (.goto 4, 3) := by decide +kernel
theorem d_W_law_1108 : decode (mMc M_W_law) 1108 = .ok (.iconst 0, 1) := by decide +kernel
theorem d_W_law_1109 : decode (mMc M_W_law) 1109 = .ok (.aload_n 3, 1) := by decide +kernel
theorem d_W_law_1110 : decode (mMc M_W_law) 1110 = .ok (.invokestatic 208, 3) := by decide +kernel
theorem d_W_law_1113 : decode (mMc M_W_law) 1113 = .ok (.istore 6, 2) := by decide +kernel
theorem d_W_law_1115 : decode (mMc M_W_law) 1115 = .ok (.aload_n 2, 1) := by decide +kernel
theorem d_W_law_1116 : decode (mMc M_W_law) 1116 = .ok (.aload_n 0, 1) := by decide +kernel
theorem d_W_law_1117 : decode (mMc M_W_law) 1117 = .ok (.iload 5, 2) := by decide +kernel
theorem d_W_law_1119 : decode (mMc M_W_law) 1119 = .ok (.iconst 1, 1) := by decide +kernel
theorem d_W_law_1120 : decode (mMc M_W_law) 1120 = .ok (.iadd, 1) := by decide +kernel
theorem d_W_law_1121 : decode (mMc M_W_law) 1121 = .ok (.iaload, 1) := by decide +kernel
theorem d_W_law_1122 : decode (mMc M_W_law) 1122 = .ok (.ifCond .eq 7, 3) := by decide +kernel
theorem d_W_law_1125 : decode (mMc M_W_law) 1125 = .ok (.iconst 1, 1) := by decide +kernel
theorem d_W_law_1126 : decode (mMc M_W_law) 1126 = .ok (.goto 4, 3) := by decide +kernel
theorem d_W_law_1129 : decode (mMc M_W_law) 1129 = .ok (.iconst 0, 1) := by decide +kernel
theorem d_W_law_1130 : decode (mMc M_W_law) 1130 = .ok (.invokevirtual 211, 3) := by decide +kernel
theorem d_W_law_1133 : decode (mMc M_W_law) 1133 = .ok (.istore 7, 2) := by decide +kernel
theorem d_W_law_1135 : decode (mMc M_W_law) 1135 = .ok (.aload_n 2, 1) := by decide +kernel
theorem d_W_law_1136 : decode (mMc M_W_law) 1136 = .ok (.invokevirtual 161, 3) := by decide +kernel
theorem d_W_law_1139 : decode (mMc M_W_law) 1139 = .ok (.iload 6, 2) := by decide +kernel
theorem d_W_law_1141 : decode (mMc M_W_law) 1141 = .ok (.if_icmp .eq 5, 3) := by decide +kernel
theorem d_W_law_1144 : decode (mMc M_W_law) 1144 = .ok (.iconst 0, 1) := by decide +kernel
theorem d_W_law_1145 : decode (mMc M_W_law) 1145 = .ok (.ireturn, 1) := by decide +kernel
theorem d_W_law_1146 : decode (mMc M_W_law) 1146 = .ok (.iload 6, 2) := by decide +kernel
theorem d_W_law_1148 : decode (mMc M_W_law) 1148 = .ok (.ifCond .ne 22, 3) := by decide +kernel
theorem d_W_law_1151 : decode (mMc M_W_law) 1151 = .ok (.aload_n 3, 1) := by decide +kernel
theorem d_W_law_1152 : decode (mMc M_W_law) 1152 = .ok (.iconst 0, 1) := by decide +kernel
theorem d_W_law_1153 : decode (mMc M_W_law) 1153 = .ok (.laload, 1) := by decide +kernel
theorem d_W_law_1154 : decode (mMc M_W_law) 1154 = .ok (.iload 7, 2) := by decide +kernel
theorem d_W_law_1156 : decode (mMc M_W_law) 1156 = .ok (.ifCond .eq 7, 3) := by decide +kernel
theorem d_W_law_1159 : decode (mMc M_W_law) 1159 = .ok (.lconst 1, 1) := by decide +kernel
theorem d_W_law_1160 : decode (mMc M_W_law) 1160 = .ok (.goto 4, 3) := by decide +kernel
theorem d_W_law_1163 : decode (mMc M_W_law) 1163 = .ok (.lconst 0, 1) := by decide +kernel
theorem d_W_law_1164 : decode (mMc M_W_law) 1164 = .ok (.lcmp, 1) := by decide +kernel
theorem d_W_law_1165 : decode (mMc M_W_law) 1165 = .ok (.ifCond .eq 5, 3) := by decide +kernel
theorem d_W_law_1168 : decode (mMc M_W_law) 1168 = .ok (.iconst 0, 1) := by decide +kernel
theorem d_W_law_1169 : decode (mMc M_W_law) 1169 = .ok (.ireturn, 1) := by decide +kernel
theorem d_W_law_1170 : decode (mMc M_W_law) 1170 = .ok (.goto 1641, 3) := by decide +kernel
theorem d_W_law_1173 : decode (mMc M_W_law) 1173 = .ok (.aload_n 1, 1) := by decide +kernel
theorem d_W_law_1174 : decode (mMc M_W_law) 1174 = .ok (.invokevirtual 212, 3) := by decide +kernel
theorem d_W_law_1177 : decode (mMc M_W_law) 1177 = .ok (.aload_n 2, 1) := by decide +kernel
theorem d_W_law_1178 : decode (mMc M_W_law) 1178 = .ok (.invokevirtual 216, 3) := by decide +kernel
theorem d_W_law_1181 : decode (mMc M_W_law) 1181 = .ok (.if_icmp .eq 1630, 3) := by decide +kernel
theorem d_W_law_1184 : decode (mMc M_W_law) 1184 = .ok (.iconst 0, 1) := by decide +kernel
theorem d_W_law_1185 : decode (mMc M_W_law) 1185 = .ok (.ireturn, 1) := by decide +kernel
theorem d_W_law_1186 : decode (mMc M_W_law) 1186 = .ok (.aload_n 1, 1) := by decide +kernel
theorem d_W_law_1187 : decode (mMc M_W_law) 1187 = .ok (.aload_n 0, 1) := by decide +kernel
theorem d_W_law_1188 : decode (mMc M_W_law) 1188 = .ok (.iload 5, 2) := by decide +kernel
theorem d_W_law_1190 : decode (mMc M_W_law) 1190 = .ok (.iconst 1, 1) := by decide +kernel
theorem d_W_law_1191 : decode (mMc M_W_law) 1191 = .ok (.iadd, 1) := by decide +kernel
theorem d_W_law_1192 : decode (mMc M_W_law) 1192 = .ok (.iaload, 1) := by decide +kernel
theorem d_W_law_1193 : decode (mMc M_W_law) 1193 = .ok (.aload_n 3, 1) := by decide +kernel
theorem d_W_law_1194 : decode (mMc M_W_law) 1194 = .ok (.invokestatic 217, 3) := by decide +kernel
theorem d_W_law_1197 : decode (mMc M_W_law) 1197 = .ok (.istore 6, 2) := by decide +kernel
theorem d_W_law_1199 : decode (mMc M_W_law) 1199 = .ok (.aload_n 2, 1) := by decide +kernel
theorem d_W_law_1200 : decode (mMc M_W_law) 1200 = .ok (.aload_n 0, 1) := by decide +kernel
theorem d_W_law_1201 : decode (mMc M_W_law) 1201 = .ok (.iload 5, 2) := by decide +kernel
theorem d_W_law_1203 : decode (mMc M_W_law) 1203 = .ok (.iconst 1, 1) := by decide +kernel
theorem d_W_law_1204 : decode (mMc M_W_law) 1204 = .ok (.iadd, 1) := by decide +kernel
theorem d_W_law_1205 : decode (mMc M_W_law) 1205 = .ok (.iaload, 1) := by decide +kernel
theorem d_W_law_1206 : decode (mMc M_W_law) 1206 = .ok (.invokevirtual 219, 3) := by decide +kernel
theorem d_W_law_1209 : decode (mMc M_W_law) 1209 = .ok (.istore 7, 2) := by decide +kernel
theorem d_W_law_1211 : decode (mMc M_W_law) 1211 = .ok (.aload_n 2, 1) := by decide +kernel
theorem d_W_law_1212 : decode (mMc M_W_law) 1212 = .ok (.invokevirtual 161, 3) := by decide +kernel
theorem d_W_law_1215 : decode (mMc M_W_law) 1215 = .ok (.iload 6, 2) := by decide +kernel
theorem d_W_law_1217 : decode (mMc M_W_law) 1217 = .ok (.if_icmp .eq 5, 3) := by decide +kernel
theorem d_W_law_1220 : decode (mMc M_W_law) 1220 = .ok (.iconst 0, 1) := by decide +kernel
theorem d_W_law_1221 : decode (mMc M_W_law) 1221 = .ok (.ireturn, 1) := by decide +kernel
theorem d_W_law_1222 : decode (mMc M_W_law) 1222 = .ok (.iload 6, 2) := by decide +kernel
theorem d_W_law_1224 : decode (mMc M_W_law) 1224 = .ok (.ifCond .ne 15, 3) := by decide +kernel
theorem d_W_law_1227 : decode (mMc M_W_law) 1227 = .ok (.aload_n 3, 1) := by decide +kernel
theorem d_W_law_1228 : decode (mMc M_W_law) 1228 = .ok (.iconst 0, 1) := by decide +kernel
theorem d_W_law_1229 : decode (mMc M_W_law) 1229 = .ok (.laload, 1) := by decide +kernel
theorem d_W_law_1230 : decode (mMc M_W_law) 1230 = .ok (.iload 7, 2) := by decide +kernel
theorem d_W_law_1232 : decode (mMc M_W_law) 1232 = .ok (.i2l, 1) := by decide +kernel
theorem d_W_law_1233 : decode (mMc M_W_law) 1233 = .ok (.lcmp, 1) := by decide +kernel
theorem d_W_law_1234 : decode (mMc M_W_law) 1234 = .ok (.ifCond .eq 5, 3) := by decide +kernel
theorem d_W_law_1237 : decode (mMc M_W_law) 1237 = .ok (.iconst 0, 1) := by decide +kernel
theorem d_W_law_1238 : decode (mMc M_W_law) 1238 = .ok (.ireturn, 1) := by decide +kernel
theorem d_W_law_1239 : decode (mMc M_W_law) 1239 = .ok (.goto 1572, 3) := by decide +kernel
theorem d_W_law_1242 : decode (mMc M_W_law) 1242 = .ok (.aload_n 1, 1) := by decide +kernel
theorem d_W_law_1243 : decode (mMc M_W_law) 1243 = .ok (.invokevirtual 220, 3) := by decide +kernel
theorem d_W_law_1246 : decode (mMc M_W_law) 1246 = .ok (.aload_n 2, 1) := by decide +kernel
theorem d_W_law_1247 : decode (mMc M_W_law) 1247 = .ok (.invokevirtual 223, 3) := by decide +kernel
theorem d_W_law_1250 : decode (mMc M_W_law) 1250 = .ok (.if_icmp .eq 1561, 3) := by decide +kernel
theorem d_W_law_1253 : decode (mMc M_W_law) 1253 = .ok (.iconst 0, 1) := by decide +kernel
theorem d_W_law_1254 : decode (mMc M_W_law) 1254 = .ok (.ireturn, 1) := by decide +kernel
theorem d_W_law_1255 : decode (mMc M_W_law) 1255 = .ok (.aload_n 1, 1) := by decide +kernel
theorem d_W_law_1256 : decode (mMc M_W_law) 1256 = .ok (.aload_n 0, 1) := by decide +kernel
theorem d_W_law_1257 : decode (mMc M_W_law) 1257 = .ok (.iload 5, 2) := by decide +kernel
theorem d_W_law_1259 : decode (mMc M_W_law) 1259 = .ok (.iconst 1, 1) := by decide +kernel
theorem d_W_law_1260 : decode (mMc M_W_law) 1260 = .ok (.iadd, 1) := by decide +kernel
theorem d_W_law_1261 : decode (mMc M_W_law) 1261 = .ok (.iaload, 1) := by decide +kernel
theorem d_W_law_1262 : decode (mMc M_W_law) 1262 = .ok (.aload_n 3, 1) := by decide +kernel
theorem d_W_law_1263 : decode (mMc M_W_law) 1263 = .ok (.invokestatic 224, 3) := by decide +kernel
theorem d_W_law_1266 : decode (mMc M_W_law) 1266 = .ok (.istore 6, 2) := by decide +kernel
theorem d_W_law_1268 : decode (mMc M_W_law) 1268 = .ok (.aload_n 2, 1) := by decide +kernel
theorem d_W_law_1269 : decode (mMc M_W_law) 1269 = .ok (.aload_n 0, 1) := by decide +kernel
theorem d_W_law_1270 : decode (mMc M_W_law) 1270 = .ok (.iload 5, 2) := by decide +kernel
theorem d_W_law_1272 : decode (mMc M_W_law) 1272 = .ok (.iconst 1, 1) := by decide +kernel
theorem d_W_law_1273 : decode (mMc M_W_law) 1273 = .ok (.iadd, 1) := by decide +kernel
theorem d_W_law_1274 : decode (mMc M_W_law) 1274 = .ok (.iaload, 1) := by decide +kernel
theorem d_W_law_1275 : decode (mMc M_W_law) 1275 = .ok (.invokevirtual 226, 3) := by decide +kernel
theorem d_W_law_1278 : decode (mMc M_W_law) 1278 = .ok (.istore 7, 2) := by decide +kernel
theorem d_W_law_1280 : decode (mMc M_W_law) 1280 = .ok (.aload_n 2, 1) := by decide +kernel
theorem d_W_law_1281 : decode (mMc M_W_law) 1281 = .ok (.invokevirtual 161, 3) := by decide +kernel
theorem d_W_law_1284 : decode (mMc M_W_law) 1284 = .ok (.iload 6, 2) := by decide +kernel
theorem d_W_law_1286 : decode (mMc M_W_law) 1286 = .ok (.if_icmp .eq 5, 3) := by decide +kernel
theorem d_W_law_1289 : decode (mMc M_W_law) 1289 = .ok (.iconst 0, 1) := by decide +kernel
theorem d_W_law_1290 : decode (mMc M_W_law) 1290 = .ok (.ireturn, 1) := by decide +kernel
theorem d_W_law_1291 : decode (mMc M_W_law) 1291 = .ok (.iload 6, 2) := by decide +kernel
theorem d_W_law_1293 : decode (mMc M_W_law) 1293 = .ok (.ifCond .ne 15, 3) := by decide +kernel
theorem d_W_law_1296 : decode (mMc M_W_law) 1296 = .ok (.aload_n 3, 1) := by decide +kernel
theorem d_W_law_1297 : decode (mMc M_W_law) 1297 = .ok (.iconst 0, 1) := by decide +kernel
theorem d_W_law_1298 : decode (mMc M_W_law) 1298 = .ok (.laload, 1) := by decide +kernel
theorem d_W_law_1299 : decode (mMc M_W_law) 1299 = .ok (.iload 7, 2) := by decide +kernel
theorem d_W_law_1301 : decode (mMc M_W_law) 1301 = .ok (.i2l, 1) := by decide +kernel
theorem d_W_law_1302 : decode (mMc M_W_law) 1302 = .ok (.lcmp, 1) := by decide +kernel
theorem d_W_law_1303 : decode (mMc M_W_law) 1303 = .ok (.ifCond .eq 5, 3) := by decide +kernel
theorem d_W_law_1306 : decode (mMc M_W_law) 1306 = .ok (.iconst 0, 1) := by decide +kernel
theorem d_W_law_1307 : decode (mMc M_W_law) 1307 = .ok (.ireturn, 1) := by decide +kernel
theorem d_W_law_1308 : decode (mMc M_W_law) 1308 = .ok (.goto 1503, 3) := by decide +kernel
theorem d_W_law_1311 : decode (mMc M_W_law) 1311 = .ok (.aload_n 1, 1) := by decide +kernel
theorem d_W_law_1312 : decode (mMc M_W_law) 1312 = .ok (.aload_n 0, 1) := by decide +kernel
theorem d_W_law_1313 : decode (mMc M_W_law) 1313 = .ok (.iload 5, 2) := by decide +kernel
theorem d_W_law_1315 : decode (mMc M_W_law) 1315 = .ok (.iconst 1, 1) := by decide +kernel
theorem d_W_law_1316 : decode (mMc M_W_law) 1316 = .ok (.iadd, 1) := by decide +kernel
theorem d_W_law_1317 : decode (mMc M_W_law) 1317 = .ok (.iaload, 1) := by decide +kernel
theorem d_W_law_1318 : decode (mMc M_W_law) 1318 = .ok (.aload_n 3, 1) := by decide +kernel
theorem d_W_law_1319 : decode (mMc M_W_law) 1319 = .ok (.invokestatic 227, 3) := by decide +kernel
theorem d_W_law_1322 : decode (mMc M_W_law) 1322 = .ok (.istore 6, 2) := by decide +kernel
theorem d_W_law_1324 : decode (mMc M_W_law) 1324 = .ok (.aload_n 2, 1) := by decide +kernel
theorem d_W_law_1325 : decode (mMc M_W_law) 1325 = .ok (.aload_n 0, 1) := by decide +kernel
theorem d_W_law_1326 : decode (mMc M_W_law) 1326 = .ok (.iload 5, 2) := by decide +kernel
theorem d_W_law_1328 : decode (mMc M_W_law) 1328 = .ok (.iconst 1, 1) := by decide +kernel
theorem d_W_law_1329 : decode (mMc M_W_law) 1329 = .ok (.iadd, 1) := by decide +kernel
theorem d_W_law_1330 : decode (mMc M_W_law) 1330 = .ok (.iaload, 1) := by decide +kernel
theorem d_W_law_1331 : decode (mMc M_W_law) 1331 = .ok (.invokevirtual 229, 3) := by decide +kernel
theorem d_W_law_1334 : decode (mMc M_W_law) 1334 = .ok (.istore 7, 2) := by decide +kernel
theorem d_W_law_1336 : decode (mMc M_W_law) 1336 = .ok (.aload_n 2, 1) := by decide +kernel
theorem d_W_law_1337 : decode (mMc M_W_law) 1337 = .ok (.invokevirtual 161, 3) := by decide +kernel
theorem d_W_law_1340 : decode (mMc M_W_law) 1340 = .ok (.iload 6, 2) := by decide +kernel
theorem d_W_law_1342 : decode (mMc M_W_law) 1342 = .ok (.if_icmp .eq 5, 3) := by decide +kernel
theorem d_W_law_1345 : decode (mMc M_W_law) 1345 = .ok (.iconst 0, 1) := by decide +kernel
theorem d_W_law_1346 : decode (mMc M_W_law) 1346 = .ok (.ireturn, 1) := by decide +kernel
theorem d_W_law_1347 : decode (mMc M_W_law) 1347 = .ok (.iload 6, 2) := by decide +kernel
theorem d_W_law_1349 : decode (mMc M_W_law) 1349 = .ok (.ifCond .ne 15, 3) := by decide +kernel
theorem d_W_law_1352 : decode (mMc M_W_law) 1352 = .ok (.aload_n 3, 1) := by decide +kernel
theorem d_W_law_1353 : decode (mMc M_W_law) 1353 = .ok (.iconst 0, 1) := by decide +kernel
theorem d_W_law_1354 : decode (mMc M_W_law) 1354 = .ok (.laload, 1) := by decide +kernel
theorem d_W_law_1355 : decode (mMc M_W_law) 1355 = .ok (.iload 7, 2) := by decide +kernel
theorem d_W_law_1357 : decode (mMc M_W_law) 1357 = .ok (.i2l, 1) := by decide +kernel
theorem d_W_law_1358 : decode (mMc M_W_law) 1358 = .ok (.lcmp, 1) := by decide +kernel
theorem d_W_law_1359 : decode (mMc M_W_law) 1359 = .ok (.ifCond .eq 5, 3) := by decide +kernel
theorem d_W_law_1362 : decode (mMc M_W_law) 1362 = .ok (.iconst 0, 1) := by decide +kernel
theorem d_W_law_1363 : decode (mMc M_W_law) 1363 = .ok (.ireturn, 1) := by decide +kernel
theorem d_W_law_1364 : decode (mMc M_W_law) 1364 = .ok (.goto 1447, 3) := by decide +kernel
theorem d_W_law_1367 : decode (mMc M_W_law) 1367 = .ok (.aload_n 1, 1) := by decide +kernel
theorem d_W_law_1368 : decode (mMc M_W_law) 1368 = .ok (.aload_n 0, 1) := by decide +kernel
theorem d_W_law_1369 : decode (mMc M_W_law) 1369 = .ok (.iload 5, 2) := by decide +kernel
theorem d_W_law_1371 : decode (mMc M_W_law) 1371 = .ok (.iconst 1, 1) := by decide +kernel
theorem d_W_law_1372 : decode (mMc M_W_law) 1372 = .ok (.iadd, 1) := by decide +kernel
theorem d_W_law_1373 : decode (mMc M_W_law) 1373 = .ok (.iaload, 1) := by decide +kernel
theorem d_W_law_1374 : decode (mMc M_W_law) 1374 = .ok (.aload_n 3, 1) := by decide +kernel
theorem d_W_law_1375 : decode (mMc M_W_law) 1375 = .ok (.invokestatic 230, 3) := by decide +kernel
theorem d_W_law_1378 : decode (mMc M_W_law) 1378 = .ok (.istore 6, 2) := by decide +kernel
theorem d_W_law_1380 : decode (mMc M_W_law) 1380 = .ok (.aload_n 2, 1) := by decide +kernel
theorem d_W_law_1381 : decode (mMc M_W_law) 1381 = .ok (.aload_n 0, 1) := by decide +kernel
theorem d_W_law_1382 : decode (mMc M_W_law) 1382 = .ok (.iload 5, 2) := by decide +kernel
theorem d_W_law_1384 : decode (mMc M_W_law) 1384 = .ok (.iconst 1, 1) := by decide +kernel
theorem d_W_law_1385 : decode (mMc M_W_law) 1385 = .ok (.iadd, 1) := by decide +kernel
theorem d_W_law_1386 : decode (mMc M_W_law) 1386 = .ok (.iaload, 1) := by decide +kernel
theorem d_W_law_1387 : decode (mMc M_W_law) 1387 = .ok (.invokevirtual 232, 3) := by decide +kernel
theorem d_W_law_1390 : decode (mMc M_W_law) 1390 = .ok (.istore 7, 2) := by decide +kernel
theorem d_W_law_1392 : decode (mMc M_W_law) 1392 = .ok (.aload_n 2, 1) := by decide +kernel
theorem d_W_law_1393 : decode (mMc M_W_law) 1393 = .ok (.invokevirtual 161, 3) := by decide +kernel
theorem d_W_law_1396 : decode (mMc M_W_law) 1396 = .ok (.iload 6, 2) := by decide +kernel
theorem d_W_law_1398 : decode (mMc M_W_law) 1398 = .ok (.if_icmp .eq 5, 3) := by decide +kernel
theorem d_W_law_1401 : decode (mMc M_W_law) 1401 = .ok (.iconst 0, 1) := by decide +kernel
theorem d_W_law_1402 : decode (mMc M_W_law) 1402 = .ok (.ireturn, 1) := by decide +kernel
theorem d_W_law_1403 : decode (mMc M_W_law) 1403 = .ok (.iload 6, 2) := by decide +kernel
theorem d_W_law_1405 : decode (mMc M_W_law) 1405 = .ok (.ifCond .ne 15, 3) := by decide +kernel
theorem d_W_law_1408 : decode (mMc M_W_law) 1408 = .ok (.aload_n 3, 1) := by decide +kernel
theorem d_W_law_1409 : decode (mMc M_W_law) 1409 = .ok (.iconst 0, 1) := by decide +kernel
theorem d_W_law_1410 : decode (mMc M_W_law) 1410 = .ok (.laload, 1) := by decide +kernel
theorem d_W_law_1411 : decode (mMc M_W_law) 1411 = .ok (.iload 7, 2) := by decide +kernel
theorem d_W_law_1413 : decode (mMc M_W_law) 1413 = .ok (.i2l, 1) := by decide +kernel
theorem d_W_law_1414 : decode (mMc M_W_law) 1414 = .ok (.lcmp, 1) := by decide +kernel
theorem d_W_law_1415 : decode (mMc M_W_law) 1415 = .ok (.ifCond .eq 5, 3) := by decide +kernel
theorem d_W_law_1418 : decode (mMc M_W_law) 1418 = .ok (.iconst 0, 1) := by decide +kernel
theorem d_W_law_1419 : decode (mMc M_W_law) 1419 = .ok (.ireturn, 1) := by decide +kernel
theorem d_W_law_1420 : decode (mMc M_W_law) 1420 = .ok (.goto 1391, 3) := by decide +kernel
theorem d_W_law_1423 : decode (mMc M_W_law) 1423 = .ok (.aload_n 1, 1) := by decide +kernel
theorem d_W_law_1424 : decode (mMc M_W_law) 1424 = .ok (.invokevirtual 233, 3) := by decide +kernel
theorem d_W_law_1427 : decode (mMc M_W_law) 1427 = .ok (.aload_n 2, 1) := by decide +kernel
theorem d_W_law_1428 : decode (mMc M_W_law) 1428 = .ok (.invokevirtual 236, 3) := by decide +kernel
theorem d_W_law_1431 : decode (mMc M_W_law) 1431 = .ok (.if_icmp .eq 1380, 3) := by decide +kernel
theorem d_W_law_1434 : decode (mMc M_W_law) 1434 = .ok (.iconst 0, 1) := by decide +kernel
theorem d_W_law_1435 : decode (mMc M_W_law) 1435 = .ok (.ireturn, 1) := by decide +kernel
theorem d_W_law_1436 : decode (mMc M_W_law) 1436 = .ok (.aload_n 1, 1) := by decide +kernel
theorem d_W_law_1437 : decode (mMc M_W_law) 1437 = .ok (.aload_n 0, 1) := by decide +kernel
theorem d_W_law_1438 : decode (mMc M_W_law) 1438 = .ok (.iload 5, 2) := by decide +kernel
theorem d_W_law_1440 : decode (mMc M_W_law) 1440 = .ok (.iconst 1, 1) := by decide +kernel
theorem d_W_law_1441 : decode (mMc M_W_law) 1441 = .ok (.iadd, 1) := by decide +kernel
theorem d_W_law_1442 : decode (mMc M_W_law) 1442 = .ok (.iaload, 1) := by decide +kernel
theorem d_W_law_1443 : decode (mMc M_W_law) 1443 = .ok (.aload_n 3, 1) := by decide +kernel
theorem d_W_law_1444 : decode (mMc M_W_law) 1444 = .ok (.invokestatic 237, 3) := by decide +kernel
theorem d_W_law_1447 : decode (mMc M_W_law) 1447 = .ok (.istore 6, 2) := by decide +kernel
theorem d_W_law_1449 : decode (mMc M_W_law) 1449 = .ok (.aload_n 2, 1) := by decide +kernel
theorem d_W_law_1450 : decode (mMc M_W_law) 1450 = .ok (.aload_n 0, 1) := by decide +kernel
theorem d_W_law_1451 : decode (mMc M_W_law) 1451 = .ok (.iload 5, 2) := by decide +kernel
theorem d_W_law_1453 : decode (mMc M_W_law) 1453 = .ok (.iconst 1, 1) := by decide +kernel
theorem d_W_law_1454 : decode (mMc M_W_law) 1454 = .ok (.iadd, 1) := by decide +kernel
theorem d_W_law_1455 : decode (mMc M_W_law) 1455 = .ok (.iaload, 1) := by decide +kernel
theorem d_W_law_1456 : decode (mMc M_W_law) 1456 = .ok (.invokevirtual 239, 3) := by decide +kernel
theorem d_W_law_1459 : decode (mMc M_W_law) 1459 = .ok (.istore 7, 2) := by decide +kernel
theorem d_W_law_1461 : decode (mMc M_W_law) 1461 = .ok (.aload_n 2, 1) := by decide +kernel
theorem d_W_law_1462 : decode (mMc M_W_law) 1462 = .ok (.invokevirtual 161, 3) := by decide +kernel
theorem d_W_law_1465 : decode (mMc M_W_law) 1465 = .ok (.iload 6, 2) := by decide +kernel
theorem d_W_law_1467 : decode (mMc M_W_law) 1467 = .ok (.if_icmp .eq 5, 3) := by decide +kernel
theorem d_W_law_1470 : decode (mMc M_W_law) 1470 = .ok (.iconst 0, 1) := by decide +kernel
theorem d_W_law_1471 : decode (mMc M_W_law) 1471 = .ok (.ireturn, 1) := by decide +kernel
theorem d_W_law_1472 : decode (mMc M_W_law) 1472 = .ok (.iload 6, 2) := by decide +kernel
theorem d_W_law_1474 : decode (mMc M_W_law) 1474 = .ok (.ifCond .ne 15, 3) := by decide +kernel
theorem d_W_law_1477 : decode (mMc M_W_law) 1477 = .ok (.aload_n 3, 1) := by decide +kernel
theorem d_W_law_1478 : decode (mMc M_W_law) 1478 = .ok (.iconst 0, 1) := by decide +kernel
theorem d_W_law_1479 : decode (mMc M_W_law) 1479 = .ok (.laload, 1) := by decide +kernel
theorem d_W_law_1480 : decode (mMc M_W_law) 1480 = .ok (.iload 7, 2) := by decide +kernel
theorem d_W_law_1482 : decode (mMc M_W_law) 1482 = .ok (.i2l, 1) := by decide +kernel
theorem d_W_law_1483 : decode (mMc M_W_law) 1483 = .ok (.lcmp, 1) := by decide +kernel
theorem d_W_law_1484 : decode (mMc M_W_law) 1484 = .ok (.ifCond .eq 5, 3) := by decide +kernel
theorem d_W_law_1487 : decode (mMc M_W_law) 1487 = .ok (.iconst 0, 1) := by decide +kernel
theorem d_W_law_1488 : decode (mMc M_W_law) 1488 = .ok (.ireturn, 1) := by decide +kernel
theorem d_W_law_1489 : decode (mMc M_W_law) 1489 = .ok (.goto 1322, 3) := by decide +kernel
theorem d_W_law_1492 : decode (mMc M_W_law) 1492 = .ok (.aload_n 1, 1) := by decide +kernel
theorem d_W_law_1493 : decode (mMc M_W_law) 1493 = .ok (.aload_n 0, 1) := by decide +kernel
theorem d_W_law_1494 : decode (mMc M_W_law) 1494 = .ok (.iload 5, 2) := by decide +kernel
theorem d_W_law_1496 : decode (mMc M_W_law) 1496 = .ok (.iconst 1, 1) := by decide +kernel
theorem d_W_law_1497 : decode (mMc M_W_law) 1497 = .ok (.iadd, 1) := by decide +kernel
theorem d_W_law_1498 : decode (mMc M_W_law) 1498 = .ok (.iaload, 1) := by decide +kernel
theorem d_W_law_1499 : decode (mMc M_W_law) 1499 = .ok (.aload_n 3, 1) := by decide +kernel
theorem d_W_law_1500 : decode (mMc M_W_law) 1500 = .ok (.invokestatic 240, 3) := by decide +kernel
theorem d_W_law_1503 : decode (mMc M_W_law) 1503 = .ok (.istore 6, 2) := by decide +kernel
theorem d_W_law_1505 : decode (mMc M_W_law) 1505 = .ok (.aload_n 2, 1) := by decide +kernel
theorem d_W_law_1506 : decode (mMc M_W_law) 1506 = .ok (.aload_n 0, 1) := by decide +kernel
theorem d_W_law_1507 : decode (mMc M_W_law) 1507 = .ok (.iload 5, 2) := by decide +kernel
theorem d_W_law_1509 : decode (mMc M_W_law) 1509 = .ok (.iconst 1, 1) := by decide +kernel
theorem d_W_law_1510 : decode (mMc M_W_law) 1510 = .ok (.iadd, 1) := by decide +kernel
theorem d_W_law_1511 : decode (mMc M_W_law) 1511 = .ok (.iaload, 1) := by decide +kernel
theorem d_W_law_1512 : decode (mMc M_W_law) 1512 = .ok (.invokevirtual 242, 3) := by decide +kernel
theorem d_W_law_1515 : decode (mMc M_W_law) 1515 = .ok (.istore 7, 2) := by decide +kernel
theorem d_W_law_1517 : decode (mMc M_W_law) 1517 = .ok (.aload_n 2, 1) := by decide +kernel
theorem d_W_law_1518 : decode (mMc M_W_law) 1518 = .ok (.invokevirtual 161, 3) := by decide +kernel
theorem d_W_law_1521 : decode (mMc M_W_law) 1521 = .ok (.iload 6, 2) := by decide +kernel
theorem d_W_law_1523 : decode (mMc M_W_law) 1523 = .ok (.if_icmp .eq 5, 3) := by decide +kernel
theorem d_W_law_1526 : decode (mMc M_W_law) 1526 = .ok (.iconst 0, 1) := by decide +kernel
theorem d_W_law_1527 : decode (mMc M_W_law) 1527 = .ok (.ireturn, 1) := by decide +kernel
theorem d_W_law_1528 : decode (mMc M_W_law) 1528 = .ok (.iload 6, 2) := by decide +kernel
theorem d_W_law_1530 : decode (mMc M_W_law) 1530 = .ok (.ifCond .ne 15, 3) := by decide +kernel
theorem d_W_law_1533 : decode (mMc M_W_law) 1533 = .ok (.aload_n 3, 1) := by decide +kernel
theorem d_W_law_1534 : decode (mMc M_W_law) 1534 = .ok (.iconst 0, 1) := by decide +kernel
theorem d_W_law_1535 : decode (mMc M_W_law) 1535 = .ok (.laload, 1) := by decide +kernel
theorem d_W_law_1536 : decode (mMc M_W_law) 1536 = .ok (.iload 7, 2) := by decide +kernel
theorem d_W_law_1538 : decode (mMc M_W_law) 1538 = .ok (.i2l, 1) := by decide +kernel
theorem d_W_law_1539 : decode (mMc M_W_law) 1539 = .ok (.lcmp, 1) := by decide +kernel
theorem d_W_law_1540 : decode (mMc M_W_law) 1540 = .ok (.ifCond .eq 5, 3) := by decide +kernel
theorem d_W_law_1543 : decode (mMc M_W_law) 1543 = .ok (.iconst 0, 1) := by decide +kernel
theorem d_W_law_1544 : decode (mMc M_W_law) 1544 = .ok (.ireturn, 1) := by decide +kernel
theorem d_W_law_1545 : decode (mMc M_W_law) 1545 = .ok (.goto 1266, 3) := by decide +kernel
theorem d_W_law_1548 : decode (mMc M_W_law) 1548 = .ok (.aload_n 1, 1) := by decide +kernel
theorem d_W_law_1549 : decode (mMc M_W_law) 1549 = .ok (.aload_n 0, 1) := by decide +kernel
theorem d_W_law_1550 : decode (mMc M_W_law) 1550 = .ok (.iload 5, 2) := by decide +kernel
theorem d_W_law_1552 : decode (mMc M_W_law) 1552 = .ok (.iconst 1, 1) := by decide +kernel
theorem d_W_law_1553 : decode (mMc M_W_law) 1553 = .ok (.iadd, 1) := by decide +kernel
theorem d_W_law_1554 : decode (mMc M_W_law) 1554 = .ok (.iaload, 1) := by decide +kernel
theorem d_W_law_1555 : decode (mMc M_W_law) 1555 = .ok (.aload_n 3, 1) := by decide +kernel
theorem d_W_law_1556 : decode (mMc M_W_law) 1556 = .ok (.invokestatic 243, 3) := by decide +kernel
theorem d_W_law_1559 : decode (mMc M_W_law) 1559 = .ok (.istore 6, 2) := by decide +kernel
theorem d_W_law_1561 : decode (mMc M_W_law) 1561 = .ok (.aload_n 2, 1) := by decide +kernel
theorem d_W_law_1562 : decode (mMc M_W_law) 1562 = .ok (.aload_n 0, 1) := by decide +kernel
theorem d_W_law_1563 : decode (mMc M_W_law) 1563 = .ok (.iload 5, 2) := by decide +kernel
theorem d_W_law_1565 : decode (mMc M_W_law) 1565 = .ok (.iconst 1, 1) := by decide +kernel
theorem d_W_law_1566 : decode (mMc M_W_law) 1566 = .ok (.iadd, 1) := by decide +kernel
theorem d_W_law_1567 : decode (mMc M_W_law) 1567 = .ok (.iaload, 1) := by decide +kernel
theorem d_W_law_1568 : decode (mMc M_W_law) 1568 = .ok (.invokevirtual 245, 3) := by decide +kernel
theorem d_W_law_1571 : decode (mMc M_W_law) 1571 = .ok (.istore 7, 2) := by decide +kernel
theorem d_W_law_1573 : decode (mMc M_W_law) 1573 = .ok (.aload_n 2, 1) := by decide +kernel
theorem d_W_law_1574 : decode (mMc M_W_law) 1574 = .ok (.invokevirtual 161, 3) := by decide +kernel
theorem d_W_law_1577 : decode (mMc M_W_law) 1577 = .ok (.iload 6, 2) := by decide +kernel
theorem d_W_law_1579 : decode (mMc M_W_law) 1579 = .ok (.if_icmp .eq 5, 3) := by decide +kernel
theorem d_W_law_1582 : decode (mMc M_W_law) 1582 = .ok (.iconst 0, 1) := by decide +kernel
theorem d_W_law_1583 : decode (mMc M_W_law) 1583 = .ok (.ireturn, 1) := by decide +kernel
theorem d_W_law_1584 : decode (mMc M_W_law) 1584 = .ok (.iload 6, 2) := by decide +kernel
theorem d_W_law_1586 : decode (mMc M_W_law) 1586 = .ok (.ifCond .ne 15, 3) := by decide +kernel
theorem d_W_law_1589 : decode (mMc M_W_law) 1589 = .ok (.aload_n 3, 1) := by decide +kernel
theorem d_W_law_1590 : decode (mMc M_W_law) 1590 = .ok (.iconst 0, 1) := by decide +kernel
theorem d_W_law_1591 : decode (mMc M_W_law) 1591 = .ok (.laload, 1) := by decide +kernel
theorem d_W_law_1592 : decode (mMc M_W_law) 1592 = .ok (.iload 7, 2) := by decide +kernel
theorem d_W_law_1594 : decode (mMc M_W_law) 1594 = .ok (.i2l, 1) := by decide +kernel
theorem d_W_law_1595 : decode (mMc M_W_law) 1595 = .ok (.lcmp, 1) := by decide +kernel
theorem d_W_law_1596 : decode (mMc M_W_law) 1596 = .ok (.ifCond .eq 5, 3) := by decide +kernel
theorem d_W_law_1599 : decode (mMc M_W_law) 1599 = .ok (.iconst 0, 1) := by decide +kernel
theorem d_W_law_1600 : decode (mMc M_W_law) 1600 = .ok (.ireturn, 1) := by decide +kernel
theorem d_W_law_1601 : decode (mMc M_W_law) 1601 = .ok (.goto 1210, 3) := by decide +kernel
theorem d_W_law_1604 : decode (mMc M_W_law) 1604 = .ok (.aload_n 1, 1) := by decide +kernel
theorem d_W_law_1605 : decode (mMc M_W_law) 1605 = .ok (.aload_n 0, 1) := by decide +kernel
theorem d_W_law_1606 : decode (mMc M_W_law) 1606 = .ok (.iload 5, 2) := by decide +kernel
theorem d_W_law_1608 : decode (mMc M_W_law) 1608 = .ok (.iconst 1, 1) := by decide +kernel
theorem d_W_law_1609 : decode (mMc M_W_law) 1609 = .ok (.iadd, 1) := by decide +kernel
theorem d_W_law_1610 : decode (mMc M_W_law) 1610 = .ok (.iaload, 1) := by decide +kernel
theorem d_W_law_1611 : decode (mMc M_W_law) 1611 = .ok (.aload_n 3, 1) := by decide +kernel
theorem d_W_law_1612 : decode (mMc M_W_law) 1612 = .ok (.invokestatic 246, 3) := by decide +kernel
theorem d_W_law_1615 : decode (mMc M_W_law) 1615 = .ok (.istore 6, 2) := by decide +kernel
theorem d_W_law_1617 : decode (mMc M_W_law) 1617 = .ok (.aload_n 2, 1) := by decide +kernel
theorem d_W_law_1618 : decode (mMc M_W_law) 1618 = .ok (.aload_n 0, 1) := by decide +kernel
theorem d_W_law_1619 : decode (mMc M_W_law) 1619 = .ok (.iload 5, 2) := by decide +kernel
theorem d_W_law_1621 : decode (mMc M_W_law) 1621 = .ok (.iconst 1, 1) := by decide +kernel
theorem d_W_law_1622 : decode (mMc M_W_law) 1622 = .ok (.iadd, 1) := by decide +kernel
theorem d_W_law_1623 : decode (mMc M_W_law) 1623 = .ok (.iaload, 1) := by decide +kernel
theorem d_W_law_1624 : decode (mMc M_W_law) 1624 = .ok (.invokevirtual 248, 3) := by decide +kernel
theorem d_W_law_1627 : decode (mMc M_W_law) 1627 = .ok (.istore 7, 2) := by decide +kernel
theorem d_W_law_1629 : decode (mMc M_W_law) 1629 = .ok (.aload_n 2, 1) := by decide +kernel
theorem d_W_law_1630 : decode (mMc M_W_law) 1630 = .ok (.invokevirtual 161, 3) := by decide +kernel
theorem d_W_law_1633 : decode (mMc M_W_law) 1633 = .ok (.iload 6, 2) := by decide +kernel
theorem d_W_law_1635 : decode (mMc M_W_law) 1635 = .ok (.if_icmp .eq 5, 3) := by decide +kernel
theorem d_W_law_1638 : decode (mMc M_W_law) 1638 = .ok (.iconst 0, 1) := by decide +kernel
theorem d_W_law_1639 : decode (mMc M_W_law) 1639 = .ok (.ireturn, 1) := by decide +kernel
theorem d_W_law_1640 : decode (mMc M_W_law) 1640 = .ok (.iload 6, 2) := by decide +kernel
theorem d_W_law_1642 : decode (mMc M_W_law) 1642 = .ok (.ifCond .ne 15, 3) := by decide +kernel
theorem d_W_law_1645 : decode (mMc M_W_law) 1645 = .ok (.aload_n 3, 1) := by decide +kernel
theorem d_W_law_1646 : decode (mMc M_W_law) 1646 = .ok (.iconst 0, 1) := by decide +kernel
theorem d_W_law_1647 : decode (mMc M_W_law) 1647 = .ok (.laload, 1) := by decide +kernel
theorem d_W_law_1648 : decode (mMc M_W_law) 1648 = .ok (.iload 7, 2) := by decide +kernel
theorem d_W_law_1650 : decode (mMc M_W_law) 1650 = .ok (.i2l, 1) := by decide +kernel
theorem d_W_law_1651 : decode (mMc M_W_law) 1651 = .ok (.lcmp, 1) := by decide +kernel
theorem d_W_law_1652 : decode (mMc M_W_law) 1652 = .ok (.ifCond .eq 5, 3) := by decide +kernel
theorem d_W_law_1655 : decode (mMc M_W_law) 1655 = .ok (.iconst 0, 1) := by decide +kernel
theorem d_W_law_1656 : decode (mMc M_W_law) 1656 = .ok (.ireturn, 1) := by decide +kernel
theorem d_W_law_1657 : decode (mMc M_W_law) 1657 = .ok (.goto 1154, 3) := by decide +kernel
theorem d_W_law_1660 : decode (mMc M_W_law) 1660 = .ok (.aload_n 1, 1) := by decide +kernel
theorem d_W_law_1661 : decode (mMc M_W_law) 1661 = .ok (.aload_n 0, 1) := by decide +kernel
theorem d_W_law_1662 : decode (mMc M_W_law) 1662 = .ok (.iload 5, 2) := by decide +kernel
theorem d_W_law_1664 : decode (mMc M_W_law) 1664 = .ok (.iconst 1, 1) := by decide +kernel
theorem d_W_law_1665 : decode (mMc M_W_law) 1665 = .ok (.iadd, 1) := by decide +kernel
theorem d_W_law_1666 : decode (mMc M_W_law) 1666 = .ok (.iaload, 1) := by decide +kernel
theorem d_W_law_1667 : decode (mMc M_W_law) 1667 = .ok (.aload_n 3, 1) := by decide +kernel
theorem d_W_law_1668 : decode (mMc M_W_law) 1668 = .ok (.invokestatic 249, 3) := by decide +kernel
theorem d_W_law_1671 : decode (mMc M_W_law) 1671 = .ok (.istore 6, 2) := by decide +kernel
theorem d_W_law_1673 : decode (mMc M_W_law) 1673 = .ok (.aload_n 2, 1) := by decide +kernel
theorem d_W_law_1674 : decode (mMc M_W_law) 1674 = .ok (.aload_n 0, 1) := by decide +kernel
theorem d_W_law_1675 : decode (mMc M_W_law) 1675 = .ok (.iload 5, 2) := by decide +kernel
theorem d_W_law_1677 : decode (mMc M_W_law) 1677 = .ok (.iconst 1, 1) := by decide +kernel
theorem d_W_law_1678 : decode (mMc M_W_law) 1678 = .ok (.iadd, 1) := by decide +kernel
theorem d_W_law_1679 : decode (mMc M_W_law) 1679 = .ok (.iaload, 1) := by decide +kernel
theorem d_W_law_1680 : decode (mMc M_W_law) 1680 = .ok (.invokevirtual 251, 3) := by decide +kernel
theorem d_W_law_1683 : decode (mMc M_W_law) 1683 = .ok (.istore 7, 2) := by decide +kernel
theorem d_W_law_1685 : decode (mMc M_W_law) 1685 = .ok (.aload_n 2, 1) := by decide +kernel
theorem d_W_law_1686 : decode (mMc M_W_law) 1686 = .ok (.invokevirtual 161, 3) := by decide +kernel
theorem d_W_law_1689 : decode (mMc M_W_law) 1689 = .ok (.iload 6, 2) := by decide +kernel
theorem d_W_law_1691 : decode (mMc M_W_law) 1691 = .ok (.if_icmp .eq 5, 3) := by decide +kernel
theorem d_W_law_1694 : decode (mMc M_W_law) 1694 = .ok (.iconst 0, 1) := by decide +kernel
theorem d_W_law_1695 : decode (mMc M_W_law) 1695 = .ok (.ireturn, 1) := by decide +kernel
theorem d_W_law_1696 : decode (mMc M_W_law) 1696 = .ok (.iload 6, 2) := by decide +kernel
theorem d_W_law_1698 : decode (mMc M_W_law) 1698 = .ok (.ifCond .ne 22, 3) := by decide +kernel
theorem d_W_law_1701 : decode (mMc M_W_law) 1701 = .ok (.aload_n 3, 1) := by decide +kernel
theorem d_W_law_1702 : decode (mMc M_W_law) 1702 = .ok (.iconst 0, 1) := by decide +kernel
theorem d_W_law_1703 : decode (mMc M_W_law) 1703 = .ok (.laload, 1) := by decide +kernel
theorem d_W_law_1704 : decode (mMc M_W_law) 1704 = .ok (.iload 7, 2) := by decide +kernel
theorem d_W_law_1706 : decode (mMc M_W_law) 1706 = .ok (.ifCond .eq 7, 3) := by decide +kernel
theorem d_W_law_1709 : decode (mMc M_W_law) 1709 = .ok (.lconst 1, 1) := by decide +kernel
theorem d_W_law_1710 : decode (mMc M_W_law) 1710 = .ok (.goto 4, 3) := by decide +kernel
theorem d_W_law_1713 : decode (mMc M_W_law) 1713 = .ok (.lconst 0, 1) := by decide +kernel
theorem d_W_law_1714 : decode (mMc M_W_law) 1714 = .ok (.lcmp, 1) := by decide +kernel
theorem d_W_law_1715 : decode (mMc M_W_law) 1715 = .ok (.ifCond .eq 5, 3) := by decide +kernel
theorem d_W_law_1718 : decode (mMc M_W_law) 1718 = .ok (.iconst 0, 1) := by decide +kernel
theorem d_W_law_1719 : decode (mMc M_W_law) 1719 = .ok (.ireturn, 1) := by decide +kernel
theorem d_W_law_1720 : decode (mMc M_W_law) 1720 = .ok (.goto 1091, 3) := by decide +kernel
theorem d_W_law_1723 : decode (mMc M_W_law) 1723 = .ok (.aload_n 1, 1) := by decide +kernel
theorem d_W_law_1724 : decode (mMc M_W_law) 1724 = .ok (.aload_n 0, 1) := by decide +kernel
theorem d_W_law_1725 : decode (mMc M_W_law) 1725 = .ok (.iload 5, 2) := by decide +kernel
theorem d_W_law_1727 : decode (mMc M_W_law) 1727 = .ok (.iconst 1, 1) := by decide +kernel
theorem d_W_law_1728 : decode (mMc M_W_law) 1728 = .ok (.iadd, 1) := by decide +kernel
theorem d_W_law_1729 : decode (mMc M_W_law) 1729 = .ok (.iaload, 1) := by decide +kernel
theorem d_W_law_1730 : decode (mMc M_W_law) 1730 = .ok (.aload_n 3, 1) := by decide +kernel
theorem d_W_law_1731 : decode (mMc M_W_law) 1731 = .ok (.invokestatic 252, 3) := by decide +kernel
theorem d_W_law_1734 : decode (mMc M_W_law) 1734 = .ok (.istore 6, 2) := by decide +kernel
theorem d_W_law_1736 : decode (mMc M_W_law) 1736 = .ok (.aload_n 2, 1) := by decide +kernel
theorem d_W_law_1737 : decode (mMc M_W_law) 1737 = .ok (.aload_n 0, 1) := by decide +kernel
theorem d_W_law_1738 : decode (mMc M_W_law) 1738 = .ok (.iload 5, 2) := by decide +kernel
theorem d_W_law_1740 : decode (mMc M_W_law) 1740 = .ok (.iconst 1, 1) := by decide +kernel
theorem d_W_law_1741 : decode (mMc M_W_law) 1741 = .ok (.iadd, 1) := by decide +kernel
theorem d_W_law_1742 : decode (mMc M_W_law) 1742 = .ok (.iaload, 1) := by decide +kernel
theorem d_W_law_1743 : decode (mMc M_W_law) 1743 = .ok (.invokevirtual 254, 3) := by decide +kernel
theorem d_W_law_1746 : decode (mMc M_W_law) 1746 = .ok (.istore 7, 2) := by decide +kernel
theorem d_W_law_1748 : decode (mMc M_W_law) 1748 = .ok (.aload_n 2, 1) := by decide +kernel
theorem d_W_law_1749 : decode (mMc M_W_law) 1749 = .ok (.invokevirtual 161, 3) := by decide +kernel
theorem d_W_law_1752 : decode (mMc M_W_law) 1752 = .ok (.iload 6, 2) := by decide +kernel
theorem d_W_law_1754 : decode (mMc M_W_law) 1754 = .ok (.if_icmp .eq 5, 3) := by decide +kernel
theorem d_W_law_1757 : decode (mMc M_W_law) 1757 = .ok (.iconst 0, 1) := by decide +kernel
theorem d_W_law_1758 : decode (mMc M_W_law) 1758 = .ok (.ireturn, 1) := by decide +kernel
theorem d_W_law_1759 : decode (mMc M_W_law) 1759 = .ok (.iload 6, 2) := by decide +kernel
theorem d_W_law_1761 : decode (mMc M_W_law) 1761 = .ok (.ifCond .ne 15, 3) := by decide +kernel
theorem d_W_law_1764 : decode (mMc M_W_law) 1764 = .ok (.aload_n 3, 1) := by decide +kernel
theorem d_W_law_1765 : decode (mMc M_W_law) 1765 = .ok (.iconst 0, 1) := by decide +kernel
theorem d_W_law_1766 : decode (mMc M_W_law) 1766 = .ok (.laload, 1) := by decide +kernel
theorem d_W_law_1767 : decode (mMc M_W_law) 1767 = .ok (.iload 7, 2) := by decide +kernel
theorem d_W_law_1769 : decode (mMc M_W_law) 1769 = .ok (.i2l, 1) := by decide +kernel
theorem d_W_law_1770 : decode (mMc M_W_law) 1770 = .ok (.lcmp, 1) := by decide +kernel
theorem d_W_law_1771 : decode (mMc M_W_law) 1771 = .ok (.ifCond .eq 5, 3) := by decide +kernel
theorem d_W_law_1774 : decode (mMc M_W_law) 1774 = .ok (.iconst 0, 1) := by decide +kernel
theorem d_W_law_1775 : decode (mMc M_W_law) 1775 = .ok (.ireturn, 1) := by decide +kernel
theorem d_W_law_1776 : decode (mMc M_W_law) 1776 = .ok (.goto 1035, 3) := by decide +kernel
theorem d_W_law_1779 : decode (mMc M_W_law) 1779 = .ok (.aload_n 1, 1) := by decide +kernel
theorem d_W_law_1780 : decode (mMc M_W_law) 1780 = .ok (.aload_n 0, 1) := by decide +kernel
theorem d_W_law_1781 : decode (mMc M_W_law) 1781 = .ok (.iload 5, 2) := by decide +kernel
theorem d_W_law_1783 : decode (mMc M_W_law) 1783 = .ok (.iconst 1, 1) := by decide +kernel
theorem d_W_law_1784 : decode (mMc M_W_law) 1784 = .ok (.iadd, 1) := by decide +kernel
theorem d_W_law_1785 : decode (mMc M_W_law) 1785 = .ok (.iaload, 1) := by decide +kernel
theorem d_W_law_1786 : decode (mMc M_W_law) 1786 = .ok (.aload_n 3, 1) := by decide +kernel
theorem d_W_law_1787 : decode (mMc M_W_law) 1787 = .ok (.invokestatic 255, 3) := by decide +kernel
theorem d_W_law_1790 : decode (mMc M_W_law) 1790 = .ok (.istore 6, 2) := by decide +kernel
theorem d_W_law_1792 : decode (mMc M_W_law) 1792 = .ok (.aload_n 2, 1) := by decide +kernel
theorem d_W_law_1793 : decode (mMc M_W_law) 1793 = .ok (.aload_n 0, 1) := by decide +kernel
theorem d_W_law_1794 : decode (mMc M_W_law) 1794 = .ok (.iload 5, 2) := by decide +kernel
theorem d_W_law_1796 : decode (mMc M_W_law) 1796 = .ok (.iconst 1, 1) := by decide +kernel
theorem d_W_law_1797 : decode (mMc M_W_law) 1797 = .ok (.iadd, 1) := by decide +kernel
theorem d_W_law_1798 : decode (mMc M_W_law) 1798 = .ok (.iaload, 1) := by decide +kernel
theorem d_W_law_1799 : decode (mMc M_W_law) 1799 = .ok (.invokevirtual 257, 3) := by decide +kernel
theorem d_W_law_1802 : decode (mMc M_W_law) 1802 = .ok (.istore 7, 2) := by decide +kernel
theorem d_W_law_1804 : decode (mMc M_W_law) 1804 = .ok (.aload_n 2, 1) := by decide +kernel
theorem d_W_law_1805 : decode (mMc M_W_law) 1805 = .ok (.invokevirtual 161, 3) := by decide +kernel
theorem d_W_law_1808 : decode (mMc M_W_law) 1808 = .ok (.iload 6, 2) := by decide +kernel
theorem d_W_law_1810 : decode (mMc M_W_law) 1810 = .ok (.if_icmp .eq 5, 3) := by decide +kernel
theorem d_W_law_1813 : decode (mMc M_W_law) 1813 = .ok (.iconst 0, 1) := by decide +kernel
theorem d_W_law_1814 : decode (mMc M_W_law) 1814 = .ok (.ireturn, 1) := by decide +kernel
theorem d_W_law_1815 : decode (mMc M_W_law) 1815 = .ok (.iload 6, 2) := by decide +kernel
theorem d_W_law_1817 : decode (mMc M_W_law) 1817 = .ok (.ifCond .ne 15, 3) := by decide +kernel
theorem d_W_law_1820 : decode (mMc M_W_law) 1820 = .ok (.aload_n 3, 1) := by decide +kernel
theorem d_W_law_1821 : decode (mMc M_W_law) 1821 = .ok (.iconst 0, 1) := by decide +kernel
theorem d_W_law_1822 : decode (mMc M_W_law) 1822 = .ok (.laload, 1) := by decide +kernel
theorem d_W_law_1823 : decode (mMc M_W_law) 1823 = .ok (.iload 7, 2) := by decide +kernel
theorem d_W_law_1825 : decode (mMc M_W_law) 1825 = .ok (.i2l, 1) := by decide +kernel
theorem d_W_law_1826 : decode (mMc M_W_law) 1826 = .ok (.lcmp, 1) := by decide +kernel
theorem d_W_law_1827 : decode (mMc M_W_law) 1827 = .ok (.ifCond .eq 5, 3) := by decide +kernel
theorem d_W_law_1830 : decode (mMc M_W_law) 1830 = .ok (.iconst 0, 1) := by decide +kernel
theorem d_W_law_1831 : decode (mMc M_W_law) 1831 = .ok (.ireturn, 1) := by decide +kernel
theorem d_W_law_1832 : decode (mMc M_W_law) 1832 = .ok (.goto 979, 3) := by decide +kernel
theorem d_W_law_1835 : decode (mMc M_W_law) 1835 = .ok (.aload_n 1, 1) := by decide +kernel
theorem d_W_law_1836 : decode (mMc M_W_law) 1836 = .ok (.aload_n 0, 1) := by decide +kernel
theorem d_W_law_1837 : decode (mMc M_W_law) 1837 = .ok (.iload 5, 2) := by decide +kernel
theorem d_W_law_1839 : decode (mMc M_W_law) 1839 = .ok (.iconst 1, 1) := by decide +kernel
theorem d_W_law_1840 : decode (mMc M_W_law) 1840 = .ok (.iadd, 1) := by decide +kernel
theorem d_W_law_1841 : decode (mMc M_W_law) 1841 = .ok (.iaload, 1) := by decide +kernel
theorem d_W_law_1842 : decode (mMc M_W_law) 1842 = .ok (.aload_n 3, 1) := by decide +kernel
theorem d_W_law_1843 : decode (mMc M_W_law) 1843 = .ok (.invokestatic 258, 3) := by decide +kernel
theorem d_W_law_1846 : decode (mMc M_W_law) 1846 = .ok (.istore 6, 2) := by decide +kernel
theorem d_W_law_1848 : decode (mMc M_W_law) 1848 = .ok (.aload_n 2, 1) := by decide +kernel
theorem d_W_law_1849 : decode (mMc M_W_law) 1849 = .ok (.aload_n 0, 1) := by decide +kernel
theorem d_W_law_1850 : decode (mMc M_W_law) 1850 = .ok (.iload 5, 2) := by decide +kernel
theorem d_W_law_1852 : decode (mMc M_W_law) 1852 = .ok (.iconst 1, 1) := by decide +kernel
theorem d_W_law_1853 : decode (mMc M_W_law) 1853 = .ok (.iadd, 1) := by decide +kernel
theorem d_W_law_1854 : decode (mMc M_W_law) 1854 = .ok (.iaload, 1) := by decide +kernel
theorem d_W_law_1855 : decode (mMc M_W_law) 1855 = .ok (.invokevirtual 260, 3) := by decide +kernel
theorem d_W_law_1858 : decode (mMc M_W_law) 1858 = .ok (.istore 7, 2) := by decide +kernel
theorem d_W_law_1860 : decode (mMc M_W_law) 1860 = .ok (.aload_n 2, 1) := by decide +kernel
theorem d_W_law_1861 : decode (mMc M_W_law) 1861 = .ok (.invokevirtual 161, 3) := by decide +kernel
theorem d_W_law_1864 : decode (mMc M_W_law) 1864 = .ok (.iload 6, 2) := by decide +kernel
theorem d_W_law_1866 : decode (mMc M_W_law) 1866 = .ok (.if_icmp .eq 5, 3) := by decide +kernel
theorem d_W_law_1869 : decode (mMc M_W_law) 1869 = .ok (.iconst 0, 1) := by decide +kernel
theorem d_W_law_1870 : decode (mMc M_W_law) 1870 = .ok (.ireturn, 1) := by decide +kernel
theorem d_W_law_1871 : decode (mMc M_W_law) 1871 = .ok (.iload 6, 2) := by decide +kernel
theorem d_W_law_1873 : decode (mMc M_W_law) 1873 = .ok (.ifCond .ne 15, 3) := by decide +kernel
theorem d_W_law_1876 : decode (mMc M_W_law) 1876 = .ok (.aload_n 3, 1) := by decide +kernel
theorem d_W_law_1877 : decode (mMc M_W_law) 1877 = .ok (.iconst 0, 1) := by decide +kernel
theorem d_W_law_1878 : decode (mMc M_W_law) 1878 = .ok (.laload, 1) := by decide +kernel
theorem d_W_law_1879 : decode (mMc M_W_law) 1879 = .ok (.iload 7, 2) := by decide +kernel
theorem d_W_law_1881 : decode (mMc M_W_law) 1881 = .ok (.i2l, 1) := by decide +kernel
theorem d_W_law_1882 : decode (mMc M_W_law) 1882 = .ok (.lcmp, 1) := by decide +kernel
theorem d_W_law_1883 : decode (mMc M_W_law) 1883 = .ok (.ifCond .eq 5, 3) := by decide +kernel
theorem d_W_law_1886 : decode (mMc M_W_law) 1886 = .ok (.iconst 0, 1) := by decide +kernel
theorem d_W_law_1887 : decode (mMc M_W_law) 1887 = .ok (.ireturn, 1) := by decide +kernel
theorem d_W_law_1888 : decode (mMc M_W_law) 1888 = .ok (.goto 923, 3) := by decide +kernel
theorem d_W_law_1891 : decode (mMc M_W_law) 1891 = .ok (.aload_n 1, 1) := by decide +kernel
theorem d_W_law_1892 : decode (mMc M_W_law) 1892 = .ok (.aload_n 0, 1) := by decide +kernel
theorem d_W_law_1893 : decode (mMc M_W_law) 1893 = .ok (.iload 5, 2) := by decide +kernel
theorem d_W_law_1895 : decode (mMc M_W_law) 1895 = .ok (.iconst 1, 1) := by decide +kernel
theorem d_W_law_1896 : decode (mMc M_W_law) 1896 = .ok (.iadd, 1) := by decide +kernel
theorem d_W_law_1897 : decode (mMc M_W_law) 1897 = .ok (.iaload, 1) := by decide +kernel
theorem d_W_law_1898 : decode (mMc M_W_law) 1898 = .ok (.aload_n 3, 1) := by decide +kernel
theorem d_W_law_1899 : decode (mMc M_W_law) 1899 = .ok (.invokestatic 261, 3) := by decide +kernel
theorem d_W_law_1902 : decode (mMc M_W_law) 1902 = .ok (.istore 6, 2) := by decide +kernel
theorem d_W_law_1904 : decode (mMc M_W_law) 1904 = .ok (.aload_n 2, 1) := by decide +kernel
theorem d_W_law_1905 : decode (mMc M_W_law) 1905 = .ok (.aload_n 0, 1) := by decide +kernel
theorem d_W_law_1906 : decode (mMc M_W_law) 1906 = .ok (.iload 5, 2) := by decide +kernel
theorem d_W_law_1908 : decode (mMc M_W_law) 1908 = .ok (.iconst 1, 1) := by decide +kernel
theorem d_W_law_1909 : decode (mMc M_W_law) 1909 = .ok (.iadd, 1) := by decide +kernel
theorem d_W_law_1910 : decode (mMc M_W_law) 1910 = .ok (.iaload, 1) := by decide +kernel
theorem d_W_law_1911 : decode (mMc M_W_law) 1911 = .ok (.invokevirtual 263, 3) := by decide +kernel
theorem d_W_law_1914 : decode (mMc M_W_law) 1914 = .ok (.istore 7, 2) := by decide +kernel
theorem d_W_law_1916 : decode (mMc M_W_law) 1916 = .ok (.aload_n 2, 1) := by decide +kernel
theorem d_W_law_1917 : decode (mMc M_W_law) 1917 = .ok (.invokevirtual 161, 3) := by decide +kernel
theorem d_W_law_1920 : decode (mMc M_W_law) 1920 = .ok (.iload 6, 2) := by decide +kernel
theorem d_W_law_1922 : decode (mMc M_W_law) 1922 = .ok (.if_icmp .eq 5, 3) := by decide +kernel
theorem d_W_law_1925 : decode (mMc M_W_law) 1925 = .ok (.iconst 0, 1) := by decide +kernel
theorem d_W_law_1926 : decode (mMc M_W_law) 1926 = .ok (.ireturn, 1) := by decide +kernel
theorem d_W_law_1927 : decode (mMc M_W_law) 1927 = .ok (.iload 6, 2) := by decide +kernel
theorem d_W_law_1929 : decode (mMc M_W_law) 1929 = .ok (.ifCond .ne 15, 3) := by decide +kernel
theorem d_W_law_1932 : decode (mMc M_W_law) 1932 = .ok (.aload_n 3, 1) := by decide +kernel
theorem d_W_law_1933 : decode (mMc M_W_law) 1933 = .ok (.iconst 0, 1) := by decide +kernel
theorem d_W_law_1934 : decode (mMc M_W_law) 1934 = .ok (.laload, 1) := by decide +kernel
theorem d_W_law_1935 : decode (mMc M_W_law) 1935 = .ok (.iload 7, 2) := by decide +kernel
theorem d_W_law_1937 : decode (mMc M_W_law) 1937 = .ok (.i2l, 1) := by decide +kernel
theorem d_W_law_1938 : decode (mMc M_W_law) 1938 = .ok (.lcmp, 1) := by decide +kernel
theorem d_W_law_1939 : decode (mMc M_W_law) 1939 = .ok (.ifCond .eq 5, 3) := by decide +kernel
theorem d_W_law_1942 : decode (mMc M_W_law) 1942 = .ok (.iconst 0, 1) := by decide +kernel
theorem d_W_law_1943 : decode (mMc M_W_law) 1943 = .ok (.ireturn, 1) := by decide +kernel
theorem d_W_law_1944 : decode (mMc M_W_law) 1944 = .ok (.goto 867, 3) := by decide +kernel
theorem d_W_law_1947 : decode (mMc M_W_law) 1947 = .ok (.aload_n 1, 1) := by decide +kernel
theorem d_W_law_1948 : decode (mMc M_W_law) 1948 = .ok (.aload_n 0, 1) := by decide +kernel
theorem d_W_law_1949 : decode (mMc M_W_law) 1949 = .ok (.iload 5, 2) := by decide +kernel
theorem d_W_law_1951 : decode (mMc M_W_law) 1951 = .ok (.iconst 1, 1) := by decide +kernel
theorem d_W_law_1952 : decode (mMc M_W_law) 1952 = .ok (.iadd, 1) := by decide +kernel
theorem d_W_law_1953 : decode (mMc M_W_law) 1953 = .ok (.iaload, 1) := by decide +kernel
theorem d_W_law_1954 : decode (mMc M_W_law) 1954 = .ok (.aload_n 3, 1) := by decide +kernel
theorem d_W_law_1955 : decode (mMc M_W_law) 1955 = .ok (.invokestatic 264, 3) := by decide +kernel
theorem d_W_law_1958 : decode (mMc M_W_law) 1958 = .ok (.istore 6, 2) := by decide +kernel
theorem d_W_law_1960 : decode (mMc M_W_law) 1960 = .ok (.aload_n 2, 1) := by decide +kernel
theorem d_W_law_1961 : decode (mMc M_W_law) 1961 = .ok (.aload_n 0, 1) := by decide +kernel
theorem d_W_law_1962 : decode (mMc M_W_law) 1962 = .ok (.iload 5, 2) := by decide +kernel
theorem d_W_law_1964 : decode (mMc M_W_law) 1964 = .ok (.iconst 1, 1) := by decide +kernel
theorem d_W_law_1965 : decode (mMc M_W_law) 1965 = .ok (.iadd, 1) := by decide +kernel
theorem d_W_law_1966 : decode (mMc M_W_law) 1966 = .ok (.iaload, 1) := by decide +kernel
theorem d_W_law_1967 : decode (mMc M_W_law) 1967 = .ok (.invokevirtual 266, 3) := by decide +kernel
theorem d_W_law_1970 : decode (mMc M_W_law) 1970 = .ok (.istore 7, 2) := by decide +kernel
theorem d_W_law_1972 : decode (mMc M_W_law) 1972 = .ok (.aload_n 2, 1) := by decide +kernel
theorem d_W_law_1973 : decode (mMc M_W_law) 1973 = .ok (.invokevirtual 161, 3) := by decide +kernel
theorem d_W_law_1976 : decode (mMc M_W_law) 1976 = .ok (.iload 6, 2) := by decide +kernel
theorem d_W_law_1978 : decode (mMc M_W_law) 1978 = .ok (.if_icmp .eq 5, 3) := by decide +kernel
theorem d_W_law_1981 : decode (mMc M_W_law) 1981 = .ok (.iconst 0, 1) := by decide +kernel
theorem d_W_law_1982 : decode (mMc M_W_law) 1982 = .ok (.ireturn, 1) := by decide +kernel
theorem d_W_law_1983 : decode (mMc M_W_law) 1983 = .ok (.iload 6, 2) := by decide +kernel
theorem d_W_law_1985 : decode (mMc M_W_law) 1985 = .ok (.ifCond .ne 15, 3) := by decide +kernel
theorem d_W_law_1988 : decode (mMc M_W_law) 1988 = .ok (.aload_n 3, 1) := by decide +kernel
theorem d_W_law_1989 : decode (mMc M_W_law) 1989 = .ok (.iconst 0, 1) := by decide +kernel
theorem d_W_law_1990 : decode (mMc M_W_law) 1990 = .ok (.laload, 1) := by decide +kernel
theorem d_W_law_1991 : decode (mMc M_W_law) 1991 = .ok (.iload 7, 2) := by decide +kernel
theorem d_W_law_1993 : decode (mMc M_W_law) 1993 = .ok (.i2l, 1) := by decide +kernel
theorem d_W_law_1994 : decode (mMc M_W_law) 1994 = .ok (.lcmp, 1) := by decide +kernel
theorem d_W_law_1995 : decode (mMc M_W_law) 1995 = .ok (.ifCond .eq 5, 3) := by decide +kernel
theorem d_W_law_1998 : decode (mMc M_W_law) 1998 = .ok (.iconst 0, 1) := by decide +kernel
theorem d_W_law_1999 : decode (mMc M_W_law) 1999 = .ok (.ireturn, 1) := by decide +kernel
theorem d_W_law_2000 : decode (mMc M_W_law) 2000 = .ok (.goto 811, 3) := by decide +kernel
theorem d_W_law_2003 : decode (mMc M_W_law) 2003 = .ok (.aload_n 1, 1) := by decide +kernel
theorem d_W_law_2004 : decode (mMc M_W_law) 2004 = .ok (.invokevirtual 267, 3) := by decide +kernel
theorem d_W_law_2007 : decode (mMc M_W_law) 2007 = .ok (.aload_n 2, 1) := by decide +kernel
theorem d_W_law_2008 : decode (mMc M_W_law) 2008 = .ok (.invokevirtual 270, 3) := by decide +kernel
theorem d_W_law_2011 : decode (mMc M_W_law) 2011 = .ok (.if_icmp .eq 800, 3) := by decide +kernel
theorem d_W_law_2014 : decode (mMc M_W_law) 2014 = .ok (.iconst 0, 1) := by decide +kernel
theorem d_W_law_2015 : decode (mMc M_W_law) 2015 = .ok (.ireturn, 1) := by decide +kernel
theorem d_W_law_2016 : decode (mMc M_W_law) 2016 = .ok (.aload_n 1, 1) := by decide +kernel
theorem d_W_law_2017 : decode (mMc M_W_law) 2017 = .ok (.invokevirtual 271, 3) := by decide +kernel
theorem d_W_law_2020 : decode (mMc M_W_law) 2020 = .ok (.aload_n 2, 1) := by decide +kernel
theorem d_W_law_2021 : decode (mMc M_W_law) 2021 = .ok (.invokevirtual 274, 3) := by decide +kernel
theorem d_W_law_2024 : decode (mMc M_W_law) 2024 = .ok (.if_icmp .eq 787, 3) := by decide +kernel
theorem d_W_law_2027 : decode (mMc M_W_law) 2027 = .ok (.iconst 0, 1) := by decide +kernel
theorem d_W_law_2028 : decode (mMc M_W_law) 2028 = .ok (.ireturn, 1) := by decide +kernel
theorem d_W_law_2029 : decode (mMc M_W_law) 2029 = .ok (.aload_n 1, 1) := by decide +kernel
theorem d_W_law_2030 : decode (mMc M_W_law) 2030 = .ok (.invokevirtual 275, 3) := by decide +kernel
theorem d_W_law_2033 : decode (mMc M_W_law) 2033 = .ok (.aload_n 2, 1) := by decide +kernel
theorem d_W_law_2034 : decode (mMc M_W_law) 2034 = .ok (.invokevirtual 278, 3) := by decide +kernel
theorem d_W_law_2037 : decode (mMc M_W_law) 2037 = .ok (.if_icmp .eq 774, 3) := by decide +kernel
theorem d_W_law_2040 : decode (mMc M_W_law) 2040 = .ok (.iconst 0, 1) := by decide +kernel
theorem d_W_law_2041 : decode (mMc M_W_law) 2041 = .ok (.ireturn, 1) := by decide +kernel
theorem d_W_law_2042 : decode (mMc M_W_law) 2042 = .ok (.aload_n 1, 1) := by decide +kernel
theorem d_W_law_2043 : decode (mMc M_W_law) 2043 = .ok (.invokevirtual 279, 3) := by decide +kernel
theorem d_W_law_2046 : decode (mMc M_W_law) 2046 = .ok (.aload_n 2, 1) := by decide +kernel
theorem d_W_law_2047 : decode (mMc M_W_law) 2047 = .ok (.invokevirtual 282, 3) := by decide +kernel
theorem d_W_law_2050 : decode (mMc M_W_law) 2050 = .ok (.if_icmp .eq 761, 3) := by decide +kernel
theorem d_W_law_2053 : decode (mMc M_W_law) 2053 = .ok (.iconst 0, 1) := by decide +kernel
theorem d_W_law_2054 : decode (mMc M_W_law) 2054 = .ok (.ireturn, 1) := by decide +kernel
theorem d_W_law_2055 : decode (mMc M_W_law) 2055 = .ok (.aload_n 1, 1) := by decide +kernel
theorem d_W_law_2056 : decode (mMc M_W_law) 2056 = .ok (.aload_n 0, 1) := by decide +kernel
theorem d_W_law_2057 : decode (mMc M_W_law) 2057 = .ok (.iload 5, 2) := by decide +kernel
theorem d_W_law_2059 : decode (mMc M_W_law) 2059 = .ok (.iconst 1, 1) := by decide +kernel
theorem d_W_law_2060 : decode (mMc M_W_law) 2060 = .ok (.iadd, 1) := by decide +kernel
theorem d_W_law_2061 : decode (mMc M_W_law) 2061 = .ok (.iaload, 1) := by decide +kernel
theorem d_W_law_2062 : decode (mMc M_W_law) 2062 = .ok (.aload_n 3, 1) := by decide +kernel
theorem d_W_law_2063 : decode (mMc M_W_law) 2063 = .ok (.invokestatic 283, 3) := by decide +kernel
theorem d_W_law_2066 : decode (mMc M_W_law) 2066 = .ok (.istore 6, 2) := by decide +kernel
theorem d_W_law_2068 : decode (mMc M_W_law) 2068 = .ok (.aload_n 2, 1) := by decide +kernel
theorem d_W_law_2069 : decode (mMc M_W_law) 2069 = .ok (.aload_n 0, 1) := by decide +kernel
theorem d_W_law_2070 : decode (mMc M_W_law) 2070 = .ok (.iload 5, 2) := by decide +kernel
theorem d_W_law_2072 : decode (mMc M_W_law) 2072 = .ok (.iconst 1, 1) := by decide +kernel
theorem d_W_law_2073 : decode (mMc M_W_law) 2073 = .ok (.iadd, 1) := by decide +kernel
theorem d_W_law_2074 : decode (mMc M_W_law) 2074 = .ok (.iaload, 1) := by decide +kernel
theorem d_W_law_2075 : decode (mMc M_W_law) 2075 = .ok (.invokevirtual 285, 3) := by decide +kernel
theorem d_W_law_2078 : decode (mMc M_W_law) 2078 = .ok (.istore 7, 2) := by decide +kernel
theorem d_W_law_2080 : decode (mMc M_W_law) 2080 = .ok (.aload_n 2, 1) := by decide +kernel
theorem d_W_law_2081 : decode (mMc M_W_law) 2081 = .ok (.invokevirtual 161, 3) := by decide +kernel
theorem d_W_law_2084 : decode (mMc M_W_law) 2084 = .ok (.iload 6, 2) := by decide +kernel
theorem d_W_law_2086 : decode (mMc M_W_law) 2086 = .ok (.if_icmp .eq 5, 3) := by decide +kernel
theorem d_W_law_2089 : decode (mMc M_W_law) 2089 = .ok (.iconst 0, 1) := by decide +kernel
theorem d_W_law_2090 : decode (mMc M_W_law) 2090 = .ok (.ireturn, 1) := by decide +kernel
theorem d_W_law_2091 : decode (mMc M_W_law) 2091 = .ok (.iload 6, 2) := by decide +kernel
theorem d_W_law_2093 : decode (mMc M_W_law) 2093 = .ok (.ifCond .ne 15, 3) := by decide +kernel
theorem d_W_law_2096 : decode (mMc M_W_law) 2096 = .ok (.aload_n 3, 1) := by decide +kernel
theorem d_W_law_2097 : decode (mMc M_W_law) 2097 = .ok (.iconst 0, 1) := by decide +kernel
theorem d_W_law_2098 : decode (mMc M_W_law) 2098 = .ok (.laload, 1) := by decide +kernel
theorem d_W_law_2099 : decode (mMc M_W_law) 2099 = .ok (.iload 7, 2) := by decide +kernel
theorem d_W_law_2101 : decode (mMc M_W_law) 2101 = .ok (.i2l, 1) := by decide +kernel
theorem d_W_law_2102 : decode (mMc M_W_law) 2102 = .ok (.lcmp, 1) := by decide +kernel
theorem d_W_law_2103 : decode (mMc M_W_law) 2103 = .ok (.ifCond .eq 5, 3) := by decide +kernel
theorem d_W_law_2106 : decode (mMc M_W_law) 2106 = .ok (.iconst 0, 1) := by decide +kernel
theorem d_W_law_2107 : decode (mMc M_W_law) 2107 = .ok (.ireturn, 1) := by decide +kernel
theorem d_W_law_2108 : decode (mMc M_W_law) 2108 = .ok (.goto 703, 3) := by decide +kernel
theorem d_W_law_2111 : decode (mMc M_W_law) 2111 = .ok (.aload_n 1, 1) := by decide +kernel
theorem d_W_law_2112 : decode (mMc M_W_law) 2112 = .ok (.aload_n 0, 1) := by decide +kernel
theorem d_W_law_2113 : decode (mMc M_W_law) 2113 = .ok (.iload 5, 2) := by decide +kernel
theorem d_W_law_2115 : decode (mMc M_W_law) 2115 = .ok (.iconst 1, 1) := by decide +kernel
theorem d_W_law_2116 : decode (mMc M_W_law) 2116 = .ok (.iadd, 1) := by decide +kernel
theorem d_W_law_2117 : decode (mMc M_W_law) 2117 = .ok (.iaload, 1) := by decide +kernel
theorem d_W_law_2118 : decode (mMc M_W_law) 2118 = .ok (.aload_n 0, 1) := by decide +kernel
theorem d_W_law_2119 : decode (mMc M_W_law) 2119 = .ok (.iload 5, 2) := by decide +kernel
theorem d_W_law_2121 : decode (mMc M_W_law) 2121 = .ok (.iconst 2, 1) := by decide +kernel
theorem d_W_law_2122 : decode (mMc M_W_law) 2122 = .ok (.iadd, 1) := by decide +kernel
theorem d_W_law_2123 : decode (mMc M_W_law) 2123 = .ok (.iaload, 1) := by decide +kernel
theorem d_W_law_2124 : decode (mMc M_W_law) 2124 = .ok (.aload_n 3, 1) := by decide +kernel
theorem d_W_law_2125 : decode (mMc M_W_law) 2125 = .ok (.invokestatic 286, 3) := by decide +kernel
theorem d_W_law_2128 : decode (mMc M_W_law) 2128 = .ok (.istore 6, 2) := by decide +kernel
theorem d_W_law_2130 : decode (mMc M_W_law) 2130 = .ok (.aload_n 2, 1) := by decide +kernel
theorem d_W_law_2131 : decode (mMc M_W_law) 2131 = .ok (.aload_n 0, 1) := by decide +kernel
theorem d_W_law_2132 : decode (mMc M_W_law) 2132 = .ok (.iload 5, 2) := by decide +kernel
theorem d_W_law_2134 : decode (mMc M_W_law) 2134 = .ok (.iconst 1, 1) := by decide +kernel
theorem d_W_law_2135 : decode (mMc M_W_law) 2135 = .ok (.iadd, 1) := by decide +kernel
theorem d_W_law_2136 : decode (mMc M_W_law) 2136 = .ok (.iaload, 1) := by decide +kernel
theorem d_W_law_2137 : decode (mMc M_W_law) 2137 = .ok (.aload_n 0, 1) := by decide +kernel
theorem d_W_law_2138 : decode (mMc M_W_law) 2138 = .ok (.iload 5, 2) := by decide +kernel
theorem d_W_law_2140 : decode (mMc M_W_law) 2140 = .ok (.iconst 2, 1) := by decide +kernel
theorem d_W_law_2141 : decode (mMc M_W_law) 2141 = .ok (.iadd, 1) := by decide +kernel
theorem d_W_law_2142 : decode (mMc M_W_law) 2142 = .ok (.iaload, 1) := by decide +kernel
theorem d_W_law_2143 : decode (mMc M_W_law) 2143 = .ok (.invokevirtual 288, 3) := by decide +kernel
theorem d_W_law_2146 : decode (mMc M_W_law) 2146 = .ok (.istore 7, 2) := by decide +kernel
theorem d_W_law_2148 : decode (mMc M_W_law) 2148 = .ok (.aload_n 2, 1) := by decide +kernel
theorem d_W_law_2149 : decode (mMc M_W_law) 2149 = .ok (.invokevirtual 161, 3) := by decide +kernel
theorem d_W_law_2152 : decode (mMc M_W_law) 2152 = .ok (.iload 6, 2) := by decide +kernel
theorem d_W_law_2154 : decode (mMc M_W_law) 2154 = .ok (.if_icmp .eq 5, 3) := by decide +kernel
theorem d_W_law_2157 : decode (mMc M_W_law) 2157 = .ok (.iconst 0, 1) := by decide +kernel
theorem d_W_law_2158 : decode (mMc M_W_law) 2158 = .ok (.ireturn, 1) := by decide +kernel
theorem d_W_law_2159 : decode (mMc M_W_law) 2159 = .ok (.iload 6, 2) := by decide +kernel
theorem d_W_law_2161 : decode (mMc M_W_law) 2161 = .ok (.ifCond .ne 15, 3) := by decide +kernel
theorem d_W_law_2164 : decode (mMc M_W_law) 2164 = .ok (.aload_n 3, 1) := by decide +kernel
theorem d_W_law_2165 : decode (mMc M_W_law) 2165 = .ok (.iconst 0, 1) := by decide +kernel
theorem d_W_law_2166 : decode (mMc M_W_law) 2166 = .ok (.laload, 1) := by decide +kernel
theorem d_W_law_2167 : decode (mMc M_W_law) 2167 = .ok (.iload 7, 2) := by decide +kernel
theorem d_W_law_2169 : decode (mMc M_W_law) 2169 = .ok (.i2l, 1) := by decide +kernel
theorem d_W_law_2170 : decode (mMc M_W_law) 2170 = .ok (.lcmp, 1) := by decide +kernel
theorem d_W_law_2171 : decode (mMc M_W_law) 2171 = .ok (.ifCond .eq 5, 3) := by decide +kernel
theorem d_W_law_2174 : decode (mMc M_W_law) 2174 = .ok (.iconst 0, 1) := by decide +kernel
theorem d_W_law_2175 : decode (mMc M_W_law) 2175 = .ok (.ireturn, 1) := by decide +kernel
theorem d_W_law_2176 : decode (mMc M_W_law) 2176 = .ok (.goto 635, 3) := by decide +kernel
theorem d_W_law_2179 : decode (mMc M_W_law) 2179 = .ok (.aload_n 1, 1) := by decide +kernel
theorem d_W_law_2180 : decode (mMc M_W_law) 2180 = .ok (.invokevirtual 289, 3) := by decide +kernel
theorem d_W_law_2183 : decode (mMc M_W_law) 2183 = .ok (.aload_n 2, 1) := by decide +kernel
theorem d_W_law_2184 : decode (mMc M_W_law) 2184 = .ok (.invokevirtual 292, 3) := by decide +kernel
theorem d_W_law_2187 : decode (mMc M_W_law) 2187 = .ok (.if_icmp .eq 624, 3) := by decide +kernel
theorem d_W_law_2190 : decode (mMc M_W_law) 2190 = .ok (.iconst 0, 1) := by decide +kernel
theorem d_W_law_2191 : decode (mMc M_W_law) 2191 = .ok (.ireturn, 1) := by decide +kernel
theorem d_W_law_2192 : decode (mMc M_W_law) 2192 = .ok (.aload_n 1, 1) := by decide +kernel
theorem d_W_law_2193 : decode (mMc M_W_law) 2193 = .ok (.invokevirtual 293, 3) := by decide +kernel
theorem d_W_law_2196 : decode (mMc M_W_law) 2196 = .ok (.aload_n 2, 1) := by decide +kernel
theorem d_W_law_2197 : decode (mMc M_W_law) 2197 = .ok (.invokevirtual 296, 3) := by decide +kernel
theorem d_W_law_2200 : decode (mMc M_W_law) 2200 = .ok (.if_icmp .eq 611, 3) := by decide +kernel
theorem d_W_law_2203 : decode (mMc M_W_law) 2203 = .ok (.iconst 0, 1) := by decide +kernel
theorem d_W_law_2204 : decode (mMc M_W_law) 2204 = .ok (.ireturn, 1) := by decide +kernel
theorem d_W_law_2205 : decode (mMc M_W_law) 2205 = .ok (.aload_n 1, 1) := by decide +kernel
theorem d_W_law_2206 : decode (mMc M_W_law) 2206 = .ok (.invokevirtual 297, 3) := by decide +kernel
theorem d_W_law_2209 : decode (mMc M_W_law) 2209 = .ok (.aload_n 2, 1) := by decide +kernel
theorem d_W_law_2210 : decode (mMc M_W_law) 2210 = .ok (.invokevirtual 300, 3) := by decide +kernel
theorem d_W_law_2213 : decode (mMc M_W_law) 2213 = .ok (.if_icmp .eq 598, 3) := by decide +kernel
theorem d_W_law_2216 : decode (mMc M_W_law) 2216 = .ok (.iconst 0, 1) := by decide +kernel
theorem d_W_law_2217 : decode (mMc M_W_law) 2217 = .ok (.ireturn, 1) := by decide +kernel
theorem d_W_law_2218 : decode (mMc M_W_law) 2218 = .ok (.aload_n 1, 1) := by decide +kernel
theorem d_W_law_2219 : decode (mMc M_W_law) 2219 = .ok (.aload_n 0, 1) := by decide +kernel
theorem d_W_law_2220 : decode (mMc M_W_law) 2220 = .ok (.iload 5, 2) := by decide +kernel
theorem d_W_law_2222 : decode (mMc M_W_law) 2222 = .ok (.iconst 1, 1) := by decide +kernel
theorem d_W_law_2223 : decode (mMc M_W_law) 2223 = .ok (.iadd, 1) := by decide +kernel
theorem d_W_law_2224 : decode (mMc M_W_law) 2224 = .ok (.iaload, 1) := by decide +kernel
theorem d_W_law_2225 : decode (mMc M_W_law) 2225 = .ok (.aload_n 3, 1) := by decide +kernel
theorem d_W_law_2226 : decode (mMc M_W_law) 2226 = .ok (.invokestatic 301, 3) := by decide +kernel
theorem d_W_law_2229 : decode (mMc M_W_law) 2229 = .ok (.istore 6, 2) := by decide +kernel
theorem d_W_law_2231 : decode (mMc M_W_law) 2231 = .ok (.aload_n 2, 1) := by decide +kernel
theorem d_W_law_2232 : decode (mMc M_W_law) 2232 = .ok (.aload_n 0, 1) := by decide +kernel
theorem d_W_law_2233 : decode (mMc M_W_law) 2233 = .ok (.iload 5, 2) := by decide +kernel
theorem d_W_law_2235 : decode (mMc M_W_law) 2235 = .ok (.iconst 1, 1) := by decide +kernel
theorem d_W_law_2236 : decode (mMc M_W_law) 2236 = .ok (.iadd, 1) := by decide +kernel
theorem d_W_law_2237 : decode (mMc M_W_law) 2237 = .ok (.iaload, 1) := by decide +kernel
theorem d_W_law_2238 : decode (mMc M_W_law) 2238 = .ok (.invokevirtual 303, 3) := by decide +kernel
theorem d_W_law_2241 : decode (mMc M_W_law) 2241 = .ok (.istore 7, 2) := by decide +kernel
theorem d_W_law_2243 : decode (mMc M_W_law) 2243 = .ok (.aload_n 2, 1) := by decide +kernel
theorem d_W_law_2244 : decode (mMc M_W_law) 2244 = .ok (.invokevirtual 161, 3) := by decide +kernel
theorem d_W_law_2247 : decode (mMc M_W_law) 2247 = .ok (.iload 6, 2) := by decide +kernel
theorem d_W_law_2249 : decode (mMc M_W_law) 2249 = .ok (.if_icmp .eq 5, 3) := by decide +kernel
theorem d_W_law_2252 : decode (mMc M_W_law) 2252 = .ok (.iconst 0, 1) := by decide +kernel
theorem d_W_law_2253 : decode (mMc M_W_law) 2253 = .ok (.ireturn, 1) := by decide +kernel
theorem d_W_law_2254 : decode (mMc M_W_law) 2254 = .ok (.iload 6, 2) := by decide +kernel
theorem d_W_law_2256 : decode (mMc M_W_law) 2256 = .ok (.ifCond .ne 15, 3) := by decide +kernel
theorem d_W_law_2259 : decode (mMc M_W_law) 2259 = .ok (.aload_n 3, 1) := by decide +kernel
theorem d_W_law_2260 : decode (mMc M_W_law) 2260 = .ok (.iconst 0, 1) := by decide +kernel
theorem d_W_law_2261 : decode (mMc M_W_law) 2261 = .ok (.laload, 1) := by decide +kernel
theorem d_W_law_2262 : decode (mMc M_W_law) 2262 = .ok (.iload 7, 2) := by decide +kernel
theorem d_W_law_2264 : decode (mMc M_W_law) 2264 = .ok (.i2l, 1) := by decide +kernel
theorem d_W_law_2265 : decode (mMc M_W_law) 2265 = .ok (.lcmp, 1) := by decide +kernel
theorem d_W_law_2266 : decode (mMc M_W_law) 2266 = .ok (.ifCond .eq 5, 3) := by decide +kernel
theorem d_W_law_2269 : decode (mMc M_W_law) 2269 = .ok (.iconst 0, 1) := by decide +kernel
theorem d_W_law_2270 : decode (mMc M_W_law) 2270 = .ok (.ireturn, 1) := by decide +kernel
theorem d_W_law_2271 : decode (mMc M_W_law) 2271 = .ok (.goto 540, 3) := by decide +kernel
theorem d_W_law_2274 : decode (mMc M_W_law) 2274 = .ok (.aload_n 1, 1) := by decide +kernel
theorem d_W_law_2275 : decode (mMc M_W_law) 2275 = .ok (.aload_n 0, 1) := by decide +kernel
theorem d_W_law_2276 : decode (mMc M_W_law) 2276 = .ok (.iload 5, 2) := by decide +kernel
theorem d_W_law_2278 : decode (mMc M_W_law) 2278 = .ok (.iconst 1, 1) := by decide +kernel
theorem d_W_law_2279 : decode (mMc M_W_law) 2279 = .ok (.iadd, 1) := by decide +kernel
theorem d_W_law_2280 : decode (mMc M_W_law) 2280 = .ok (.iaload, 1) := by decide +kernel
theorem d_W_law_2281 : decode (mMc M_W_law) 2281 = .ok (.i2c, 1) := by decide +kernel
theorem d_W_law_2282 : decode (mMc M_W_law) 2282 = .ok (.aload_n 3, 1) := by decide +kernel
theorem d_W_law_2283 : decode (mMc M_W_law) 2283 = .ok (.invokestatic 304, 3) := by decide +kernel
theorem d_W_law_2286 : decode (mMc M_W_law) 2286 = .ok (.istore 6, 2) := by decide +kernel
theorem d_W_law_2288 : decode (mMc M_W_law) 2288 = .ok (.aload_n 2, 1) := by decide +kernel
theorem d_W_law_2289 : decode (mMc M_W_law) 2289 = .ok (.aload_n 0, 1) := by decide +kernel
theorem d_W_law_2290 : decode (mMc M_W_law) 2290 = .ok (.iload 5, 2) := by decide +kernel
theorem d_W_law_2292 : decode (mMc M_W_law) 2292 = .ok (.iconst 1, 1) := by decide +kernel
theorem d_W_law_2293 : decode (mMc M_W_law) 2293 = .ok (.iadd, 1) := by decide +kernel
theorem d_W_law_2294 : decode (mMc M_W_law) 2294 = .ok (.iaload, 1) := by decide +kernel
theorem d_W_law_2295 : decode (mMc M_W_law) 2295 = .ok (.i2c, 1) := by decide +kernel
theorem d_W_law_2296 : decode (mMc M_W_law) 2296 = .ok (.invokevirtual 307, 3) := by decide +kernel
theorem d_W_law_2299 : decode (mMc M_W_law) 2299 = .ok (.istore 7, 2) := by decide +kernel
theorem d_W_law_2301 : decode (mMc M_W_law) 2301 = .ok (.aload_n 2, 1) := by decide +kernel
theorem d_W_law_2302 : decode (mMc M_W_law) 2302 = .ok (.invokevirtual 161, 3) := by decide +kernel
theorem d_W_law_2305 : decode (mMc M_W_law) 2305 = .ok (.iload 6, 2) := by decide +kernel
theorem d_W_law_2307 : decode (mMc M_W_law) 2307 = .ok (.if_icmp .eq 5, 3) := by decide +kernel
theorem d_W_law_2310 : decode (mMc M_W_law) 2310 = .ok (.iconst 0, 1) := by decide +kernel
theorem d_W_law_2311 : decode (mMc M_W_law) 2311 = .ok (.ireturn, 1) := by decide +kernel
theorem d_W_law_2312 : decode (mMc M_W_law) 2312 = .ok (.iload 6, 2) := by decide +kernel
theorem d_W_law_2314 : decode (mMc M_W_law) 2314 = .ok (.ifCond .ne 15, 3) := by decide +kernel
theorem d_W_law_2317 : decode (mMc M_W_law) 2317 = .ok (.aload_n 3, 1) := by decide +kernel
theorem d_W_law_2318 : decode (mMc M_W_law) 2318 = .ok (.iconst 0, 1) := by decide +kernel
theorem d_W_law_2319 : decode (mMc M_W_law) 2319 = .ok (.laload, 1) := by decide +kernel
theorem d_W_law_2320 : decode (mMc M_W_law) 2320 = .ok (.iload 7, 2) := by decide +kernel
theorem d_W_law_2322 : decode (mMc M_W_law) 2322 = .ok (.i2l, 1) := by decide +kernel
theorem d_W_law_2323 : decode (mMc M_W_law) 2323 = .ok (.lcmp, 1) := by decide +kernel
theorem d_W_law_2324 : decode (mMc M_W_law) 2324 = .ok (.ifCond .eq 5, 3) := by decide +kernel
theorem d_W_law_2327 : decode (mMc M_W_law) 2327 = .ok (.iconst 0, 1) := by decide +kernel
theorem d_W_law_2328 : decode (mMc M_W_law) 2328 = .ok (.ireturn, 1) := by decide +kernel
theorem d_W_law_2329 : decode (mMc M_W_law) 2329 = .ok (.goto 482, 3) := by decide +kernel
theorem d_W_law_2332 : decode (mMc M_W_law) 2332 = .ok (.aload_n 1, 1) := by decide +kernel
theorem d_W_law_2333 : decode (mMc M_W_law) 2333 = .ok (.aload_n 3, 1) := by decide +kernel
theorem d_W_law_2334 : decode (mMc M_W_law) 2334 = .ok (.invokestatic 308, 3) := by decide +kernel
theorem d_W_law_2337 : decode (mMc M_W_law) 2337 = .ok (.istore 6, 2) := by decide +kernel
theorem d_W_law_2339 : decode (mMc M_W_law) 2339 = .ok (.aload_n 2, 1) := by decide +kernel
theorem d_W_law_2340 : decode (mMc M_W_law) 2340 = .ok (.invokevirtual 310, 3) := by decide +kernel
theorem d_W_law_2343 : decode (mMc M_W_law) 2343 = .ok (.istore 7, 2) := by decide +kernel
theorem d_W_law_2345 : decode (mMc M_W_law) 2345 = .ok (.aload_n 2, 1) := by decide +kernel
theorem d_W_law_2346 : decode (mMc M_W_law) 2346 = .ok (.invokevirtual 161, 3) := by decide +kernel
theorem d_W_law_2349 : decode (mMc M_W_law) 2349 = .ok (.iload 6, 2) := by decide +kernel
theorem d_W_law_2351 : decode (mMc M_W_law) 2351 = .ok (.if_icmp .eq 5, 3) := by decide +kernel
theorem d_W_law_2354 : decode (mMc M_W_law) 2354 = .ok (.iconst 0, 1) := by decide +kernel
theorem d_W_law_2355 : decode (mMc M_W_law) 2355 = .ok (.ireturn, 1) := by decide +kernel
theorem d_W_law_2356 : decode (mMc M_W_law) 2356 = .ok (.iload 6, 2) := by decide +kernel
theorem d_W_law_2358 : decode (mMc M_W_law) 2358 = .ok (.ifCond .ne 15, 3) := by decide +kernel
theorem d_W_law_2361 : decode (mMc M_W_law) 2361 = .ok (.aload_n 3, 1) := by decide +kernel
theorem d_W_law_2362 : decode (mMc M_W_law) 2362 = .ok (.iconst 0, 1) := by decide +kernel
theorem d_W_law_2363 : decode (mMc M_W_law) 2363 = .ok (.laload, 1) := by decide +kernel
theorem d_W_law_2364 : decode (mMc M_W_law) 2364 = .ok (.iload 7, 2) := by decide +kernel
theorem d_W_law_2366 : decode (mMc M_W_law) 2366 = .ok (.i2l, 1) := by decide +kernel
theorem d_W_law_2367 : decode (mMc M_W_law) 2367 = .ok (.lcmp, 1) := by decide +kernel
theorem d_W_law_2368 : decode (mMc M_W_law) 2368 = .ok (.ifCond .eq 5, 3) := by decide +kernel
theorem d_W_law_2371 : decode (mMc M_W_law) 2371 = .ok (.iconst 0, 1) := by decide +kernel
theorem d_W_law_2372 : decode (mMc M_W_law) 2372 = .ok (.ireturn, 1) := by decide +kernel
theorem d_W_law_2373 : decode (mMc M_W_law) 2373 = .ok (.goto 438, 3) := by decide +kernel
theorem d_W_law_2376 : decode (mMc M_W_law) 2376 = .ok (.aload_n 1, 1) := by decide +kernel
theorem d_W_law_2377 : decode (mMc M_W_law) 2377 = .ok (.aload_n 3, 1) := by decide +kernel
theorem d_W_law_2378 : decode (mMc M_W_law) 2378 = .ok (.invokestatic 311, 3) := by decide +kernel
theorem d_W_law_2381 : decode (mMc M_W_law) 2381 = .ok (.istore 6, 2) := by decide +kernel
theorem d_W_law_2383 : decode (mMc M_W_law) 2383 = .ok (.aload_n 2, 1) := by decide +kernel
theorem d_W_law_2384 : decode (mMc M_W_law) 2384 = .ok (.invokevirtual 313, 3) := by decide +kernel
theorem d_W_law_2387 : decode (mMc M_W_law) 2387 = .ok (.istore 7, 2) := by decide +kernel
theorem d_W_law_2389 : decode (mMc M_W_law) 2389 = .ok (.aload_n 2, 1) := by decide +kernel
theorem d_W_law_2390 : decode (mMc M_W_law) 2390 = .ok (.invokevirtual 161, 3) := by decide +kernel
theorem d_W_law_2393 : decode (mMc M_W_law) 2393 = .ok (.iload 6, 2) := by decide +kernel
theorem d_W_law_2395 : decode (mMc M_W_law) 2395 = .ok (.if_icmp .eq 5, 3) := by decide +kernel
theorem d_W_law_2398 : decode (mMc M_W_law) 2398 = .ok (.iconst 0, 1) := by decide +kernel
theorem d_W_law_2399 : decode (mMc M_W_law) 2399 = .ok (.ireturn, 1) := by decide +kernel
theorem d_W_law_2400 : decode (mMc M_W_law) 2400 = .ok (.iload 6, 2) := by decide +kernel
theorem d_W_law_2402 : decode (mMc M_W_law) 2402 = .ok (.ifCond .ne 15, 3) := by decide +kernel
theorem d_W_law_2405 : decode (mMc M_W_law) 2405 = .ok (.aload_n 3, 1) := by decide +kernel
theorem d_W_law_2406 : decode (mMc M_W_law) 2406 = .ok (.iconst 0, 1) := by decide +kernel
theorem d_W_law_2407 : decode (mMc M_W_law) 2407 = .ok (.laload, 1) := by decide +kernel
theorem d_W_law_2408 : decode (mMc M_W_law) 2408 = .ok (.iload 7, 2) := by decide +kernel
theorem d_W_law_2410 : decode (mMc M_W_law) 2410 = .ok (.i2l, 1) := by decide +kernel
theorem d_W_law_2411 : decode (mMc M_W_law) 2411 = .ok (.lcmp, 1) := by decide +kernel
theorem d_W_law_2412 : decode (mMc M_W_law) 2412 = .ok (.ifCond .eq 5, 3) := by decide +kernel
theorem d_W_law_2415 : decode (mMc M_W_law) 2415 = .ok (.iconst 0, 1) := by decide +kernel
theorem d_W_law_2416 : decode (mMc M_W_law) 2416 = .ok (.ireturn, 1) := by decide +kernel
theorem d_W_law_2417 : decode (mMc M_W_law) 2417 = .ok (.goto 394, 3) := by decide +kernel
theorem d_W_law_2420 : decode (mMc M_W_law) 2420 = .ok (.aload_n 1, 1) := by decide +kernel
theorem d_W_law_2421 : decode (mMc M_W_law) 2421 = .ok (.aload_n 3, 1) := by decide +kernel
theorem d_W_law_2422 : decode (mMc M_W_law) 2422 = .ok (.invokestatic 314, 3) := by decide +kernel
theorem d_W_law_2425 : decode (mMc M_W_law) 2425 = .ok (.istore 6, 2) := by decide +kernel
theorem d_W_law_2427 : decode (mMc M_W_law) 2427 = .ok (.aload_n 2, 1) := by decide +kernel
theorem d_W_law_2428 : decode (mMc M_W_law) 2428 = .ok (.invokevirtual 316, 3) := by decide +kernel
theorem d_W_law_2431 : decode (mMc M_W_law) 2431 = .ok (.istore 7, 2) := by decide +kernel
theorem d_W_law_2433 : decode (mMc M_W_law) 2433 = .ok (.aload_n 2, 1) := by decide +kernel
theorem d_W_law_2434 : decode (mMc M_W_law) 2434 = .ok (.invokevirtual 161, 3) := by decide +kernel
theorem d_W_law_2437 : decode (mMc M_W_law) 2437 = .ok (.iload 6, 2) := by decide +kernel
theorem d_W_law_2439 : decode (mMc M_W_law) 2439 = .ok (.if_icmp .eq 5, 3) := by decide +kernel
theorem d_W_law_2442 : decode (mMc M_W_law) 2442 = .ok (.iconst 0, 1) := by decide +kernel
theorem d_W_law_2443 : decode (mMc M_W_law) 2443 = .ok (.ireturn, 1) := by decide +kernel
theorem d_W_law_2444 : decode (mMc M_W_law) 2444 = .ok (.iload 6, 2) := by decide +kernel
theorem d_W_law_2446 : decode (mMc M_W_law) 2446 = .ok (.ifCond .ne 15, 3) := by decide +kernel
theorem d_W_law_2449 : decode (mMc M_W_law) 2449 = .ok (.aload_n 3, 1) := by decide +kernel
theorem d_W_law_2450 : decode (mMc M_W_law) 2450 = .ok (.iconst 0, 1) := by decide +kernel
theorem d_W_law_2451 : decode (mMc M_W_law) 2451 = .ok (.laload, 1) := by decide +kernel
theorem d_W_law_2452 : decode (mMc M_W_law) 2452 = .ok (.iload 7, 2) := by decide +kernel
theorem d_W_law_2454 : decode (mMc M_W_law) 2454 = .ok (.i2l, 1) := by decide +kernel
theorem d_W_law_2455 : decode (mMc M_W_law) 2455 = .ok (.lcmp, 1) := by decide +kernel
theorem d_W_law_2456 : decode (mMc M_W_law) 2456 = .ok (.ifCond .eq 5, 3) := by decide +kernel
theorem d_W_law_2459 : decode (mMc M_W_law) 2459 = .ok (.iconst 0, 1) := by decide +kernel
theorem d_W_law_2460 : decode (mMc M_W_law) 2460 = .ok (.ireturn, 1) := by decide +kernel
theorem d_W_law_2461 : decode (mMc M_W_law) 2461 = .ok (.goto 350, 3) := by decide +kernel
theorem d_W_law_2464 : decode (mMc M_W_law) 2464 = .ok (.aload_n 1, 1) := by decide +kernel
theorem d_W_law_2465 : decode (mMc M_W_law) 2465 = .ok (.invokevirtual 317, 3) := by decide +kernel
theorem d_W_law_2468 : decode (mMc M_W_law) 2468 = .ok (.aload_n 2, 1) := by decide +kernel
theorem d_W_law_2469 : decode (mMc M_W_law) 2469 = .ok (.invokevirtual 320, 3) := by decide +kernel
theorem d_W_law_2472 : decode (mMc M_W_law) 2472 = .ok (.if_icmp .eq 339, 3) := by decide +kernel
theorem d_W_law_2475 : decode (mMc M_W_law) 2475 = .ok (.iconst 0, 1) := by decide +kernel
theorem d_W_law_2476 : decode (mMc M_W_law) 2476 = .ok (.ireturn, 1) := by decide +kernel
theorem d_W_law_2477 : decode (mMc M_W_law) 2477 = .ok (.aload_n 1, 1) := by decide +kernel
theorem d_W_law_2478 : decode (mMc M_W_law) 2478 = .ok (.aload_n 0, 1) := by decide +kernel
theorem d_W_law_2479 : decode (mMc M_W_law) 2479 = .ok (.iload 5, 2) := by decide +kernel
theorem d_W_law_2481 : decode (mMc M_W_law) 2481 = .ok (.iconst 1, 1) := by decide +kernel
theorem d_W_law_2482 : decode (mMc M_W_law) 2482 = .ok (.iadd, 1) := by decide +kernel
theorem d_W_law_2483 : decode (mMc M_W_law) 2483 = .ok (.iaload, 1) := by decide +kernel
theorem d_W_law_2484 : decode (mMc M_W_law) 2484 = .ok (.aload_n 3, 1) := by decide +kernel
theorem d_W_law_2485 : decode (mMc M_W_law) 2485 = .ok (.invokestatic 321, 3) := by decide +kernel
theorem d_W_law_2488 : decode (mMc M_W_law) 2488 = .ok (.istore 6, 2) := by decide +kernel
theorem d_W_law_2490 : decode (mMc M_W_law) 2490 = .ok (.aload_n 2, 1) := by decide +kernel
theorem d_W_law_2491 : decode (mMc M_W_law) 2491 = .ok (.aload_n 0, 1) := by decide +kernel
theorem d_W_law_2492 : decode (mMc M_W_law) 2492 = .ok (.iload 5, 2) := by decide +kernel
theorem d_W_law_2494 : decode (mMc M_W_law) 2494 = .ok (.iconst 1, 1) := by decide +kernel
theorem d_W_law_2495 : decode (mMc M_W_law) 2495 = .ok (.iadd, 1) := by decide +kernel
theorem d_W_law_2496 : decode (mMc M_W_law) 2496 = .ok (.iaload, 1) := by decide +kernel
theorem d_W_law_2497 : decode (mMc M_W_law) 2497 = .ok (.invokevirtual 323, 3) := by decide +kernel
theorem d_W_law_2500 : decode (mMc M_W_law) 2500 = .ok (.istore 7, 2) := by decide +kernel
theorem d_W_law_2502 : decode (mMc M_W_law) 2502 = .ok (.aload_n 2, 1) := by decide +kernel
theorem d_W_law_2503 : decode (mMc M_W_law) 2503 = .ok (.invokevirtual 161, 3) := by decide +kernel
theorem d_W_law_2506 : decode (mMc M_W_law) 2506 = .ok (.iload 6, 2) := by decide +kernel
theorem d_W_law_2508 : decode (mMc M_W_law) 2508 = .ok (.if_icmp .eq 5, 3) := by decide +kernel
theorem d_W_law_2511 : decode (mMc M_W_law) 2511 = .ok (.iconst 0, 1) := by decide +kernel
theorem d_W_law_2512 : decode (mMc M_W_law) 2512 = .ok (.ireturn, 1) := by decide +kernel
theorem d_W_law_2513 : decode (mMc M_W_law) 2513 = .ok (.iload 6, 2) := by decide +kernel
theorem d_W_law_2515 : decode (mMc M_W_law) 2515 = .ok (.ifCond .ne 15, 3) := by decide +kernel
theorem d_W_law_2518 : decode (mMc M_W_law) 2518 = .ok (.aload_n 3, 1) := by decide +kernel
theorem d_W_law_2519 : decode (mMc M_W_law) 2519 = .ok (.iconst 0, 1) := by decide +kernel
theorem d_W_law_2520 : decode (mMc M_W_law) 2520 = .ok (.laload, 1) := by decide +kernel
theorem d_W_law_2521 : decode (mMc M_W_law) 2521 = .ok (.iload 7, 2) := by decide +kernel
theorem d_W_law_2523 : decode (mMc M_W_law) 2523 = .ok (.i2l, 1) := by decide +kernel
theorem d_W_law_2524 : decode (mMc M_W_law) 2524 = .ok (.lcmp, 1) := by decide +kernel
theorem d_W_law_2525 : decode (mMc M_W_law) 2525 = .ok (.ifCond .eq 5, 3) := by decide +kernel
theorem d_W_law_2528 : decode (mMc M_W_law) 2528 = .ok (.iconst 0, 1) := by decide +kernel
theorem d_W_law_2529 : decode (mMc M_W_law) 2529 = .ok (.ireturn, 1) := by decide +kernel
theorem d_W_law_2530 : decode (mMc M_W_law) 2530 = .ok (.goto 281, 3) := by decide +kernel
theorem d_W_law_2533 : decode (mMc M_W_law) 2533 = .ok (.aload_n 1, 1) := by decide +kernel
theorem d_W_law_2534 : decode (mMc M_W_law) 2534 = .ok (.aload_n 0, 1) := by decide +kernel
theorem d_W_law_2535 : decode (mMc M_W_law) 2535 = .ok (.iload 5, 2) := by decide +kernel
theorem d_W_law_2537 : decode (mMc M_W_law) 2537 = .ok (.iconst 1, 1) := by decide +kernel
theorem d_W_law_2538 : decode (mMc M_W_law) 2538 = .ok (.iadd, 1) := by decide +kernel
theorem d_W_law_2539 : decode (mMc M_W_law) 2539 = .ok (.iaload, 1) := by decide +kernel
theorem d_W_law_2540 : decode (mMc M_W_law) 2540 = .ok (.aload_n 3, 1) := by decide +kernel
theorem d_W_law_2541 : decode (mMc M_W_law) 2541 = .ok (.invokestatic 324, 3) := by decide +kernel
theorem d_W_law_2544 : decode (mMc M_W_law) 2544 = .ok (.istore 6, 2) := by decide +kernel
theorem d_W_law_2546 : decode (mMc M_W_law) 2546 = .ok (.aload_n 2, 1) := by decide +kernel
theorem d_W_law_2547 : decode (mMc M_W_law) 2547 = .ok (.aload_n 0, 1) := by decide +kernel
theorem d_W_law_2548 : decode (mMc M_W_law) 2548 = .ok (.iload 5, 2) := by decide +kernel
theorem d_W_law_2550 : decode (mMc M_W_law) 2550 = .ok (.iconst 1, 1) := by decide +kernel
theorem d_W_law_2551 : decode (mMc M_W_law) 2551 = .ok (.iadd, 1) := by decide +kernel
theorem d_W_law_2552 : decode (mMc M_W_law) 2552 = .ok (.iaload, 1) := by decide +kernel
theorem d_W_law_2553 : decode (mMc M_W_law) 2553 = .ok (.invokevirtual 326, 3) := by decide +kernel
theorem d_W_law_2556 : decode (mMc M_W_law) 2556 = .ok (.istore 7, 2) := by decide +kernel
theorem d_W_law_2558 : decode (mMc M_W_law) 2558 = .ok (.aload_n 2, 1) := by decide +kernel
theorem d_W_law_2559 : decode (mMc M_W_law) 2559 = .ok (.invokevirtual 161, 3) := by decide +kernel
theorem d_W_law_2562 : decode (mMc M_W_law) 2562 = .ok (.iload 6, 2) := by decide +kernel
theorem d_W_law_2564 : decode (mMc M_W_law) 2564 = .ok (.if_icmp .eq 5, 3) := by decide +kernel
theorem d_W_law_2567 : decode (mMc M_W_law) 2567 = .ok (.iconst 0, 1) := by decide +kernel
theorem d_W_law_2568 : decode (mMc M_W_law) 2568 = .ok (.ireturn, 1) := by decide +kernel
theorem d_W_law_2569 : decode (mMc M_W_law) 2569 = .ok (.iload 6, 2) := by decide +kernel
theorem d_W_law_2571 : decode (mMc M_W_law) 2571 = .ok (.ifCond .ne 15, 3) := by decide +kernel
theorem d_W_law_2574 : decode (mMc M_W_law) 2574 = .ok (.aload_n 3, 1) := by decide +kernel
theorem d_W_law_2575 : decode (mMc M_W_law) 2575 = .ok (.iconst 0, 1) := by decide +kernel
theorem d_W_law_2576 : decode (mMc M_W_law) 2576 = .ok (.laload, 1) := by decide +kernel
theorem d_W_law_2577 : decode (mMc M_W_law) 2577 = .ok (.iload 7, 2) := by decide +kernel
theorem d_W_law_2579 : decode (mMc M_W_law) 2579 = .ok (.i2l, 1) := by decide +kernel
theorem d_W_law_2580 : decode (mMc M_W_law) 2580 = .ok (.lcmp, 1) := by decide +kernel
theorem d_W_law_2581 : decode (mMc M_W_law) 2581 = .ok (.ifCond .eq 5, 3) := by decide +kernel
theorem d_W_law_2584 : decode (mMc M_W_law) 2584 = .ok (.iconst 0, 1) := by decide +kernel
theorem d_W_law_2585 : decode (mMc M_W_law) 2585 = .ok (.ireturn, 1) := by decide +kernel
theorem d_W_law_2586 : decode (mMc M_W_law) 2586 = .ok (.goto 225, 3) := by decide +kernel
theorem d_W_law_2589 : decode (mMc M_W_law) 2589 = .ok (.aload_n 1, 1) := by decide +kernel
theorem d_W_law_2590 : decode (mMc M_W_law) 2590 = .ok (.aload 4, 2) := by decide +kernel
theorem d_W_law_2592 : decode (mMc M_W_law) 2592 = .ok (.invokestatic 327, 3) := by decide +kernel
theorem d_W_law_2595 : decode (mMc M_W_law) 2595 = .ok (.istore 6, 2) := by decide +kernel
theorem d_W_law_2597 : decode (mMc M_W_law) 2597 = .ok (.aload_n 2, 1) := by decide +kernel
theorem d_W_law_2598 : decode (mMc M_W_law) 2598 = .ok (.invokevirtual 330, 3) := by decide +kernel
theorem d_W_law_2601 : decode (mMc M_W_law) 2601 = .ok (.dstore 7, 2) := by decide +kernel
theorem d_W_law_2603 : decode (mMc M_W_law) 2603 = .ok (.aload_n 2, 1) := by decide +kernel
theorem d_W_law_2604 : decode (mMc M_W_law) 2604 = .ok (.invokevirtual 161, 3) := by decide +kernel
theorem d_W_law_2607 : decode (mMc M_W_law) 2607 = .ok (.iload 6, 2) := by decide +kernel
theorem d_W_law_2609 : decode (mMc M_W_law) 2609 = .ok (.if_icmp .eq 5, 3) := by decide +kernel
theorem d_W_law_2612 : decode (mMc M_W_law) 2612 = .ok (.iconst 0, 1) := by decide +kernel
theorem d_W_law_2613 : decode (mMc M_W_law) 2613 = .ok (.ireturn, 1) := by decide +kernel
theorem d_W_law_2614 : decode (mMc M_W_law) 2614 = .ok (.iload 6, 2) := by decide +kernel
theorem d_W_law_2616 : decode (mMc M_W_law) 2616 = .ok (.ifCond .ne 35, 3) := by decide +kernel
theorem d_W_law_2619 : decode (mMc M_W_law) 2619 = .ok (.aload 4, 2) := by decide +kernel
theorem d_W_law_2621 : decode (mMc M_W_law) 2621 = .ok (.iconst 0, 1) := by decide +kernel
theorem d_W_law_2622 : decode (mMc M_W_law) 2622 = .ok (.daload, 1) := by decide +kernel
theorem d_W_law_2623 : decode (mMc M_W_law) 2623 = .ok (.dload 7, 2) := by decide +kernel
theorem d_W_law_2625 : decode (mMc M_W_law) 2625 = .ok (.dcmp .l, 1) := by decide +kernel
theorem d_W_law_2626 : decode (mMc M_W_law) 2626 = .ok (.ifCond .eq 25, 3) := by decide +kernel
theorem d_W_law_2629 : decode (mMc M_W_law) 2629 = .ok (.aload 4, 2) := by decide +kernel
theorem d_W_law_2631 : decode (mMc M_W_law) 2631 = .ok (.iconst 0, 1) := by decide +kernel
theorem d_W_law_2632 : decode (mMc M_W_law) 2632 = .ok (.daload, 1) := by decide +kernel
theorem d_W_law_2633 : decode (mMc M_W_law) 2633 = .ok (.aload 4, 2) := by decide +kernel
theorem d_W_law_2635 : decode (mMc M_W_law) 2635 = .ok (.iconst 0, 1) := by decide +kernel
theorem d_W_law_2636 : decode (mMc M_W_law) 2636 = .ok (.daload, 1) := by decide +kernel
theorem d_W_law_2637 : decode (mMc M_W_law) 2637 = .ok (.dcmp .l, 1) := by decide +kernel
theorem d_W_law_2638 : decode (mMc M_W_law) 2638 = .ok (.ifCond .eq 11, 3) := by decide +kernel
theorem d_W_law_2641 : decode (mMc M_W_law) 2641 = .ok (.dload 7, 2) := by decide +kernel
theorem d_W_law_2643 : decode (mMc M_W_law) 2643 = .ok (.dload 7, 2) := by decide +kernel
theorem d_W_law_2645 : decode (mMc M_W_law) 2645 = .ok (.dcmp .l, 1) := by decide +kernel
theorem d_W_law_2646 : decode (mMc M_W_law) 2646 = .ok (.ifCond .ne 5, 3) := by decide +kernel
theorem d_W_law_2649 : decode (mMc M_W_law) 2649 = .ok (.iconst 0, 1) := by decide +kernel
theorem d_W_law_2650 : decode (mMc M_W_law) 2650 = .ok (.ireturn, 1) := by decide +kernel
theorem d_W_law_2651 : decode (mMc M_W_law) 2651 = .ok (.goto 160, 3) := by decide +kernel
theorem d_W_law_2654 : decode (mMc M_W_law) 2654 = .ok (.aload_n 1, 1) := by decide +kernel
theorem d_W_law_2655 : decode (mMc M_W_law) 2655 = .ok (.invokevirtual 331, 3) := by decide +kernel
theorem d_W_law_2658 : decode (mMc M_W_law) 2658 = .ok (.f2d, 1) := by decide +kernel
theorem d_W_law_2659 : decode (mMc M_W_law) 2659 = .ok (.dstore 6, 2) := by decide +kernel
theorem d_W_law_2661 : decode (mMc M_W_law) 2661 = .ok (.aload_n 2, 1) := by decide +kernel
theorem d_W_law_2662 : decode (mMc M_W_law) 2662 = .ok (.invokevirtual 335, 3) := by decide +kernel
theorem d_W_law_2665 : decode (mMc M_W_law) 2665 = .ok (.f2d, 1) := by decide +kernel
theorem d_W_law_2666 : decode (mMc M_W_law) 2666 = .ok (.dstore 8, 2) := by decide +kernel
theorem d_W_law_2668 : decode (mMc M_W_law) 2668 = .ok (.dload 6, 2) := by decide +kernel
theorem d_W_law_2670 : decode (mMc M_W_law) 2670 = .ok (.dload 8, 2) := by decide +kernel
theorem d_W_law_2672 : decode (mMc M_W_law) 2672 = .ok (.dcmp .l, 1) := by decide +kernel
theorem d_W_law_2673 : decode (mMc M_W_law) 2673 = .ok (.ifCond .eq 21, 3) := by decide +kernel
theorem d_W_law_2676 : decode (mMc M_W_law) 2676 = .ok (.dload 6, 2) := by decide +kernel
theorem d_W_law_2678 : decode (mMc M_W_law) 2678 = .ok (.dload 6, 2) := by decide +kernel
theorem d_W_law_2680 : decode (mMc M_W_law) 2680 = .ok (.dcmp .l, 1) := by decide +kernel
theorem d_W_law_2681 : decode (mMc M_W_law) 2681 = .ok (.ifCond .eq 11, 3) := by decide +kernel
theorem d_W_law_2684 : decode (mMc M_W_law) 2684 = .ok (.dload 8, 2) := by decide +kernel
theorem d_W_law_2686 : decode (mMc M_W_law) 2686 = .ok (.dload 8, 2) := by decide +kernel
theorem d_W_law_2688 : decode (mMc M_W_law) 2688 = .ok (.dcmp .l, 1) := by decide +kernel
theorem d_W_law_2689 : decode (mMc M_W_law) 2689 = .ok (.ifCond .ne 5, 3) := by decide +kernel
theorem d_W_law_2692 : decode (mMc M_W_law) 2692 = .ok (.iconst 0, 1) := by decide +kernel
theorem d_W_law_2693 : decode (mMc M_W_law) 2693 = .ok (.ireturn, 1) := by decide +kernel
theorem d_W_law_2694 : decode (mMc M_W_law) 2694 = .ok (.goto 117, 3) := by decide +kernel
theorem d_W_law_2697 : decode (mMc M_W_law) 2697 = .ok (.aload_n 1, 1) := by decide +kernel
theorem d_W_law_2698 : decode (mMc M_W_law) 2698 = .ok (.invokevirtual 336, 3) := by decide +kernel
theorem d_W_law_2701 : decode (mMc M_W_law) 2701 = .ok (.aload_n 2, 1) := by decide +kernel
theorem d_W_law_2702 : decode (mMc M_W_law) 2702 = .ok (.invokevirtual 339, 3) := by decide +kernel
theorem d_W_law_2705 : decode (mMc M_W_law) 2705 = .ok (.if_icmp .eq 106, 3) := by decide +kernel
theorem d_W_law_2708 : decode (mMc M_W_law) 2708 = .ok (.iconst 0, 1) := by decide +kernel
theorem d_W_law_2709 : decode (mMc M_W_law) 2709 = .ok (.ireturn, 1) := by decide +kernel
theorem d_W_law_2710 : decode (mMc M_W_law) 2710 = .ok (.aload_n 1, 1) := by decide +kernel
theorem d_W_law_2711 : decode (mMc M_W_law) 2711 = .ok (.aload_n 3, 1) := by decide +kernel
theorem d_W_law_2712 : decode (mMc M_W_law) 2712 = .ok (.invokestatic 340, 3) := by decide +kernel
theorem d_W_law_2715 : decode (mMc M_W_law) 2715 = .ok (.istore 6, 2) := by decide +kernel
theorem d_W_law_2717 : decode (mMc M_W_law) 2717 = .ok (.aload_n 2, 1) := by decide +kernel
theorem d_W_law_2718 : decode (mMc M_W_law) 2718 = .ok (.invokevirtual 342, 3) := by decide +kernel
theorem d_W_law_2721 : decode (mMc M_W_law) 2721 = .ok (.istore 7, 2) := by decide +kernel
theorem d_W_law_2723 : decode (mMc M_W_law) 2723 = .ok (.aload_n 2, 1) := by decide +kernel
theorem d_W_law_2724 : decode (mMc M_W_law) 2724 = .ok (.invokevirtual 161, 3) := by decide +kernel
theorem d_W_law_2727 : decode (mMc M_W_law) 2727 = .ok (.iload 6, 2) := by decide +kernel
theorem d_W_law_2729 : decode (mMc M_W_law) 2729 = .ok (.if_icmp .eq 5, 3) := by decide +kernel
theorem d_W_law_2732 : decode (mMc M_W_law) 2732 = .ok (.iconst 0, 1) := by decide +kernel
theorem d_W_law_2733 : decode (mMc M_W_law) 2733 = .ok (.ireturn, 1) := by decide +kernel
theorem d_W_law_2734 : decode (mMc M_W_law) 2734 = .ok (.iload 6, 2) := by decide +kernel
theorem d_W_law_2736 : decode (mMc M_W_law) 2736 = .ok (.ifCond .ne 15, 3) := by decide +kernel
theorem d_W_law_2739 : decode (mMc M_W_law) 2739 = .ok (.aload_n 3, 1) := by decide +kernel
theorem d_W_law_2740 : decode (mMc M_W_law) 2740 = .ok (.iconst 0, 1) := by decide +kernel
theorem d_W_law_2741 : decode (mMc M_W_law) 2741 = .ok (.laload, 1) := by decide +kernel
theorem d_W_law_2742 : decode (mMc M_W_law) 2742 = .ok (.iload 7, 2) := by decide +kernel
theorem d_W_law_2744 : decode (mMc M_W_law) 2744 = .ok (.i2l, 1) := by decide +kernel
theorem d_W_law_2745 : decode (mMc M_W_law) 2745 = .ok (.lcmp, 1) := by decide +kernel
theorem d_W_law_2746 : decode (mMc M_W_law) 2746 = .ok (.ifCond .eq 5, 3) := by decide +kernel
theorem d_W_law_2749 : decode (mMc M_W_law) 2749 = .ok (.iconst 0, 1) := by decide +kernel
theorem d_W_law_2750 : decode (mMc M_W_law) 2750 = .ok (.ireturn, 1) := by decide +kernel
theorem d_W_law_2751 : decode (mMc M_W_law) 2751 = .ok (.goto 60, 3) := by decide +kernel
theorem d_W_law_2754 : decode (mMc M_W_law) 2754 = .ok (.aload_n 1, 1) := by decide +kernel
theorem d_W_law_2755 : decode (mMc M_W_law) 2755 = .ok (.invokevirtual 343, 3) := by decide +kernel
theorem d_W_law_2758 : decode (mMc M_W_law) 2758 = .ok (.aload_n 2, 1) := by decide +kernel
theorem d_W_law_2759 : decode (mMc M_W_law) 2759 = .ok (.invokevirtual 346, 3) := by decide +kernel
theorem d_W_law_2762 : decode (mMc M_W_law) 2762 = .ok (.if_icmp .eq 49, 3) := by decide +kernel
theorem d_W_law_2765 : decode (mMc M_W_law) 2765 = .ok (.iconst 0, 1) := by decide +kernel
theorem d_W_law_2766 : decode (mMc M_W_law) 2766 = .ok (.ireturn, 1) := by decide +kernel
theorem d_W_law_2767 : decode (mMc M_W_law) 2767 = .ok (.aload_n 1, 1) := by decide +kernel
theorem d_W_law_2768 : decode (mMc M_W_law) 2768 = .ok (.aload_n 3, 1) := by decide +kernel
theorem d_W_law_2769 : decode (mMc M_W_law) 2769 = .ok (.invokestatic 347, 3) := by decide +kernel
theorem d_W_law_2772 : decode (mMc M_W_law) 2772 = .ok (.istore 6, 2) := by decide +kernel
theorem d_W_law_2774 : decode (mMc M_W_law) 2774 = .ok (.aload_n 2, 1) := by decide +kernel
theorem d_W_law_2775 : decode (mMc M_W_law) 2775 = .ok (.invokevirtual 349, 3) := by decide +kernel
theorem d_W_law_2778 : decode (mMc M_W_law) 2778 = .ok (.istore 7, 2) := by decide +kernel
theorem d_W_law_2780 : decode (mMc M_W_law) 2780 = .ok (.aload_n 2, 1) := by decide +kernel
theorem d_W_law_2781 : decode (mMc M_W_law) 2781 = .ok (.invokevirtual 161, 3) := by decide +kernel
theorem d_W_law_2784 : decode (mMc M_W_law) 2784 = .ok (.iload 6, 2) := by decide +kernel
theorem d_W_law_2786 : decode (mMc M_W_law) 2786 = .ok (.if_icmp .eq 5, 3) := by decide +kernel
theorem d_W_law_2789 : decode (mMc M_W_law) 2789 = .ok (.iconst 0, 1) := by decide +kernel
theorem d_W_law_2790 : decode (mMc M_W_law) 2790 = .ok (.ireturn, 1) := by decide +kernel
theorem d_W_law_2791 : decode (mMc M_W_law) 2791 = .ok (.iload 6, 2) := by decide +kernel
theorem d_W_law_2793 : decode (mMc M_W_law) 2793 = .ok (.ifCond .ne 15, 3) := by decide +kernel
theorem d_W_law_2796 : decode (mMc M_W_law) 2796 = .ok (.aload_n 3, 1) := by decide +kernel
theorem d_W_law_2797 : decode (mMc M_W_law) 2797 = .ok (.iconst 0, 1) := by decide +kernel
theorem d_W_law_2798 : decode (mMc M_W_law) 2798 = .ok (.laload, 1) := by decide +kernel
theorem d_W_law_2799 : decode (mMc M_W_law) 2799 = .ok (.iload 7, 2) := by decide +kernel
theorem d_W_law_2801 : decode (mMc M_W_law) 2801 = .ok (.i2l, 1) := by decide +kernel
theorem d_W_law_2802 : decode (mMc M_W_law) 2802 = .ok (.lcmp, 1) := by decide +kernel
theorem d_W_law_2803 : decode (mMc M_W_law) 2803 = .ok (.ifCond .eq 5, 3) := by decide +kernel
theorem d_W_law_2806 : decode (mMc M_W_law) 2806 = .ok (.iconst 0, 1) := by decide +kernel
theorem d_W_law_2807 : decode (mMc M_W_law) 2807 = .ok (.ireturn, 1) := by decide +kernel
theorem d_W_law_2808 : decode (mMc M_W_law) 2808 = .ok (.goto 3, 3) := by decide +kernel
theorem d_W_law_2811 : decode (mMc M_W_law) 2811 = .ok (.iinc 5 4, 3) := by decide +kernel
theorem d_W_law_2814 : decode (mMc M_W_law) 2814 = .ok (.goto (-2786), 3) := by decide +kernel
theorem d_W_law_2817 : decode (mMc M_W_law) 2817 = .ok (.iconst 1, 1) := by decide +kernel
theorem d_W_law_2818 : decode (mMc M_W_law) 2818 = .ok (.ireturn, 1) := by decide +kernel
