/-! methods, instructions, what a caller asks -/
def M_E_byFormula : mM := (⟨"FloatingDock$Sea", "byFormula", "(I)I"⟩, prog_10_method_3_code, 2, (some .int), [])
theorem d_E_byFormula_0 : decode (mMc M_E_byFormula) 0 = .ok (.iload_n 0, 1) := by decide +kernel
theorem d_E_byFormula_1 : decode (mMc M_E_byFormula) 1 = .ok (.bipush 12, 2) := by decide +kernel
theorem d_E_byFormula_3 : decode (mMc M_E_byFormula) 3 = .ok (.irem, 1) := by decide +kernel
theorem d_E_byFormula_4 : decode (mMc M_E_byFormula) 4 = .ok (.istore_n 1, 1) := by decide +kernel
theorem d_E_byFormula_5 : decode (mMc M_E_byFormula) 5 = .ok (.iload_n 1, 1) := by decide +kernel
theorem d_E_byFormula_6 : decode (mMc M_E_byFormula) 6 = .ok (.bipush 6, 2) := by decide +kernel
theorem d_E_byFormula_8 : decode (mMc M_E_byFormula) 8 = .ok (.if_icmp .gt 13, 3) := by decide +kernel
theorem d_E_byFormula_11 : decode (mMc M_E_byFormula) 11 = .ok (.bipush 40, 2) := by decide +kernel
theorem d_E_byFormula_13 : decode (mMc M_E_byFormula) 13 = .ok (.bipush 20, 2) := by decide +kernel
theorem d_E_byFormula_15 : decode (mMc M_E_byFormula) 15 = .ok (.iload_n 1, 1) := by decide +kernel
theorem d_E_byFormula_16 : decode (mMc M_E_byFormula) 16 = .ok (.imul, 1) := by decide +kernel
theorem d_E_byFormula_17 : decode (mMc M_E_byFormula) 17 = .ok (.iadd, 1) := by decide +kernel
theorem d_E_byFormula_18 : decode (mMc M_E_byFormula) 18 = .ok (.goto 14, 3) := by decide +kernel
theorem d_E_byFormula_21 : decode (mMc M_E_byFormula) 21 = .ok (.sipush 160, 3) := by decide +kernel
theorem d_E_byFormula_24 : decode (mMc M_E_byFormula) 24 = .ok (.bipush 20, 2) := by decide +kernel
theorem d_E_byFormula_26 : decode (mMc M_E_byFormula) 26 = .ok (.iload_n 1, 1) := by decide +kernel
theorem d_E_byFormula_27 : decode (mMc M_E_byFormula) 27 = .ok (.bipush 6, 2) := by decide +kernel
theorem d_E_byFormula_29 : decode (mMc M_E_byFormula) 29 = .ok (.isub, 1) := by decide +kernel
theorem d_E_byFormula_30 : decode (mMc M_E_byFormula) 30 = .ok (.imul, 1) := by decide +kernel
theorem d_E_byFormula_31 : decode (mMc M_E_byFormula) 31 = .ok (.isub, 1) := by decide +kernel
theorem d_E_byFormula_32 : decode (mMc M_E_byFormula) 32 = .ok (.ireturn, 1) := by decide +kernel
theorem k_E_byFormula : mCd M_E_byFormula 1 := ⟨by decide, by decide, by decide +kernel, by decide, mG (3, 149) (by decide +kernel), mG (1, 24) (by decide +kernel)⟩
def M_E_checkHour : mM := (⟨"FloatingDock$Sea", "checkHour", "(I)V"⟩, prog_10_method_2_code, 1, none, [])
theorem d_E_checkHour_0 : decode (mMc M_E_checkHour) 0 = .ok (.iload_n 0, 1) := by decide +kernel
theorem d_E_checkHour_1 : decode (mMc M_E_checkHour) 1 = .ok (.ifCond .lt 10, 3) := by decide +kernel
theorem d_E_checkHour_4 : decode (mMc M_E_checkHour) 4 = .ok (.iload_n 0, 1) := by decide +kernel
theorem d_E_checkHour_5 : decode (mMc M_E_checkHour) 5 = .ok (.sipush 9999, 3) := by decide +kernel
theorem d_E_checkHour_8 : decode (mMc M_E_checkHour) 8 = .ok (.if_icmp .le 13, 3) := by decide +kernel
theorem d_E_checkHour_11 : decode (mMc M_E_checkHour) 11 = .ok (.new 9, 3) := by decide +kernel
theorem d_E_checkHour_14 : decode (mMc M_E_checkHour) 14 = .ok (.dup, 1) := by decide +kernel
theorem d_E_checkHour_15 : decode (mMc M_E_checkHour) 15 = .ok (.ldc 11, 2) := by decide +kernel
theorem d_E_checkHour_17 : decode (mMc M_E_checkHour) 17 = .ok (.invokespecial 13, 3) := by decide +kernel
theorem d_E_checkHour_20 : decode (mMc M_E_checkHour) 20 = .ok (.athrow, 1) := by decide +kernel
theorem d_E_checkHour_21 : decode (mMc M_E_checkHour) 21 = .ok (.return_, 1) := by decide +kernel
theorem k_E_checkHour : mCd M_E_checkHour 1 := ⟨by decide, by decide, by decide +kernel, by decide, mG (5, 231) (by decide +kernel), mG (1, 24) (by decide +kernel)⟩
def M_E_agreesFrom : mM := (⟨"FloatingDock$Sea", "agreesFrom", "(I)Z"⟩, prog_10_method_6_code, 3, (some .boolean), [])
theorem d_E_agreesFrom_0 : decode (mMc M_E_agreesFrom) 0 = .ok (.iload_n 0, 1) := by decide +kernel
theorem d_E_agreesFrom_1 : decode (mMc M_E_agreesFrom) 1 = .ok (.invokestatic 20, 3) := by decide +kernel
theorem d_E_agreesFrom_4 : decode (mMc M_E_agreesFrom) 4 = .ok (.istore_n 1, 1) := by decide +kernel
theorem d_E_agreesFrom_5 : decode (mMc M_E_agreesFrom) 5 = .ok (.iconst 0, 1) := by decide +kernel
theorem d_E_agreesFrom_6 : decode (mMc M_E_agreesFrom) 6 = .ok (.istore_n 2, 1) := by decide +kernel
theorem d_E_agreesFrom_7 : decode (mMc M_E_agreesFrom) 7 = .ok (.iload_n 2, 1) := by decide +kernel
theorem d_E_agreesFrom_8 : decode (mMc M_E_agreesFrom) 8 = .ok (.bipush 24, 2) := by decide +kernel
theorem d_E_agreesFrom_10 : decode (mMc M_E_agreesFrom) 10 = .ok (.if_icmp .gt 30, 3) := by decide +kernel
theorem d_E_agreesFrom_13 : decode (mMc M_E_agreesFrom) 13 = .ok (.iload_n 1, 1) := by decide +kernel
theorem d_E_agreesFrom_14 : decode (mMc M_E_agreesFrom) 14 = .ok (.iload_n 0, 1) := by decide +kernel
theorem d_E_agreesFrom_15 : decode (mMc M_E_agreesFrom) 15 = .ok (.iload_n 2, 1) := by decide +kernel
theorem d_E_agreesFrom_16 : decode (mMc M_E_agreesFrom) 16 = .ok (.iadd, 1) := by decide +kernel
theorem d_E_agreesFrom_17 : decode (mMc M_E_agreesFrom) 17 = .ok (.invokestatic 23, 3) := by decide +kernel
theorem d_E_agreesFrom_20 : decode (mMc M_E_agreesFrom) 20 = .ok (.if_icmp .eq 5, 3) := by decide +kernel
theorem d_E_agreesFrom_23 : decode (mMc M_E_agreesFrom) 23 = .ok (.iconst 0, 1) := by decide +kernel
theorem d_E_agreesFrom_24 : decode (mMc M_E_agreesFrom) 24 = .ok (.ireturn, 1) := by decide +kernel
theorem d_E_agreesFrom_25 : decode (mMc M_E_agreesFrom) 25 = .ok (.iload_n 1, 1) := by decide +kernel
theorem d_E_agreesFrom_26 : decode (mMc M_E_agreesFrom) 26 = .ok (.iload_n 0, 1) := by decide +kernel
theorem d_E_agreesFrom_27 : decode (mMc M_E_agreesFrom) 27 = .ok (.iload_n 2, 1) := by decide +kernel
theorem d_E_agreesFrom_28 : decode (mMc M_E_agreesFrom) 28 = .ok (.iadd, 1) := by decide +kernel
theorem d_E_agreesFrom_29 : decode (mMc M_E_agreesFrom) 29 = .ok (.invokestatic 16, 3) := by decide +kernel
theorem d_E_agreesFrom_32 : decode (mMc M_E_agreesFrom) 32 = .ok (.iadd, 1) := by decide +kernel
theorem d_E_agreesFrom_33 : decode (mMc M_E_agreesFrom) 33 = .ok (.istore_n 1, 1) := by decide +kernel
theorem d_E_agreesFrom_34 : decode (mMc M_E_agreesFrom) 34 = .ok (.iinc 2 1, 3) := by decide +kernel
theorem d_E_agreesFrom_37 : decode (mMc M_E_agreesFrom) 37 = .ok (.goto (-30), 3) := by decide +kernel
theorem d_E_agreesFrom_40 : decode (mMc M_E_agreesFrom) 40 = .ok (.iconst 1, 1) := by decide +kernel
theorem d_E_agreesFrom_41 : decode (mMc M_E_agreesFrom) 41 = .ok (.ireturn, 1) := by decide +kernel
theorem k_E_agreesFrom : mCd M_E_agreesFrom 1 := ⟨by decide, by decide, by decide +kernel, by decide, mG (6, 230) (by decide +kernel), mG (1, 24) (by decide +kernel)⟩
def M_E_byHours : mM := (⟨"FloatingDock$Sea", "byHours", "(I)I"⟩, prog_10_method_4_code, 3, (some .int), [])
theorem d_E_byHours_0 : decode (mMc M_E_byHours) 0 = .ok (.bipush 40, 2) := by decide +kernel
theorem d_E_byHours_2 : decode (mMc M_E_byHours) 2 = .ok (.istore_n 1, 1) := by decide +kernel
theorem d_E_byHours_3 : decode (mMc M_E_byHours) 3 = .ok (.iconst 0, 1) := by decide +kernel
theorem d_E_byHours_4 : decode (mMc M_E_byHours) 4 = .ok (.istore_n 2, 1) := by decide +kernel
theorem d_E_byHours_5 : decode (mMc M_E_byHours) 5 = .ok (.iload_n 2, 1) := by decide +kernel
theorem d_E_byHours_6 : decode (mMc M_E_byHours) 6 = .ok (.iload_n 0, 1) := by decide +kernel
theorem d_E_byHours_7 : decode (mMc M_E_byHours) 7 = .ok (.if_icmp .ge 16, 3) := by decide +kernel
theorem d_E_byHours_10 : decode (mMc M_E_byHours) 10 = .ok (.iload_n 1, 1) := by decide +kernel
theorem d_E_byHours_11 : decode (mMc M_E_byHours) 11 = .ok (.iload_n 2, 1) := by decide +kernel
theorem d_E_byHours_12 : decode (mMc M_E_byHours) 12 = .ok (.invokestatic 16, 3) := by decide +kernel
theorem d_E_byHours_15 : decode (mMc M_E_byHours) 15 = .ok (.iadd, 1) := by decide +kernel
theorem d_E_byHours_16 : decode (mMc M_E_byHours) 16 = .ok (.istore_n 1, 1) := by decide +kernel
theorem d_E_byHours_17 : decode (mMc M_E_byHours) 17 = .ok (.iinc 2 1, 3) := by decide +kernel
theorem d_E_byHours_20 : decode (mMc M_E_byHours) 20 = .ok (.goto (-15), 3) := by decide +kernel
theorem d_E_byHours_23 : decode (mMc M_E_byHours) 23 = .ok (.iload_n 1, 1) := by decide +kernel
theorem d_E_byHours_24 : decode (mMc M_E_byHours) 24 = .ok (.ireturn, 1) := by decide +kernel
theorem k_E_byHours : mCd M_E_byHours 1 := ⟨by decide, by decide, by decide +kernel, by decide, mG (6, 233) (by decide +kernel), mG (1, 24) (by decide +kernel)⟩
def M_E_stepAfter : mM := (⟨"FloatingDock$Sea", "stepAfter", "(I)I"⟩, prog_10_method_5_code, 1, (some .int), [])
theorem d_E_stepAfter_0 : decode (mMc M_E_stepAfter) 0 = .ok (.iload_n 0, 1) := by decide +kernel
theorem d_E_stepAfter_1 : decode (mMc M_E_stepAfter) 1 = .ok (.bipush 12, 2) := by decide +kernel
theorem d_E_stepAfter_3 : decode (mMc M_E_stepAfter) 3 = .ok (.irem, 1) := by decide +kernel
theorem d_E_stepAfter_4 : decode (mMc M_E_stepAfter) 4 = .ok (.bipush 6, 2) := by decide +kernel
theorem d_E_stepAfter_6 : decode (mMc M_E_stepAfter) 6 = .ok (.if_icmp .ge 8, 3) := by decide +kernel
theorem d_E_stepAfter_9 : decode (mMc M_E_stepAfter) 9 = .ok (.bipush 20, 2) := by decide +kernel
theorem d_E_stepAfter_11 : decode (mMc M_E_stepAfter) 11 = .ok (.goto 5, 3) := by decide +kernel
theorem d_E_stepAfter_14 : decode (mMc M_E_stepAfter) 14 = .ok (.bipush (-20), 2) := by decide +kernel
theorem d_E_stepAfter_16 : decode (mMc M_E_stepAfter) 16 = .ok (.ireturn, 1) := by decide +kernel
theorem k_E_stepAfter : mCd M_E_stepAfter 1 := ⟨by decide, by decide, by decide +kernel, by decide, mG (6, 236) (by decide +kernel), mG (1, 24) (by decide +kernel)⟩
def M_S_init : mM := (⟨"FloatingDock$Ship", "<init>", "()V"⟩, prog_11_method_1_code, 1, none, [])
theorem d_S_init_0 : decode (mMc M_S_init) 0 = .ok (.aload_n 0, 1) := by decide +kernel
theorem d_S_init_1 : decode (mMc M_S_init) 1 = .ok (.invokespecial 1, 3) := by decide +kernel
theorem d_S_init_4 : decode (mMc M_S_init) 4 = .ok (.aload_n 0, 1) := by decide +kernel
theorem d_S_init_5 : decode (mMc M_S_init) 5 = .ok (.iconst (-1), 1) := by decide +kernel
theorem d_S_init_6 : decode (mMc M_S_init) 6 = .ok (.putfield 9, 3) := by decide +kernel
theorem d_S_init_9 : decode (mMc M_S_init) 9 = .ok (.return_, 1) := by decide +kernel
theorem k_S_init : mCd M_S_init 0 := ⟨by decide, by decide, by decide +kernel, by decide, mG (1, 61) (by decide +kernel), mG (1, 4) (by decide +kernel)⟩
def M_S_copyFrom : mM := (⟨"FloatingDock$Ship", "copyFrom", "(LFloatingDock$Ship;)V"⟩, prog_11_method_3_code, 2, none, [])
theorem d_S_copyFrom_0 : decode (mMc M_S_copyFrom) 0 = .ok (.aload_n 0, 1) := by decide +kernel
theorem d_S_copyFrom_1 : decode (mMc M_S_copyFrom) 1 = .ok (.aload_n 1, 1) := by decide +kernel
theorem d_S_copyFrom_2 : decode (mMc M_S_copyFrom) 2 = .ok (.getfield 13, 3) := by decide +kernel
theorem d_S_copyFrom_5 : decode (mMc M_S_copyFrom) 5 = .ok (.aload_n 1, 1) := by decide +kernel
theorem d_S_copyFrom_6 : decode (mMc M_S_copyFrom) 6 = .ok (.getfield 16, 3) := by decide +kernel
theorem d_S_copyFrom_9 : decode (mMc M_S_copyFrom) 9 = .ok (.aload_n 1, 1) := by decide +kernel
theorem d_S_copyFrom_10 : decode (mMc M_S_copyFrom) 10 = .ok (.getfield 19, 3) := by decide +kernel
theorem d_S_copyFrom_13 : decode (mMc M_S_copyFrom) 13 = .ok (.aload_n 1, 1) := by decide +kernel
theorem d_S_copyFrom_14 : decode (mMc M_S_copyFrom) 14 = .ok (.getfield 22, 3) := by decide +kernel
theorem d_S_copyFrom_17 : decode (mMc M_S_copyFrom) 17 = .ok (.invokevirtual 38, 3) := by decide +kernel
theorem d_S_copyFrom_20 : decode (mMc M_S_copyFrom) 20 = .ok (.aload_n 0, 1) := by decide +kernel
theorem d_S_copyFrom_21 : decode (mMc M_S_copyFrom) 21 = .ok (.aload_n 1, 1) := by decide +kernel
theorem d_S_copyFrom_22 : decode (mMc M_S_copyFrom) 22 = .ok (.getfield 25, 3) := by decide +kernel
theorem d_S_copyFrom_25 : decode (mMc M_S_copyFrom) 25 = .ok (.putfield 25, 3) := by decide +kernel
theorem d_S_copyFrom_28 : decode (mMc M_S_copyFrom) 28 = .ok (.aload_n 0, 1) := by decide +kernel
theorem d_S_copyFrom_29 : decode (mMc M_S_copyFrom) 29 = .ok (.aload_n 1, 1) := by decide +kernel
theorem d_S_copyFrom_30 : decode (mMc M_S_copyFrom) 30 = .ok (.getfield 28, 3) := by decide +kernel
theorem d_S_copyFrom_33 : decode (mMc M_S_copyFrom) 33 = .ok (.putfield 28, 3) := by decide +kernel
theorem d_S_copyFrom_36 : decode (mMc M_S_copyFrom) 36 = .ok (.aload_n 0, 1) := by decide +kernel
theorem d_S_copyFrom_37 : decode (mMc M_S_copyFrom) 37 = .ok (.aload_n 1, 1) := by decide +kernel
theorem d_S_copyFrom_38 : decode (mMc M_S_copyFrom) 38 = .ok (.getfield 31, 3) := by decide +kernel
theorem d_S_copyFrom_41 : decode (mMc M_S_copyFrom) 41 = .ok (.putfield 31, 3) := by decide +kernel
theorem d_S_copyFrom_44 : decode (mMc M_S_copyFrom) 44 = .ok (.aload_n 0, 1) := by decide +kernel
theorem d_S_copyFrom_45 : decode (mMc M_S_copyFrom) 45 = .ok (.aload_n 1, 1) := by decide +kernel
theorem d_S_copyFrom_46 : decode (mMc M_S_copyFrom) 46 = .ok (.getfield 9, 3) := by decide +kernel
theorem d_S_copyFrom_49 : decode (mMc M_S_copyFrom) 49 = .ok (.putfield 9, 3) := by decide +kernel
theorem d_S_copyFrom_52 : decode (mMc M_S_copyFrom) 52 = .ok (.aload_n 0, 1) := by decide +kernel
theorem d_S_copyFrom_53 : decode (mMc M_S_copyFrom) 53 = .ok (.aload_n 1, 1) := by decide +kernel
theorem d_S_copyFrom_54 : decode (mMc M_S_copyFrom) 54 = .ok (.getfield 34, 3) := by decide +kernel
theorem d_S_copyFrom_57 : decode (mMc M_S_copyFrom) 57 = .ok (.putfield 34, 3) := by decide +kernel
theorem d_S_copyFrom_60 : decode (mMc M_S_copyFrom) 60 = .ok (.return_, 1) := by decide +kernel
theorem k_S_copyFrom : mCd M_S_copyFrom 1 := ⟨by decide, by decide, by decide +kernel, by decide, mG (2, 124) (by decide +kernel), mG (1, 4) (by decide +kernel)⟩
def M_S_begin : mM := (⟨"FloatingDock$Ship", "begin", "(IIII)V"⟩, prog_11_method_2_code, 5, none, [])
theorem d_S_begin_0 : decode (mMc M_S_begin) 0 = .ok (.aload_n 0, 1) := by decide +kernel
theorem d_S_begin_1 : decode (mMc M_S_begin) 1 = .ok (.iload_n 1, 1) := by decide +kernel
theorem d_S_begin_2 : decode (mMc M_S_begin) 2 = .ok (.putfield 13, 3) := by decide +kernel
theorem d_S_begin_5 : decode (mMc M_S_begin) 5 = .ok (.aload_n 0, 1) := by decide +kernel
theorem d_S_begin_6 : decode (mMc M_S_begin) 6 = .ok (.iload_n 2, 1) := by decide +kernel
theorem d_S_begin_7 : decode (mMc M_S_begin) 7 = .ok (.putfield 16, 3) := by decide +kernel
theorem d_S_begin_10 : decode (mMc M_S_begin) 10 = .ok (.aload_n 0, 1) := by decide +kernel
theorem d_S_begin_11 : decode (mMc M_S_begin) 11 = .ok (.iload_n 3, 1) := by decide +kernel
theorem d_S_begin_12 : decode (mMc M_S_begin) 12 = .ok (.putfield 19, 3) := by decide +kernel
theorem d_S_begin_15 : decode (mMc M_S_begin) 15 = .ok (.aload_n 0, 1) := by decide +kernel
theorem d_S_begin_16 : decode (mMc M_S_begin) 16 = .ok (.iload 4, 2) := by decide +kernel
theorem d_S_begin_18 : decode (mMc M_S_begin) 18 = .ok (.putfield 22, 3) := by decide +kernel
theorem d_S_begin_21 : decode (mMc M_S_begin) 21 = .ok (.aload_n 0, 1) := by decide +kernel
theorem d_S_begin_22 : decode (mMc M_S_begin) 22 = .ok (.iconst 0, 1) := by decide +kernel
theorem d_S_begin_23 : decode (mMc M_S_begin) 23 = .ok (.putfield 25, 3) := by decide +kernel
theorem d_S_begin_26 : decode (mMc M_S_begin) 26 = .ok (.aload_n 0, 1) := by decide +kernel
theorem d_S_begin_27 : decode (mMc M_S_begin) 27 = .ok (.iconst 0, 1) := by decide +kernel
theorem d_S_begin_28 : decode (mMc M_S_begin) 28 = .ok (.putfield 28, 3) := by decide +kernel
theorem d_S_begin_31 : decode (mMc M_S_begin) 31 = .ok (.aload_n 0, 1) := by decide +kernel
theorem d_S_begin_32 : decode (mMc M_S_begin) 32 = .ok (.iconst 0, 1) := by decide +kernel
theorem d_S_begin_33 : decode (mMc M_S_begin) 33 = .ok (.putfield 31, 3) := by decide +kernel
theorem d_S_begin_36 : decode (mMc M_S_begin) 36 = .ok (.aload_n 0, 1) := by decide +kernel
theorem d_S_begin_37 : decode (mMc M_S_begin) 37 = .ok (.iconst (-1), 1) := by decide +kernel
theorem d_S_begin_38 : decode (mMc M_S_begin) 38 = .ok (.putfield 9, 3) := by decide +kernel
theorem d_S_begin_41 : decode (mMc M_S_begin) 41 = .ok (.aload_n 0, 1) := by decide +kernel
theorem d_S_begin_42 : decode (mMc M_S_begin) 42 = .ok (.iconst 0, 1) := by decide +kernel
theorem d_S_begin_43 : decode (mMc M_S_begin) 43 = .ok (.putfield 34, 3) := by decide +kernel
theorem d_S_begin_46 : decode (mMc M_S_begin) 46 = .ok (.return_, 1) := by decide +kernel
theorem k_S_begin : mCd M_S_begin 4 := ⟨by decide, by decide, by decide +kernel, by decide, mG (2, 128) (by decide +kernel), mG (1, 4) (by decide +kernel)⟩
def M_S_isDocked : mM := (⟨"FloatingDock$Ship", "isDocked", "()Z"⟩, prog_11_method_4_code, 1, (some .boolean), [])
theorem d_S_isDocked_0 : decode (mMc M_S_isDocked) 0 = .ok (.aload_n 0, 1) := by decide +kernel
theorem d_S_isDocked_1 : decode (mMc M_S_isDocked) 1 = .ok (.getfield 9, 3) := by decide +kernel
theorem d_S_isDocked_4 : decode (mMc M_S_isDocked) 4 = .ok (.iconst (-1), 1) := by decide +kernel
theorem d_S_isDocked_5 : decode (mMc M_S_isDocked) 5 = .ok (.if_icmp .eq 7, 3) := by decide +kernel
theorem d_S_isDocked_8 : decode (mMc M_S_isDocked) 8 = .ok (.iconst 1, 1) := by decide +kernel
theorem d_S_isDocked_9 : decode (mMc M_S_isDocked) 9 = .ok (.goto 4, 3) := by decide +kernel
theorem d_S_isDocked_12 : decode (mMc M_S_isDocked) 12 = .ok (.iconst 0, 1) := by decide +kernel
theorem d_S_isDocked_13 : decode (mMc M_S_isDocked) 13 = .ok (.ireturn, 1) := by decide +kernel
theorem k_S_isDocked : mCd M_S_isDocked 0 := ⟨by decide, by decide, by decide +kernel, by decide, mG (3, 31) (by decide +kernel), mG (1, 4) (by decide +kernel)⟩
def M_S_overlaps : mM := (⟨"FloatingDock$Ship", "overlaps", "(II)Z"⟩, prog_11_method_7_code, 3, (some .boolean), [])
theorem d_S_overlaps_0 : decode (mMc M_S_overlaps) 0 = .ok (.aload_n 0, 1) := by decide +kernel
theorem d_S_overlaps_1 : decode (mMc M_S_overlaps) 1 = .ok (.getfield 9, 3) := by decide +kernel
theorem d_S_overlaps_4 : decode (mMc M_S_overlaps) 4 = .ok (.iconst (-1), 1) := by decide +kernel
theorem d_S_overlaps_5 : decode (mMc M_S_overlaps) 5 = .ok (.if_icmp .eq 30, 3) := by decide +kernel
theorem d_S_overlaps_8 : decode (mMc M_S_overlaps) 8 = .ok (.aload_n 0, 1) := by decide +kernel
theorem d_S_overlaps_9 : decode (mMc M_S_overlaps) 9 = .ok (.getfield 9, 3) := by decide +kernel
theorem d_S_overlaps_12 : decode (mMc M_S_overlaps) 12 = .ok (.iload_n 1, 1) := by decide +kernel
theorem d_S_overlaps_13 : decode (mMc M_S_overlaps) 13 = .ok (.iload_n 2, 1) := by decide +kernel
theorem d_S_overlaps_14 : decode (mMc M_S_overlaps) 14 = .ok (.iadd, 1) := by decide +kernel
theorem d_S_overlaps_15 : decode (mMc M_S_overlaps) 15 = .ok (.if_icmp .ge 20, 3) := by decide +kernel
theorem d_S_overlaps_18 : decode (mMc M_S_overlaps) 18 = .ok (.iload_n 1, 1) := by decide +kernel
theorem d_S_overlaps_19 : decode (mMc M_S_overlaps) 19 = .ok (.aload_n 0, 1) := by decide +kernel
theorem d_S_overlaps_20 : decode (mMc M_S_overlaps) 20 = .ok (.getfield 9, 3) := by decide +kernel
theorem d_S_overlaps_23 : decode (mMc M_S_overlaps) 23 = .ok (.aload_n 0, 1) := by decide +kernel
theorem d_S_overlaps_24 : decode (mMc M_S_overlaps) 24 = .ok (.getfield 16, 3) := by decide +kernel
theorem d_S_overlaps_27 : decode (mMc M_S_overlaps) 27 = .ok (.iadd, 1) := by decide +kernel
theorem d_S_overlaps_28 : decode (mMc M_S_overlaps) 28 = .ok (.if_icmp .ge 7, 3) := by decide +kernel
theorem d_S_overlaps_31 : decode (mMc M_S_overlaps) 31 = .ok (.iconst 1, 1) := by decide +kernel
theorem d_S_overlaps_32 : decode (mMc M_S_overlaps) 32 = .ok (.goto 4, 3) := by decide +kernel
theorem d_S_overlaps_35 : decode (mMc M_S_overlaps) 35 = .ok (.iconst 0, 1) := by decide +kernel
theorem d_S_overlaps_36 : decode (mMc M_S_overlaps) 36 = .ok (.ireturn, 1) := by decide +kernel
theorem k_S_overlaps : mCd M_S_overlaps 2 := ⟨by decide, by decide, by decide +kernel, by decide, mG (3, 68) (by decide +kernel), mG (1, 4) (by decide +kernel)⟩
def M_S_moveTo : mM := (⟨"FloatingDock$Ship", "moveTo", "(I)V"⟩, prog_11_method_8_code, 2, none, [])
theorem d_S_moveTo_0 : decode (mMc M_S_moveTo) 0 = .ok (.aload_n 0, 1) := by decide +kernel
theorem d_S_moveTo_1 : decode (mMc M_S_moveTo) 1 = .ok (.iload_n 1, 1) := by decide +kernel
theorem d_S_moveTo_2 : decode (mMc M_S_moveTo) 2 = .ok (.putfield 9, 3) := by decide +kernel
theorem d_S_moveTo_5 : decode (mMc M_S_moveTo) 5 = .ok (.aload_n 0, 1) := by decide +kernel
theorem d_S_moveTo_6 : decode (mMc M_S_moveTo) 6 = .ok (.iconst 0, 1) := by decide +kernel
theorem d_S_moveTo_7 : decode (mMc M_S_moveTo) 7 = .ok (.putfield 34, 3) := by decide +kernel
theorem d_S_moveTo_10 : decode (mMc M_S_moveTo) 10 = .ok (.return_, 1) := by decide +kernel
theorem k_S_moveTo : mCd M_S_moveTo 1 := ⟨by decide, by decide, by decide +kernel, by decide, mG (3, 96) (by decide +kernel), mG (1, 4) (by decide +kernel)⟩
def M_S_floatsAt : mM := (⟨"FloatingDock$Ship", "floatsAt", "(I)Z"⟩, prog_11_method_5_code, 2, (some .boolean), [])
theorem d_S_floatsAt_0 : decode (mMc M_S_floatsAt) 0 = .ok (.aload_n 0, 1) := by decide +kernel
theorem d_S_floatsAt_1 : decode (mMc M_S_floatsAt) 1 = .ok (.invokevirtual 42, 3) := by decide +kernel
theorem d_S_floatsAt_4 : decode (mMc M_S_floatsAt) 4 = .ok (.ifCond .eq 11, 3) := by decide +kernel
theorem d_S_floatsAt_7 : decode (mMc M_S_floatsAt) 7 = .ok (.iload_n 1, 1) := by decide +kernel
theorem d_S_floatsAt_8 : decode (mMc M_S_floatsAt) 8 = .ok (.aload_n 0, 1) := by decide +kernel
theorem d_S_floatsAt_9 : decode (mMc M_S_floatsAt) 9 = .ok (.getfield 19, 3) := by decide +kernel
theorem d_S_floatsAt_12 : decode (mMc M_S_floatsAt) 12 = .ok (.if_icmp .lt 7, 3) := by decide +kernel
theorem d_S_floatsAt_15 : decode (mMc M_S_floatsAt) 15 = .ok (.iconst 1, 1) := by decide +kernel
theorem d_S_floatsAt_16 : decode (mMc M_S_floatsAt) 16 = .ok (.goto 4, 3) := by decide +kernel
theorem d_S_floatsAt_19 : decode (mMc M_S_floatsAt) 19 = .ok (.iconst 0, 1) := by decide +kernel
theorem d_S_floatsAt_20 : decode (mMc M_S_floatsAt) 20 = .ok (.ireturn, 1) := by decide +kernel
theorem k_S_floatsAt : mCd M_S_floatsAt 1 := ⟨by decide, by decide, by decide +kernel, by decide, mG (3, 122) (by decide +kernel), mG (1, 4) (by decide +kernel)⟩
def M_S_end : mM := (⟨"FloatingDock$Ship", "end", "()I"⟩, prog_11_method_6_code, 1, (some .int), [])
theorem d_S_end_0 : decode (mMc M_S_end) 0 = .ok (.aload_n 0, 1) := by decide +kernel
theorem d_S_end_1 : decode (mMc M_S_end) 1 = .ok (.getfield 9, 3) := by decide +kernel
theorem d_S_end_4 : decode (mMc M_S_end) 4 = .ok (.aload_n 0, 1) := by decide +kernel
theorem d_S_end_5 : decode (mMc M_S_end) 5 = .ok (.getfield 16, 3) := by decide +kernel
theorem d_S_end_8 : decode (mMc M_S_end) 8 = .ok (.iadd, 1) := by decide +kernel
theorem d_S_end_9 : decode (mMc M_S_end) 9 = .ok (.ireturn, 1) := by decide +kernel
theorem k_S_end : mCd M_S_end 0 := ⟨by decide, by decide, by decide +kernel, by decide, mG (6, 53) (by decide +kernel), mG (1, 4) (by decide +kernel)⟩
def M_S_ranksBefore : mM := (⟨"FloatingDock$Ship", "ranksBefore", "(LFloatingDock$Ship;)Z"⟩, prog_11_method_9_code, 2, (some .boolean), [])
theorem d_S_ranksBefore_0 : decode (mMc M_S_ranksBefore) 0 = .ok (.aload_n 0, 1) := by decide +kernel
theorem d_S_ranksBefore_1 : decode (mMc M_S_ranksBefore) 1 = .ok (.getfield 31, 3) := by decide +kernel
theorem d_S_ranksBefore_4 : decode (mMc M_S_ranksBefore) 4 = .ok (.aload_n 1, 1) := by decide +kernel
theorem d_S_ranksBefore_5 : decode (mMc M_S_ranksBefore) 5 = .ok (.getfield 31, 3) := by decide +kernel
theorem d_S_ranksBefore_8 : decode (mMc M_S_ranksBefore) 8 = .ok (.if_icmp .eq 20, 3) := by decide +kernel
theorem d_S_ranksBefore_11 : decode (mMc M_S_ranksBefore) 11 = .ok (.aload_n 0, 1) := by decide +kernel
theorem d_S_ranksBefore_12 : decode (mMc M_S_ranksBefore) 12 = .ok (.getfield 31, 3) := by decide +kernel
theorem d_S_ranksBefore_15 : decode (mMc M_S_ranksBefore) 15 = .ok (.aload_n 1, 1) := by decide +kernel
theorem d_S_ranksBefore_16 : decode (mMc M_S_ranksBefore) 16 = .ok (.getfield 31, 3) := by decide +kernel
theorem d_S_ranksBefore_19 : decode (mMc M_S_ranksBefore) 19 = .ok (.if_icmp .le 7, 3) := by decide +kernel
theorem d_S_ranksBefore_22 : decode (mMc M_S_ranksBefore) 22 = .ok (.iconst 1, 1) := by decide +kernel
theorem d_S_ranksBefore_23 : decode (mMc M_S_ranksBefore) 23 = .ok (.goto 4, 3) := by decide +kernel
theorem d_S_ranksBefore_26 : decode (mMc M_S_ranksBefore) 26 = .ok (.iconst 0, 1) := by decide +kernel
theorem d_S_ranksBefore_27 : decode (mMc M_S_ranksBefore) 27 = .ok (.ireturn, 1) := by decide +kernel
theorem d_S_ranksBefore_28 : decode (mMc M_S_ranksBefore) 28 = .ok (.aload_n 0, 1) := by decide +kernel
theorem d_S_ranksBefore_29 : decode (mMc M_S_ranksBefore) 29 = .ok (.getfield 22, 3) := by decide +kernel
theorem d_S_ranksBefore_32 : decode (mMc M_S_ranksBefore) 32 = .ok (.aload_n 1, 1) := by decide +kernel
theorem d_S_ranksBefore_33 : decode (mMc M_S_ranksBefore) 33 = .ok (.getfield 22, 3) := by decide +kernel
theorem d_S_ranksBefore_36 : decode (mMc M_S_ranksBefore) 36 = .ok (.if_icmp .eq 20, 3) := by decide +kernel
theorem d_S_ranksBefore_39 : decode (mMc M_S_ranksBefore) 39 = .ok (.aload_n 0, 1) := by decide +kernel
theorem d_S_ranksBefore_40 : decode (mMc M_S_ranksBefore) 40 = .ok (.getfield 22, 3) := by decide +kernel
theorem d_S_ranksBefore_43 : decode (mMc M_S_ranksBefore) 43 = .ok (.aload_n 1, 1) := by decide +kernel
theorem d_S_ranksBefore_44 : decode (mMc M_S_ranksBefore) 44 = .ok (.getfield 22, 3) := by decide +kernel
theorem d_S_ranksBefore_47 : decode (mMc M_S_ranksBefore) 47 = .ok (.if_icmp .le 7, 3) := by decide +kernel
theorem d_S_ranksBefore_50 : decode (mMc M_S_ranksBefore) 50 = .ok (.iconst 1, 1) := by decide +kernel
theorem d_S_ranksBefore_51 : decode (mMc M_S_ranksBefore) 51 = .ok (.goto 4, 3) := by decide +kernel
theorem d_S_ranksBefore_54 : decode (mMc M_S_ranksBefore) 54 = .ok (.iconst 0, 1) := by decide +kernel
theorem d_S_ranksBefore_55 : decode (mMc M_S_ranksBefore) 55 = .ok (.ireturn, 1) := by decide +kernel
theorem d_S_ranksBefore_56 : decode (mMc M_S_ranksBefore) 56 = .ok (.aload_n 0, 1) := by decide +kernel
theorem d_S_ranksBefore_57 : decode (mMc M_S_ranksBefore) 57 = .ok (.getfield 13, 3) := by decide +kernel
theorem d_S_ranksBefore_60 : decode (mMc M_S_ranksBefore) 60 = .ok (.aload_n 1, 1) := by decide +kernel
theorem d_S_ranksBefore_61 : decode (mMc M_S_ranksBefore) 61 = .ok (.getfield 13, 3) := by decide +kernel
theorem d_S_ranksBefore_64 : decode (mMc M_S_ranksBefore) 64 = .ok (.if_icmp .ge 7, 3) := by decide +kernel
theorem d_S_ranksBefore_67 : decode (mMc M_S_ranksBefore) 67 = .ok (.iconst 1, 1) := by decide +kernel
theorem d_S_ranksBefore_68 : decode (mMc M_S_ranksBefore) 68 = .ok (.goto 4, 3) := by decide +kernel
theorem d_S_ranksBefore_71 : decode (mMc M_S_ranksBefore) 71 = .ok (.iconst 0, 1) := by decide +kernel
theorem d_S_ranksBefore_72 : decode (mMc M_S_ranksBefore) 72 = .ok (.ireturn, 1) := by decide +kernel
theorem k_S_ranksBefore : mCd M_S_ranksBefore 1 := ⟨by decide, by decide, by decide +kernel, by decide, mG (6, 69) (by decide +kernel), mG (1, 4) (by decide +kernel)⟩
def M_B_init : mM := (⟨"FloatingDock$Blocks", "<init>", "()V"⟩, prog_3_method_1_code, 1, none, [])
theorem d_B_init_0 : decode (mMc M_B_init) 0 = .ok (.aload_n 0, 1) := by decide +kernel
theorem d_B_init_1 : decode (mMc M_B_init) 1 = .ok (.invokespecial 1, 3) := by decide +kernel
theorem d_B_init_4 : decode (mMc M_B_init) 4 = .ok (.aload_n 0, 1) := by decide +kernel
theorem d_B_init_5 : decode (mMc M_B_init) 5 = .ok (.bipush 20, 2) := by decide +kernel
theorem d_B_init_7 : decode (mMc M_B_init) 7 = .ok (.newarray .int, 2) := by decide +kernel
theorem d_B_init_9 : decode (mMc M_B_init) 9 = .ok (.putfield 9, 3) := by decide +kernel
theorem d_B_init_12 : decode (mMc M_B_init) 12 = .ok (.aload_n 0, 1) := by decide +kernel
theorem d_B_init_13 : decode (mMc M_B_init) 13 = .ok (.iconst 0, 1) := by decide +kernel
theorem d_B_init_14 : decode (mMc M_B_init) 14 = .ok (.putfield 13, 3) := by decide +kernel
theorem d_B_init_17 : decode (mMc M_B_init) 17 = .ok (.return_, 1) := by decide +kernel
theorem k_B_init : mCd M_B_init 0 := ⟨by decide, by decide, by decide +kernel, by decide, mG (1, 134) (by decide +kernel), mG (1, 5) (by decide +kernel)⟩
def M_B_copyFrom : mM := (⟨"FloatingDock$Blocks", "copyFrom", "(LFloatingDock$Blocks;)V"⟩, prog_3_method_2_code, 2, none, [])
theorem d_B_copyFrom_0 : decode (mMc M_B_copyFrom) 0 = .ok (.aload_n 1, 1) := by decide +kernel
theorem d_B_copyFrom_1 : decode (mMc M_B_copyFrom) 1 = .ok (.getfield 9, 3) := by decide +kernel
theorem d_B_copyFrom_4 : decode (mMc M_B_copyFrom) 4 = .ok (.iconst 0, 1) := by decide +kernel
theorem d_B_copyFrom_5 : decode (mMc M_B_copyFrom) 5 = .ok (.aload_n 0, 1) := by decide +kernel
theorem d_B_copyFrom_6 : decode (mMc M_B_copyFrom) 6 = .ok (.getfield 9, 3) := by decide +kernel
theorem d_B_copyFrom_9 : decode (mMc M_B_copyFrom) 9 = .ok (.iconst 0, 1) := by decide +kernel
theorem d_B_copyFrom_10 : decode (mMc M_B_copyFrom) 10 = .ok (.aload_n 1, 1) := by decide +kernel
theorem d_B_copyFrom_11 : decode (mMc M_B_copyFrom) 11 = .ok (.getfield 13, 3) := by decide +kernel
theorem d_B_copyFrom_14 : decode (mMc M_B_copyFrom) 14 = .ok (.invokestatic 17, 3) := by decide +kernel
theorem d_B_copyFrom_17 : decode (mMc M_B_copyFrom) 17 = .ok (.aload_n 0, 1) := by decide +kernel
theorem d_B_copyFrom_18 : decode (mMc M_B_copyFrom) 18 = .ok (.aload_n 1, 1) := by decide +kernel
theorem d_B_copyFrom_19 : decode (mMc M_B_copyFrom) 19 = .ok (.getfield 13, 3) := by decide +kernel
theorem d_B_copyFrom_22 : decode (mMc M_B_copyFrom) 22 = .ok (.putfield 13, 3) := by decide +kernel
theorem d_B_copyFrom_25 : decode (mMc M_B_copyFrom) 25 = .ok (.return_, 1) := by decide +kernel
theorem k_B_copyFrom : mCd M_B_copyFrom 1 := ⟨by decide, by decide, by decide +kernel, by decide, mG (2, 132) (by decide +kernel), mG (1, 5) (by decide +kernel)⟩
def M_B_beneathByBlocks : mM := (⟨"FloatingDock$Blocks", "beneathByBlocks", "(LFloatingDock$Ship;)I"⟩, prog_3_method_10_code, 4, (some .int), [])
theorem d_B_beneathByBlocks_0 : decode (mMc M_B_beneathByBlocks) 0 = .ok (.iconst 0, 1) := by decide +kernel
theorem d_B_beneathByBlocks_1 : decode (mMc M_B_beneathByBlocks) 1 = .ok (.istore_n 2, 1) := by decide +kernel
theorem d_B_beneathByBlocks_2 : decode (mMc M_B_beneathByBlocks) 2 = .ok (.iconst 0, 1) := by decide +kernel
theorem d_B_beneathByBlocks_3 : decode (mMc M_B_beneathByBlocks) 3 = .ok (.istore_n 3, 1) := by decide +kernel
theorem d_B_beneathByBlocks_4 : decode (mMc M_B_beneathByBlocks) 4 = .ok (.iload_n 3, 1) := by decide +kernel
theorem d_B_beneathByBlocks_5 : decode (mMc M_B_beneathByBlocks) 5 = .ok (.aload_n 0, 1) := by decide +kernel
theorem d_B_beneathByBlocks_6 : decode (mMc M_B_beneathByBlocks) 6 = .ok (.getfield 13, 3) := by decide +kernel
theorem d_B_beneathByBlocks_9 : decode (mMc M_B_beneathByBlocks) 9 = .ok (.if_icmp .ge 26, 3) := by decide +kernel
theorem d_B_beneathByBlocks_12 : decode (mMc M_B_beneathByBlocks) 12 = .ok (.aload_n 1, 1) := by decide +kernel
theorem d_B_beneathByBlocks_13 : decode (mMc M_B_beneathByBlocks) 13 = .ok (.aload_n 0, 1) := by decide +kernel
theorem d_B_beneathByBlocks_14 : decode (mMc M_B_beneathByBlocks) 14 = .ok (.getfield 9, 3) := by decide +kernel
theorem d_B_beneathByBlocks_17 : decode (mMc M_B_beneathByBlocks) 17 = .ok (.iload_n 3, 1) := by decide +kernel
theorem d_B_beneathByBlocks_18 : decode (mMc M_B_beneathByBlocks) 18 = .ok (.iaload, 1) := by decide +kernel
theorem d_B_beneathByBlocks_19 : decode (mMc M_B_beneathByBlocks) 19 = .ok (.iconst 1, 1) := by decide +kernel
theorem d_B_beneathByBlocks_20 : decode (mMc M_B_beneathByBlocks) 20 = .ok (.invokevirtual 56, 3) := by decide +kernel
theorem d_B_beneathByBlocks_23 : decode (mMc M_B_beneathByBlocks) 23 = .ok (.ifCond .eq 6, 3) := by decide +kernel
theorem d_B_beneathByBlocks_26 : decode (mMc M_B_beneathByBlocks) 26 = .ok (.iinc 2 1, 3) := by decide +kernel
theorem d_B_beneathByBlocks_29 : decode (mMc M_B_beneathByBlocks) 29 = .ok (.iinc 3 1, 3) := by decide +kernel
theorem d_B_beneathByBlocks_32 : decode (mMc M_B_beneathByBlocks) 32 = .ok (.goto (-28), 3) := by decide +kernel
theorem d_B_beneathByBlocks_35 : decode (mMc M_B_beneathByBlocks) 35 = .ok (.iload_n 2, 1) := by decide +kernel
theorem d_B_beneathByBlocks_36 : decode (mMc M_B_beneathByBlocks) 36 = .ok (.ireturn, 1) := by decide +kernel
theorem k_B_beneathByBlocks : mCd M_B_beneathByBlocks 1 := ⟨by decide, by decide, by decide +kernel, by decide, mG (3, 197) (by decide +kernel), mG (1, 5) (by decide +kernel)⟩
def M_B_checkPosition : mM := (⟨"FloatingDock$Blocks", "checkPosition", "(I)V"⟩, prog_3_method_3_code, 1, none, [])
theorem d_B_checkPosition_0 : decode (mMc M_B_checkPosition) 0 = .ok (.iload_n 0, 1) := by decide +kernel
theorem d_B_checkPosition_1 : decode (mMc M_B_checkPosition) 1 = .ok (.ifCond .lt 9, 3) := by decide +kernel
theorem d_B_checkPosition_4 : decode (mMc M_B_checkPosition) 4 = .ok (.iload_n 0, 1) := by decide +kernel
theorem d_B_checkPosition_5 : decode (mMc M_B_checkPosition) 5 = .ok (.bipush 60, 2) := by decide +kernel
theorem d_B_checkPosition_7 : decode (mMc M_B_checkPosition) 7 = .ok (.if_icmp .lt 13, 3) := by decide +kernel
theorem d_B_checkPosition_10 : decode (mMc M_B_checkPosition) 10 = .ok (.new 25, 3) := by decide +kernel
theorem d_B_checkPosition_13 : decode (mMc M_B_checkPosition) 13 = .ok (.dup, 1) := by decide +kernel
theorem d_B_checkPosition_14 : decode (mMc M_B_checkPosition) 14 = .ok (.ldc 27, 2) := by decide +kernel
theorem d_B_checkPosition_16 : decode (mMc M_B_checkPosition) 16 = .ok (.invokespecial 29, 3) := by decide +kernel
theorem d_B_checkPosition_19 : decode (mMc M_B_checkPosition) 19 = .ok (.athrow, 1) := by decide +kernel
theorem d_B_checkPosition_20 : decode (mMc M_B_checkPosition) 20 = .ok (.return_, 1) := by decide +kernel
theorem k_B_checkPosition : mCd M_B_checkPosition 1 := ⟨by decide, by decide, by decide +kernel, by decide, mG (3, 209) (by decide +kernel), mG (1, 5) (by decide +kernel)⟩
def M_B_isFull : mM := (⟨"FloatingDock$Blocks", "isFull", "()Z"⟩, prog_3_method_6_code, 1, (some .boolean), [])
theorem d_B_isFull_0 : decode (mMc M_B_isFull) 0 = .ok (.aload_n 0, 1) := by decide +kernel
theorem d_B_isFull_1 : decode (mMc M_B_isFull) 1 = .ok (.getfield 13, 3) := by decide +kernel
theorem d_B_isFull_4 : decode (mMc M_B_isFull) 4 = .ok (.bipush 20, 2) := by decide +kernel
theorem d_B_isFull_6 : decode (mMc M_B_isFull) 6 = .ok (.if_icmp .lt 7, 3) := by decide +kernel
theorem d_B_isFull_9 : decode (mMc M_B_isFull) 9 = .ok (.iconst 1, 1) := by decide +kernel
theorem d_B_isFull_10 : decode (mMc M_B_isFull) 10 = .ok (.goto 4, 3) := by decide +kernel
theorem d_B_isFull_13 : decode (mMc M_B_isFull) 13 = .ok (.iconst 0, 1) := by decide +kernel
theorem d_B_isFull_14 : decode (mMc M_B_isFull) 14 = .ok (.ireturn, 1) := by decide +kernel
theorem k_B_isFull : mCd M_B_isFull 0 := ⟨by decide, by decide, by decide +kernel, by decide, mG (3, 216) (by decide +kernel), mG (1, 5) (by decide +kernel)⟩
def M_B_isAt : mM := (⟨"FloatingDock$Blocks", "isAt", "(I)Z"⟩, prog_3_method_5_code, 2, (some .boolean), [])
theorem d_B_isAt_0 : decode (mMc M_B_isAt) 0 = .ok (.aload_n 0, 1) := by decide +kernel
theorem d_B_isAt_1 : decode (mMc M_B_isAt) 1 = .ok (.iload_n 1, 1) := by decide +kernel
theorem d_B_isAt_2 : decode (mMc M_B_isAt) 2 = .ok (.invokevirtual 32, 3) := by decide +kernel
theorem d_B_isAt_5 : decode (mMc M_B_isAt) 5 = .ok (.iconst (-1), 1) := by decide +kernel
theorem d_B_isAt_6 : decode (mMc M_B_isAt) 6 = .ok (.if_icmp .eq 7, 3) := by decide +kernel
theorem d_B_isAt_9 : decode (mMc M_B_isAt) 9 = .ok (.iconst 1, 1) := by decide +kernel
theorem d_B_isAt_10 : decode (mMc M_B_isAt) 10 = .ok (.goto 4, 3) := by decide +kernel
theorem d_B_isAt_13 : decode (mMc M_B_isAt) 13 = .ok (.iconst 0, 1) := by decide +kernel
theorem d_B_isAt_14 : decode (mMc M_B_isAt) 14 = .ok (.ireturn, 1) := by decide +kernel
theorem k_B_isAt : mCd M_B_isAt 1 := ⟨by decide, by decide, by decide +kernel, by decide, mG (3, 220) (by decide +kernel), mG (1, 5) (by decide +kernel)⟩
def M_B_indexOf : mM := (⟨"FloatingDock$Blocks", "indexOf", "(I)I"⟩, prog_3_method_4_code, 3, (some .int), [])
theorem d_B_indexOf_0 : decode (mMc M_B_indexOf) 0 = .ok (.iconst 0, 1) := by decide +kernel
theorem d_B_indexOf_1 : decode (mMc M_B_indexOf) 1 = .ok (.istore_n 2, 1) := by decide +kernel
theorem d_B_indexOf_2 : decode (mMc M_B_indexOf) 2 = .ok (.iload_n 2, 1) := by decide +kernel
theorem d_B_indexOf_3 : decode (mMc M_B_indexOf) 3 = .ok (.aload_n 0, 1) := by decide +kernel
theorem d_B_indexOf_4 : decode (mMc M_B_indexOf) 4 = .ok (.getfield 13, 3) := by decide +kernel
theorem d_B_indexOf_7 : decode (mMc M_B_indexOf) 7 = .ok (.if_icmp .ge 21, 3) := by decide +kernel
theorem d_B_indexOf_10 : decode (mMc M_B_indexOf) 10 = .ok (.aload_n 0, 1) := by decide +kernel
theorem d_B_indexOf_11 : decode (mMc M_B_indexOf) 11 = .ok (.getfield 9, 3) := by decide +kernel
theorem d_B_indexOf_14 : decode (mMc M_B_indexOf) 14 = .ok (.iload_n 2, 1) := by decide +kernel
theorem d_B_indexOf_15 : decode (mMc M_B_indexOf) 15 = .ok (.iaload, 1) := by decide +kernel
theorem d_B_indexOf_16 : decode (mMc M_B_indexOf) 16 = .ok (.iload_n 1, 1) := by decide +kernel
theorem d_B_indexOf_17 : decode (mMc M_B_indexOf) 17 = .ok (.if_icmp .ne 5, 3) := by decide +kernel
theorem d_B_indexOf_20 : decode (mMc M_B_indexOf) 20 = .ok (.iload_n 2, 1) := by decide +kernel
theorem d_B_indexOf_21 : decode (mMc M_B_indexOf) 21 = .ok (.ireturn, 1) := by decide +kernel
theorem d_B_indexOf_22 : decode (mMc M_B_indexOf) 22 = .ok (.iinc 2 1, 3) := by decide +kernel
theorem d_B_indexOf_25 : decode (mMc M_B_indexOf) 25 = .ok (.goto (-23), 3) := by decide +kernel
theorem d_B_indexOf_28 : decode (mMc M_B_indexOf) 28 = .ok (.iconst (-1), 1) := by decide +kernel
theorem d_B_indexOf_29 : decode (mMc M_B_indexOf) 29 = .ok (.ireturn, 1) := by decide +kernel
theorem k_B_indexOf : mCd M_B_indexOf 1 := ⟨by decide, by decide, by decide +kernel, by decide, mG (3, 224) (by decide +kernel), mG (1, 5) (by decide +kernel)⟩
def M_B_add : mM := (⟨"FloatingDock$Blocks", "add", "(I)V"⟩, prog_3_method_7_code, 2, none, [])
theorem d_B_add_0 : decode (mMc M_B_add) 0 = .ok (.aload_n 0, 1) := by decide +kernel
theorem d_B_add_1 : decode (mMc M_B_add) 1 = .ok (.invokevirtual 36, 3) := by decide +kernel
theorem d_B_add_4 : decode (mMc M_B_add) 4 = .ok (.ifCond .ne 23, 3) := by decide +kernel
theorem d_B_add_7 : decode (mMc M_B_add) 7 = .ok (.aload_n 0, 1) := by decide +kernel
theorem d_B_add_8 : decode (mMc M_B_add) 8 = .ok (.getfield 9, 3) := by decide +kernel
theorem d_B_add_11 : decode (mMc M_B_add) 11 = .ok (.aload_n 0, 1) := by decide +kernel
theorem d_B_add_12 : decode (mMc M_B_add) 12 = .ok (.getfield 13, 3) := by decide +kernel
theorem d_B_add_15 : decode (mMc M_B_add) 15 = .ok (.iload_n 1, 1) := by decide +kernel
theorem d_B_add_16 : decode (mMc M_B_add) 16 = .ok (.iastore, 1) := by decide +kernel
theorem d_B_add_17 : decode (mMc M_B_add) 17 = .ok (.aload_n 0, 1) := by decide +kernel
theorem d_B_add_18 : decode (mMc M_B_add) 18 = .ok (.dup, 1) := by decide +kernel
theorem d_B_add_19 : decode (mMc M_B_add) 19 = .ok (.getfield 13, 3) := by decide +kernel
theorem d_B_add_22 : decode (mMc M_B_add) 22 = .ok (.iconst 1, 1) := by decide +kernel
theorem d_B_add_23 : decode (mMc M_B_add) 23 = .ok (.iadd, 1) := by decide +kernel
theorem d_B_add_24 : decode (mMc M_B_add) 24 = .ok (.putfield 13, 3) := by decide +kernel
theorem d_B_add_27 : decode (mMc M_B_add) 27 = .ok (.return_, 1) := by decide +kernel
theorem k_B_add : mCd M_B_add 1 := ⟨by decide, by decide, by decide +kernel, by decide, mG (3, 234) (by decide +kernel), mG (1, 5) (by decide +kernel)⟩
def M_B_remove : mM := (⟨"FloatingDock$Blocks", "remove", "(I)V"⟩, prog_3_method_8_code, 3, none, [])
theorem d_B_remove_0 : decode (mMc M_B_remove) 0 = .ok (.aload_n 0, 1) := by decide +kernel
theorem d_B_remove_1 : decode (mMc M_B_remove) 1 = .ok (.iload_n 1, 1) := by decide +kernel
theorem d_B_remove_2 : decode (mMc M_B_remove) 2 = .ok (.invokevirtual 32, 3) := by decide +kernel
theorem d_B_remove_5 : decode (mMc M_B_remove) 5 = .ok (.istore_n 2, 1) := by decide +kernel
theorem d_B_remove_6 : decode (mMc M_B_remove) 6 = .ok (.iload_n 2, 1) := by decide +kernel
theorem d_B_remove_7 : decode (mMc M_B_remove) 7 = .ok (.iconst (-1), 1) := by decide +kernel
theorem d_B_remove_8 : decode (mMc M_B_remove) 8 = .ok (.if_icmp .eq 28, 3) := by decide +kernel
theorem d_B_remove_11 : decode (mMc M_B_remove) 11 = .ok (.aload_n 0, 1) := by decide +kernel
theorem d_B_remove_12 : decode (mMc M_B_remove) 12 = .ok (.dup, 1) := by decide +kernel
theorem d_B_remove_13 : decode (mMc M_B_remove) 13 = .ok (.getfield 13, 3) := by decide +kernel
theorem d_B_remove_16 : decode (mMc M_B_remove) 16 = .ok (.iconst 1, 1) := by decide +kernel
theorem d_B_remove_17 : decode (mMc M_B_remove) 17 = .ok (.isub, 1) := by decide +kernel
theorem d_B_remove_18 : decode (mMc M_B_remove) 18 = .ok (.putfield 13, 3) := by decide +kernel
theorem d_B_remove_21 : decode (mMc M_B_remove) 21 = .ok (.aload_n 0, 1) := by decide +kernel
theorem d_B_remove_22 : decode (mMc M_B_remove) 22 = .ok (.getfield 9, 3) := by decide +kernel
theorem d_B_remove_25 : decode (mMc M_B_remove) 25 = .ok (.iload_n 2, 1) := by decide +kernel
theorem d_B_remove_26 : decode (mMc M_B_remove) 26 = .ok (.aload_n 0, 1) := by decide +kernel
theorem d_B_remove_27 : decode (mMc M_B_remove) 27 = .ok (.getfield 9, 3) := by decide +kernel
theorem d_B_remove_30 : decode (mMc M_B_remove) 30 = .ok (.aload_n 0, 1) := by decide +kernel
theorem d_B_remove_31 : decode (mMc M_B_remove) 31 = .ok (.getfield 13, 3) := by decide +kernel
theorem d_B_remove_34 : decode (mMc M_B_remove) 34 = .ok (.iaload, 1) := by decide +kernel
theorem d_B_remove_35 : decode (mMc M_B_remove) 35 = .ok (.iastore, 1) := by decide +kernel
theorem d_B_remove_36 : decode (mMc M_B_remove) 36 = .ok (.return_, 1) := by decide +kernel
theorem k_B_remove : mCd M_B_remove 1 := ⟨by decide, by decide, by decide +kernel, by decide, mG (4, 10) (by decide +kernel), mG (1, 5) (by decide +kernel)⟩
def M_B_beneathByMetres : mM := (⟨"FloatingDock$Blocks", "beneathByMetres", "(LFloatingDock$Ship;)I"⟩, prog_3_method_9_code, 4, (some .int), [])
theorem d_B_beneathByMetres_0 : decode (mMc M_B_beneathByMetres) 0 = .ok (.iconst 0, 1) := by decide +kernel
theorem d_B_beneathByMetres_1 : decode (mMc M_B_beneathByMetres) 1 = .ok (.istore_n 2, 1) := by decide +kernel
theorem d_B_beneathByMetres_2 : decode (mMc M_B_beneathByMetres) 2 = .ok (.aload_n 1, 1) := by decide +kernel
theorem d_B_beneathByMetres_3 : decode (mMc M_B_beneathByMetres) 3 = .ok (.invokevirtual 40, 3) := by decide +kernel
theorem d_B_beneathByMetres_6 : decode (mMc M_B_beneathByMetres) 6 = .ok (.ifCond .eq 33, 3) := by decide +kernel
theorem d_B_beneathByMetres_9 : decode (mMc M_B_beneathByMetres) 9 = .ok (.aload_n 1, 1) := by decide +kernel
theorem d_B_beneathByMetres_10 : decode (mMc M_B_beneathByMetres) 10 = .ok (.getfield 45, 3) := by decide +kernel
theorem d_B_beneathByMetres_13 : decode (mMc M_B_beneathByMetres) 13 = .ok (.istore_n 3, 1) := by decide +kernel
theorem d_B_beneathByMetres_14 : decode (mMc M_B_beneathByMetres) 14 = .ok (.iload_n 3, 1) := by decide +kernel
theorem d_B_beneathByMetres_15 : decode (mMc M_B_beneathByMetres) 15 = .ok (.aload_n 1, 1) := by decide +kernel
theorem d_B_beneathByMetres_16 : decode (mMc M_B_beneathByMetres) 16 = .ok (.invokevirtual 48, 3) := by decide +kernel
theorem d_B_beneathByMetres_19 : decode (mMc M_B_beneathByMetres) 19 = .ok (.if_icmp .ge 20, 3) := by decide +kernel
theorem d_B_beneathByMetres_22 : decode (mMc M_B_beneathByMetres) 22 = .ok (.aload_n 0, 1) := by decide +kernel
theorem d_B_beneathByMetres_23 : decode (mMc M_B_beneathByMetres) 23 = .ok (.iload_n 3, 1) := by decide +kernel
theorem d_B_beneathByMetres_24 : decode (mMc M_B_beneathByMetres) 24 = .ok (.invokevirtual 52, 3) := by decide +kernel
theorem d_B_beneathByMetres_27 : decode (mMc M_B_beneathByMetres) 27 = .ok (.ifCond .eq 6, 3) := by decide +kernel
theorem d_B_beneathByMetres_30 : decode (mMc M_B_beneathByMetres) 30 = .ok (.iinc 2 1, 3) := by decide +kernel
theorem d_B_beneathByMetres_33 : decode (mMc M_B_beneathByMetres) 33 = .ok (.iinc 3 1, 3) := by decide +kernel
theorem d_B_beneathByMetres_36 : decode (mMc M_B_beneathByMetres) 36 = .ok (.goto (-22), 3) := by decide +kernel
theorem d_B_beneathByMetres_39 : decode (mMc M_B_beneathByMetres) 39 = .ok (.iload_n 2, 1) := by decide +kernel
theorem d_B_beneathByMetres_40 : decode (mMc M_B_beneathByMetres) 40 = .ok (.ireturn, 1) := by decide +kernel
theorem k_B_beneathByMetres : mCd M_B_beneathByMetres 1 := ⟨by decide, by decide, by decide +kernel, by decide, mG (6, 99) (by decide +kernel), mG (1, 5) (by decide +kernel)⟩
def M_B_waysAgree : mM := (⟨"FloatingDock$Blocks", "waysAgree", "(LFloatingDock$Fleet;)Z"⟩, prog_3_method_11_code, 3, (some .boolean), [])
theorem d_B_waysAgree_0 : decode (mMc M_B_waysAgree) 0 = .ok (.iconst 0, 1) := by decide +kernel
theorem d_B_waysAgree_1 : decode (mMc M_B_waysAgree) 1 = .ok (.istore_n 2, 1) := by decide +kernel
theorem d_B_waysAgree_2 : decode (mMc M_B_waysAgree) 2 = .ok (.iload_n 2, 1) := by decide +kernel
theorem d_B_waysAgree_3 : decode (mMc M_B_waysAgree) 3 = .ok (.aload_n 1, 1) := by decide +kernel
theorem d_B_waysAgree_4 : decode (mMc M_B_waysAgree) 4 = .ok (.getfield 60, 3) := by decide +kernel
theorem d_B_waysAgree_7 : decode (mMc M_B_waysAgree) 7 = .ok (.if_icmp .ge 34, 3) := by decide +kernel
theorem d_B_waysAgree_10 : decode (mMc M_B_waysAgree) 10 = .ok (.aload_n 0, 1) := by decide +kernel
theorem d_B_waysAgree_11 : decode (mMc M_B_waysAgree) 11 = .ok (.aload_n 1, 1) := by decide +kernel
theorem d_B_waysAgree_12 : decode (mMc M_B_waysAgree) 12 = .ok (.getfield 61, 3) := by decide +kernel
theorem d_B_waysAgree_15 : decode (mMc M_B_waysAgree) 15 = .ok (.iload_n 2, 1) := by decide +kernel
theorem d_B_waysAgree_16 : decode (mMc M_B_waysAgree) 16 = .ok (.aaload, 1) := by decide +kernel
theorem d_B_waysAgree_17 : decode (mMc M_B_waysAgree) 17 = .ok (.invokevirtual 65, 3) := by decide +kernel
theorem d_B_waysAgree_20 : decode (mMc M_B_waysAgree) 20 = .ok (.aload_n 0, 1) := by decide +kernel
theorem d_B_waysAgree_21 : decode (mMc M_B_waysAgree) 21 = .ok (.aload_n 1, 1) := by decide +kernel
theorem d_B_waysAgree_22 : decode (mMc M_B_waysAgree) 22 = .ok (.getfield 61, 3) := by decide +kernel
theorem d_B_waysAgree_25 : decode (mMc M_B_waysAgree) 25 = .ok (.iload_n 2, 1) := by decide +kernel
theorem d_B_waysAgree_26 : decode (mMc M_B_waysAgree) 26 = .ok (.aaload, 1) := by decide +kernel
theorem d_B_waysAgree_27 : decode (mMc M_B_waysAgree) 27 = .ok (.invokevirtual 69, 3) := by decide +kernel
theorem d_B_waysAgree_30 : decode (mMc M_B_waysAgree) 30 = .ok (.if_icmp .eq 5, 3) := by decide +kernel
theorem d_B_waysAgree_33 : decode (mMc M_B_waysAgree) 33 = .ok (.iconst 0, 1) := by decide +kernel
theorem d_B_waysAgree_34 : decode (mMc M_B_waysAgree) 34 = .ok (.ireturn, 1) := by decide +kernel
theorem d_B_waysAgree_35 : decode (mMc M_B_waysAgree) 35 = .ok (.iinc 2 1, 3) := by decide +kernel
theorem d_B_waysAgree_38 : decode (mMc M_B_waysAgree) 38 = .ok (.goto (-36), 3) := by decide +kernel
theorem d_B_waysAgree_41 : decode (mMc M_B_waysAgree) 41 = .ok (.iconst 1, 1) := by decide +kernel
theorem d_B_waysAgree_42 : decode (mMc M_B_waysAgree) 42 = .ok (.ireturn, 1) := by decide +kernel
theorem k_B_waysAgree : mCd M_B_waysAgree 1 := ⟨by decide, by decide, by decide +kernel, by decide, mG (7, 1) (by decide +kernel), mG (1, 5) (by decide +kernel)⟩
def M_L_init : mM := (⟨"FloatingDock$Fleet", "<init>", "()V"⟩, prog_7_method_1_code, 2, none, [])
theorem d_L_init_0 : decode (mMc M_L_init) 0 = .ok (.aload_n 0, 1) := by decide +kernel
theorem d_L_init_1 : decode (mMc M_L_init) 1 = .ok (.invokespecial 1, 3) := by decide +kernel
theorem d_L_init_4 : decode (mMc M_L_init) 4 = .ok (.aload_n 0, 1) := by decide +kernel
theorem d_L_init_5 : decode (mMc M_L_init) 5 = .ok (.bipush 8, 2) := by decide +kernel
theorem d_L_init_7 : decode (mMc M_L_init) 7 = .ok (.anewarray 9, 3) := by decide +kernel
theorem d_L_init_10 : decode (mMc M_L_init) 10 = .ok (.putfield 11, 3) := by decide +kernel
theorem d_L_init_13 : decode (mMc M_L_init) 13 = .ok (.aload_n 0, 1) := by decide +kernel
theorem d_L_init_14 : decode (mMc M_L_init) 14 = .ok (.iconst 0, 1) := by decide +kernel
theorem d_L_init_15 : decode (mMc M_L_init) 15 = .ok (.putfield 15, 3) := by decide +kernel
theorem d_L_init_18 : decode (mMc M_L_init) 18 = .ok (.aload_n 0, 1) := by decide +kernel
theorem d_L_init_19 : decode (mMc M_L_init) 19 = .ok (.iconst 0, 1) := by decide +kernel
theorem d_L_init_20 : decode (mMc M_L_init) 20 = .ok (.putfield 19, 3) := by decide +kernel
theorem d_L_init_23 : decode (mMc M_L_init) 23 = .ok (.iconst 0, 1) := by decide +kernel
theorem d_L_init_24 : decode (mMc M_L_init) 24 = .ok (.istore_n 1, 1) := by decide +kernel
theorem d_L_init_25 : decode (mMc M_L_init) 25 = .ok (.iload_n 1, 1) := by decide +kernel
theorem d_L_init_26 : decode (mMc M_L_init) 26 = .ok (.aload_n 0, 1) := by decide +kernel
theorem d_L_init_27 : decode (mMc M_L_init) 27 = .ok (.getfield 11, 3) := by decide +kernel
theorem d_L_init_30 : decode (mMc M_L_init) 30 = .ok (.arraylength, 1) := by decide +kernel
theorem d_L_init_31 : decode (mMc M_L_init) 31 = .ok (.if_icmp .ge 22, 3) := by decide +kernel
theorem d_L_init_34 : decode (mMc M_L_init) 34 = .ok (.aload_n 0, 1) := by decide +kernel
theorem d_L_init_35 : decode (mMc M_L_init) 35 = .ok (.getfield 11, 3) := by decide +kernel
theorem d_L_init_38 : decode (mMc M_L_init) 38 = .ok (.iload_n 1, 1) := by decide +kernel
theorem d_L_init_39 : decode (mMc M_L_init) 39 = .ok (.new 9, 3) := by decide +kernel
theorem d_L_init_42 : decode (mMc M_L_init) 42 = .ok (.dup, 1) := by decide +kernel
theorem d_L_init_43 : decode (mMc M_L_init) 43 = .ok (.invokespecial 22, 3) := by decide +kernel
theorem d_L_init_46 : decode (mMc M_L_init) 46 = .ok (.aastore, 1) := by decide +kernel
theorem d_L_init_47 : decode (mMc M_L_init) 47 = .ok (.iinc 1 1, 3) := by decide +kernel
theorem d_L_init_50 : decode (mMc M_L_init) 50 = .ok (.goto (-25), 3) := by decide +kernel
theorem d_L_init_53 : decode (mMc M_L_init) 53 = .ok (.return_, 1) := by decide +kernel
theorem k_L_init : mCd M_L_init 0 := ⟨by decide, by decide, by decide +kernel, by decide, mG (1, 54) (by decide +kernel), mG (1, 3) (by decide +kernel)⟩
def M_L_copyFrom : mM := (⟨"FloatingDock$Fleet", "copyFrom", "(LFloatingDock$Fleet;)V"⟩, prog_7_method_2_code, 3, none, [])
theorem d_L_copyFrom_0 : decode (mMc M_L_copyFrom) 0 = .ok (.iconst 0, 1) := by decide +kernel
theorem d_L_copyFrom_1 : decode (mMc M_L_copyFrom) 1 = .ok (.istore_n 2, 1) := by decide +kernel
theorem d_L_copyFrom_2 : decode (mMc M_L_copyFrom) 2 = .ok (.iload_n 2, 1) := by decide +kernel
theorem d_L_copyFrom_3 : decode (mMc M_L_copyFrom) 3 = .ok (.aload_n 1, 1) := by decide +kernel
theorem d_L_copyFrom_4 : decode (mMc M_L_copyFrom) 4 = .ok (.getfield 15, 3) := by decide +kernel
theorem d_L_copyFrom_7 : decode (mMc M_L_copyFrom) 7 = .ok (.if_icmp .ge 24, 3) := by decide +kernel
theorem d_L_copyFrom_10 : decode (mMc M_L_copyFrom) 10 = .ok (.aload_n 0, 1) := by decide +kernel
theorem d_L_copyFrom_11 : decode (mMc M_L_copyFrom) 11 = .ok (.getfield 11, 3) := by decide +kernel
theorem d_L_copyFrom_14 : decode (mMc M_L_copyFrom) 14 = .ok (.iload_n 2, 1) := by decide +kernel
theorem d_L_copyFrom_15 : decode (mMc M_L_copyFrom) 15 = .ok (.aaload, 1) := by decide +kernel
theorem d_L_copyFrom_16 : decode (mMc M_L_copyFrom) 16 = .ok (.aload_n 1, 1) := by decide +kernel
theorem d_L_copyFrom_17 : decode (mMc M_L_copyFrom) 17 = .ok (.getfield 11, 3) := by decide +kernel
theorem d_L_copyFrom_20 : decode (mMc M_L_copyFrom) 20 = .ok (.iload_n 2, 1) := by decide +kernel
theorem d_L_copyFrom_21 : decode (mMc M_L_copyFrom) 21 = .ok (.aaload, 1) := by decide +kernel
theorem d_L_copyFrom_22 : decode (mMc M_L_copyFrom) 22 = .ok (.invokevirtual 23, 3) := by decide +kernel
theorem d_L_copyFrom_25 : decode (mMc M_L_copyFrom) 25 = .ok (.iinc 2 1, 3) := by decide +kernel
theorem d_L_copyFrom_28 : decode (mMc M_L_copyFrom) 28 = .ok (.goto (-26), 3) := by decide +kernel
theorem d_L_copyFrom_31 : decode (mMc M_L_copyFrom) 31 = .ok (.aload_n 0, 1) := by decide +kernel
theorem d_L_copyFrom_32 : decode (mMc M_L_copyFrom) 32 = .ok (.aload_n 1, 1) := by decide +kernel
theorem d_L_copyFrom_33 : decode (mMc M_L_copyFrom) 33 = .ok (.getfield 15, 3) := by decide +kernel
theorem d_L_copyFrom_36 : decode (mMc M_L_copyFrom) 36 = .ok (.putfield 15, 3) := by decide +kernel
theorem d_L_copyFrom_39 : decode (mMc M_L_copyFrom) 39 = .ok (.aload_n 0, 1) := by decide +kernel
theorem d_L_copyFrom_40 : decode (mMc M_L_copyFrom) 40 = .ok (.aload_n 1, 1) := by decide +kernel
theorem d_L_copyFrom_41 : decode (mMc M_L_copyFrom) 41 = .ok (.getfield 19, 3) := by decide +kernel
theorem d_L_copyFrom_44 : decode (mMc M_L_copyFrom) 44 = .ok (.putfield 19, 3) := by decide +kernel
theorem d_L_copyFrom_47 : decode (mMc M_L_copyFrom) 47 = .ok (.return_, 1) := by decide +kernel
theorem k_L_copyFrom : mCd M_L_copyFrom 1 := ⟨by decide, by decide, by decide +kernel, by decide, mG (2, 120) (by decide +kernel), mG (1, 3) (by decide +kernel)⟩
def M_L_register : mM := (⟨"FloatingDock$Fleet", "register", "(III)I"⟩, prog_7_method_5_code, 5, (some .int), [])
theorem d_L_register_0 : decode (mMc M_L_register) 0 = .ok (.iload_n 1, 1) := by decide +kernel
theorem d_L_register_1 : decode (mMc M_L_register) 1 = .ok (.iconst 5, 1) := by decide +kernel
theorem d_L_register_2 : decode (mMc M_L_register) 2 = .ok (.if_icmp .lt 30, 3) := by decide +kernel
theorem d_L_register_5 : decode (mMc M_L_register) 5 = .ok (.iload_n 1, 1) := by decide +kernel
theorem d_L_register_6 : decode (mMc M_L_register) 6 = .ok (.bipush 30, 2) := by decide +kernel
theorem d_L_register_8 : decode (mMc M_L_register) 8 = .ok (.if_icmp .gt 24, 3) := by decide +kernel
theorem d_L_register_11 : decode (mMc M_L_register) 11 = .ok (.iload_n 2, 1) := by decide +kernel
theorem d_L_register_12 : decode (mMc M_L_register) 12 = .ok (.iconst 5, 1) := by decide +kernel
theorem d_L_register_13 : decode (mMc M_L_register) 13 = .ok (.if_icmp .lt 19, 3) := by decide +kernel
theorem d_L_register_16 : decode (mMc M_L_register) 16 = .ok (.iload_n 2, 1) := by decide +kernel
theorem d_L_register_17 : decode (mMc M_L_register) 17 = .ok (.bipush 80, 2) := by decide +kernel
theorem d_L_register_19 : decode (mMc M_L_register) 19 = .ok (.if_icmp .gt 13, 3) := by decide +kernel
theorem d_L_register_22 : decode (mMc M_L_register) 22 = .ok (.iload_n 3, 1) := by decide +kernel
theorem d_L_register_23 : decode (mMc M_L_register) 23 = .ok (.ifCond .lt 9, 3) := by decide +kernel
theorem d_L_register_26 : decode (mMc M_L_register) 26 = .ok (.iload_n 3, 1) := by decide +kernel
theorem d_L_register_27 : decode (mMc M_L_register) 27 = .ok (.bipush 99, 2) := by decide +kernel
theorem d_L_register_29 : decode (mMc M_L_register) 29 = .ok (.if_icmp .le 13, 3) := by decide +kernel
theorem d_L_register_32 : decode (mMc M_L_register) 32 = .ok (.new 50, 3) := by decide +kernel
theorem d_L_register_35 : decode (mMc M_L_register) 35 = .ok (.dup, 1) := by decide +kernel
theorem d_L_register_36 : decode (mMc M_L_register) 36 = .ok (.ldc 52, 2) := by decide +kernel
theorem d_L_register_38 : decode (mMc M_L_register) 38 = .ok (.invokespecial 54, 3) := by decide +kernel
theorem d_L_register_41 : decode (mMc M_L_register) 41 = .ok (.athrow, 1) := by decide +kernel
theorem d_L_register_42 : decode (mMc M_L_register) 42 = .ok (.aload_n 0, 1) := by decide +kernel
theorem d_L_register_43 : decode (mMc M_L_register) 43 = .ok (.getfield 15, 3) := by decide +kernel
theorem d_L_register_46 : decode (mMc M_L_register) 46 = .ok (.bipush 8, 2) := by decide +kernel
theorem d_L_register_48 : decode (mMc M_L_register) 48 = .ok (.if_icmp .lt 13, 3) := by decide +kernel
theorem d_L_register_51 : decode (mMc M_L_register) 51 = .ok (.new 45, 3) := by decide +kernel
theorem d_L_register_54 : decode (mMc M_L_register) 54 = .ok (.dup, 1) := by decide +kernel
theorem d_L_register_55 : decode (mMc M_L_register) 55 = .ok (.ldc 55, 2) := by decide +kernel
theorem d_L_register_57 : decode (mMc M_L_register) 57 = .ok (.invokespecial 49, 3) := by decide +kernel
theorem d_L_register_60 : decode (mMc M_L_register) 60 = .ok (.athrow, 1) := by decide +kernel
theorem d_L_register_61 : decode (mMc M_L_register) 61 = .ok (.aload_n 0, 1) := by decide +kernel
theorem d_L_register_62 : decode (mMc M_L_register) 62 = .ok (.getfield 19, 3) := by decide +kernel
theorem d_L_register_65 : decode (mMc M_L_register) 65 = .ok (.istore 4, 2) := by decide +kernel
theorem d_L_register_67 : decode (mMc M_L_register) 67 = .ok (.aload_n 0, 1) := by decide +kernel
theorem d_L_register_68 : decode (mMc M_L_register) 68 = .ok (.getfield 11, 3) := by decide +kernel
theorem d_L_register_71 : decode (mMc M_L_register) 71 = .ok (.aload_n 0, 1) := by decide +kernel
theorem d_L_register_72 : decode (mMc M_L_register) 72 = .ok (.getfield 15, 3) := by decide +kernel
theorem d_L_register_75 : decode (mMc M_L_register) 75 = .ok (.aaload, 1) := by decide +kernel
theorem d_L_register_76 : decode (mMc M_L_register) 76 = .ok (.iload 4, 2) := by decide +kernel
theorem d_L_register_78 : decode (mMc M_L_register) 78 = .ok (.iload_n 1, 1) := by decide +kernel
theorem d_L_register_79 : decode (mMc M_L_register) 79 = .ok (.iload_n 2, 1) := by decide +kernel
theorem d_L_register_80 : decode (mMc M_L_register) 80 = .ok (.iload_n 3, 1) := by decide +kernel
theorem d_L_register_81 : decode (mMc M_L_register) 81 = .ok (.invokevirtual 57, 3) := by decide +kernel
theorem d_L_register_84 : decode (mMc M_L_register) 84 = .ok (.aload_n 0, 1) := by decide +kernel
theorem d_L_register_85 : decode (mMc M_L_register) 85 = .ok (.dup, 1) := by decide +kernel
theorem d_L_register_86 : decode (mMc M_L_register) 86 = .ok (.getfield 15, 3) := by decide +kernel
theorem d_L_register_89 : decode (mMc M_L_register) 89 = .ok (.iconst 1, 1) := by decide +kernel
theorem d_L_register_90 : decode (mMc M_L_register) 90 = .ok (.iadd, 1) := by decide +kernel
theorem d_L_register_91 : decode (mMc M_L_register) 91 = .ok (.putfield 15, 3) := by decide +kernel
theorem d_L_register_94 : decode (mMc M_L_register) 94 = .ok (.aload_n 0, 1) := by decide +kernel
theorem d_L_register_95 : decode (mMc M_L_register) 95 = .ok (.dup, 1) := by decide +kernel
theorem d_L_register_96 : decode (mMc M_L_register) 96 = .ok (.getfield 19, 3) := by decide +kernel
theorem d_L_register_99 : decode (mMc M_L_register) 99 = .ok (.iconst 1, 1) := by decide +kernel
theorem d_L_register_100 : decode (mMc M_L_register) 100 = .ok (.iadd, 1) := by decide +kernel
theorem d_L_register_101 : decode (mMc M_L_register) 101 = .ok (.putfield 19, 3) := by decide +kernel
theorem d_L_register_104 : decode (mMc M_L_register) 104 = .ok (.iload 4, 2) := by decide +kernel
theorem d_L_register_106 : decode (mMc M_L_register) 106 = .ok (.ireturn, 1) := by decide +kernel
theorem k_L_register : mCd M_L_register 3 := ⟨by decide, by decide, by decide +kernel, by decide, mG (2, 139) (by decide +kernel), mG (1, 3) (by decide +kernel)⟩
def M_L_strike : mM := (⟨"FloatingDock$Fleet", "strike", "(I)I"⟩, prog_7_method_6_code, 3, (some .int), [])
theorem d_L_strike_0 : decode (mMc M_L_strike) 0 = .ok (.aload_n 0, 1) := by decide +kernel
theorem d_L_strike_1 : decode (mMc M_L_strike) 1 = .ok (.iload_n 1, 1) := by decide +kernel
theorem d_L_strike_2 : decode (mMc M_L_strike) 2 = .ok (.invokevirtual 37, 3) := by decide +kernel
theorem d_L_strike_5 : decode (mMc M_L_strike) 5 = .ok (.astore_n 2, 1) := by decide +kernel
theorem d_L_strike_6 : decode (mMc M_L_strike) 6 = .ok (.aload_n 2, 1) := by decide +kernel
theorem d_L_strike_7 : decode (mMc M_L_strike) 7 = .ok (.invokevirtual 41, 3) := by decide +kernel
theorem d_L_strike_10 : decode (mMc M_L_strike) 10 = .ok (.ifCond .ne 10, 3) := by decide +kernel
theorem d_L_strike_13 : decode (mMc M_L_strike) 13 = .ok (.aload_n 2, 1) := by decide +kernel
theorem d_L_strike_14 : decode (mMc M_L_strike) 14 = .ok (.getfield 61, 3) := by decide +kernel
theorem d_L_strike_17 : decode (mMc M_L_strike) 17 = .ok (.ifCond .eq 13, 3) := by decide +kernel
theorem d_L_strike_20 : decode (mMc M_L_strike) 20 = .ok (.new 45, 3) := by decide +kernel
theorem d_L_strike_23 : decode (mMc M_L_strike) 23 = .ok (.dup, 1) := by decide +kernel
theorem d_L_strike_24 : decode (mMc M_L_strike) 24 = .ok (.ldc 64, 2) := by decide +kernel
theorem d_L_strike_26 : decode (mMc M_L_strike) 26 = .ok (.invokespecial 49, 3) := by decide +kernel
theorem d_L_strike_29 : decode (mMc M_L_strike) 29 = .ok (.athrow, 1) := by decide +kernel
theorem d_L_strike_30 : decode (mMc M_L_strike) 30 = .ok (.aload_n 0, 1) := by decide +kernel
theorem d_L_strike_31 : decode (mMc M_L_strike) 31 = .ok (.aload_n 2, 1) := by decide +kernel
theorem d_L_strike_32 : decode (mMc M_L_strike) 32 = .ok (.invokevirtual 66, 3) := by decide +kernel
theorem d_L_strike_35 : decode (mMc M_L_strike) 35 = .ok (.aload_n 0, 1) := by decide +kernel
theorem d_L_strike_36 : decode (mMc M_L_strike) 36 = .ok (.dup, 1) := by decide +kernel
theorem d_L_strike_37 : decode (mMc M_L_strike) 37 = .ok (.getfield 15, 3) := by decide +kernel
theorem d_L_strike_40 : decode (mMc M_L_strike) 40 = .ok (.iconst 1, 1) := by decide +kernel
theorem d_L_strike_41 : decode (mMc M_L_strike) 41 = .ok (.isub, 1) := by decide +kernel
theorem d_L_strike_42 : decode (mMc M_L_strike) 42 = .ok (.putfield 15, 3) := by decide +kernel
theorem d_L_strike_45 : decode (mMc M_L_strike) 45 = .ok (.aload_n 2, 1) := by decide +kernel
theorem d_L_strike_46 : decode (mMc M_L_strike) 46 = .ok (.getfield 69, 3) := by decide +kernel
theorem d_L_strike_49 : decode (mMc M_L_strike) 49 = .ok (.ireturn, 1) := by decide +kernel
theorem k_L_strike : mCd M_L_strike 1 := ⟨by decide, by decide, by decide +kernel, by decide, mG (3, 7) (by decide +kernel), mG (1, 3) (by decide +kernel)⟩
def M_L_known : mM := (⟨"FloatingDock$Fleet", "known", "(I)LFloatingDock$Ship;"⟩, prog_7_method_3_code, 3, (some (.object "FloatingDock$Ship")), [])
theorem d_L_known_0 : decode (mMc M_L_known) 0 = .ok (.iconst 0, 1) := by decide +kernel
theorem d_L_known_1 : decode (mMc M_L_known) 1 = .ok (.istore_n 2, 1) := by decide +kernel
theorem d_L_known_2 : decode (mMc M_L_known) 2 = .ok (.iload_n 2, 1) := by decide +kernel
theorem d_L_known_3 : decode (mMc M_L_known) 3 = .ok (.aload_n 0, 1) := by decide +kernel
theorem d_L_known_4 : decode (mMc M_L_known) 4 = .ok (.getfield 15, 3) := by decide +kernel
theorem d_L_known_7 : decode (mMc M_L_known) 7 = .ok (.if_icmp .ge 29, 3) := by decide +kernel
theorem d_L_known_10 : decode (mMc M_L_known) 10 = .ok (.aload_n 0, 1) := by decide +kernel
theorem d_L_known_11 : decode (mMc M_L_known) 11 = .ok (.getfield 11, 3) := by decide +kernel
theorem d_L_known_14 : decode (mMc M_L_known) 14 = .ok (.iload_n 2, 1) := by decide +kernel
theorem d_L_known_15 : decode (mMc M_L_known) 15 = .ok (.aaload, 1) := by decide +kernel
theorem d_L_known_16 : decode (mMc M_L_known) 16 = .ok (.getfield 27, 3) := by decide +kernel
theorem d_L_known_19 : decode (mMc M_L_known) 19 = .ok (.iload_n 1, 1) := by decide +kernel
theorem d_L_known_20 : decode (mMc M_L_known) 20 = .ok (.if_icmp .ne 10, 3) := by decide +kernel
theorem d_L_known_23 : decode (mMc M_L_known) 23 = .ok (.aload_n 0, 1) := by decide +kernel
theorem d_L_known_24 : decode (mMc M_L_known) 24 = .ok (.getfield 11, 3) := by decide +kernel
theorem d_L_known_27 : decode (mMc M_L_known) 27 = .ok (.iload_n 2, 1) := by decide +kernel
theorem d_L_known_28 : decode (mMc M_L_known) 28 = .ok (.aaload, 1) := by decide +kernel
theorem d_L_known_29 : decode (mMc M_L_known) 29 = .ok (.areturn, 1) := by decide +kernel
theorem d_L_known_30 : decode (mMc M_L_known) 30 = .ok (.iinc 2 1, 3) := by decide +kernel
theorem d_L_known_33 : decode (mMc M_L_known) 33 = .ok (.goto (-31), 3) := by decide +kernel
theorem d_L_known_36 : decode (mMc M_L_known) 36 = .ok (.new 30, 3) := by decide +kernel
theorem d_L_known_39 : decode (mMc M_L_known) 39 = .ok (.dup, 1) := by decide +kernel
theorem d_L_known_40 : decode (mMc M_L_known) 40 = .ok (.ldc 32, 2) := by decide +kernel
theorem d_L_known_42 : decode (mMc M_L_known) 42 = .ok (.invokespecial 34, 3) := by decide +kernel
theorem d_L_known_45 : decode (mMc M_L_known) 45 = .ok (.athrow, 1) := by decide +kernel
theorem k_L_known : mCd M_L_known 1 := ⟨by decide, by decide, by decide +kernel, by decide, mG (3, 11) (by decide +kernel), mG (1, 3) (by decide +kernel)⟩
def M_L_moveToEnd : mM := (⟨"FloatingDock$Fleet", "moveToEnd", "(LFloatingDock$Ship;)V"⟩, prog_7_method_7_code, 3, none, [])
theorem d_L_moveToEnd_0 : decode (mMc M_L_moveToEnd) 0 = .ok (.iconst 0, 1) := by decide +kernel
theorem d_L_moveToEnd_1 : decode (mMc M_L_moveToEnd) 1 = .ok (.istore_n 2, 1) := by decide +kernel
theorem d_L_moveToEnd_2 : decode (mMc M_L_moveToEnd) 2 = .ok (.iload_n 2, 1) := by decide +kernel
theorem d_L_moveToEnd_3 : decode (mMc M_L_moveToEnd) 3 = .ok (.iconst 1, 1) := by decide +kernel
theorem d_L_moveToEnd_4 : decode (mMc M_L_moveToEnd) 4 = .ok (.iadd, 1) := by decide +kernel
theorem d_L_moveToEnd_5 : decode (mMc M_L_moveToEnd) 5 = .ok (.aload_n 0, 1) := by decide +kernel
theorem d_L_moveToEnd_6 : decode (mMc M_L_moveToEnd) 6 = .ok (.getfield 15, 3) := by decide +kernel
theorem d_L_moveToEnd_9 : decode (mMc M_L_moveToEnd) 9 = .ok (.if_icmp .ge 42, 3) := by decide +kernel
theorem d_L_moveToEnd_12 : decode (mMc M_L_moveToEnd) 12 = .ok (.aload_n 0, 1) := by decide +kernel
theorem d_L_moveToEnd_13 : decode (mMc M_L_moveToEnd) 13 = .ok (.getfield 11, 3) := by decide +kernel
theorem d_L_moveToEnd_16 : decode (mMc M_L_moveToEnd) 16 = .ok (.iload_n 2, 1) := by decide +kernel
theorem d_L_moveToEnd_17 : decode (mMc M_L_moveToEnd) 17 = .ok (.aaload, 1) := by decide +kernel
theorem d_L_moveToEnd_18 : decode (mMc M_L_moveToEnd) 18 = .ok (.aload_n 1, 1) := by decide +kernel
theorem d_L_moveToEnd_19 : decode (mMc M_L_moveToEnd) 19 = .ok (.if_acmp .ne 26, 3) := by decide +kernel
theorem d_L_moveToEnd_22 : decode (mMc M_L_moveToEnd) 22 = .ok (.aload_n 0, 1) := by decide +kernel
theorem d_L_moveToEnd_23 : decode (mMc M_L_moveToEnd) 23 = .ok (.getfield 11, 3) := by decide +kernel
theorem d_L_moveToEnd_26 : decode (mMc M_L_moveToEnd) 26 = .ok (.iload_n 2, 1) := by decide +kernel
theorem d_L_moveToEnd_27 : decode (mMc M_L_moveToEnd) 27 = .ok (.aload_n 0, 1) := by decide +kernel
theorem d_L_moveToEnd_28 : decode (mMc M_L_moveToEnd) 28 = .ok (.getfield 11, 3) := by decide +kernel
theorem d_L_moveToEnd_31 : decode (mMc M_L_moveToEnd) 31 = .ok (.iload_n 2, 1) := by decide +kernel
theorem d_L_moveToEnd_32 : decode (mMc M_L_moveToEnd) 32 = .ok (.iconst 1, 1) := by decide +kernel
theorem d_L_moveToEnd_33 : decode (mMc M_L_moveToEnd) 33 = .ok (.iadd, 1) := by decide +kernel
theorem d_L_moveToEnd_34 : decode (mMc M_L_moveToEnd) 34 = .ok (.aaload, 1) := by decide +kernel
theorem d_L_moveToEnd_35 : decode (mMc M_L_moveToEnd) 35 = .ok (.aastore, 1) := by decide +kernel
theorem d_L_moveToEnd_36 : decode (mMc M_L_moveToEnd) 36 = .ok (.aload_n 0, 1) := by decide +kernel
theorem d_L_moveToEnd_37 : decode (mMc M_L_moveToEnd) 37 = .ok (.getfield 11, 3) := by decide +kernel
theorem d_L_moveToEnd_40 : decode (mMc M_L_moveToEnd) 40 = .ok (.iload_n 2, 1) := by decide +kernel
theorem d_L_moveToEnd_41 : decode (mMc M_L_moveToEnd) 41 = .ok (.iconst 1, 1) := by decide +kernel
theorem d_L_moveToEnd_42 : decode (mMc M_L_moveToEnd) 42 = .ok (.iadd, 1) := by decide +kernel
theorem d_L_moveToEnd_43 : decode (mMc M_L_moveToEnd) 43 = .ok (.aload_n 1, 1) := by decide +kernel
theorem d_L_moveToEnd_44 : decode (mMc M_L_moveToEnd) 44 = .ok (.aastore, 1) := by decide +kernel
theorem d_L_moveToEnd_45 : decode (mMc M_L_moveToEnd) 45 = .ok (.iinc 2 1, 3) := by decide +kernel
theorem d_L_moveToEnd_48 : decode (mMc M_L_moveToEnd) 48 = .ok (.goto (-46), 3) := by decide +kernel
theorem d_L_moveToEnd_51 : decode (mMc M_L_moveToEnd) 51 = .ok (.return_, 1) := by decide +kernel
theorem k_L_moveToEnd : mCd M_L_moveToEnd 1 := ⟨by decide, by decide, by decide +kernel, by decide, mG (3, 36) (by decide +kernel), mG (1, 3) (by decide +kernel)⟩
def M_L_overlapping : mM := (⟨"FloatingDock$Fleet", "overlapping", "(II)LFloatingDock$Ship;"⟩, prog_7_method_14_code, 4, (some (.object "FloatingDock$Ship")), [])
theorem d_L_overlapping_0 : decode (mMc M_L_overlapping) 0 = .ok (.iconst 0, 1) := by decide +kernel
theorem d_L_overlapping_1 : decode (mMc M_L_overlapping) 1 = .ok (.istore_n 3, 1) := by decide +kernel
theorem d_L_overlapping_2 : decode (mMc M_L_overlapping) 2 = .ok (.iload_n 3, 1) := by decide +kernel
theorem d_L_overlapping_3 : decode (mMc M_L_overlapping) 3 = .ok (.aload_n 0, 1) := by decide +kernel
theorem d_L_overlapping_4 : decode (mMc M_L_overlapping) 4 = .ok (.getfield 15, 3) := by decide +kernel
theorem d_L_overlapping_7 : decode (mMc M_L_overlapping) 7 = .ok (.if_icmp .ge 30, 3) := by decide +kernel
theorem d_L_overlapping_10 : decode (mMc M_L_overlapping) 10 = .ok (.aload_n 0, 1) := by decide +kernel
theorem d_L_overlapping_11 : decode (mMc M_L_overlapping) 11 = .ok (.getfield 11, 3) := by decide +kernel
theorem d_L_overlapping_14 : decode (mMc M_L_overlapping) 14 = .ok (.iload_n 3, 1) := by decide +kernel
theorem d_L_overlapping_15 : decode (mMc M_L_overlapping) 15 = .ok (.aaload, 1) := by decide +kernel
theorem d_L_overlapping_16 : decode (mMc M_L_overlapping) 16 = .ok (.iload_n 1, 1) := by decide +kernel
theorem d_L_overlapping_17 : decode (mMc M_L_overlapping) 17 = .ok (.iload_n 2, 1) := by decide +kernel
theorem d_L_overlapping_18 : decode (mMc M_L_overlapping) 18 = .ok (.invokevirtual 83, 3) := by decide +kernel
theorem d_L_overlapping_21 : decode (mMc M_L_overlapping) 21 = .ok (.ifCond .eq 10, 3) := by decide +kernel
theorem d_L_overlapping_24 : decode (mMc M_L_overlapping) 24 = .ok (.aload_n 0, 1) := by decide +kernel
theorem d_L_overlapping_25 : decode (mMc M_L_overlapping) 25 = .ok (.getfield 11, 3) := by decide +kernel
theorem d_L_overlapping_28 : decode (mMc M_L_overlapping) 28 = .ok (.iload_n 3, 1) := by decide +kernel
theorem d_L_overlapping_29 : decode (mMc M_L_overlapping) 29 = .ok (.aaload, 1) := by decide +kernel
theorem d_L_overlapping_30 : decode (mMc M_L_overlapping) 30 = .ok (.areturn, 1) := by decide +kernel
theorem d_L_overlapping_31 : decode (mMc M_L_overlapping) 31 = .ok (.iinc 3 1, 3) := by decide +kernel
theorem d_L_overlapping_34 : decode (mMc M_L_overlapping) 34 = .ok (.goto (-32), 3) := by decide +kernel
theorem d_L_overlapping_37 : decode (mMc M_L_overlapping) 37 = .ok (.aconst_null, 1) := by decide +kernel
theorem d_L_overlapping_38 : decode (mMc M_L_overlapping) 38 = .ok (.areturn, 1) := by decide +kernel
theorem k_L_overlapping : mCd M_L_overlapping 2 := ⟨by decide, by decide, by decide +kernel, by decide, mG (3, 64) (by decide +kernel), mG (1, 3) (by decide +kernel)⟩
def M_L_dockedCount : mM := (⟨"FloatingDock$Fleet", "dockedCount", "()I"⟩, prog_7_method_8_code, 3, (some .int), [])
theorem d_L_dockedCount_0 : decode (mMc M_L_dockedCount) 0 = .ok (.iconst 0, 1) := by decide +kernel
theorem d_L_dockedCount_1 : decode (mMc M_L_dockedCount) 1 = .ok (.istore_n 1, 1) := by decide +kernel
theorem d_L_dockedCount_2 : decode (mMc M_L_dockedCount) 2 = .ok (.iconst 0, 1) := by decide +kernel
theorem d_L_dockedCount_3 : decode (mMc M_L_dockedCount) 3 = .ok (.istore_n 2, 1) := by decide +kernel
theorem d_L_dockedCount_4 : decode (mMc M_L_dockedCount) 4 = .ok (.iload_n 2, 1) := by decide +kernel
theorem d_L_dockedCount_5 : decode (mMc M_L_dockedCount) 5 = .ok (.aload_n 0, 1) := by decide +kernel
theorem d_L_dockedCount_6 : decode (mMc M_L_dockedCount) 6 = .ok (.getfield 15, 3) := by decide +kernel
theorem d_L_dockedCount_9 : decode (mMc M_L_dockedCount) 9 = .ok (.if_icmp .ge 24, 3) := by decide +kernel
theorem d_L_dockedCount_12 : decode (mMc M_L_dockedCount) 12 = .ok (.aload_n 0, 1) := by decide +kernel
theorem d_L_dockedCount_13 : decode (mMc M_L_dockedCount) 13 = .ok (.getfield 11, 3) := by decide +kernel
theorem d_L_dockedCount_16 : decode (mMc M_L_dockedCount) 16 = .ok (.iload_n 2, 1) := by decide +kernel
theorem d_L_dockedCount_17 : decode (mMc M_L_dockedCount) 17 = .ok (.aaload, 1) := by decide +kernel
theorem d_L_dockedCount_18 : decode (mMc M_L_dockedCount) 18 = .ok (.invokevirtual 41, 3) := by decide +kernel
theorem d_L_dockedCount_21 : decode (mMc M_L_dockedCount) 21 = .ok (.ifCond .eq 6, 3) := by decide +kernel
theorem d_L_dockedCount_24 : decode (mMc M_L_dockedCount) 24 = .ok (.iinc 1 1, 3) := by decide +kernel
theorem d_L_dockedCount_27 : decode (mMc M_L_dockedCount) 27 = .ok (.iinc 2 1, 3) := by decide +kernel
theorem d_L_dockedCount_30 : decode (mMc M_L_dockedCount) 30 = .ok (.goto (-26), 3) := by decide +kernel
theorem d_L_dockedCount_33 : decode (mMc M_L_dockedCount) 33 = .ok (.iload_n 1, 1) := by decide +kernel
theorem d_L_dockedCount_34 : decode (mMc M_L_dockedCount) 34 = .ok (.ireturn, 1) := by decide +kernel
theorem k_L_dockedCount : mCd M_L_dockedCount 0 := ⟨by decide, by decide, by decide +kernel, by decide, mG (3, 100) (by decide +kernel), mG (1, 3) (by decide +kernel)⟩
def M_L_docked : mM := (⟨"FloatingDock$Fleet", "docked", "(I)LFloatingDock$Ship;"⟩, prog_7_method_4_code, 3, (some (.object "FloatingDock$Ship")), [])
theorem d_L_docked_0 : decode (mMc M_L_docked) 0 = .ok (.aload_n 0, 1) := by decide +kernel
theorem d_L_docked_1 : decode (mMc M_L_docked) 1 = .ok (.iload_n 1, 1) := by decide +kernel
theorem d_L_docked_2 : decode (mMc M_L_docked) 2 = .ok (.invokevirtual 37, 3) := by decide +kernel
theorem d_L_docked_5 : decode (mMc M_L_docked) 5 = .ok (.astore_n 2, 1) := by decide +kernel
theorem d_L_docked_6 : decode (mMc M_L_docked) 6 = .ok (.aload_n 2, 1) := by decide +kernel
theorem d_L_docked_7 : decode (mMc M_L_docked) 7 = .ok (.invokevirtual 41, 3) := by decide +kernel
theorem d_L_docked_10 : decode (mMc M_L_docked) 10 = .ok (.ifCond .ne 13, 3) := by decide +kernel
theorem d_L_docked_13 : decode (mMc M_L_docked) 13 = .ok (.new 45, 3) := by decide +kernel
theorem d_L_docked_16 : decode (mMc M_L_docked) 16 = .ok (.dup, 1) := by decide +kernel
theorem d_L_docked_17 : decode (mMc M_L_docked) 17 = .ok (.ldc 47, 2) := by decide +kernel
theorem d_L_docked_19 : decode (mMc M_L_docked) 19 = .ok (.invokespecial 49, 3) := by decide +kernel
theorem d_L_docked_22 : decode (mMc M_L_docked) 22 = .ok (.athrow, 1) := by decide +kernel
theorem d_L_docked_23 : decode (mMc M_L_docked) 23 = .ok (.aload_n 2, 1) := by decide +kernel
theorem d_L_docked_24 : decode (mMc M_L_docked) 24 = .ok (.areturn, 1) := by decide +kernel
theorem k_L_docked : mCd M_L_docked 1 := ⟨by decide, by decide, by decide +kernel, by decide, mG (3, 116) (by decide +kernel), mG (1, 3) (by decide +kernel)⟩
def M_L_checkGapLength : mM := (⟨"FloatingDock$Fleet", "checkGapLength", "(I)V"⟩, prog_7_method_16_code, 1, none, [])
theorem d_L_checkGapLength_0 : decode (mMc M_L_checkGapLength) 0 = .ok (.iload_n 0, 1) := by decide +kernel
theorem d_L_checkGapLength_1 : decode (mMc M_L_checkGapLength) 1 = .ok (.iconst 1, 1) := by decide +kernel
theorem d_L_checkGapLength_2 : decode (mMc M_L_checkGapLength) 2 = .ok (.if_icmp .lt 9, 3) := by decide +kernel
theorem d_L_checkGapLength_5 : decode (mMc M_L_checkGapLength) 5 = .ok (.iload_n 0, 1) := by decide +kernel
theorem d_L_checkGapLength_6 : decode (mMc M_L_checkGapLength) 6 = .ok (.bipush 60, 2) := by decide +kernel
theorem d_L_checkGapLength_8 : decode (mMc M_L_checkGapLength) 8 = .ok (.if_icmp .le 13, 3) := by decide +kernel
theorem d_L_checkGapLength_11 : decode (mMc M_L_checkGapLength) 11 = .ok (.new 50, 3) := by decide +kernel
theorem d_L_checkGapLength_14 : decode (mMc M_L_checkGapLength) 14 = .ok (.dup, 1) := by decide +kernel
theorem d_L_checkGapLength_15 : decode (mMc M_L_checkGapLength) 15 = .ok (.ldc 90, 2) := by decide +kernel
theorem d_L_checkGapLength_17 : decode (mMc M_L_checkGapLength) 17 = .ok (.invokespecial 54, 3) := by decide +kernel
theorem d_L_checkGapLength_20 : decode (mMc M_L_checkGapLength) 20 = .ok (.athrow, 1) := by decide +kernel
theorem d_L_checkGapLength_21 : decode (mMc M_L_checkGapLength) 21 = .ok (.return_, 1) := by decide +kernel
theorem k_L_checkGapLength : mCd M_L_checkGapLength 1 := ⟨by decide, by decide, by decide +kernel, by decide, mG (6, 31) (by decide +kernel), mG (1, 3) (by decide +kernel)⟩
def M_L_gapByPositions : mM := (⟨"FloatingDock$Fleet", "gapByPositions", "(I)I"⟩, prog_7_method_17_code, 3, (some .int), [])
theorem d_L_gapByPositions_0 : decode (mMc M_L_gapByPositions) 0 = .ok (.iconst 0, 1) := by decide +kernel
theorem d_L_gapByPositions_1 : decode (mMc M_L_gapByPositions) 1 = .ok (.istore_n 2, 1) := by decide +kernel
theorem d_L_gapByPositions_2 : decode (mMc M_L_gapByPositions) 2 = .ok (.iload_n 2, 1) := by decide +kernel
theorem d_L_gapByPositions_3 : decode (mMc M_L_gapByPositions) 3 = .ok (.iload_n 1, 1) := by decide +kernel
theorem d_L_gapByPositions_4 : decode (mMc M_L_gapByPositions) 4 = .ok (.iadd, 1) := by decide +kernel
theorem d_L_gapByPositions_5 : decode (mMc M_L_gapByPositions) 5 = .ok (.bipush 60, 2) := by decide +kernel
theorem d_L_gapByPositions_7 : decode (mMc M_L_gapByPositions) 7 = .ok (.if_icmp .gt 20, 3) := by decide +kernel
theorem d_L_gapByPositions_10 : decode (mMc M_L_gapByPositions) 10 = .ok (.aload_n 0, 1) := by decide +kernel
theorem d_L_gapByPositions_11 : decode (mMc M_L_gapByPositions) 11 = .ok (.iload_n 2, 1) := by decide +kernel
theorem d_L_gapByPositions_12 : decode (mMc M_L_gapByPositions) 12 = .ok (.iload_n 1, 1) := by decide +kernel
theorem d_L_gapByPositions_13 : decode (mMc M_L_gapByPositions) 13 = .ok (.invokevirtual 92, 3) := by decide +kernel
theorem d_L_gapByPositions_16 : decode (mMc M_L_gapByPositions) 16 = .ok (.ifnonnull 5, 3) := by decide +kernel
theorem d_L_gapByPositions_19 : decode (mMc M_L_gapByPositions) 19 = .ok (.iload_n 2, 1) := by decide +kernel
theorem d_L_gapByPositions_20 : decode (mMc M_L_gapByPositions) 20 = .ok (.ireturn, 1) := by decide +kernel
theorem d_L_gapByPositions_21 : decode (mMc M_L_gapByPositions) 21 = .ok (.iinc 2 1, 3) := by decide +kernel
theorem d_L_gapByPositions_24 : decode (mMc M_L_gapByPositions) 24 = .ok (.goto (-22), 3) := by decide +kernel
theorem d_L_gapByPositions_27 : decode (mMc M_L_gapByPositions) 27 = .ok (.iconst (-1), 1) := by decide +kernel
theorem d_L_gapByPositions_28 : decode (mMc M_L_gapByPositions) 28 = .ok (.ireturn, 1) := by decide +kernel
theorem k_L_gapByPositions : mCd M_L_gapByPositions 1 := ⟨by decide, by decide, by decide +kernel, by decide, mG (6, 36) (by decide +kernel), mG (1, 3) (by decide +kernel)⟩
def M_L_gapByShips : mM := (⟨"FloatingDock$Fleet", "gapByShips", "(I)I"⟩, prog_7_method_18_code, 5, (some .int), [])
theorem d_L_gapByShips_0 : decode (mMc M_L_gapByShips) 0 = .ok (.iconst 0, 1) := by decide +kernel
theorem d_L_gapByShips_1 : decode (mMc M_L_gapByShips) 1 = .ok (.istore_n 2, 1) := by decide +kernel
theorem d_L_gapByShips_2 : decode (mMc M_L_gapByShips) 2 = .ok (.iconst 0, 1) := by decide +kernel
theorem d_L_gapByShips_3 : decode (mMc M_L_gapByShips) 3 = .ok (.istore_n 3, 1) := by decide +kernel
theorem d_L_gapByShips_4 : decode (mMc M_L_gapByShips) 4 = .ok (.iload_n 3, 1) := by decide +kernel
theorem d_L_gapByShips_5 : decode (mMc M_L_gapByShips) 5 = .ok (.aload_n 0, 1) := by decide +kernel
theorem d_L_gapByShips_6 : decode (mMc M_L_gapByShips) 6 = .ok (.getfield 15, 3) := by decide +kernel
theorem d_L_gapByShips_9 : decode (mMc M_L_gapByShips) 9 = .ok (.if_icmp .ge 28, 3) := by decide +kernel
theorem d_L_gapByShips_12 : decode (mMc M_L_gapByShips) 12 = .ok (.aload_n 0, 1) := by decide +kernel
theorem d_L_gapByShips_13 : decode (mMc M_L_gapByShips) 13 = .ok (.iload_n 2, 1) := by decide +kernel
theorem d_L_gapByShips_14 : decode (mMc M_L_gapByShips) 14 = .ok (.iload_n 1, 1) := by decide +kernel
theorem d_L_gapByShips_15 : decode (mMc M_L_gapByShips) 15 = .ok (.invokevirtual 92, 3) := by decide +kernel
theorem d_L_gapByShips_18 : decode (mMc M_L_gapByShips) 18 = .ok (.astore 4, 2) := by decide +kernel
theorem d_L_gapByShips_20 : decode (mMc M_L_gapByShips) 20 = .ok (.aload 4, 2) := by decide +kernel
theorem d_L_gapByShips_22 : decode (mMc M_L_gapByShips) 22 = .ok (.ifnull 9, 3) := by decide +kernel
theorem d_L_gapByShips_25 : decode (mMc M_L_gapByShips) 25 = .ok (.aload 4, 2) := by decide +kernel
theorem d_L_gapByShips_27 : decode (mMc M_L_gapByShips) 27 = .ok (.invokevirtual 96, 3) := by decide +kernel
theorem d_L_gapByShips_30 : decode (mMc M_L_gapByShips) 30 = .ok (.istore_n 2, 1) := by decide +kernel
theorem d_L_gapByShips_31 : decode (mMc M_L_gapByShips) 31 = .ok (.iinc 3 1, 3) := by decide +kernel
theorem d_L_gapByShips_34 : decode (mMc M_L_gapByShips) 34 = .ok (.goto (-30), 3) := by decide +kernel
theorem d_L_gapByShips_37 : decode (mMc M_L_gapByShips) 37 = .ok (.iload_n 2, 1) := by decide +kernel
theorem d_L_gapByShips_38 : decode (mMc M_L_gapByShips) 38 = .ok (.iload_n 1, 1) := by decide +kernel
theorem d_L_gapByShips_39 : decode (mMc M_L_gapByShips) 39 = .ok (.iadd, 1) := by decide +kernel
theorem d_L_gapByShips_40 : decode (mMc M_L_gapByShips) 40 = .ok (.bipush 60, 2) := by decide +kernel
theorem d_L_gapByShips_42 : decode (mMc M_L_gapByShips) 42 = .ok (.if_icmp .gt 7, 3) := by decide +kernel
theorem d_L_gapByShips_45 : decode (mMc M_L_gapByShips) 45 = .ok (.iload_n 2, 1) := by decide +kernel
theorem d_L_gapByShips_46 : decode (mMc M_L_gapByShips) 46 = .ok (.goto 4, 3) := by decide +kernel
theorem d_L_gapByShips_49 : decode (mMc M_L_gapByShips) 49 = .ok (.iconst (-1), 1) := by decide +kernel
theorem d_L_gapByShips_50 : decode (mMc M_L_gapByShips) 50 = .ok (.ireturn, 1) := by decide +kernel
theorem k_L_gapByShips : mCd M_L_gapByShips 1 := ⟨by decide, by decide, by decide +kernel, by decide, mG (6, 49) (by decide +kernel), mG (1, 3) (by decide +kernel)⟩
def M_L_ranked : mM := (⟨"FloatingDock$Fleet", "ranked", "(I)LFloatingDock$Ship;"⟩, prog_7_method_12_code, 3, (some (.object "FloatingDock$Ship")), [])
theorem d_L_ranked_0 : decode (mMc M_L_ranked) 0 = .ok (.iconst 0, 1) := by decide +kernel
theorem d_L_ranked_1 : decode (mMc M_L_ranked) 1 = .ok (.istore_n 2, 1) := by decide +kernel
theorem d_L_ranked_2 : decode (mMc M_L_ranked) 2 = .ok (.iload_n 2, 1) := by decide +kernel
theorem d_L_ranked_3 : decode (mMc M_L_ranked) 3 = .ok (.aload_n 0, 1) := by decide +kernel
theorem d_L_ranked_4 : decode (mMc M_L_ranked) 4 = .ok (.getfield 15, 3) := by decide +kernel
theorem d_L_ranked_7 : decode (mMc M_L_ranked) 7 = .ok (.if_icmp .ge 30, 3) := by decide +kernel
theorem d_L_ranked_10 : decode (mMc M_L_ranked) 10 = .ok (.aload_n 0, 1) := by decide +kernel
theorem d_L_ranked_11 : decode (mMc M_L_ranked) 11 = .ok (.aload_n 0, 1) := by decide +kernel
theorem d_L_ranked_12 : decode (mMc M_L_ranked) 12 = .ok (.getfield 11, 3) := by decide +kernel
theorem d_L_ranked_15 : decode (mMc M_L_ranked) 15 = .ok (.iload_n 2, 1) := by decide +kernel
theorem d_L_ranked_16 : decode (mMc M_L_ranked) 16 = .ok (.aaload, 1) := by decide +kernel
theorem d_L_ranked_17 : decode (mMc M_L_ranked) 17 = .ok (.invokevirtual 75, 3) := by decide +kernel
theorem d_L_ranked_20 : decode (mMc M_L_ranked) 20 = .ok (.iload_n 1, 1) := by decide +kernel
theorem d_L_ranked_21 : decode (mMc M_L_ranked) 21 = .ok (.if_icmp .ne 10, 3) := by decide +kernel
theorem d_L_ranked_24 : decode (mMc M_L_ranked) 24 = .ok (.aload_n 0, 1) := by decide +kernel
theorem d_L_ranked_25 : decode (mMc M_L_ranked) 25 = .ok (.getfield 11, 3) := by decide +kernel
theorem d_L_ranked_28 : decode (mMc M_L_ranked) 28 = .ok (.iload_n 2, 1) := by decide +kernel
theorem d_L_ranked_29 : decode (mMc M_L_ranked) 29 = .ok (.aaload, 1) := by decide +kernel
theorem d_L_ranked_30 : decode (mMc M_L_ranked) 30 = .ok (.areturn, 1) := by decide +kernel
theorem d_L_ranked_31 : decode (mMc M_L_ranked) 31 = .ok (.iinc 2 1, 3) := by decide +kernel
theorem d_L_ranked_34 : decode (mMc M_L_ranked) 34 = .ok (.goto (-32), 3) := by decide +kernel
theorem d_L_ranked_37 : decode (mMc M_L_ranked) 37 = .ok (.aconst_null, 1) := by decide +kernel
theorem d_L_ranked_38 : decode (mMc M_L_ranked) 38 = .ok (.areturn, 1) := by decide +kernel
theorem k_L_ranked : mCd M_L_ranked 1 := ⟨by decide, by decide, by decide +kernel, by decide, mG (6, 61) (by decide +kernel), mG (1, 3) (by decide +kernel)⟩
def M_L_rankOf : mM := (⟨"FloatingDock$Fleet", "rankOf", "(LFloatingDock$Ship;)I"⟩, prog_7_method_13_code, 4, (some .int), [])
theorem d_L_rankOf_0 : decode (mMc M_L_rankOf) 0 = .ok (.iconst 0, 1) := by decide +kernel
theorem d_L_rankOf_1 : decode (mMc M_L_rankOf) 1 = .ok (.istore_n 2, 1) := by decide +kernel
theorem d_L_rankOf_2 : decode (mMc M_L_rankOf) 2 = .ok (.iconst 0, 1) := by decide +kernel
theorem d_L_rankOf_3 : decode (mMc M_L_rankOf) 3 = .ok (.istore_n 3, 1) := by decide +kernel
theorem d_L_rankOf_4 : decode (mMc M_L_rankOf) 4 = .ok (.iload_n 3, 1) := by decide +kernel
theorem d_L_rankOf_5 : decode (mMc M_L_rankOf) 5 = .ok (.aload_n 0, 1) := by decide +kernel
theorem d_L_rankOf_6 : decode (mMc M_L_rankOf) 6 = .ok (.getfield 15, 3) := by decide +kernel
theorem d_L_rankOf_9 : decode (mMc M_L_rankOf) 9 = .ok (.if_icmp .ge 25, 3) := by decide +kernel
theorem d_L_rankOf_12 : decode (mMc M_L_rankOf) 12 = .ok (.aload_n 0, 1) := by decide +kernel
theorem d_L_rankOf_13 : decode (mMc M_L_rankOf) 13 = .ok (.getfield 11, 3) := by decide +kernel
theorem d_L_rankOf_16 : decode (mMc M_L_rankOf) 16 = .ok (.iload_n 3, 1) := by decide +kernel
theorem d_L_rankOf_17 : decode (mMc M_L_rankOf) 17 = .ok (.aaload, 1) := by decide +kernel
theorem d_L_rankOf_18 : decode (mMc M_L_rankOf) 18 = .ok (.aload_n 1, 1) := by decide +kernel
theorem d_L_rankOf_19 : decode (mMc M_L_rankOf) 19 = .ok (.invokevirtual 79, 3) := by decide +kernel
theorem d_L_rankOf_22 : decode (mMc M_L_rankOf) 22 = .ok (.ifCond .eq 6, 3) := by decide +kernel
theorem d_L_rankOf_25 : decode (mMc M_L_rankOf) 25 = .ok (.iinc 2 1, 3) := by decide +kernel
theorem d_L_rankOf_28 : decode (mMc M_L_rankOf) 28 = .ok (.iinc 3 1, 3) := by decide +kernel
theorem d_L_rankOf_31 : decode (mMc M_L_rankOf) 31 = .ok (.goto (-27), 3) := by decide +kernel
theorem d_L_rankOf_34 : decode (mMc M_L_rankOf) 34 = .ok (.iload_n 2, 1) := by decide +kernel
theorem d_L_rankOf_35 : decode (mMc M_L_rankOf) 35 = .ok (.ireturn, 1) := by decide +kernel
theorem k_L_rankOf : mCd M_L_rankOf 1 := ⟨by decide, by decide, by decide +kernel, by decide, mG (6, 65) (by decide +kernel), mG (1, 3) (by decide +kernel)⟩
def M_L_takenMetres : mM := (⟨"FloatingDock$Fleet", "takenMetres", "()I"⟩, prog_7_method_9_code, 3, (some .int), [])
theorem d_L_takenMetres_0 : decode (mMc M_L_takenMetres) 0 = .ok (.iconst 0, 1) := by decide +kernel
theorem d_L_takenMetres_1 : decode (mMc M_L_takenMetres) 1 = .ok (.istore_n 1, 1) := by decide +kernel
theorem d_L_takenMetres_2 : decode (mMc M_L_takenMetres) 2 = .ok (.iconst 0, 1) := by decide +kernel
theorem d_L_takenMetres_3 : decode (mMc M_L_takenMetres) 3 = .ok (.istore_n 2, 1) := by decide +kernel
theorem d_L_takenMetres_4 : decode (mMc M_L_takenMetres) 4 = .ok (.iload_n 2, 1) := by decide +kernel
theorem d_L_takenMetres_5 : decode (mMc M_L_takenMetres) 5 = .ok (.aload_n 0, 1) := by decide +kernel
theorem d_L_takenMetres_6 : decode (mMc M_L_takenMetres) 6 = .ok (.getfield 15, 3) := by decide +kernel
theorem d_L_takenMetres_9 : decode (mMc M_L_takenMetres) 9 = .ok (.if_icmp .ge 33, 3) := by decide +kernel
theorem d_L_takenMetres_12 : decode (mMc M_L_takenMetres) 12 = .ok (.aload_n 0, 1) := by decide +kernel
theorem d_L_takenMetres_13 : decode (mMc M_L_takenMetres) 13 = .ok (.getfield 11, 3) := by decide +kernel
theorem d_L_takenMetres_16 : decode (mMc M_L_takenMetres) 16 = .ok (.iload_n 2, 1) := by decide +kernel
theorem d_L_takenMetres_17 : decode (mMc M_L_takenMetres) 17 = .ok (.aaload, 1) := by decide +kernel
theorem d_L_takenMetres_18 : decode (mMc M_L_takenMetres) 18 = .ok (.invokevirtual 41, 3) := by decide +kernel
theorem d_L_takenMetres_21 : decode (mMc M_L_takenMetres) 21 = .ok (.ifCond .eq 15, 3) := by decide +kernel
theorem d_L_takenMetres_24 : decode (mMc M_L_takenMetres) 24 = .ok (.iload_n 1, 1) := by decide +kernel
theorem d_L_takenMetres_25 : decode (mMc M_L_takenMetres) 25 = .ok (.aload_n 0, 1) := by decide +kernel
theorem d_L_takenMetres_26 : decode (mMc M_L_takenMetres) 26 = .ok (.getfield 11, 3) := by decide +kernel
theorem d_L_takenMetres_29 : decode (mMc M_L_takenMetres) 29 = .ok (.iload_n 2, 1) := by decide +kernel
theorem d_L_takenMetres_30 : decode (mMc M_L_takenMetres) 30 = .ok (.aaload, 1) := by decide +kernel
theorem d_L_takenMetres_31 : decode (mMc M_L_takenMetres) 31 = .ok (.getfield 72, 3) := by decide +kernel
theorem d_L_takenMetres_34 : decode (mMc M_L_takenMetres) 34 = .ok (.iadd, 1) := by decide +kernel
theorem d_L_takenMetres_35 : decode (mMc M_L_takenMetres) 35 = .ok (.istore_n 1, 1) := by decide +kernel
theorem d_L_takenMetres_36 : decode (mMc M_L_takenMetres) 36 = .ok (.iinc 2 1, 3) := by decide +kernel
theorem d_L_takenMetres_39 : decode (mMc M_L_takenMetres) 39 = .ok (.goto (-35), 3) := by decide +kernel
theorem d_L_takenMetres_42 : decode (mMc M_L_takenMetres) 42 = .ok (.iload_n 1, 1) := by decide +kernel
theorem d_L_takenMetres_43 : decode (mMc M_L_takenMetres) 43 = .ok (.ireturn, 1) := by decide +kernel
theorem k_L_takenMetres : mCd M_L_takenMetres 0 := ⟨by decide, by decide, by decide +kernel, by decide, mG (6, 115) (by decide +kernel), mG (1, 3) (by decide +kernel)⟩
def M_L_billSum : mM := (⟨"FloatingDock$Fleet", "billSum", "()I"⟩, prog_7_method_11_code, 3, (some .int), [])
theorem d_L_billSum_0 : decode (mMc M_L_billSum) 0 = .ok (.iconst 0, 1) := by decide +kernel
theorem d_L_billSum_1 : decode (mMc M_L_billSum) 1 = .ok (.istore_n 1, 1) := by decide +kernel
theorem d_L_billSum_2 : decode (mMc M_L_billSum) 2 = .ok (.iconst 0, 1) := by decide +kernel
theorem d_L_billSum_3 : decode (mMc M_L_billSum) 3 = .ok (.istore_n 2, 1) := by decide +kernel
theorem d_L_billSum_4 : decode (mMc M_L_billSum) 4 = .ok (.iload_n 2, 1) := by decide +kernel
theorem d_L_billSum_5 : decode (mMc M_L_billSum) 5 = .ok (.aload_n 0, 1) := by decide +kernel
theorem d_L_billSum_6 : decode (mMc M_L_billSum) 6 = .ok (.getfield 15, 3) := by decide +kernel
theorem d_L_billSum_9 : decode (mMc M_L_billSum) 9 = .ok (.if_icmp .ge 21, 3) := by decide +kernel
theorem d_L_billSum_12 : decode (mMc M_L_billSum) 12 = .ok (.iload_n 1, 1) := by decide +kernel
theorem d_L_billSum_13 : decode (mMc M_L_billSum) 13 = .ok (.aload_n 0, 1) := by decide +kernel
theorem d_L_billSum_14 : decode (mMc M_L_billSum) 14 = .ok (.getfield 11, 3) := by decide +kernel
theorem d_L_billSum_17 : decode (mMc M_L_billSum) 17 = .ok (.iload_n 2, 1) := by decide +kernel
theorem d_L_billSum_18 : decode (mMc M_L_billSum) 18 = .ok (.aaload, 1) := by decide +kernel
theorem d_L_billSum_19 : decode (mMc M_L_billSum) 19 = .ok (.getfield 61, 3) := by decide +kernel
theorem d_L_billSum_22 : decode (mMc M_L_billSum) 22 = .ok (.iadd, 1) := by decide +kernel
theorem d_L_billSum_23 : decode (mMc M_L_billSum) 23 = .ok (.istore_n 1, 1) := by decide +kernel
theorem d_L_billSum_24 : decode (mMc M_L_billSum) 24 = .ok (.iinc 2 1, 3) := by decide +kernel
theorem d_L_billSum_27 : decode (mMc M_L_billSum) 27 = .ok (.goto (-23), 3) := by decide +kernel
theorem d_L_billSum_30 : decode (mMc M_L_billSum) 30 = .ok (.iload_n 1, 1) := by decide +kernel
theorem d_L_billSum_31 : decode (mMc M_L_billSum) 31 = .ok (.ireturn, 1) := by decide +kernel
theorem k_L_billSum : mCd M_L_billSum 0 := ⟨by decide, by decide, by decide +kernel, by decide, mG (6, 191) (by decide +kernel), mG (1, 3) (by decide +kernel)⟩
def M_L_dirtSum : mM := (⟨"FloatingDock$Fleet", "dirtSum", "()I"⟩, prog_7_method_10_code, 3, (some .int), [])
theorem d_L_dirtSum_0 : decode (mMc M_L_dirtSum) 0 = .ok (.iconst 0, 1) := by decide +kernel
theorem d_L_dirtSum_1 : decode (mMc M_L_dirtSum) 1 = .ok (.istore_n 1, 1) := by decide +kernel
theorem d_L_dirtSum_2 : decode (mMc M_L_dirtSum) 2 = .ok (.iconst 0, 1) := by decide +kernel
theorem d_L_dirtSum_3 : decode (mMc M_L_dirtSum) 3 = .ok (.istore_n 2, 1) := by decide +kernel
theorem d_L_dirtSum_4 : decode (mMc M_L_dirtSum) 4 = .ok (.iload_n 2, 1) := by decide +kernel
theorem d_L_dirtSum_5 : decode (mMc M_L_dirtSum) 5 = .ok (.aload_n 0, 1) := by decide +kernel
theorem d_L_dirtSum_6 : decode (mMc M_L_dirtSum) 6 = .ok (.getfield 15, 3) := by decide +kernel
theorem d_L_dirtSum_9 : decode (mMc M_L_dirtSum) 9 = .ok (.if_icmp .ge 21, 3) := by decide +kernel
theorem d_L_dirtSum_12 : decode (mMc M_L_dirtSum) 12 = .ok (.iload_n 1, 1) := by decide +kernel
theorem d_L_dirtSum_13 : decode (mMc M_L_dirtSum) 13 = .ok (.aload_n 0, 1) := by decide +kernel
theorem d_L_dirtSum_14 : decode (mMc M_L_dirtSum) 14 = .ok (.getfield 11, 3) := by decide +kernel
theorem d_L_dirtSum_17 : decode (mMc M_L_dirtSum) 17 = .ok (.iload_n 2, 1) := by decide +kernel
theorem d_L_dirtSum_18 : decode (mMc M_L_dirtSum) 18 = .ok (.aaload, 1) := by decide +kernel
theorem d_L_dirtSum_19 : decode (mMc M_L_dirtSum) 19 = .ok (.getfield 69, 3) := by decide +kernel
theorem d_L_dirtSum_22 : decode (mMc M_L_dirtSum) 22 = .ok (.iadd, 1) := by decide +kernel
theorem d_L_dirtSum_23 : decode (mMc M_L_dirtSum) 23 = .ok (.istore_n 1, 1) := by decide +kernel
theorem d_L_dirtSum_24 : decode (mMc M_L_dirtSum) 24 = .ok (.iinc 2 1, 3) := by decide +kernel
theorem d_L_dirtSum_27 : decode (mMc M_L_dirtSum) 27 = .ok (.goto (-23), 3) := by decide +kernel
theorem d_L_dirtSum_30 : decode (mMc M_L_dirtSum) 30 = .ok (.iload_n 1, 1) := by decide +kernel
theorem d_L_dirtSum_31 : decode (mMc M_L_dirtSum) 31 = .ok (.ireturn, 1) := by decide +kernel
theorem k_L_dirtSum : mCd M_L_dirtSum 0 := ⟨by decide, by decide, by decide +kernel, by decide, mG (6, 223) (by decide +kernel), mG (1, 3) (by decide +kernel)⟩
def M_L_gapsAgree : mM := (⟨"FloatingDock$Fleet", "gapsAgree", "()Z"⟩, prog_7_method_19_code, 2, (some .boolean), [])
theorem d_L_gapsAgree_0 : decode (mMc M_L_gapsAgree) 0 = .ok (.iconst 1, 1) := by decide +kernel
theorem d_L_gapsAgree_1 : decode (mMc M_L_gapsAgree) 1 = .ok (.istore_n 1, 1) := by decide +kernel
theorem d_L_gapsAgree_2 : decode (mMc M_L_gapsAgree) 2 = .ok (.iload_n 1, 1) := by decide +kernel
theorem d_L_gapsAgree_3 : decode (mMc M_L_gapsAgree) 3 = .ok (.bipush 60, 2) := by decide +kernel
theorem d_L_gapsAgree_5 : decode (mMc M_L_gapsAgree) 5 = .ok (.if_icmp .gt 24, 3) := by decide +kernel
theorem d_L_gapsAgree_8 : decode (mMc M_L_gapsAgree) 8 = .ok (.aload_n 0, 1) := by decide +kernel
theorem d_L_gapsAgree_9 : decode (mMc M_L_gapsAgree) 9 = .ok (.iload_n 1, 1) := by decide +kernel
theorem d_L_gapsAgree_10 : decode (mMc M_L_gapsAgree) 10 = .ok (.invokevirtual 100, 3) := by decide +kernel
theorem d_L_gapsAgree_13 : decode (mMc M_L_gapsAgree) 13 = .ok (.aload_n 0, 1) := by decide +kernel
theorem d_L_gapsAgree_14 : decode (mMc M_L_gapsAgree) 14 = .ok (.iload_n 1, 1) := by decide +kernel
theorem d_L_gapsAgree_15 : decode (mMc M_L_gapsAgree) 15 = .ok (.invokevirtual 104, 3) := by decide +kernel
theorem d_L_gapsAgree_18 : decode (mMc M_L_gapsAgree) 18 = .ok (.if_icmp .eq 5, 3) := by decide +kernel
theorem d_L_gapsAgree_21 : decode (mMc M_L_gapsAgree) 21 = .ok (.iconst 0, 1) := by decide +kernel
theorem d_L_gapsAgree_22 : decode (mMc M_L_gapsAgree) 22 = .ok (.ireturn, 1) := by decide +kernel
theorem d_L_gapsAgree_23 : decode (mMc M_L_gapsAgree) 23 = .ok (.iinc 1 1, 3) := by decide +kernel
theorem d_L_gapsAgree_26 : decode (mMc M_L_gapsAgree) 26 = .ok (.goto (-24), 3) := by decide +kernel
theorem d_L_gapsAgree_29 : decode (mMc M_L_gapsAgree) 29 = .ok (.iconst 1, 1) := by decide +kernel
theorem d_L_gapsAgree_30 : decode (mMc M_L_gapsAgree) 30 = .ok (.ireturn, 1) := by decide +kernel
theorem k_L_gapsAgree : mCd M_L_gapsAgree 0 := ⟨by decide, by decide, by decide +kernel, by decide, mG (7, 7) (by decide +kernel), mG (1, 3) (by decide +kernel)⟩
def M_L_hasOverlap : mM := (⟨"FloatingDock$Fleet", "hasOverlap", "()Z"⟩, prog_7_method_15_code, 3, (some .boolean), [])
theorem d_L_hasOverlap_0 : decode (mMc M_L_hasOverlap) 0 = .ok (.iconst 0, 1) := by decide +kernel
theorem d_L_hasOverlap_1 : decode (mMc M_L_hasOverlap) 1 = .ok (.istore_n 1, 1) := by decide +kernel
theorem d_L_hasOverlap_2 : decode (mMc M_L_hasOverlap) 2 = .ok (.iload_n 1, 1) := by decide +kernel
theorem d_L_hasOverlap_3 : decode (mMc M_L_hasOverlap) 3 = .ok (.aload_n 0, 1) := by decide +kernel
theorem d_L_hasOverlap_4 : decode (mMc M_L_hasOverlap) 4 = .ok (.getfield 15, 3) := by decide +kernel
theorem d_L_hasOverlap_7 : decode (mMc M_L_hasOverlap) 7 = .ok (.if_icmp .ge 71, 3) := by decide +kernel
theorem d_L_hasOverlap_10 : decode (mMc M_L_hasOverlap) 10 = .ok (.iload_n 1, 1) := by decide +kernel
theorem d_L_hasOverlap_11 : decode (mMc M_L_hasOverlap) 11 = .ok (.iconst 1, 1) := by decide +kernel
theorem d_L_hasOverlap_12 : decode (mMc M_L_hasOverlap) 12 = .ok (.iadd, 1) := by decide +kernel
theorem d_L_hasOverlap_13 : decode (mMc M_L_hasOverlap) 13 = .ok (.istore_n 2, 1) := by decide +kernel
theorem d_L_hasOverlap_14 : decode (mMc M_L_hasOverlap) 14 = .ok (.iload_n 2, 1) := by decide +kernel
theorem d_L_hasOverlap_15 : decode (mMc M_L_hasOverlap) 15 = .ok (.aload_n 0, 1) := by decide +kernel
theorem d_L_hasOverlap_16 : decode (mMc M_L_hasOverlap) 16 = .ok (.getfield 15, 3) := by decide +kernel
theorem d_L_hasOverlap_19 : decode (mMc M_L_hasOverlap) 19 = .ok (.if_icmp .ge 53, 3) := by decide +kernel
theorem d_L_hasOverlap_22 : decode (mMc M_L_hasOverlap) 22 = .ok (.aload_n 0, 1) := by decide +kernel
theorem d_L_hasOverlap_23 : decode (mMc M_L_hasOverlap) 23 = .ok (.getfield 11, 3) := by decide +kernel
theorem d_L_hasOverlap_26 : decode (mMc M_L_hasOverlap) 26 = .ok (.iload_n 1, 1) := by decide +kernel
theorem d_L_hasOverlap_27 : decode (mMc M_L_hasOverlap) 27 = .ok (.aaload, 1) := by decide +kernel
theorem d_L_hasOverlap_28 : decode (mMc M_L_hasOverlap) 28 = .ok (.invokevirtual 41, 3) := by decide +kernel
theorem d_L_hasOverlap_31 : decode (mMc M_L_hasOverlap) 31 = .ok (.ifCond .eq 35, 3) := by decide +kernel
theorem d_L_hasOverlap_34 : decode (mMc M_L_hasOverlap) 34 = .ok (.aload_n 0, 1) := by decide +kernel
theorem d_L_hasOverlap_35 : decode (mMc M_L_hasOverlap) 35 = .ok (.getfield 11, 3) := by decide +kernel
theorem d_L_hasOverlap_38 : decode (mMc M_L_hasOverlap) 38 = .ok (.iload_n 2, 1) := by decide +kernel
theorem d_L_hasOverlap_39 : decode (mMc M_L_hasOverlap) 39 = .ok (.aaload, 1) := by decide +kernel
theorem d_L_hasOverlap_40 : decode (mMc M_L_hasOverlap) 40 = .ok (.aload_n 0, 1) := by decide +kernel
theorem d_L_hasOverlap_41 : decode (mMc M_L_hasOverlap) 41 = .ok (.getfield 11, 3) := by decide +kernel
theorem d_L_hasOverlap_44 : decode (mMc M_L_hasOverlap) 44 = .ok (.iload_n 1, 1) := by decide +kernel
theorem d_L_hasOverlap_45 : decode (mMc M_L_hasOverlap) 45 = .ok (.aaload, 1) := by decide +kernel
theorem d_L_hasOverlap_46 : decode (mMc M_L_hasOverlap) 46 = .ok (.getfield 87, 3) := by decide +kernel
theorem d_L_hasOverlap_49 : decode (mMc M_L_hasOverlap) 49 = .ok (.aload_n 0, 1) := by decide +kernel
theorem d_L_hasOverlap_50 : decode (mMc M_L_hasOverlap) 50 = .ok (.getfield 11, 3) := by decide +kernel
theorem d_L_hasOverlap_53 : decode (mMc M_L_hasOverlap) 53 = .ok (.iload_n 1, 1) := by decide +kernel
theorem d_L_hasOverlap_54 : decode (mMc M_L_hasOverlap) 54 = .ok (.aaload, 1) := by decide +kernel
theorem d_L_hasOverlap_55 : decode (mMc M_L_hasOverlap) 55 = .ok (.getfield 72, 3) := by decide +kernel
theorem d_L_hasOverlap_58 : decode (mMc M_L_hasOverlap) 58 = .ok (.invokevirtual 83, 3) := by decide +kernel
theorem d_L_hasOverlap_61 : decode (mMc M_L_hasOverlap) 61 = .ok (.ifCond .eq 5, 3) := by decide +kernel
theorem d_L_hasOverlap_64 : decode (mMc M_L_hasOverlap) 64 = .ok (.iconst 1, 1) := by decide +kernel
theorem d_L_hasOverlap_65 : decode (mMc M_L_hasOverlap) 65 = .ok (.ireturn, 1) := by decide +kernel
theorem d_L_hasOverlap_66 : decode (mMc M_L_hasOverlap) 66 = .ok (.iinc 2 1, 3) := by decide +kernel
theorem d_L_hasOverlap_69 : decode (mMc M_L_hasOverlap) 69 = .ok (.goto (-55), 3) := by decide +kernel
theorem d_L_hasOverlap_72 : decode (mMc M_L_hasOverlap) 72 = .ok (.iinc 1 1, 3) := by decide +kernel
theorem d_L_hasOverlap_75 : decode (mMc M_L_hasOverlap) 75 = .ok (.goto (-73), 3) := by decide +kernel
theorem d_L_hasOverlap_78 : decode (mMc M_L_hasOverlap) 78 = .ok (.iconst 0, 1) := by decide +kernel
theorem d_L_hasOverlap_79 : decode (mMc M_L_hasOverlap) 79 = .ok (.ireturn, 1) := by decide +kernel
theorem k_L_hasOverlap : mCd M_L_hasOverlap 0 := ⟨by decide, by decide, by decide +kernel, by decide, mG (7, 60) (by decide +kernel), mG (1, 3) (by decide +kernel)⟩
def M_D_init : mM := (⟨"FloatingDock$Dock", "<init>", "()V"⟩, prog_5_method_1_code, 1, none, [])
theorem d_D_init_0 : decode (mMc M_D_init) 0 = .ok (.aload_n 0, 1) := by decide +kernel
theorem d_D_init_1 : decode (mMc M_D_init) 1 = .ok (.invokespecial 1, 3) := by decide +kernel
theorem d_D_init_4 : decode (mMc M_D_init) 4 = .ok (.aload_n 0, 1) := by decide +kernel
theorem d_D_init_5 : decode (mMc M_D_init) 5 = .ok (.new 7, 3) := by decide +kernel
theorem d_D_init_8 : decode (mMc M_D_init) 8 = .ok (.dup, 1) := by decide +kernel
theorem d_D_init_9 : decode (mMc M_D_init) 9 = .ok (.invokespecial 9, 3) := by decide +kernel
theorem d_D_init_12 : decode (mMc M_D_init) 12 = .ok (.putfield 10, 3) := by decide +kernel
theorem d_D_init_15 : decode (mMc M_D_init) 15 = .ok (.aload_n 0, 1) := by decide +kernel
theorem d_D_init_16 : decode (mMc M_D_init) 16 = .ok (.new 16, 3) := by decide +kernel
theorem d_D_init_19 : decode (mMc M_D_init) 19 = .ok (.dup, 1) := by decide +kernel
theorem d_D_init_20 : decode (mMc M_D_init) 20 = .ok (.invokespecial 18, 3) := by decide +kernel
theorem d_D_init_23 : decode (mMc M_D_init) 23 = .ok (.putfield 19, 3) := by decide +kernel
theorem d_D_init_26 : decode (mMc M_D_init) 26 = .ok (.aload_n 0, 1) := by decide +kernel
theorem d_D_init_27 : decode (mMc M_D_init) 27 = .ok (.bipush 100, 2) := by decide +kernel
theorem d_D_init_29 : decode (mMc M_D_init) 29 = .ok (.putfield 23, 3) := by decide +kernel
theorem d_D_init_32 : decode (mMc M_D_init) 32 = .ok (.aload_n 0, 1) := by decide +kernel
theorem d_D_init_33 : decode (mMc M_D_init) 33 = .ok (.iconst 1, 1) := by decide +kernel
theorem d_D_init_34 : decode (mMc M_D_init) 34 = .ok (.putfield 27, 3) := by decide +kernel
theorem d_D_init_37 : decode (mMc M_D_init) 37 = .ok (.aload_n 0, 1) := by decide +kernel
theorem d_D_init_38 : decode (mMc M_D_init) 38 = .ok (.iconst 0, 1) := by decide +kernel
theorem d_D_init_39 : decode (mMc M_D_init) 39 = .ok (.putfield 31, 3) := by decide +kernel
theorem d_D_init_42 : decode (mMc M_D_init) 42 = .ok (.aload_n 0, 1) := by decide +kernel
theorem d_D_init_43 : decode (mMc M_D_init) 43 = .ok (.iconst 3, 1) := by decide +kernel
theorem d_D_init_44 : decode (mMc M_D_init) 44 = .ok (.putfield 34, 3) := by decide +kernel
theorem d_D_init_47 : decode (mMc M_D_init) 47 = .ok (.aload_n 0, 1) := by decide +kernel
theorem d_D_init_48 : decode (mMc M_D_init) 48 = .ok (.iconst 0, 1) := by decide +kernel
theorem d_D_init_49 : decode (mMc M_D_init) 49 = .ok (.putfield 37, 3) := by decide +kernel
theorem d_D_init_52 : decode (mMc M_D_init) 52 = .ok (.aload_n 0, 1) := by decide +kernel
theorem d_D_init_53 : decode (mMc M_D_init) 53 = .ok (.iconst 0, 1) := by decide +kernel
theorem d_D_init_54 : decode (mMc M_D_init) 54 = .ok (.putfield 40, 3) := by decide +kernel
theorem d_D_init_57 : decode (mMc M_D_init) 57 = .ok (.return_, 1) := by decide +kernel
theorem k_D_init : mCd M_D_init 0 := ⟨by decide, by decide, by decide +kernel, by decide, mG (1, 48) (by decide +kernel), mG (1, 2) (by decide +kernel)⟩
def M_D_copyFrom : mM := (⟨"FloatingDock$Dock", "copyFrom", "(LFloatingDock$Dock;)V"⟩, prog_5_method_2_code, 2, none, [])
theorem d_D_copyFrom_0 : decode (mMc M_D_copyFrom) 0 = .ok (.aload_n 0, 1) := by decide +kernel
theorem d_D_copyFrom_1 : decode (mMc M_D_copyFrom) 1 = .ok (.getfield 10, 3) := by decide +kernel
theorem d_D_copyFrom_4 : decode (mMc M_D_copyFrom) 4 = .ok (.aload_n 1, 1) := by decide +kernel
theorem d_D_copyFrom_5 : decode (mMc M_D_copyFrom) 5 = .ok (.getfield 10, 3) := by decide +kernel
theorem d_D_copyFrom_8 : decode (mMc M_D_copyFrom) 8 = .ok (.invokevirtual 43, 3) := by decide +kernel
theorem d_D_copyFrom_11 : decode (mMc M_D_copyFrom) 11 = .ok (.aload_n 0, 1) := by decide +kernel
theorem d_D_copyFrom_12 : decode (mMc M_D_copyFrom) 12 = .ok (.getfield 19, 3) := by decide +kernel
theorem d_D_copyFrom_15 : decode (mMc M_D_copyFrom) 15 = .ok (.aload_n 1, 1) := by decide +kernel
theorem d_D_copyFrom_16 : decode (mMc M_D_copyFrom) 16 = .ok (.getfield 19, 3) := by decide +kernel
theorem d_D_copyFrom_19 : decode (mMc M_D_copyFrom) 19 = .ok (.invokevirtual 47, 3) := by decide +kernel
theorem d_D_copyFrom_22 : decode (mMc M_D_copyFrom) 22 = .ok (.aload_n 0, 1) := by decide +kernel
theorem d_D_copyFrom_23 : decode (mMc M_D_copyFrom) 23 = .ok (.aload_n 1, 1) := by decide +kernel
theorem d_D_copyFrom_24 : decode (mMc M_D_copyFrom) 24 = .ok (.getfield 23, 3) := by decide +kernel
theorem d_D_copyFrom_27 : decode (mMc M_D_copyFrom) 27 = .ok (.putfield 23, 3) := by decide +kernel
theorem d_D_copyFrom_30 : decode (mMc M_D_copyFrom) 30 = .ok (.aload_n 0, 1) := by decide +kernel
theorem d_D_copyFrom_31 : decode (mMc M_D_copyFrom) 31 = .ok (.aload_n 1, 1) := by decide +kernel
theorem d_D_copyFrom_32 : decode (mMc M_D_copyFrom) 32 = .ok (.getfield 27, 3) := by decide +kernel
theorem d_D_copyFrom_35 : decode (mMc M_D_copyFrom) 35 = .ok (.putfield 27, 3) := by decide +kernel
theorem d_D_copyFrom_38 : decode (mMc M_D_copyFrom) 38 = .ok (.aload_n 0, 1) := by decide +kernel
theorem d_D_copyFrom_39 : decode (mMc M_D_copyFrom) 39 = .ok (.aload_n 1, 1) := by decide +kernel
theorem d_D_copyFrom_40 : decode (mMc M_D_copyFrom) 40 = .ok (.getfield 31, 3) := by decide +kernel
theorem d_D_copyFrom_43 : decode (mMc M_D_copyFrom) 43 = .ok (.putfield 31, 3) := by decide +kernel
theorem d_D_copyFrom_46 : decode (mMc M_D_copyFrom) 46 = .ok (.aload_n 0, 1) := by decide +kernel
theorem d_D_copyFrom_47 : decode (mMc M_D_copyFrom) 47 = .ok (.aload_n 1, 1) := by decide +kernel
theorem d_D_copyFrom_48 : decode (mMc M_D_copyFrom) 48 = .ok (.getfield 34, 3) := by decide +kernel
theorem d_D_copyFrom_51 : decode (mMc M_D_copyFrom) 51 = .ok (.putfield 34, 3) := by decide +kernel
theorem d_D_copyFrom_54 : decode (mMc M_D_copyFrom) 54 = .ok (.aload_n 0, 1) := by decide +kernel
theorem d_D_copyFrom_55 : decode (mMc M_D_copyFrom) 55 = .ok (.aload_n 1, 1) := by decide +kernel
theorem d_D_copyFrom_56 : decode (mMc M_D_copyFrom) 56 = .ok (.getfield 37, 3) := by decide +kernel
theorem d_D_copyFrom_59 : decode (mMc M_D_copyFrom) 59 = .ok (.putfield 37, 3) := by decide +kernel
theorem d_D_copyFrom_62 : decode (mMc M_D_copyFrom) 62 = .ok (.aload_n 0, 1) := by decide +kernel
theorem d_D_copyFrom_63 : decode (mMc M_D_copyFrom) 63 = .ok (.aload_n 1, 1) := by decide +kernel
theorem d_D_copyFrom_64 : decode (mMc M_D_copyFrom) 64 = .ok (.getfield 40, 3) := by decide +kernel
theorem d_D_copyFrom_67 : decode (mMc M_D_copyFrom) 67 = .ok (.putfield 40, 3) := by decide +kernel
theorem d_D_copyFrom_70 : decode (mMc M_D_copyFrom) 70 = .ok (.return_, 1) := by decide +kernel
theorem k_D_copyFrom : mCd M_D_copyFrom 1 := ⟨by decide, by decide, by decide +kernel, by decide, mG (2, 116) (by decide +kernel), mG (1, 2) (by decide +kernel)⟩
def M_D_entryRefusal : mM := (⟨"FloatingDock$Dock", "entryRefusal", "(II)I"⟩, prog_5_method_3_code, 4, (some .int), [])
theorem d_D_entryRefusal_0 : decode (mMc M_D_entryRefusal) 0 = .ok (.aload_n 0, 1) := by decide +kernel
theorem d_D_entryRefusal_1 : decode (mMc M_D_entryRefusal) 1 = .ok (.getfield 10, 3) := by decide +kernel
theorem d_D_entryRefusal_4 : decode (mMc M_D_entryRefusal) 4 = .ok (.iload_n 1, 1) := by decide +kernel
theorem d_D_entryRefusal_5 : decode (mMc M_D_entryRefusal) 5 = .ok (.invokevirtual 50, 3) := by decide +kernel
theorem d_D_entryRefusal_8 : decode (mMc M_D_entryRefusal) 8 = .ok (.astore_n 3, 1) := by decide +kernel
theorem d_D_entryRefusal_9 : decode (mMc M_D_entryRefusal) 9 = .ok (.iload_n 2, 1) := by decide +kernel
theorem d_D_entryRefusal_10 : decode (mMc M_D_entryRefusal) 10 = .ok (.ifCond .lt 14, 3) := by decide +kernel
theorem d_D_entryRefusal_13 : decode (mMc M_D_entryRefusal) 13 = .ok (.iload_n 2, 1) := by decide +kernel
theorem d_D_entryRefusal_14 : decode (mMc M_D_entryRefusal) 14 = .ok (.bipush 60, 2) := by decide +kernel
theorem d_D_entryRefusal_16 : decode (mMc M_D_entryRefusal) 16 = .ok (.aload_n 3, 1) := by decide +kernel
theorem d_D_entryRefusal_17 : decode (mMc M_D_entryRefusal) 17 = .ok (.getfield 54, 3) := by decide +kernel
theorem d_D_entryRefusal_20 : decode (mMc M_D_entryRefusal) 20 = .ok (.isub, 1) := by decide +kernel
theorem d_D_entryRefusal_21 : decode (mMc M_D_entryRefusal) 21 = .ok (.if_icmp .le 13, 3) := by decide +kernel
theorem d_D_entryRefusal_24 : decode (mMc M_D_entryRefusal) 24 = .ok (.new 59, 3) := by decide +kernel
theorem d_D_entryRefusal_27 : decode (mMc M_D_entryRefusal) 27 = .ok (.dup, 1) := by decide +kernel
theorem d_D_entryRefusal_28 : decode (mMc M_D_entryRefusal) 28 = .ok (.ldc 61, 2) := by decide +kernel
theorem d_D_entryRefusal_30 : decode (mMc M_D_entryRefusal) 30 = .ok (.invokespecial 63, 3) := by decide +kernel
theorem d_D_entryRefusal_33 : decode (mMc M_D_entryRefusal) 33 = .ok (.athrow, 1) := by decide +kernel
theorem d_D_entryRefusal_34 : decode (mMc M_D_entryRefusal) 34 = .ok (.aload_n 3, 1) := by decide +kernel
theorem d_D_entryRefusal_35 : decode (mMc M_D_entryRefusal) 35 = .ok (.invokevirtual 66, 3) := by decide +kernel
theorem d_D_entryRefusal_38 : decode (mMc M_D_entryRefusal) 38 = .ok (.ifCond .ne 10, 3) := by decide +kernel
theorem d_D_entryRefusal_41 : decode (mMc M_D_entryRefusal) 41 = .ok (.aload_n 0, 1) := by decide +kernel
theorem d_D_entryRefusal_42 : decode (mMc M_D_entryRefusal) 42 = .ok (.getfield 27, 3) := by decide +kernel
theorem d_D_entryRefusal_45 : decode (mMc M_D_entryRefusal) 45 = .ok (.ifCond .ne 13, 3) := by decide +kernel
theorem d_D_entryRefusal_48 : decode (mMc M_D_entryRefusal) 48 = .ok (.new 70, 3) := by decide +kernel
theorem d_D_entryRefusal_51 : decode (mMc M_D_entryRefusal) 51 = .ok (.dup, 1) := by decide +kernel
theorem d_D_entryRefusal_52 : decode (mMc M_D_entryRefusal) 52 = .ok (.ldc 72, 2) := by decide +kernel
theorem d_D_entryRefusal_54 : decode (mMc M_D_entryRefusal) 54 = .ok (.invokespecial 74, 3) := by decide +kernel
theorem d_D_entryRefusal_57 : decode (mMc M_D_entryRefusal) 57 = .ok (.athrow, 1) := by decide +kernel
theorem d_D_entryRefusal_58 : decode (mMc M_D_entryRefusal) 58 = .ok (.aload_n 0, 1) := by decide +kernel
theorem d_D_entryRefusal_59 : decode (mMc M_D_entryRefusal) 59 = .ok (.aload_n 3, 1) := by decide +kernel
theorem d_D_entryRefusal_60 : decode (mMc M_D_entryRefusal) 60 = .ok (.invokevirtual 75, 3) := by decide +kernel
theorem d_D_entryRefusal_63 : decode (mMc M_D_entryRefusal) 63 = .ok (.ifCond .ne 5, 3) := by decide +kernel
theorem d_D_entryRefusal_66 : decode (mMc M_D_entryRefusal) 66 = .ok (.iconst 1, 1) := by decide +kernel
theorem d_D_entryRefusal_67 : decode (mMc M_D_entryRefusal) 67 = .ok (.ireturn, 1) := by decide +kernel
theorem d_D_entryRefusal_68 : decode (mMc M_D_entryRefusal) 68 = .ok (.aload_n 0, 1) := by decide +kernel
theorem d_D_entryRefusal_69 : decode (mMc M_D_entryRefusal) 69 = .ok (.getfield 10, 3) := by decide +kernel
theorem d_D_entryRefusal_72 : decode (mMc M_D_entryRefusal) 72 = .ok (.iload_n 2, 1) := by decide +kernel
theorem d_D_entryRefusal_73 : decode (mMc M_D_entryRefusal) 73 = .ok (.aload_n 3, 1) := by decide +kernel
theorem d_D_entryRefusal_74 : decode (mMc M_D_entryRefusal) 74 = .ok (.getfield 54, 3) := by decide +kernel
theorem d_D_entryRefusal_77 : decode (mMc M_D_entryRefusal) 77 = .ok (.invokevirtual 79, 3) := by decide +kernel
theorem d_D_entryRefusal_80 : decode (mMc M_D_entryRefusal) 80 = .ok (.ifnonnull 7, 3) := by decide +kernel
theorem d_D_entryRefusal_83 : decode (mMc M_D_entryRefusal) 83 = .ok (.iconst 0, 1) := by decide +kernel
theorem d_D_entryRefusal_84 : decode (mMc M_D_entryRefusal) 84 = .ok (.goto 4, 3) := by decide +kernel
theorem d_D_entryRefusal_87 : decode (mMc M_D_entryRefusal) 87 = .ok (.iconst 2, 1) := by decide +kernel
theorem d_D_entryRefusal_88 : decode (mMc M_D_entryRefusal) 88 = .ok (.ireturn, 1) := by decide +kernel
theorem k_D_entryRefusal : mCd M_D_entryRefusal 2 := ⟨by decide, by decide, by decide +kernel, by decide, mG (3, 48) (by decide +kernel), mG (1, 2) (by decide +kernel)⟩
def M_D_canEnterNow : mM := (⟨"FloatingDock$Dock", "canEnterNow", "(LFloatingDock$Ship;)Z"⟩, prog_5_method_4_code, 2, (some .boolean), [])
theorem d_D_canEnterNow_0 : decode (mMc M_D_canEnterNow) 0 = .ok (.aload_n 0, 1) := by decide +kernel
theorem d_D_canEnterNow_1 : decode (mMc M_D_canEnterNow) 1 = .ok (.getfield 23, 3) := by decide +kernel
theorem d_D_canEnterNow_4 : decode (mMc M_D_canEnterNow) 4 = .ok (.aload_n 1, 1) := by decide +kernel
theorem d_D_canEnterNow_5 : decode (mMc M_D_canEnterNow) 5 = .ok (.getfield 83, 3) := by decide +kernel
theorem d_D_canEnterNow_8 : decode (mMc M_D_canEnterNow) 8 = .ok (.iconst 2, 1) := by decide +kernel
theorem d_D_canEnterNow_9 : decode (mMc M_D_canEnterNow) 9 = .ok (.iadd, 1) := by decide +kernel
theorem d_D_canEnterNow_10 : decode (mMc M_D_canEnterNow) 10 = .ok (.if_icmp .lt 7, 3) := by decide +kernel
theorem d_D_canEnterNow_13 : decode (mMc M_D_canEnterNow) 13 = .ok (.iconst 1, 1) := by decide +kernel
theorem d_D_canEnterNow_14 : decode (mMc M_D_canEnterNow) 14 = .ok (.goto 4, 3) := by decide +kernel
theorem d_D_canEnterNow_17 : decode (mMc M_D_canEnterNow) 17 = .ok (.iconst 0, 1) := by decide +kernel
theorem d_D_canEnterNow_18 : decode (mMc M_D_canEnterNow) 18 = .ok (.ireturn, 1) := by decide +kernel
theorem k_D_canEnterNow : mCd M_D_canEnterNow 1 := ⟨by decide, by decide, by decide +kernel, by decide, mG (3, 60) (by decide +kernel), mG (1, 2) (by decide +kernel)⟩
def M_D_moor : mM := (⟨"FloatingDock$Dock", "moor", "(II)I"⟩, prog_5_method_6_code, 3, (some .int), [])
theorem d_D_moor_0 : decode (mMc M_D_moor) 0 = .ok (.aload_n 0, 1) := by decide +kernel
theorem d_D_moor_1 : decode (mMc M_D_moor) 1 = .ok (.getfield 10, 3) := by decide +kernel
theorem d_D_moor_4 : decode (mMc M_D_moor) 4 = .ok (.iload_n 1, 1) := by decide +kernel
theorem d_D_moor_5 : decode (mMc M_D_moor) 5 = .ok (.invokevirtual 50, 3) := by decide +kernel
theorem d_D_moor_8 : decode (mMc M_D_moor) 8 = .ok (.iload_n 2, 1) := by decide +kernel
theorem d_D_moor_9 : decode (mMc M_D_moor) 9 = .ok (.invokevirtual 86, 3) := by decide +kernel
theorem d_D_moor_12 : decode (mMc M_D_moor) 12 = .ok (.aload_n 0, 1) := by decide +kernel
theorem d_D_moor_13 : decode (mMc M_D_moor) 13 = .ok (.getfield 10, 3) := by decide +kernel
theorem d_D_moor_16 : decode (mMc M_D_moor) 16 = .ok (.invokevirtual 90, 3) := by decide +kernel
theorem d_D_moor_19 : decode (mMc M_D_moor) 19 = .ok (.ireturn, 1) := by decide +kernel
theorem k_D_moor : mCd M_D_moor 2 := ⟨by decide, by decide, by decide +kernel, by decide, mG (3, 92) (by decide +kernel), mG (1, 2) (by decide +kernel)⟩
def M_D_leaveRefusal : mM := (⟨"FloatingDock$Dock", "leaveRefusal", "(I)I"⟩, prog_5_method_7_code, 3, (some .int), [])
theorem d_D_leaveRefusal_0 : decode (mMc M_D_leaveRefusal) 0 = .ok (.aload_n 0, 1) := by decide +kernel
theorem d_D_leaveRefusal_1 : decode (mMc M_D_leaveRefusal) 1 = .ok (.getfield 10, 3) := by decide +kernel
theorem d_D_leaveRefusal_4 : decode (mMc M_D_leaveRefusal) 4 = .ok (.iload_n 1, 1) := by decide +kernel
theorem d_D_leaveRefusal_5 : decode (mMc M_D_leaveRefusal) 5 = .ok (.invokevirtual 94, 3) := by decide +kernel
theorem d_D_leaveRefusal_8 : decode (mMc M_D_leaveRefusal) 8 = .ok (.astore_n 2, 1) := by decide +kernel
theorem d_D_leaveRefusal_9 : decode (mMc M_D_leaveRefusal) 9 = .ok (.aload_n 0, 1) := by decide +kernel
theorem d_D_leaveRefusal_10 : decode (mMc M_D_leaveRefusal) 10 = .ok (.getfield 27, 3) := by decide +kernel
theorem d_D_leaveRefusal_13 : decode (mMc M_D_leaveRefusal) 13 = .ok (.ifCond .ne 13, 3) := by decide +kernel
theorem d_D_leaveRefusal_16 : decode (mMc M_D_leaveRefusal) 16 = .ok (.new 70, 3) := by decide +kernel
theorem d_D_leaveRefusal_19 : decode (mMc M_D_leaveRefusal) 19 = .ok (.dup, 1) := by decide +kernel
theorem d_D_leaveRefusal_20 : decode (mMc M_D_leaveRefusal) 20 = .ok (.ldc 97, 2) := by decide +kernel
theorem d_D_leaveRefusal_22 : decode (mMc M_D_leaveRefusal) 22 = .ok (.invokespecial 74, 3) := by decide +kernel
theorem d_D_leaveRefusal_25 : decode (mMc M_D_leaveRefusal) 25 = .ok (.athrow, 1) := by decide +kernel
theorem d_D_leaveRefusal_26 : decode (mMc M_D_leaveRefusal) 26 = .ok (.aload_n 2, 1) := by decide +kernel
theorem d_D_leaveRefusal_27 : decode (mMc M_D_leaveRefusal) 27 = .ok (.aload_n 0, 1) := by decide +kernel
theorem d_D_leaveRefusal_28 : decode (mMc M_D_leaveRefusal) 28 = .ok (.getfield 23, 3) := by decide +kernel
theorem d_D_leaveRefusal_31 : decode (mMc M_D_leaveRefusal) 31 = .ok (.invokevirtual 99, 3) := by decide +kernel
theorem d_D_leaveRefusal_34 : decode (mMc M_D_leaveRefusal) 34 = .ok (.ifCond .ne 5, 3) := by decide +kernel
theorem d_D_leaveRefusal_37 : decode (mMc M_D_leaveRefusal) 37 = .ok (.iconst 3, 1) := by decide +kernel
theorem d_D_leaveRefusal_38 : decode (mMc M_D_leaveRefusal) 38 = .ok (.ireturn, 1) := by decide +kernel
theorem d_D_leaveRefusal_39 : decode (mMc M_D_leaveRefusal) 39 = .ok (.aload_n 2, 1) := by decide +kernel
theorem d_D_leaveRefusal_40 : decode (mMc M_D_leaveRefusal) 40 = .ok (.getfield 103, 3) := by decide +kernel
theorem d_D_leaveRefusal_43 : decode (mMc M_D_leaveRefusal) 43 = .ok (.ifCond .ne 7, 3) := by decide +kernel
theorem d_D_leaveRefusal_46 : decode (mMc M_D_leaveRefusal) 46 = .ok (.iconst 0, 1) := by decide +kernel
theorem d_D_leaveRefusal_47 : decode (mMc M_D_leaveRefusal) 47 = .ok (.goto 4, 3) := by decide +kernel
theorem d_D_leaveRefusal_50 : decode (mMc M_D_leaveRefusal) 50 = .ok (.iconst 4, 1) := by decide +kernel
theorem d_D_leaveRefusal_51 : decode (mMc M_D_leaveRefusal) 51 = .ok (.ireturn, 1) := by decide +kernel
theorem k_D_leaveRefusal : mCd M_D_leaveRefusal 1 := ⟨by decide, by decide, by decide +kernel, by decide, mG (3, 112) (by decide +kernel), mG (1, 2) (by decide +kernel)⟩
def M_D_castOff : mM := (⟨"FloatingDock$Dock", "castOff", "(I)I"⟩, prog_5_method_8_code, 2, (some .int), [])
theorem d_D_castOff_0 : decode (mMc M_D_castOff) 0 = .ok (.aload_n 0, 1) := by decide +kernel
theorem d_D_castOff_1 : decode (mMc M_D_castOff) 1 = .ok (.getfield 10, 3) := by decide +kernel
theorem d_D_castOff_4 : decode (mMc M_D_castOff) 4 = .ok (.iload_n 1, 1) := by decide +kernel
theorem d_D_castOff_5 : decode (mMc M_D_castOff) 5 = .ok (.invokevirtual 50, 3) := by decide +kernel
theorem d_D_castOff_8 : decode (mMc M_D_castOff) 8 = .ok (.iconst (-1), 1) := by decide +kernel
theorem d_D_castOff_9 : decode (mMc M_D_castOff) 9 = .ok (.invokevirtual 86, 3) := by decide +kernel
theorem d_D_castOff_12 : decode (mMc M_D_castOff) 12 = .ok (.aload_n 0, 1) := by decide +kernel
theorem d_D_castOff_13 : decode (mMc M_D_castOff) 13 = .ok (.getfield 10, 3) := by decide +kernel
theorem d_D_castOff_16 : decode (mMc M_D_castOff) 16 = .ok (.invokevirtual 90, 3) := by decide +kernel
theorem d_D_castOff_19 : decode (mMc M_D_castOff) 19 = .ok (.ireturn, 1) := by decide +kernel
theorem k_D_castOff : mCd M_D_castOff 1 := ⟨by decide, by decide, by decide +kernel, by decide, mG (3, 127) (by decide +kernel), mG (1, 2) (by decide +kernel)⟩
def M_D_switchCleaning : mM := (⟨"FloatingDock$Dock", "switchCleaning", "(IZ)Z"⟩, prog_5_method_9_code, 5, (some .boolean), [])
theorem d_D_switchCleaning_0 : decode (mMc M_D_switchCleaning) 0 = .ok (.aload_n 0, 1) := by decide +kernel
theorem d_D_switchCleaning_1 : decode (mMc M_D_switchCleaning) 1 = .ok (.getfield 10, 3) := by decide +kernel
theorem d_D_switchCleaning_4 : decode (mMc M_D_switchCleaning) 4 = .ok (.iload_n 1, 1) := by decide +kernel
theorem d_D_switchCleaning_5 : decode (mMc M_D_switchCleaning) 5 = .ok (.invokevirtual 94, 3) := by decide +kernel
theorem d_D_switchCleaning_8 : decode (mMc M_D_switchCleaning) 8 = .ok (.astore_n 3, 1) := by decide +kernel
theorem d_D_switchCleaning_9 : decode (mMc M_D_switchCleaning) 9 = .ok (.aload_n 3, 1) := by decide +kernel
theorem d_D_switchCleaning_10 : decode (mMc M_D_switchCleaning) 10 = .ok (.getfield 106, 3) := by decide +kernel
theorem d_D_switchCleaning_13 : decode (mMc M_D_switchCleaning) 13 = .ok (.istore 4, 2) := by decide +kernel
theorem d_D_switchCleaning_15 : decode (mMc M_D_switchCleaning) 15 = .ok (.aload_n 3, 1) := by decide +kernel
theorem d_D_switchCleaning_16 : decode (mMc M_D_switchCleaning) 16 = .ok (.iload_n 2, 1) := by decide +kernel
theorem d_D_switchCleaning_17 : decode (mMc M_D_switchCleaning) 17 = .ok (.putfield 106, 3) := by decide +kernel
theorem d_D_switchCleaning_20 : decode (mMc M_D_switchCleaning) 20 = .ok (.iload 4, 2) := by decide +kernel
theorem d_D_switchCleaning_22 : decode (mMc M_D_switchCleaning) 22 = .ok (.ireturn, 1) := by decide +kernel
theorem k_D_switchCleaning : mCd M_D_switchCleaning 2 := ⟨by decide, by decide, by decide +kernel, by decide, mG (3, 135) (by decide +kernel), mG (1, 2) (by decide +kernel)⟩
def M_D_moveGate : mM := (⟨"FloatingDock$Dock", "moveGate", "(Z)Z"⟩, prog_5_method_10_code, 4, (some .boolean), [])
theorem d_D_moveGate_0 : decode (mMc M_D_moveGate) 0 = .ok (.aload_n 0, 1) := by decide +kernel
theorem d_D_moveGate_1 : decode (mMc M_D_moveGate) 1 = .ok (.getfield 23, 3) := by decide +kernel
theorem d_D_moveGate_4 : decode (mMc M_D_moveGate) 4 = .ok (.aload_n 0, 1) := by decide +kernel
theorem d_D_moveGate_5 : decode (mMc M_D_moveGate) 5 = .ok (.getfield 34, 3) := by decide +kernel
theorem d_D_moveGate_8 : decode (mMc M_D_moveGate) 8 = .ok (.invokestatic 109, 3) := by decide +kernel
theorem d_D_moveGate_11 : decode (mMc M_D_moveGate) 11 = .ok (.isub, 1) := by decide +kernel
theorem d_D_moveGate_12 : decode (mMc M_D_moveGate) 12 = .ok (.invokestatic 115, 3) := by decide +kernel
theorem d_D_moveGate_15 : decode (mMc M_D_moveGate) 15 = .ok (.istore_n 2, 1) := by decide +kernel
theorem d_D_moveGate_16 : decode (mMc M_D_moveGate) 16 = .ok (.iload_n 1, 1) := by decide +kernel
theorem d_D_moveGate_17 : decode (mMc M_D_moveGate) 17 = .ok (.ifCond .eq 19, 3) := by decide +kernel
theorem d_D_moveGate_20 : decode (mMc M_D_moveGate) 20 = .ok (.iload_n 2, 1) := by decide +kernel
theorem d_D_moveGate_21 : decode (mMc M_D_moveGate) 21 = .ok (.bipush 20, 2) := by decide +kernel
theorem d_D_moveGate_23 : decode (mMc M_D_moveGate) 23 = .ok (.if_icmp .le 13, 3) := by decide +kernel
theorem d_D_moveGate_26 : decode (mMc M_D_moveGate) 26 = .ok (.new 120, 3) := by decide +kernel
theorem d_D_moveGate_29 : decode (mMc M_D_moveGate) 29 = .ok (.dup, 1) := by decide +kernel
theorem d_D_moveGate_30 : decode (mMc M_D_moveGate) 30 = .ok (.ldc 122, 2) := by decide +kernel
theorem d_D_moveGate_32 : decode (mMc M_D_moveGate) 32 = .ok (.invokespecial 124, 3) := by decide +kernel
theorem d_D_moveGate_35 : decode (mMc M_D_moveGate) 35 = .ok (.athrow, 1) := by decide +kernel
theorem d_D_moveGate_36 : decode (mMc M_D_moveGate) 36 = .ok (.aload_n 0, 1) := by decide +kernel
theorem d_D_moveGate_37 : decode (mMc M_D_moveGate) 37 = .ok (.getfield 27, 3) := by decide +kernel
theorem d_D_moveGate_40 : decode (mMc M_D_moveGate) 40 = .ok (.istore_n 3, 1) := by decide +kernel
theorem d_D_moveGate_41 : decode (mMc M_D_moveGate) 41 = .ok (.aload_n 0, 1) := by decide +kernel
theorem d_D_moveGate_42 : decode (mMc M_D_moveGate) 42 = .ok (.iload_n 1, 1) := by decide +kernel
theorem d_D_moveGate_43 : decode (mMc M_D_moveGate) 43 = .ok (.putfield 27, 3) := by decide +kernel
theorem d_D_moveGate_46 : decode (mMc M_D_moveGate) 46 = .ok (.iload_n 3, 1) := by decide +kernel
theorem d_D_moveGate_47 : decode (mMc M_D_moveGate) 47 = .ok (.ireturn, 1) := by decide +kernel
theorem k_D_moveGate : mCd M_D_moveGate 1 := ⟨by decide, by decide, by decide +kernel, by decide, mG (3, 146) (by decide +kernel), mG (1, 2) (by decide +kernel)⟩
def M_D_changeRate : mM := (⟨"FloatingDock$Dock", "changeRate", "(I)I"⟩, prog_5_method_11_code, 3, (some .int), [])
theorem d_D_changeRate_0 : decode (mMc M_D_changeRate) 0 = .ok (.iload_n 1, 1) := by decide +kernel
theorem d_D_changeRate_1 : decode (mMc M_D_changeRate) 1 = .ok (.bipush (-30), 2) := by decide +kernel
theorem d_D_changeRate_3 : decode (mMc M_D_changeRate) 3 = .ok (.if_icmp .lt 9, 3) := by decide +kernel
theorem d_D_changeRate_6 : decode (mMc M_D_changeRate) 6 = .ok (.iload_n 1, 1) := by decide +kernel
theorem d_D_changeRate_7 : decode (mMc M_D_changeRate) 7 = .ok (.bipush 30, 2) := by decide +kernel
theorem d_D_changeRate_9 : decode (mMc M_D_changeRate) 9 = .ok (.if_icmp .le 13, 3) := by decide +kernel
theorem d_D_changeRate_12 : decode (mMc M_D_changeRate) 12 = .ok (.new 59, 3) := by decide +kernel
theorem d_D_changeRate_15 : decode (mMc M_D_changeRate) 15 = .ok (.dup, 1) := by decide +kernel
theorem d_D_changeRate_16 : decode (mMc M_D_changeRate) 16 = .ok (.ldc 125, 2) := by decide +kernel
theorem d_D_changeRate_18 : decode (mMc M_D_changeRate) 18 = .ok (.invokespecial 63, 3) := by decide +kernel
theorem d_D_changeRate_21 : decode (mMc M_D_changeRate) 21 = .ok (.athrow, 1) := by decide +kernel
theorem d_D_changeRate_22 : decode (mMc M_D_changeRate) 22 = .ok (.aload_n 0, 1) := by decide +kernel
theorem d_D_changeRate_23 : decode (mMc M_D_changeRate) 23 = .ok (.getfield 31, 3) := by decide +kernel
theorem d_D_changeRate_26 : decode (mMc M_D_changeRate) 26 = .ok (.istore_n 2, 1) := by decide +kernel
theorem d_D_changeRate_27 : decode (mMc M_D_changeRate) 27 = .ok (.aload_n 0, 1) := by decide +kernel
theorem d_D_changeRate_28 : decode (mMc M_D_changeRate) 28 = .ok (.iload_n 1, 1) := by decide +kernel
theorem d_D_changeRate_29 : decode (mMc M_D_changeRate) 29 = .ok (.putfield 31, 3) := by decide +kernel
theorem d_D_changeRate_32 : decode (mMc M_D_changeRate) 32 = .ok (.iload_n 2, 1) := by decide +kernel
theorem d_D_changeRate_33 : decode (mMc M_D_changeRate) 33 = .ok (.ireturn, 1) := by decide +kernel
theorem k_D_changeRate : mCd M_D_changeRate 1 := ⟨by decide, by decide, by decide +kernel, by decide, mG (3, 163) (by decide +kernel), mG (1, 2) (by decide +kernel)⟩
def M_D_letPass : mM := (⟨"FloatingDock$Dock", "letPass", "(I)I"⟩, prog_5_method_12_code, 4, (some .int), [])
theorem d_D_letPass_0 : decode (mMc M_D_letPass) 0 = .ok (.iload_n 1, 1) := by decide +kernel
theorem d_D_letPass_1 : decode (mMc M_D_letPass) 1 = .ok (.iconst 1, 1) := by decide +kernel
theorem d_D_letPass_2 : decode (mMc M_D_letPass) 2 = .ok (.if_icmp .lt 9, 3) := by decide +kernel
theorem d_D_letPass_5 : decode (mMc M_D_letPass) 5 = .ok (.iload_n 1, 1) := by decide +kernel
theorem d_D_letPass_6 : decode (mMc M_D_letPass) 6 = .ok (.bipush 48, 2) := by decide +kernel
theorem d_D_letPass_8 : decode (mMc M_D_letPass) 8 = .ok (.if_icmp .le 13, 3) := by decide +kernel
theorem d_D_letPass_11 : decode (mMc M_D_letPass) 11 = .ok (.new 59, 3) := by decide +kernel
theorem d_D_letPass_14 : decode (mMc M_D_letPass) 14 = .ok (.dup, 1) := by decide +kernel
theorem d_D_letPass_15 : decode (mMc M_D_letPass) 15 = .ok (.ldc 127, 2) := by decide +kernel
theorem d_D_letPass_17 : decode (mMc M_D_letPass) 17 = .ok (.invokespecial 63, 3) := by decide +kernel
theorem d_D_letPass_20 : decode (mMc M_D_letPass) 20 = .ok (.athrow, 1) := by decide +kernel
theorem d_D_letPass_21 : decode (mMc M_D_letPass) 21 = .ok (.iconst 0, 1) := by decide +kernel
theorem d_D_letPass_22 : decode (mMc M_D_letPass) 22 = .ok (.istore_n 2, 1) := by decide +kernel
theorem d_D_letPass_23 : decode (mMc M_D_letPass) 23 = .ok (.iconst 0, 1) := by decide +kernel
theorem d_D_letPass_24 : decode (mMc M_D_letPass) 24 = .ok (.istore_n 3, 1) := by decide +kernel
theorem d_D_letPass_25 : decode (mMc M_D_letPass) 25 = .ok (.iload_n 3, 1) := by decide +kernel
theorem d_D_letPass_26 : decode (mMc M_D_letPass) 26 = .ok (.iload_n 1, 1) := by decide +kernel
theorem d_D_letPass_27 : decode (mMc M_D_letPass) 27 = .ok (.if_icmp .ge 16, 3) := by decide +kernel
theorem d_D_letPass_30 : decode (mMc M_D_letPass) 30 = .ok (.iload_n 2, 1) := by decide +kernel
theorem d_D_letPass_31 : decode (mMc M_D_letPass) 31 = .ok (.aload_n 0, 1) := by decide +kernel
theorem d_D_letPass_32 : decode (mMc M_D_letPass) 32 = .ok (.invokevirtual 129, 3) := by decide +kernel
theorem d_D_letPass_35 : decode (mMc M_D_letPass) 35 = .ok (.iadd, 1) := by decide +kernel
theorem d_D_letPass_36 : decode (mMc M_D_letPass) 36 = .ok (.istore_n 2, 1) := by decide +kernel
theorem d_D_letPass_37 : decode (mMc M_D_letPass) 37 = .ok (.iinc 3 1, 3) := by decide +kernel
theorem d_D_letPass_40 : decode (mMc M_D_letPass) 40 = .ok (.goto (-15), 3) := by decide +kernel
theorem d_D_letPass_43 : decode (mMc M_D_letPass) 43 = .ok (.iload_n 2, 1) := by decide +kernel
theorem d_D_letPass_44 : decode (mMc M_D_letPass) 44 = .ok (.ireturn, 1) := by decide +kernel
theorem k_D_letPass : mCd M_D_letPass 1 := ⟨by decide, by decide, by decide +kernel, by decide, mG (3, 172) (by decide +kernel), mG (1, 2) (by decide +kernel)⟩
def M_D_passHour : mM := (⟨"FloatingDock$Dock", "passHour", "()I"⟩, prog_5_method_13_code, 3, (some .int), [])
theorem d_D_passHour_0 : decode (mMc M_D_passHour) 0 = .ok (.aload_n 0, 1) := by decide +kernel
theorem d_D_passHour_1 : decode (mMc M_D_passHour) 1 = .ok (.dup, 1) := by decide +kernel
theorem d_D_passHour_2 : decode (mMc M_D_passHour) 2 = .ok (.getfield 34, 3) := by decide +kernel
theorem d_D_passHour_5 : decode (mMc M_D_passHour) 5 = .ok (.iconst 1, 1) := by decide +kernel
theorem d_D_passHour_6 : decode (mMc M_D_passHour) 6 = .ok (.iadd, 1) := by decide +kernel
theorem d_D_passHour_7 : decode (mMc M_D_passHour) 7 = .ok (.putfield 34, 3) := by decide +kernel
theorem d_D_passHour_10 : decode (mMc M_D_passHour) 10 = .ok (.aload_n 0, 1) := by decide +kernel
theorem d_D_passHour_11 : decode (mMc M_D_passHour) 11 = .ok (.aload_n 0, 1) := by decide +kernel
theorem d_D_passHour_12 : decode (mMc M_D_passHour) 12 = .ok (.aload_n 0, 1) := by decide +kernel
theorem d_D_passHour_13 : decode (mMc M_D_passHour) 13 = .ok (.getfield 34, 3) := by decide +kernel
theorem d_D_passHour_16 : decode (mMc M_D_passHour) 16 = .ok (.aload_n 0, 1) := by decide +kernel
theorem d_D_passHour_17 : decode (mMc M_D_passHour) 17 = .ok (.getfield 23, 3) := by decide +kernel
theorem d_D_passHour_20 : decode (mMc M_D_passHour) 20 = .ok (.invokevirtual 132, 3) := by decide +kernel
theorem d_D_passHour_23 : decode (mMc M_D_passHour) 23 = .ok (.putfield 23, 3) := by decide +kernel
theorem d_D_passHour_26 : decode (mMc M_D_passHour) 26 = .ok (.iconst 0, 1) := by decide +kernel
theorem d_D_passHour_27 : decode (mMc M_D_passHour) 27 = .ok (.istore_n 1, 1) := by decide +kernel
theorem d_D_passHour_28 : decode (mMc M_D_passHour) 28 = .ok (.iconst 0, 1) := by decide +kernel
theorem d_D_passHour_29 : decode (mMc M_D_passHour) 29 = .ok (.istore_n 2, 1) := by decide +kernel
theorem d_D_passHour_30 : decode (mMc M_D_passHour) 30 = .ok (.iload_n 2, 1) := by decide +kernel
theorem d_D_passHour_31 : decode (mMc M_D_passHour) 31 = .ok (.aload_n 0, 1) := by decide +kernel
theorem d_D_passHour_32 : decode (mMc M_D_passHour) 32 = .ok (.getfield 10, 3) := by decide +kernel
theorem d_D_passHour_35 : decode (mMc M_D_passHour) 35 = .ok (.getfield 136, 3) := by decide +kernel
theorem d_D_passHour_38 : decode (mMc M_D_passHour) 38 = .ok (.if_icmp .ge 40, 3) := by decide +kernel
theorem d_D_passHour_41 : decode (mMc M_D_passHour) 41 = .ok (.aload_n 0, 1) := by decide +kernel
theorem d_D_passHour_42 : decode (mMc M_D_passHour) 42 = .ok (.getfield 10, 3) := by decide +kernel
theorem d_D_passHour_45 : decode (mMc M_D_passHour) 45 = .ok (.getfield 139, 3) := by decide +kernel
theorem d_D_passHour_48 : decode (mMc M_D_passHour) 48 = .ok (.iload_n 2, 1) := by decide +kernel
theorem d_D_passHour_49 : decode (mMc M_D_passHour) 49 = .ok (.aaload, 1) := by decide +kernel
theorem d_D_passHour_50 : decode (mMc M_D_passHour) 50 = .ok (.invokevirtual 66, 3) := by decide +kernel
theorem d_D_passHour_53 : decode (mMc M_D_passHour) 53 = .ok (.ifCond .eq 19, 3) := by decide +kernel
theorem d_D_passHour_56 : decode (mMc M_D_passHour) 56 = .ok (.iload_n 1, 1) := by decide +kernel
theorem d_D_passHour_57 : decode (mMc M_D_passHour) 57 = .ok (.aload_n 0, 1) := by decide +kernel
theorem d_D_passHour_58 : decode (mMc M_D_passHour) 58 = .ok (.aload_n 0, 1) := by decide +kernel
theorem d_D_passHour_59 : decode (mMc M_D_passHour) 59 = .ok (.getfield 10, 3) := by decide +kernel
theorem d_D_passHour_62 : decode (mMc M_D_passHour) 62 = .ok (.getfield 139, 3) := by decide +kernel
theorem d_D_passHour_65 : decode (mMc M_D_passHour) 65 = .ok (.iload_n 2, 1) := by decide +kernel
theorem d_D_passHour_66 : decode (mMc M_D_passHour) 66 = .ok (.aaload, 1) := by decide +kernel
theorem d_D_passHour_67 : decode (mMc M_D_passHour) 67 = .ok (.invokevirtual 143, 3) := by decide +kernel
theorem d_D_passHour_70 : decode (mMc M_D_passHour) 70 = .ok (.iadd, 1) := by decide +kernel
theorem d_D_passHour_71 : decode (mMc M_D_passHour) 71 = .ok (.istore_n 1, 1) := by decide +kernel
theorem d_D_passHour_72 : decode (mMc M_D_passHour) 72 = .ok (.iinc 2 1, 3) := by decide +kernel
theorem d_D_passHour_75 : decode (mMc M_D_passHour) 75 = .ok (.goto (-45), 3) := by decide +kernel
theorem d_D_passHour_78 : decode (mMc M_D_passHour) 78 = .ok (.iload_n 1, 1) := by decide +kernel
theorem d_D_passHour_79 : decode (mMc M_D_passHour) 79 = .ok (.ireturn, 1) := by decide +kernel
theorem k_D_passHour : mCd M_D_passHour 0 := ⟨by decide, by decide, by decide +kernel, by decide, mG (3, 177) (by decide +kernel), mG (1, 2) (by decide +kernel)⟩
def M_D_levelInHour : mM := (⟨"FloatingDock$Dock", "levelInHour", "(II)I"⟩, prog_5_method_14_code, 4, (some .int), [])
theorem d_D_levelInHour_0 : decode (mMc M_D_levelInHour) 0 = .ok (.aload_n 0, 1) := by decide +kernel
theorem d_D_levelInHour_1 : decode (mMc M_D_levelInHour) 1 = .ok (.getfield 27, 3) := by decide +kernel
theorem d_D_levelInHour_4 : decode (mMc M_D_levelInHour) 4 = .ok (.ifCond .ne 20, 3) := by decide +kernel
theorem d_D_levelInHour_7 : decode (mMc M_D_levelInHour) 7 = .ok (.iconst 0, 1) := by decide +kernel
theorem d_D_levelInHour_8 : decode (mMc M_D_levelInHour) 8 = .ok (.sipush 200, 3) := by decide +kernel
theorem d_D_levelInHour_11 : decode (mMc M_D_levelInHour) 11 = .ok (.iload_n 2, 1) := by decide +kernel
theorem d_D_levelInHour_12 : decode (mMc M_D_levelInHour) 12 = .ok (.aload_n 0, 1) := by decide +kernel
theorem d_D_levelInHour_13 : decode (mMc M_D_levelInHour) 13 = .ok (.getfield 31, 3) := by decide +kernel
theorem d_D_levelInHour_16 : decode (mMc M_D_levelInHour) 16 = .ok (.iadd, 1) := by decide +kernel
theorem d_D_levelInHour_17 : decode (mMc M_D_levelInHour) 17 = .ok (.invokestatic 147, 3) := by decide +kernel
theorem d_D_levelInHour_20 : decode (mMc M_D_levelInHour) 20 = .ok (.invokestatic 150, 3) := by decide +kernel
theorem d_D_levelInHour_23 : decode (mMc M_D_levelInHour) 23 = .ok (.ireturn, 1) := by decide +kernel
theorem d_D_levelInHour_24 : decode (mMc M_D_levelInHour) 24 = .ok (.iload_n 1, 1) := by decide +kernel
theorem d_D_levelInHour_25 : decode (mMc M_D_levelInHour) 25 = .ok (.invokestatic 109, 3) := by decide +kernel
theorem d_D_levelInHour_28 : decode (mMc M_D_levelInHour) 28 = .ok (.iload_n 2, 1) := by decide +kernel
theorem d_D_levelInHour_29 : decode (mMc M_D_levelInHour) 29 = .ok (.isub, 1) := by decide +kernel
theorem d_D_levelInHour_30 : decode (mMc M_D_levelInHour) 30 = .ok (.istore_n 3, 1) := by decide +kernel
theorem d_D_levelInHour_31 : decode (mMc M_D_levelInHour) 31 = .ok (.iload_n 2, 1) := by decide +kernel
theorem d_D_levelInHour_32 : decode (mMc M_D_levelInHour) 32 = .ok (.bipush (-20), 2) := by decide +kernel
theorem d_D_levelInHour_34 : decode (mMc M_D_levelInHour) 34 = .ok (.bipush 20, 2) := by decide +kernel
theorem d_D_levelInHour_36 : decode (mMc M_D_levelInHour) 36 = .ok (.iload_n 3, 1) := by decide +kernel
theorem d_D_levelInHour_37 : decode (mMc M_D_levelInHour) 37 = .ok (.invokestatic 147, 3) := by decide +kernel
theorem d_D_levelInHour_40 : decode (mMc M_D_levelInHour) 40 = .ok (.invokestatic 150, 3) := by decide +kernel
theorem d_D_levelInHour_43 : decode (mMc M_D_levelInHour) 43 = .ok (.iadd, 1) := by decide +kernel
theorem d_D_levelInHour_44 : decode (mMc M_D_levelInHour) 44 = .ok (.ireturn, 1) := by decide +kernel
theorem k_D_levelInHour : mCd M_D_levelInHour 2 := ⟨by decide, by decide, by decide +kernel, by decide, mG (3, 181) (by decide +kernel), mG (1, 2) (by decide +kernel)⟩
def M_D_spendHour : mM := (⟨"FloatingDock$Dock", "spendHour", "(LFloatingDock$Ship;)I"⟩, prog_5_method_15_code, 4, (some .int), [])
theorem d_D_spendHour_0 : decode (mMc M_D_spendHour) 0 = .ok (.aload_n 1, 1) := by decide +kernel
theorem d_D_spendHour_1 : decode (mMc M_D_spendHour) 1 = .ok (.aload_n 0, 1) := by decide +kernel
theorem d_D_spendHour_2 : decode (mMc M_D_spendHour) 2 = .ok (.getfield 23, 3) := by decide +kernel
theorem d_D_spendHour_5 : decode (mMc M_D_spendHour) 5 = .ok (.invokevirtual 99, 3) := by decide +kernel
theorem d_D_spendHour_8 : decode (mMc M_D_spendHour) 8 = .ok (.ifCond .eq 21, 3) := by decide +kernel
theorem d_D_spendHour_11 : decode (mMc M_D_spendHour) 11 = .ok (.aload_n 1, 1) := by decide +kernel
theorem d_D_spendHour_12 : decode (mMc M_D_spendHour) 12 = .ok (.dup, 1) := by decide +kernel
theorem d_D_spendHour_13 : decode (mMc M_D_spendHour) 13 = .ok (.getfield 153, 3) := by decide +kernel
theorem d_D_spendHour_16 : decode (mMc M_D_spendHour) 16 = .ok (.iconst 1, 1) := by decide +kernel
theorem d_D_spendHour_17 : decode (mMc M_D_spendHour) 17 = .ok (.iadd, 1) := by decide +kernel
theorem d_D_spendHour_18 : decode (mMc M_D_spendHour) 18 = .ok (.putfield 153, 3) := by decide +kernel
theorem d_D_spendHour_21 : decode (mMc M_D_spendHour) 21 = .ok (.aload_n 0, 1) := by decide +kernel
theorem d_D_spendHour_22 : decode (mMc M_D_spendHour) 22 = .ok (.aload_n 1, 1) := by decide +kernel
theorem d_D_spendHour_23 : decode (mMc M_D_spendHour) 23 = .ok (.iconst 2, 1) := by decide +kernel
theorem d_D_spendHour_24 : decode (mMc M_D_spendHour) 24 = .ok (.invokevirtual 156, 3) := by decide +kernel
theorem d_D_spendHour_27 : decode (mMc M_D_spendHour) 27 = .ok (.iconst 0, 1) := by decide +kernel
theorem d_D_spendHour_28 : decode (mMc M_D_spendHour) 28 = .ok (.ireturn, 1) := by decide +kernel
theorem d_D_spendHour_29 : decode (mMc M_D_spendHour) 29 = .ok (.aload_n 0, 1) := by decide +kernel
theorem d_D_spendHour_30 : decode (mMc M_D_spendHour) 30 = .ok (.getfield 19, 3) := by decide +kernel
theorem d_D_spendHour_33 : decode (mMc M_D_spendHour) 33 = .ok (.aload_n 1, 1) := by decide +kernel
theorem d_D_spendHour_34 : decode (mMc M_D_spendHour) 34 = .ok (.invokevirtual 160, 3) := by decide +kernel
theorem d_D_spendHour_37 : decode (mMc M_D_spendHour) 37 = .ok (.istore_n 2, 1) := by decide +kernel
theorem d_D_spendHour_38 : decode (mMc M_D_spendHour) 38 = .ok (.iload_n 2, 1) := by decide +kernel
theorem d_D_spendHour_39 : decode (mMc M_D_spendHour) 39 = .ok (.iconst 2, 1) := by decide +kernel
theorem d_D_spendHour_40 : decode (mMc M_D_spendHour) 40 = .ok (.if_icmp .ge 21, 3) := by decide +kernel
theorem d_D_spendHour_43 : decode (mMc M_D_spendHour) 43 = .ok (.aload_n 1, 1) := by decide +kernel
theorem d_D_spendHour_44 : decode (mMc M_D_spendHour) 44 = .ok (.dup, 1) := by decide +kernel
theorem d_D_spendHour_45 : decode (mMc M_D_spendHour) 45 = .ok (.getfield 163, 3) := by decide +kernel
theorem d_D_spendHour_48 : decode (mMc M_D_spendHour) 48 = .ok (.iconst 1, 1) := by decide +kernel
theorem d_D_spendHour_49 : decode (mMc M_D_spendHour) 49 = .ok (.iadd, 1) := by decide +kernel
theorem d_D_spendHour_50 : decode (mMc M_D_spendHour) 50 = .ok (.putfield 163, 3) := by decide +kernel
theorem d_D_spendHour_53 : decode (mMc M_D_spendHour) 53 = .ok (.aload_n 0, 1) := by decide +kernel
theorem d_D_spendHour_54 : decode (mMc M_D_spendHour) 54 = .ok (.aload_n 1, 1) := by decide +kernel
theorem d_D_spendHour_55 : decode (mMc M_D_spendHour) 55 = .ok (.iconst 2, 1) := by decide +kernel
theorem d_D_spendHour_56 : decode (mMc M_D_spendHour) 56 = .ok (.invokevirtual 156, 3) := by decide +kernel
theorem d_D_spendHour_59 : decode (mMc M_D_spendHour) 59 = .ok (.iconst 0, 1) := by decide +kernel
theorem d_D_spendHour_60 : decode (mMc M_D_spendHour) 60 = .ok (.ireturn, 1) := by decide +kernel
theorem d_D_spendHour_61 : decode (mMc M_D_spendHour) 61 = .ok (.aload_n 1, 1) := by decide +kernel
theorem d_D_spendHour_62 : decode (mMc M_D_spendHour) 62 = .ok (.getfield 106, 3) := by decide +kernel
theorem d_D_spendHour_65 : decode (mMc M_D_spendHour) 65 = .ok (.ifCond .eq 14, 3) := by decide +kernel
theorem d_D_spendHour_68 : decode (mMc M_D_spendHour) 68 = .ok (.iconst 3, 1) := by decide +kernel
theorem d_D_spendHour_69 : decode (mMc M_D_spendHour) 69 = .ok (.aload_n 1, 1) := by decide +kernel
theorem d_D_spendHour_70 : decode (mMc M_D_spendHour) 70 = .ok (.getfield 166, 3) := by decide +kernel
theorem d_D_spendHour_73 : decode (mMc M_D_spendHour) 73 = .ok (.invokestatic 147, 3) := by decide +kernel
theorem d_D_spendHour_76 : decode (mMc M_D_spendHour) 76 = .ok (.goto 4, 3) := by decide +kernel
theorem d_D_spendHour_79 : decode (mMc M_D_spendHour) 79 = .ok (.iconst 0, 1) := by decide +kernel
theorem d_D_spendHour_80 : decode (mMc M_D_spendHour) 80 = .ok (.istore_n 3, 1) := by decide +kernel
theorem d_D_spendHour_81 : decode (mMc M_D_spendHour) 81 = .ok (.aload_n 1, 1) := by decide +kernel
theorem d_D_spendHour_82 : decode (mMc M_D_spendHour) 82 = .ok (.dup, 1) := by decide +kernel
theorem d_D_spendHour_83 : decode (mMc M_D_spendHour) 83 = .ok (.getfield 166, 3) := by decide +kernel
theorem d_D_spendHour_86 : decode (mMc M_D_spendHour) 86 = .ok (.iload_n 3, 1) := by decide +kernel
theorem d_D_spendHour_87 : decode (mMc M_D_spendHour) 87 = .ok (.isub, 1) := by decide +kernel
theorem d_D_spendHour_88 : decode (mMc M_D_spendHour) 88 = .ok (.putfield 166, 3) := by decide +kernel
theorem d_D_spendHour_91 : decode (mMc M_D_spendHour) 91 = .ok (.aload_n 0, 1) := by decide +kernel
theorem d_D_spendHour_92 : decode (mMc M_D_spendHour) 92 = .ok (.aload_n 1, 1) := by decide +kernel
theorem d_D_spendHour_93 : decode (mMc M_D_spendHour) 93 = .ok (.iconst 2, 1) := by decide +kernel
theorem d_D_spendHour_94 : decode (mMc M_D_spendHour) 94 = .ok (.iload_n 2, 1) := by decide +kernel
theorem d_D_spendHour_95 : decode (mMc M_D_spendHour) 95 = .ok (.iadd, 1) := by decide +kernel
theorem d_D_spendHour_96 : decode (mMc M_D_spendHour) 96 = .ok (.iconst 3, 1) := by decide +kernel
theorem d_D_spendHour_97 : decode (mMc M_D_spendHour) 97 = .ok (.iload_n 3, 1) := by decide +kernel
theorem d_D_spendHour_98 : decode (mMc M_D_spendHour) 98 = .ok (.imul, 1) := by decide +kernel
theorem d_D_spendHour_99 : decode (mMc M_D_spendHour) 99 = .ok (.iadd, 1) := by decide +kernel
theorem d_D_spendHour_100 : decode (mMc M_D_spendHour) 100 = .ok (.invokevirtual 156, 3) := by decide +kernel
theorem d_D_spendHour_103 : decode (mMc M_D_spendHour) 103 = .ok (.iload_n 3, 1) := by decide +kernel
theorem d_D_spendHour_104 : decode (mMc M_D_spendHour) 104 = .ok (.ireturn, 1) := by decide +kernel
theorem k_D_spendHour : mCd M_D_spendHour 1 := ⟨by decide, by decide, by decide +kernel, by decide, mG (3, 189) (by decide +kernel), mG (1, 2) (by decide +kernel)⟩
def M_D_charge : mM := (⟨"FloatingDock$Dock", "charge", "(LFloatingDock$Ship;I)V"⟩, prog_5_method_22_code, 3, none, [])
theorem d_D_charge_0 : decode (mMc M_D_charge) 0 = .ok (.aload_n 1, 1) := by decide +kernel
theorem d_D_charge_1 : decode (mMc M_D_charge) 1 = .ok (.dup, 1) := by decide +kernel
theorem d_D_charge_2 : decode (mMc M_D_charge) 2 = .ok (.getfield 103, 3) := by decide +kernel
theorem d_D_charge_5 : decode (mMc M_D_charge) 5 = .ok (.iload_n 2, 1) := by decide +kernel
theorem d_D_charge_6 : decode (mMc M_D_charge) 6 = .ok (.iadd, 1) := by decide +kernel
theorem d_D_charge_7 : decode (mMc M_D_charge) 7 = .ok (.putfield 103, 3) := by decide +kernel
theorem d_D_charge_10 : decode (mMc M_D_charge) 10 = .ok (.aload_n 0, 1) := by decide +kernel
theorem d_D_charge_11 : decode (mMc M_D_charge) 11 = .ok (.dup, 1) := by decide +kernel
theorem d_D_charge_12 : decode (mMc M_D_charge) 12 = .ok (.getfield 37, 3) := by decide +kernel
theorem d_D_charge_15 : decode (mMc M_D_charge) 15 = .ok (.iload_n 2, 1) := by decide +kernel
theorem d_D_charge_16 : decode (mMc M_D_charge) 16 = .ok (.iadd, 1) := by decide +kernel
theorem d_D_charge_17 : decode (mMc M_D_charge) 17 = .ok (.putfield 37, 3) := by decide +kernel
theorem d_D_charge_20 : decode (mMc M_D_charge) 20 = .ok (.return_, 1) := by decide +kernel
theorem k_D_charge : mCd M_D_charge 2 := ⟨by decide, by decide, by decide +kernel, by decide, mG (3, 193) (by decide +kernel), mG (1, 2) (by decide +kernel)⟩
def M_D_addBlock : mM := (⟨"FloatingDock$Dock", "addBlock", "(I)I"⟩, prog_5_method_18_code, 2, (some .int), [])
theorem d_D_addBlock_0 : decode (mMc M_D_addBlock) 0 = .ok (.iload_n 1, 1) := by decide +kernel
theorem d_D_addBlock_1 : decode (mMc M_D_addBlock) 1 = .ok (.invokestatic 171, 3) := by decide +kernel
theorem d_D_addBlock_4 : decode (mMc M_D_addBlock) 4 = .ok (.aload_n 0, 1) := by decide +kernel
theorem d_D_addBlock_5 : decode (mMc M_D_addBlock) 5 = .ok (.getfield 19, 3) := by decide +kernel
theorem d_D_addBlock_8 : decode (mMc M_D_addBlock) 8 = .ok (.invokevirtual 174, 3) := by decide +kernel
theorem d_D_addBlock_11 : decode (mMc M_D_addBlock) 11 = .ok (.ifCond .ne 14, 3) := by decide +kernel
theorem d_D_addBlock_14 : decode (mMc M_D_addBlock) 14 = .ok (.aload_n 0, 1) := by decide +kernel
theorem d_D_addBlock_15 : decode (mMc M_D_addBlock) 15 = .ok (.getfield 19, 3) := by decide +kernel
theorem d_D_addBlock_18 : decode (mMc M_D_addBlock) 18 = .ok (.iload_n 1, 1) := by decide +kernel
theorem d_D_addBlock_19 : decode (mMc M_D_addBlock) 19 = .ok (.invokevirtual 177, 3) := by decide +kernel
theorem d_D_addBlock_22 : decode (mMc M_D_addBlock) 22 = .ok (.ifCond .eq 13, 3) := by decide +kernel
theorem d_D_addBlock_25 : decode (mMc M_D_addBlock) 25 = .ok (.new 70, 3) := by decide +kernel
theorem d_D_addBlock_28 : decode (mMc M_D_addBlock) 28 = .ok (.dup, 1) := by decide +kernel
theorem d_D_addBlock_29 : decode (mMc M_D_addBlock) 29 = .ok (.ldc 180, 2) := by decide +kernel
theorem d_D_addBlock_31 : decode (mMc M_D_addBlock) 31 = .ok (.invokespecial 74, 3) := by decide +kernel
theorem d_D_addBlock_34 : decode (mMc M_D_addBlock) 34 = .ok (.athrow, 1) := by decide +kernel
theorem d_D_addBlock_35 : decode (mMc M_D_addBlock) 35 = .ok (.aload_n 0, 1) := by decide +kernel
theorem d_D_addBlock_36 : decode (mMc M_D_addBlock) 36 = .ok (.iload_n 1, 1) := by decide +kernel
theorem d_D_addBlock_37 : decode (mMc M_D_addBlock) 37 = .ok (.invokevirtual 182, 3) := by decide +kernel
theorem d_D_addBlock_40 : decode (mMc M_D_addBlock) 40 = .ok (.aload_n 0, 1) := by decide +kernel
theorem d_D_addBlock_41 : decode (mMc M_D_addBlock) 41 = .ok (.getfield 19, 3) := by decide +kernel
theorem d_D_addBlock_44 : decode (mMc M_D_addBlock) 44 = .ok (.iload_n 1, 1) := by decide +kernel
theorem d_D_addBlock_45 : decode (mMc M_D_addBlock) 45 = .ok (.invokevirtual 185, 3) := by decide +kernel
theorem d_D_addBlock_48 : decode (mMc M_D_addBlock) 48 = .ok (.aload_n 0, 1) := by decide +kernel
theorem d_D_addBlock_49 : decode (mMc M_D_addBlock) 49 = .ok (.getfield 19, 3) := by decide +kernel
theorem d_D_addBlock_52 : decode (mMc M_D_addBlock) 52 = .ok (.getfield 188, 3) := by decide +kernel
theorem d_D_addBlock_55 : decode (mMc M_D_addBlock) 55 = .ok (.ireturn, 1) := by decide +kernel
theorem k_D_addBlock : mCd M_D_addBlock 1 := ⟨by decide, by decide, by decide +kernel, by decide, mG (3, 206) (by decide +kernel), mG (1, 2) (by decide +kernel)⟩
def M_D_checkWorkAt : mM := (⟨"FloatingDock$Dock", "checkWorkAt", "(I)V"⟩, prog_5_method_20_code, 2, none, [])
theorem d_D_checkWorkAt_0 : decode (mMc M_D_checkWorkAt) 0 = .ok (.aload_n 0, 1) := by decide +kernel
theorem d_D_checkWorkAt_1 : decode (mMc M_D_checkWorkAt) 1 = .ok (.getfield 23, 3) := by decide +kernel
theorem d_D_checkWorkAt_4 : decode (mMc M_D_checkWorkAt) 4 = .ok (.bipush 30, 2) := by decide +kernel
theorem d_D_checkWorkAt_6 : decode (mMc M_D_checkWorkAt) 6 = .ok (.if_icmp .gt 15, 3) := by decide +kernel
theorem d_D_checkWorkAt_9 : decode (mMc M_D_checkWorkAt) 9 = .ok (.aload_n 0, 1) := by decide +kernel
theorem d_D_checkWorkAt_10 : decode (mMc M_D_checkWorkAt) 10 = .ok (.getfield 10, 3) := by decide +kernel
theorem d_D_checkWorkAt_13 : decode (mMc M_D_checkWorkAt) 13 = .ok (.iload_n 1, 1) := by decide +kernel
theorem d_D_checkWorkAt_14 : decode (mMc M_D_checkWorkAt) 14 = .ok (.iconst 1, 1) := by decide +kernel
theorem d_D_checkWorkAt_15 : decode (mMc M_D_checkWorkAt) 15 = .ok (.invokevirtual 79, 3) := by decide +kernel
theorem d_D_checkWorkAt_18 : decode (mMc M_D_checkWorkAt) 18 = .ok (.ifnull 13, 3) := by decide +kernel
theorem d_D_checkWorkAt_21 : decode (mMc M_D_checkWorkAt) 21 = .ok (.new 120, 3) := by decide +kernel
theorem d_D_checkWorkAt_24 : decode (mMc M_D_checkWorkAt) 24 = .ok (.dup, 1) := by decide +kernel
theorem d_D_checkWorkAt_25 : decode (mMc M_D_checkWorkAt) 25 = .ok (.ldc 197, 2) := by decide +kernel
theorem d_D_checkWorkAt_27 : decode (mMc M_D_checkWorkAt) 27 = .ok (.invokespecial 124, 3) := by decide +kernel
theorem d_D_checkWorkAt_30 : decode (mMc M_D_checkWorkAt) 30 = .ok (.athrow, 1) := by decide +kernel
theorem d_D_checkWorkAt_31 : decode (mMc M_D_checkWorkAt) 31 = .ok (.return_, 1) := by decide +kernel
theorem k_D_checkWorkAt : mCd M_D_checkWorkAt 1 := ⟨by decide, by decide, by decide +kernel, by decide, mG (3, 229) (by decide +kernel), mG (1, 2) (by decide +kernel)⟩
def M_D_takeBlock : mM := (⟨"FloatingDock$Dock", "takeBlock", "(I)I"⟩, prog_5_method_19_code, 2, (some .int), [])
theorem d_D_takeBlock_0 : decode (mMc M_D_takeBlock) 0 = .ok (.iload_n 1, 1) := by decide +kernel
theorem d_D_takeBlock_1 : decode (mMc M_D_takeBlock) 1 = .ok (.invokestatic 171, 3) := by decide +kernel
theorem d_D_takeBlock_4 : decode (mMc M_D_takeBlock) 4 = .ok (.aload_n 0, 1) := by decide +kernel
theorem d_D_takeBlock_5 : decode (mMc M_D_takeBlock) 5 = .ok (.getfield 19, 3) := by decide +kernel
theorem d_D_takeBlock_8 : decode (mMc M_D_takeBlock) 8 = .ok (.iload_n 1, 1) := by decide +kernel
theorem d_D_takeBlock_9 : decode (mMc M_D_takeBlock) 9 = .ok (.invokevirtual 177, 3) := by decide +kernel
theorem d_D_takeBlock_12 : decode (mMc M_D_takeBlock) 12 = .ok (.ifCond .ne 13, 3) := by decide +kernel
theorem d_D_takeBlock_15 : decode (mMc M_D_takeBlock) 15 = .ok (.new 189, 3) := by decide +kernel
theorem d_D_takeBlock_18 : decode (mMc M_D_takeBlock) 18 = .ok (.dup, 1) := by decide +kernel
theorem d_D_takeBlock_19 : decode (mMc M_D_takeBlock) 19 = .ok (.ldc 191, 2) := by decide +kernel
theorem d_D_takeBlock_21 : decode (mMc M_D_takeBlock) 21 = .ok (.invokespecial 193, 3) := by decide +kernel
theorem d_D_takeBlock_24 : decode (mMc M_D_takeBlock) 24 = .ok (.athrow, 1) := by decide +kernel
theorem d_D_takeBlock_25 : decode (mMc M_D_takeBlock) 25 = .ok (.aload_n 0, 1) := by decide +kernel
theorem d_D_takeBlock_26 : decode (mMc M_D_takeBlock) 26 = .ok (.iload_n 1, 1) := by decide +kernel
theorem d_D_takeBlock_27 : decode (mMc M_D_takeBlock) 27 = .ok (.invokevirtual 182, 3) := by decide +kernel
theorem d_D_takeBlock_30 : decode (mMc M_D_takeBlock) 30 = .ok (.aload_n 0, 1) := by decide +kernel
theorem d_D_takeBlock_31 : decode (mMc M_D_takeBlock) 31 = .ok (.getfield 19, 3) := by decide +kernel
theorem d_D_takeBlock_34 : decode (mMc M_D_takeBlock) 34 = .ok (.iload_n 1, 1) := by decide +kernel
theorem d_D_takeBlock_35 : decode (mMc M_D_takeBlock) 35 = .ok (.invokevirtual 194, 3) := by decide +kernel
theorem d_D_takeBlock_38 : decode (mMc M_D_takeBlock) 38 = .ok (.aload_n 0, 1) := by decide +kernel
theorem d_D_takeBlock_39 : decode (mMc M_D_takeBlock) 39 = .ok (.getfield 19, 3) := by decide +kernel
theorem d_D_takeBlock_42 : decode (mMc M_D_takeBlock) 42 = .ok (.getfield 188, 3) := by decide +kernel
theorem d_D_takeBlock_45 : decode (mMc M_D_takeBlock) 45 = .ok (.ireturn, 1) := by decide +kernel
theorem k_D_takeBlock : mCd M_D_takeBlock 1 := ⟨by decide, by decide, by decide +kernel, by decide, mG (4, 3) (by decide +kernel), mG (1, 2) (by decide +kernel)⟩
def M_D_takeCoins : mM := (⟨"FloatingDock$Dock", "takeCoins", "(II)I"⟩, prog_5_method_23_code, 4, (some .int), [])
theorem d_D_takeCoins_0 : decode (mMc M_D_takeCoins) 0 = .ok (.aload_n 0, 1) := by decide +kernel
theorem d_D_takeCoins_1 : decode (mMc M_D_takeCoins) 1 = .ok (.getfield 10, 3) := by decide +kernel
theorem d_D_takeCoins_4 : decode (mMc M_D_takeCoins) 4 = .ok (.iload_n 1, 1) := by decide +kernel
theorem d_D_takeCoins_5 : decode (mMc M_D_takeCoins) 5 = .ok (.invokevirtual 50, 3) := by decide +kernel
theorem d_D_takeCoins_8 : decode (mMc M_D_takeCoins) 8 = .ok (.astore_n 3, 1) := by decide +kernel
theorem d_D_takeCoins_9 : decode (mMc M_D_takeCoins) 9 = .ok (.iload_n 2, 1) := by decide +kernel
theorem d_D_takeCoins_10 : decode (mMc M_D_takeCoins) 10 = .ok (.iconst 1, 1) := by decide +kernel
theorem d_D_takeCoins_11 : decode (mMc M_D_takeCoins) 11 = .ok (.if_icmp .lt 10, 3) := by decide +kernel
theorem d_D_takeCoins_14 : decode (mMc M_D_takeCoins) 14 = .ok (.iload_n 2, 1) := by decide +kernel
theorem d_D_takeCoins_15 : decode (mMc M_D_takeCoins) 15 = .ok (.sipush 999, 3) := by decide +kernel
theorem d_D_takeCoins_18 : decode (mMc M_D_takeCoins) 18 = .ok (.if_icmp .le 13, 3) := by decide +kernel
theorem d_D_takeCoins_21 : decode (mMc M_D_takeCoins) 21 = .ok (.new 59, 3) := by decide +kernel
theorem d_D_takeCoins_24 : decode (mMc M_D_takeCoins) 24 = .ok (.dup, 1) := by decide +kernel
theorem d_D_takeCoins_25 : decode (mMc M_D_takeCoins) 25 = .ok (.ldc 202, 2) := by decide +kernel
theorem d_D_takeCoins_27 : decode (mMc M_D_takeCoins) 27 = .ok (.invokespecial 63, 3) := by decide +kernel
theorem d_D_takeCoins_30 : decode (mMc M_D_takeCoins) 30 = .ok (.athrow, 1) := by decide +kernel
theorem d_D_takeCoins_31 : decode (mMc M_D_takeCoins) 31 = .ok (.aload_n 3, 1) := by decide +kernel
theorem d_D_takeCoins_32 : decode (mMc M_D_takeCoins) 32 = .ok (.getfield 103, 3) := by decide +kernel
theorem d_D_takeCoins_35 : decode (mMc M_D_takeCoins) 35 = .ok (.iload_n 2, 1) := by decide +kernel
theorem d_D_takeCoins_36 : decode (mMc M_D_takeCoins) 36 = .ok (.if_icmp .ge 13, 3) := by decide +kernel
theorem d_D_takeCoins_39 : decode (mMc M_D_takeCoins) 39 = .ok (.new 70, 3) := by decide +kernel
theorem d_D_takeCoins_42 : decode (mMc M_D_takeCoins) 42 = .ok (.dup, 1) := by decide +kernel
theorem d_D_takeCoins_43 : decode (mMc M_D_takeCoins) 43 = .ok (.ldc 204, 2) := by decide +kernel
theorem d_D_takeCoins_45 : decode (mMc M_D_takeCoins) 45 = .ok (.invokespecial 74, 3) := by decide +kernel
theorem d_D_takeCoins_48 : decode (mMc M_D_takeCoins) 48 = .ok (.athrow, 1) := by decide +kernel
theorem d_D_takeCoins_49 : decode (mMc M_D_takeCoins) 49 = .ok (.aload_n 3, 1) := by decide +kernel
theorem d_D_takeCoins_50 : decode (mMc M_D_takeCoins) 50 = .ok (.dup, 1) := by decide +kernel
theorem d_D_takeCoins_51 : decode (mMc M_D_takeCoins) 51 = .ok (.getfield 103, 3) := by decide +kernel
theorem d_D_takeCoins_54 : decode (mMc M_D_takeCoins) 54 = .ok (.iload_n 2, 1) := by decide +kernel
theorem d_D_takeCoins_55 : decode (mMc M_D_takeCoins) 55 = .ok (.isub, 1) := by decide +kernel
theorem d_D_takeCoins_56 : decode (mMc M_D_takeCoins) 56 = .ok (.putfield 103, 3) := by decide +kernel
theorem d_D_takeCoins_59 : decode (mMc M_D_takeCoins) 59 = .ok (.aload_n 0, 1) := by decide +kernel
theorem d_D_takeCoins_60 : decode (mMc M_D_takeCoins) 60 = .ok (.dup, 1) := by decide +kernel
theorem d_D_takeCoins_61 : decode (mMc M_D_takeCoins) 61 = .ok (.getfield 40, 3) := by decide +kernel
theorem d_D_takeCoins_64 : decode (mMc M_D_takeCoins) 64 = .ok (.iload_n 2, 1) := by decide +kernel
theorem d_D_takeCoins_65 : decode (mMc M_D_takeCoins) 65 = .ok (.iadd, 1) := by decide +kernel
theorem d_D_takeCoins_66 : decode (mMc M_D_takeCoins) 66 = .ok (.putfield 40, 3) := by decide +kernel
theorem d_D_takeCoins_69 : decode (mMc M_D_takeCoins) 69 = .ok (.aload_n 3, 1) := by decide +kernel
theorem d_D_takeCoins_70 : decode (mMc M_D_takeCoins) 70 = .ok (.getfield 103, 3) := by decide +kernel
theorem d_D_takeCoins_73 : decode (mMc M_D_takeCoins) 73 = .ok (.ireturn, 1) := by decide +kernel
theorem k_D_takeCoins : mCd M_D_takeCoins 2 := ⟨by decide, by decide, by decide +kernel, by decide, mG (4, 18) (by decide +kernel), mG (1, 2) (by decide +kernel)⟩
def M_D_foreseenLevel : mM := (⟨"FloatingDock$Dock", "foreseenLevel", "(I)I"⟩, prog_5_method_16_code, 4, (some .int), [])
theorem d_D_foreseenLevel_0 : decode (mMc M_D_foreseenLevel) 0 = .ok (.iload_n 1, 1) := by decide +kernel
theorem d_D_foreseenLevel_1 : decode (mMc M_D_foreseenLevel) 1 = .ok (.ifCond .lt 9, 3) := by decide +kernel
theorem d_D_foreseenLevel_4 : decode (mMc M_D_foreseenLevel) 4 = .ok (.iload_n 1, 1) := by decide +kernel
theorem d_D_foreseenLevel_5 : decode (mMc M_D_foreseenLevel) 5 = .ok (.bipush 96, 2) := by decide +kernel
theorem d_D_foreseenLevel_7 : decode (mMc M_D_foreseenLevel) 7 = .ok (.if_icmp .le 13, 3) := by decide +kernel
theorem d_D_foreseenLevel_10 : decode (mMc M_D_foreseenLevel) 10 = .ok (.new 59, 3) := by decide +kernel
theorem d_D_foreseenLevel_13 : decode (mMc M_D_foreseenLevel) 13 = .ok (.dup, 1) := by decide +kernel
theorem d_D_foreseenLevel_14 : decode (mMc M_D_foreseenLevel) 14 = .ok (.ldc 127, 2) := by decide +kernel
theorem d_D_foreseenLevel_16 : decode (mMc M_D_foreseenLevel) 16 = .ok (.invokespecial 63, 3) := by decide +kernel
theorem d_D_foreseenLevel_19 : decode (mMc M_D_foreseenLevel) 19 = .ok (.athrow, 1) := by decide +kernel
theorem d_D_foreseenLevel_20 : decode (mMc M_D_foreseenLevel) 20 = .ok (.aload_n 0, 1) := by decide +kernel
theorem d_D_foreseenLevel_21 : decode (mMc M_D_foreseenLevel) 21 = .ok (.getfield 23, 3) := by decide +kernel
theorem d_D_foreseenLevel_24 : decode (mMc M_D_foreseenLevel) 24 = .ok (.istore_n 2, 1) := by decide +kernel
theorem d_D_foreseenLevel_25 : decode (mMc M_D_foreseenLevel) 25 = .ok (.iconst 1, 1) := by decide +kernel
theorem d_D_foreseenLevel_26 : decode (mMc M_D_foreseenLevel) 26 = .ok (.istore_n 3, 1) := by decide +kernel
theorem d_D_foreseenLevel_27 : decode (mMc M_D_foreseenLevel) 27 = .ok (.iload_n 3, 1) := by decide +kernel
theorem d_D_foreseenLevel_28 : decode (mMc M_D_foreseenLevel) 28 = .ok (.iload_n 1, 1) := by decide +kernel
theorem d_D_foreseenLevel_29 : decode (mMc M_D_foreseenLevel) 29 = .ok (.if_icmp .gt 21, 3) := by decide +kernel
theorem d_D_foreseenLevel_32 : decode (mMc M_D_foreseenLevel) 32 = .ok (.aload_n 0, 1) := by decide +kernel
theorem d_D_foreseenLevel_33 : decode (mMc M_D_foreseenLevel) 33 = .ok (.aload_n 0, 1) := by decide +kernel
theorem d_D_foreseenLevel_34 : decode (mMc M_D_foreseenLevel) 34 = .ok (.getfield 34, 3) := by decide +kernel
theorem d_D_foreseenLevel_37 : decode (mMc M_D_foreseenLevel) 37 = .ok (.iload_n 3, 1) := by decide +kernel
theorem d_D_foreseenLevel_38 : decode (mMc M_D_foreseenLevel) 38 = .ok (.iadd, 1) := by decide +kernel
theorem d_D_foreseenLevel_39 : decode (mMc M_D_foreseenLevel) 39 = .ok (.iload_n 2, 1) := by decide +kernel
theorem d_D_foreseenLevel_40 : decode (mMc M_D_foreseenLevel) 40 = .ok (.invokevirtual 132, 3) := by decide +kernel
theorem d_D_foreseenLevel_43 : decode (mMc M_D_foreseenLevel) 43 = .ok (.istore_n 2, 1) := by decide +kernel
theorem d_D_foreseenLevel_44 : decode (mMc M_D_foreseenLevel) 44 = .ok (.iinc 3 1, 3) := by decide +kernel
theorem d_D_foreseenLevel_47 : decode (mMc M_D_foreseenLevel) 47 = .ok (.goto (-20), 3) := by decide +kernel
theorem d_D_foreseenLevel_50 : decode (mMc M_D_foreseenLevel) 50 = .ok (.iload_n 2, 1) := by decide +kernel
theorem d_D_foreseenLevel_51 : decode (mMc M_D_foreseenLevel) 51 = .ok (.ireturn, 1) := by decide +kernel
theorem k_D_foreseenLevel : mCd M_D_foreseenLevel 1 := ⟨by decide, by decide, by decide +kernel, by decide, mG (6, 3) (by decide +kernel), mG (1, 2) (by decide +kernel)⟩
def M_D_hoursToFloat : mM := (⟨"FloatingDock$Dock", "hoursToFloat", "(I)I"⟩, prog_5_method_17_code, 5, (some .int), [])
theorem d_D_hoursToFloat_0 : decode (mMc M_D_hoursToFloat) 0 = .ok (.aload_n 0, 1) := by decide +kernel
theorem d_D_hoursToFloat_1 : decode (mMc M_D_hoursToFloat) 1 = .ok (.getfield 10, 3) := by decide +kernel
theorem d_D_hoursToFloat_4 : decode (mMc M_D_hoursToFloat) 4 = .ok (.iload_n 1, 1) := by decide +kernel
theorem d_D_hoursToFloat_5 : decode (mMc M_D_hoursToFloat) 5 = .ok (.invokevirtual 50, 3) := by decide +kernel
theorem d_D_hoursToFloat_8 : decode (mMc M_D_hoursToFloat) 8 = .ok (.astore_n 2, 1) := by decide +kernel
theorem d_D_hoursToFloat_9 : decode (mMc M_D_hoursToFloat) 9 = .ok (.aload_n 0, 1) := by decide +kernel
theorem d_D_hoursToFloat_10 : decode (mMc M_D_hoursToFloat) 10 = .ok (.getfield 23, 3) := by decide +kernel
theorem d_D_hoursToFloat_13 : decode (mMc M_D_hoursToFloat) 13 = .ok (.istore_n 3, 1) := by decide +kernel
theorem d_D_hoursToFloat_14 : decode (mMc M_D_hoursToFloat) 14 = .ok (.iconst 0, 1) := by decide +kernel
theorem d_D_hoursToFloat_15 : decode (mMc M_D_hoursToFloat) 15 = .ok (.istore 4, 2) := by decide +kernel
theorem d_D_hoursToFloat_17 : decode (mMc M_D_hoursToFloat) 17 = .ok (.iload 4, 2) := by decide +kernel
theorem d_D_hoursToFloat_19 : decode (mMc M_D_hoursToFloat) 19 = .ok (.bipush 96, 2) := by decide +kernel
theorem d_D_hoursToFloat_21 : decode (mMc M_D_hoursToFloat) 21 = .ok (.if_icmp .gt 35, 3) := by decide +kernel
theorem d_D_hoursToFloat_24 : decode (mMc M_D_hoursToFloat) 24 = .ok (.aload_n 2, 1) := by decide +kernel
theorem d_D_hoursToFloat_25 : decode (mMc M_D_hoursToFloat) 25 = .ok (.iload_n 3, 1) := by decide +kernel
theorem d_D_hoursToFloat_26 : decode (mMc M_D_hoursToFloat) 26 = .ok (.invokevirtual 99, 3) := by decide +kernel
theorem d_D_hoursToFloat_29 : decode (mMc M_D_hoursToFloat) 29 = .ok (.ifCond .eq 6, 3) := by decide +kernel
theorem d_D_hoursToFloat_32 : decode (mMc M_D_hoursToFloat) 32 = .ok (.iload 4, 2) := by decide +kernel
theorem d_D_hoursToFloat_34 : decode (mMc M_D_hoursToFloat) 34 = .ok (.ireturn, 1) := by decide +kernel
theorem d_D_hoursToFloat_35 : decode (mMc M_D_hoursToFloat) 35 = .ok (.aload_n 0, 1) := by decide +kernel
theorem d_D_hoursToFloat_36 : decode (mMc M_D_hoursToFloat) 36 = .ok (.aload_n 0, 1) := by decide +kernel
theorem d_D_hoursToFloat_37 : decode (mMc M_D_hoursToFloat) 37 = .ok (.getfield 34, 3) := by decide +kernel
theorem d_D_hoursToFloat_40 : decode (mMc M_D_hoursToFloat) 40 = .ok (.iload 4, 2) := by decide +kernel
theorem d_D_hoursToFloat_42 : decode (mMc M_D_hoursToFloat) 42 = .ok (.iadd, 1) := by decide +kernel
theorem d_D_hoursToFloat_43 : decode (mMc M_D_hoursToFloat) 43 = .ok (.iconst 1, 1) := by decide +kernel
theorem d_D_hoursToFloat_44 : decode (mMc M_D_hoursToFloat) 44 = .ok (.iadd, 1) := by decide +kernel
theorem d_D_hoursToFloat_45 : decode (mMc M_D_hoursToFloat) 45 = .ok (.iload_n 3, 1) := by decide +kernel
theorem d_D_hoursToFloat_46 : decode (mMc M_D_hoursToFloat) 46 = .ok (.invokevirtual 132, 3) := by decide +kernel
theorem d_D_hoursToFloat_49 : decode (mMc M_D_hoursToFloat) 49 = .ok (.istore_n 3, 1) := by decide +kernel
theorem d_D_hoursToFloat_50 : decode (mMc M_D_hoursToFloat) 50 = .ok (.iinc 4 1, 3) := by decide +kernel
theorem d_D_hoursToFloat_53 : decode (mMc M_D_hoursToFloat) 53 = .ok (.goto (-36), 3) := by decide +kernel
theorem d_D_hoursToFloat_56 : decode (mMc M_D_hoursToFloat) 56 = .ok (.new 70, 3) := by decide +kernel
theorem d_D_hoursToFloat_59 : decode (mMc M_D_hoursToFloat) 59 = .ok (.dup, 1) := by decide +kernel
theorem d_D_hoursToFloat_60 : decode (mMc M_D_hoursToFloat) 60 = .ok (.ldc 169, 2) := by decide +kernel
theorem d_D_hoursToFloat_62 : decode (mMc M_D_hoursToFloat) 62 = .ok (.invokespecial 74, 3) := by decide +kernel
theorem d_D_hoursToFloat_65 : decode (mMc M_D_hoursToFloat) 65 = .ok (.athrow, 1) := by decide +kernel
theorem k_D_hoursToFloat : mCd M_D_hoursToFloat 1 := ⟨by decide, by decide, by decide +kernel, by decide, mG (6, 11) (by decide +kernel), mG (1, 2) (by decide +kernel)⟩
def M_D_signAt : mM := (⟨"FloatingDock$Dock", "signAt", "(I)C"⟩, prog_5_method_21_code, 3, (some .char), [])
theorem d_D_signAt_0 : decode (mMc M_D_signAt) 0 = .ok (.aload_n 0, 1) := by decide +kernel
theorem d_D_signAt_1 : decode (mMc M_D_signAt) 1 = .ok (.getfield 10, 3) := by decide +kernel
theorem d_D_signAt_4 : decode (mMc M_D_signAt) 4 = .ok (.iload_n 1, 1) := by decide +kernel
theorem d_D_signAt_5 : decode (mMc M_D_signAt) 5 = .ok (.iconst 1, 1) := by decide +kernel
theorem d_D_signAt_6 : decode (mMc M_D_signAt) 6 = .ok (.invokevirtual 79, 3) := by decide +kernel
theorem d_D_signAt_9 : decode (mMc M_D_signAt) 9 = .ok (.astore_n 2, 1) := by decide +kernel
theorem d_D_signAt_10 : decode (mMc M_D_signAt) 10 = .ok (.aload_n 2, 1) := by decide +kernel
theorem d_D_signAt_11 : decode (mMc M_D_signAt) 11 = .ok (.ifnull 15, 3) := by decide +kernel
theorem d_D_signAt_14 : decode (mMc M_D_signAt) 14 = .ok (.bipush 48, 2) := by decide +kernel
theorem d_D_signAt_16 : decode (mMc M_D_signAt) 16 = .ok (.aload_n 2, 1) := by decide +kernel
theorem d_D_signAt_17 : decode (mMc M_D_signAt) 17 = .ok (.getfield 199, 3) := by decide +kernel
theorem d_D_signAt_20 : decode (mMc M_D_signAt) 20 = .ok (.bipush 10, 2) := by decide +kernel
theorem d_D_signAt_22 : decode (mMc M_D_signAt) 22 = .ok (.irem, 1) := by decide +kernel
theorem d_D_signAt_23 : decode (mMc M_D_signAt) 23 = .ok (.iadd, 1) := by decide +kernel
theorem d_D_signAt_24 : decode (mMc M_D_signAt) 24 = .ok (.i2c, 1) := by decide +kernel
theorem d_D_signAt_25 : decode (mMc M_D_signAt) 25 = .ok (.ireturn, 1) := by decide +kernel
theorem d_D_signAt_26 : decode (mMc M_D_signAt) 26 = .ok (.aload_n 0, 1) := by decide +kernel
theorem d_D_signAt_27 : decode (mMc M_D_signAt) 27 = .ok (.getfield 19, 3) := by decide +kernel
theorem d_D_signAt_30 : decode (mMc M_D_signAt) 30 = .ok (.iload_n 1, 1) := by decide +kernel
theorem d_D_signAt_31 : decode (mMc M_D_signAt) 31 = .ok (.invokevirtual 177, 3) := by decide +kernel
theorem d_D_signAt_34 : decode (mMc M_D_signAt) 34 = .ok (.ifCond .eq 8, 3) := by decide +kernel
theorem d_D_signAt_37 : decode (mMc M_D_signAt) 37 = .ok (.bipush 94, 2) := by decide +kernel
theorem d_D_signAt_39 : decode (mMc M_D_signAt) 39 = .ok (.goto 5, 3) := by decide +kernel
theorem d_D_signAt_42 : decode (mMc M_D_signAt) 42 = .ok (.bipush 46, 2) := by decide +kernel
theorem d_D_signAt_44 : decode (mMc M_D_signAt) 44 = .ok (.ireturn, 1) := by decide +kernel
theorem k_D_signAt : mCd M_D_signAt 1 := ⟨by decide, by decide, by decide +kernel, by decide, mG (6, 130) (by decide +kernel), mG (1, 2) (by decide +kernel)⟩
def M_D_billsByAccount : mM := (⟨"FloatingDock$Dock", "billsByAccount", "()I"⟩, prog_5_method_24_code, 1, (some .int), [])
theorem d_D_billsByAccount_0 : decode (mMc M_D_billsByAccount) 0 = .ok (.aload_n 0, 1) := by decide +kernel
theorem d_D_billsByAccount_1 : decode (mMc M_D_billsByAccount) 1 = .ok (.getfield 37, 3) := by decide +kernel
theorem d_D_billsByAccount_4 : decode (mMc M_D_billsByAccount) 4 = .ok (.aload_n 0, 1) := by decide +kernel
theorem d_D_billsByAccount_5 : decode (mMc M_D_billsByAccount) 5 = .ok (.getfield 40, 3) := by decide +kernel
theorem d_D_billsByAccount_8 : decode (mMc M_D_billsByAccount) 8 = .ok (.isub, 1) := by decide +kernel
theorem d_D_billsByAccount_9 : decode (mMc M_D_billsByAccount) 9 = .ok (.ireturn, 1) := by decide +kernel
theorem k_D_billsByAccount : mCd M_D_billsByAccount 0 := ⟨by decide, by decide, by decide +kernel, by decide, mG (6, 199) (by decide +kernel), mG (1, 2) (by decide +kernel)⟩
def M_D_isWaiting : mM := (⟨"FloatingDock$Dock", "isWaiting", "(LFloatingDock$Ship;)Z"⟩, prog_5_method_5_code, 2, (some .boolean), [])
theorem d_D_isWaiting_0 : decode (mMc M_D_isWaiting) 0 = .ok (.aload_n 1, 1) := by decide +kernel
theorem d_D_isWaiting_1 : decode (mMc M_D_isWaiting) 1 = .ok (.invokevirtual 66, 3) := by decide +kernel
theorem d_D_isWaiting_4 : decode (mMc M_D_isWaiting) 4 = .ok (.ifCond .ne 15, 3) := by decide +kernel
theorem d_D_isWaiting_7 : decode (mMc M_D_isWaiting) 7 = .ok (.aload_n 0, 1) := by decide +kernel
theorem d_D_isWaiting_8 : decode (mMc M_D_isWaiting) 8 = .ok (.aload_n 1, 1) := by decide +kernel
theorem d_D_isWaiting_9 : decode (mMc M_D_isWaiting) 9 = .ok (.invokevirtual 75, 3) := by decide +kernel
theorem d_D_isWaiting_12 : decode (mMc M_D_isWaiting) 12 = .ok (.ifCond .eq 7, 3) := by decide +kernel
theorem d_D_isWaiting_15 : decode (mMc M_D_isWaiting) 15 = .ok (.iconst 1, 1) := by decide +kernel
theorem d_D_isWaiting_16 : decode (mMc M_D_isWaiting) 16 = .ok (.goto 4, 3) := by decide +kernel
theorem d_D_isWaiting_19 : decode (mMc M_D_isWaiting) 19 = .ok (.iconst 0, 1) := by decide +kernel
theorem d_D_isWaiting_20 : decode (mMc M_D_isWaiting) 20 = .ok (.ireturn, 1) := by decide +kernel
theorem k_D_isWaiting : mCd M_D_isWaiting 1 := ⟨by decide, by decide, by decide +kernel, by decide, mG (7, 21) (by decide +kernel), mG (1, 2) (by decide +kernel)⟩
def M_G_init : mM := (⟨"FloatingDock$Fitting", "<init>", "()V"⟩, prog_6_method_1_code, 1, none, [])
theorem d_G_init_0 : decode (mMc M_G_init) 0 = .ok (.aload_n 0, 1) := by decide +kernel
theorem d_G_init_1 : decode (mMc M_G_init) 1 = .ok (.invokespecial 1, 3) := by decide +kernel
theorem d_G_init_4 : decode (mMc M_G_init) 4 = .ok (.aload_n 0, 1) := by decide +kernel
theorem d_G_init_5 : decode (mMc M_G_init) 5 = .ok (.bipush 9, 2) := by decide +kernel
theorem d_G_init_7 : decode (mMc M_G_init) 7 = .ok (.newarray .int, 2) := by decide +kernel
theorem d_G_init_9 : decode (mMc M_G_init) 9 = .ok (.putfield 9, 3) := by decide +kernel
theorem d_G_init_12 : decode (mMc M_G_init) 12 = .ok (.aload_n 0, 1) := by decide +kernel
theorem d_G_init_13 : decode (mMc M_G_init) 13 = .ok (.iconst 0, 1) := by decide +kernel
theorem d_G_init_14 : decode (mMc M_G_init) 14 = .ok (.putfield 15, 3) := by decide +kernel
theorem d_G_init_17 : decode (mMc M_G_init) 17 = .ok (.aload_n 0, 1) := by decide +kernel
theorem d_G_init_18 : decode (mMc M_G_init) 18 = .ok (.bipush 8, 2) := by decide +kernel
theorem d_G_init_20 : decode (mMc M_G_init) 20 = .ok (.newarray .int, 2) := by decide +kernel
theorem d_G_init_22 : decode (mMc M_G_init) 22 = .ok (.putfield 19, 3) := by decide +kernel
theorem d_G_init_25 : decode (mMc M_G_init) 25 = .ok (.aload_n 0, 1) := by decide +kernel
theorem d_G_init_26 : decode (mMc M_G_init) 26 = .ok (.iconst 0, 1) := by decide +kernel
theorem d_G_init_27 : decode (mMc M_G_init) 27 = .ok (.putfield 22, 3) := by decide +kernel
theorem d_G_init_30 : decode (mMc M_G_init) 30 = .ok (.aload_n 0, 1) := by decide +kernel
theorem d_G_init_31 : decode (mMc M_G_init) 31 = .ok (.sipush 256, 3) := by decide +kernel
theorem d_G_init_34 : decode (mMc M_G_init) 34 = .ok (.newarray .int, 2) := by decide +kernel
theorem d_G_init_36 : decode (mMc M_G_init) 36 = .ok (.putfield 25, 3) := by decide +kernel
theorem d_G_init_39 : decode (mMc M_G_init) 39 = .ok (.aload_n 0, 1) := by decide +kernel
theorem d_G_init_40 : decode (mMc M_G_init) 40 = .ok (.sipush 256, 3) := by decide +kernel
theorem d_G_init_43 : decode (mMc M_G_init) 43 = .ok (.newarray .boolean, 2) := by decide +kernel
theorem d_G_init_45 : decode (mMc M_G_init) 45 = .ok (.putfield 28, 3) := by decide +kernel
theorem d_G_init_48 : decode (mMc M_G_init) 48 = .ok (.return_, 1) := by decide +kernel
theorem k_G_init : mCd M_G_init 0 := ⟨by decide, by decide, by decide +kernel, by decide, mG (1, 200) (by decide +kernel), mG (1, 7) (by decide +kernel)⟩
def M_G_mostByTrying : mM := (⟨"FloatingDock$Fitting", "mostByTrying", "(LFloatingDock$Dock;)I"⟩, prog_6_method_2_code, 2, (some .int), [])
theorem d_G_mostByTrying_0 : decode (mMc M_G_mostByTrying) 0 = .ok (.aload_n 0, 1) := by decide +kernel
theorem d_G_mostByTrying_1 : decode (mMc M_G_mostByTrying) 1 = .ok (.aload_n 1, 1) := by decide +kernel
theorem d_G_mostByTrying_2 : decode (mMc M_G_mostByTrying) 2 = .ok (.invokevirtual 32, 3) := by decide +kernel
theorem d_G_mostByTrying_5 : decode (mMc M_G_mostByTrying) 5 = .ok (.aload_n 0, 1) := by decide +kernel
theorem d_G_mostByTrying_6 : decode (mMc M_G_mostByTrying) 6 = .ok (.iconst 0, 1) := by decide +kernel
theorem d_G_mostByTrying_7 : decode (mMc M_G_mostByTrying) 7 = .ok (.invokestatic 36, 3) := by decide +kernel
theorem d_G_mostByTrying_10 : decode (mMc M_G_mostByTrying) 10 = .ok (.ireturn, 1) := by decide +kernel
theorem k_G_mostByTrying : mCd M_G_mostByTrying 1 := ⟨by decide, by decide, by decide +kernel, by decide, mG (7, 13) (by decide +kernel), mG (1, 7) (by decide +kernel)⟩
def M_G_survey : mM := (⟨"FloatingDock$Fitting", "survey", "(LFloatingDock$Dock;)V"⟩, prog_6_method_5_code, 4, none, [])
theorem d_G_survey_0 : decode (mMc M_G_survey) 0 = .ok (.aload_n 0, 1) := by decide +kernel
theorem d_G_survey_1 : decode (mMc M_G_survey) 1 = .ok (.iconst 0, 1) := by decide +kernel
theorem d_G_survey_2 : decode (mMc M_G_survey) 2 = .ok (.putfield 22, 3) := by decide +kernel
theorem d_G_survey_5 : decode (mMc M_G_survey) 5 = .ok (.iconst 0, 1) := by decide +kernel
theorem d_G_survey_6 : decode (mMc M_G_survey) 6 = .ok (.istore_n 2, 1) := by decide +kernel
theorem d_G_survey_7 : decode (mMc M_G_survey) 7 = .ok (.iload_n 2, 1) := by decide +kernel
theorem d_G_survey_8 : decode (mMc M_G_survey) 8 = .ok (.aload_n 1, 1) := by decide +kernel
theorem d_G_survey_9 : decode (mMc M_G_survey) 9 = .ok (.getfield 55, 3) := by decide +kernel
theorem d_G_survey_12 : decode (mMc M_G_survey) 12 = .ok (.getfield 61, 3) := by decide +kernel
theorem d_G_survey_15 : decode (mMc M_G_survey) 15 = .ok (.if_icmp .ge 56, 3) := by decide +kernel
theorem d_G_survey_18 : decode (mMc M_G_survey) 18 = .ok (.aload_n 1, 1) := by decide +kernel
theorem d_G_survey_19 : decode (mMc M_G_survey) 19 = .ok (.aload_n 1, 1) := by decide +kernel
theorem d_G_survey_20 : decode (mMc M_G_survey) 20 = .ok (.getfield 55, 3) := by decide +kernel
theorem d_G_survey_23 : decode (mMc M_G_survey) 23 = .ok (.getfield 64, 3) := by decide +kernel
theorem d_G_survey_26 : decode (mMc M_G_survey) 26 = .ok (.iload_n 2, 1) := by decide +kernel
theorem d_G_survey_27 : decode (mMc M_G_survey) 27 = .ok (.aaload, 1) := by decide +kernel
theorem d_G_survey_28 : decode (mMc M_G_survey) 28 = .ok (.invokevirtual 68, 3) := by decide +kernel
theorem d_G_survey_31 : decode (mMc M_G_survey) 31 = .ok (.ifCond .eq 34, 3) := by decide +kernel
theorem d_G_survey_34 : decode (mMc M_G_survey) 34 = .ok (.aload_n 0, 1) := by decide +kernel
theorem d_G_survey_35 : decode (mMc M_G_survey) 35 = .ok (.getfield 19, 3) := by decide +kernel
theorem d_G_survey_38 : decode (mMc M_G_survey) 38 = .ok (.aload_n 0, 1) := by decide +kernel
theorem d_G_survey_39 : decode (mMc M_G_survey) 39 = .ok (.getfield 22, 3) := by decide +kernel
theorem d_G_survey_42 : decode (mMc M_G_survey) 42 = .ok (.aload_n 1, 1) := by decide +kernel
theorem d_G_survey_43 : decode (mMc M_G_survey) 43 = .ok (.getfield 55, 3) := by decide +kernel
theorem d_G_survey_46 : decode (mMc M_G_survey) 46 = .ok (.getfield 64, 3) := by decide +kernel
theorem d_G_survey_49 : decode (mMc M_G_survey) 49 = .ok (.iload_n 2, 1) := by decide +kernel
theorem d_G_survey_50 : decode (mMc M_G_survey) 50 = .ok (.aaload, 1) := by decide +kernel
theorem d_G_survey_51 : decode (mMc M_G_survey) 51 = .ok (.getfield 72, 3) := by decide +kernel
theorem d_G_survey_54 : decode (mMc M_G_survey) 54 = .ok (.iastore, 1) := by decide +kernel
theorem d_G_survey_55 : decode (mMc M_G_survey) 55 = .ok (.aload_n 0, 1) := by decide +kernel
theorem d_G_survey_56 : decode (mMc M_G_survey) 56 = .ok (.dup, 1) := by decide +kernel
theorem d_G_survey_57 : decode (mMc M_G_survey) 57 = .ok (.getfield 22, 3) := by decide +kernel
theorem d_G_survey_60 : decode (mMc M_G_survey) 60 = .ok (.iconst 1, 1) := by decide +kernel
theorem d_G_survey_61 : decode (mMc M_G_survey) 61 = .ok (.iadd, 1) := by decide +kernel
theorem d_G_survey_62 : decode (mMc M_G_survey) 62 = .ok (.putfield 22, 3) := by decide +kernel
theorem d_G_survey_65 : decode (mMc M_G_survey) 65 = .ok (.iinc 2 1, 3) := by decide +kernel
theorem d_G_survey_68 : decode (mMc M_G_survey) 68 = .ok (.goto (-61), 3) := by decide +kernel
theorem d_G_survey_71 : decode (mMc M_G_survey) 71 = .ok (.aload_n 0, 1) := by decide +kernel
theorem d_G_survey_72 : decode (mMc M_G_survey) 72 = .ok (.iconst 0, 1) := by decide +kernel
theorem d_G_survey_73 : decode (mMc M_G_survey) 73 = .ok (.putfield 15, 3) := by decide +kernel
theorem d_G_survey_76 : decode (mMc M_G_survey) 76 = .ok (.iconst 0, 1) := by decide +kernel
theorem d_G_survey_77 : decode (mMc M_G_survey) 77 = .ok (.istore_n 2, 1) := by decide +kernel
theorem d_G_survey_78 : decode (mMc M_G_survey) 78 = .ok (.iconst 0, 1) := by decide +kernel
theorem d_G_survey_79 : decode (mMc M_G_survey) 79 = .ok (.istore_n 3, 1) := by decide +kernel
theorem d_G_survey_80 : decode (mMc M_G_survey) 80 = .ok (.iload_n 3, 1) := by decide +kernel
theorem d_G_survey_81 : decode (mMc M_G_survey) 81 = .ok (.bipush 60, 2) := by decide +kernel
theorem d_G_survey_83 : decode (mMc M_G_survey) 83 = .ok (.if_icmp .ge 34, 3) := by decide +kernel
theorem d_G_survey_86 : decode (mMc M_G_survey) 86 = .ok (.aload_n 1, 1) := by decide +kernel
theorem d_G_survey_87 : decode (mMc M_G_survey) 87 = .ok (.getfield 55, 3) := by decide +kernel
theorem d_G_survey_90 : decode (mMc M_G_survey) 90 = .ok (.iload_n 3, 1) := by decide +kernel
theorem d_G_survey_91 : decode (mMc M_G_survey) 91 = .ok (.iconst 1, 1) := by decide +kernel
theorem d_G_survey_92 : decode (mMc M_G_survey) 92 = .ok (.invokevirtual 77, 3) := by decide +kernel
theorem d_G_survey_95 : decode (mMc M_G_survey) 95 = .ok (.ifnonnull 9, 3) := by decide +kernel
theorem d_G_survey_98 : decode (mMc M_G_survey) 98 = .ok (.iinc 2 1, 3) := by decide +kernel
theorem d_G_survey_101 : decode (mMc M_G_survey) 101 = .ok (.goto 10, 3) := by decide +kernel
theorem d_G_survey_104 : decode (mMc M_G_survey) 104 = .ok (.aload_n 0, 1) := by decide +kernel
theorem d_G_survey_105 : decode (mMc M_G_survey) 105 = .ok (.iload_n 2, 1) := by decide +kernel
theorem d_G_survey_106 : decode (mMc M_G_survey) 106 = .ok (.invokevirtual 81, 3) := by decide +kernel
theorem d_G_survey_109 : decode (mMc M_G_survey) 109 = .ok (.iconst 0, 1) := by decide +kernel
theorem d_G_survey_110 : decode (mMc M_G_survey) 110 = .ok (.istore_n 2, 1) := by decide +kernel
theorem d_G_survey_111 : decode (mMc M_G_survey) 111 = .ok (.iinc 3 1, 3) := by decide +kernel
theorem d_G_survey_114 : decode (mMc M_G_survey) 114 = .ok (.goto (-34), 3) := by decide +kernel
theorem d_G_survey_117 : decode (mMc M_G_survey) 117 = .ok (.aload_n 0, 1) := by decide +kernel
theorem d_G_survey_118 : decode (mMc M_G_survey) 118 = .ok (.iload_n 2, 1) := by decide +kernel
theorem d_G_survey_119 : decode (mMc M_G_survey) 119 = .ok (.invokevirtual 81, 3) := by decide +kernel
theorem d_G_survey_122 : decode (mMc M_G_survey) 122 = .ok (.return_, 1) := by decide +kernel
theorem k_G_survey : mCd M_G_survey 1 := ⟨by decide, by decide, by decide +kernel, by decide, mG (7, 17) (by decide +kernel), mG (1, 7) (by decide +kernel)⟩
def M_G_addGap : mM := (⟨"FloatingDock$Fitting", "addGap", "(I)V"⟩, prog_6_method_6_code, 2, none, [])
theorem d_G_addGap_0 : decode (mMc M_G_addGap) 0 = .ok (.iload_n 1, 1) := by decide +kernel
theorem d_G_addGap_1 : decode (mMc M_G_addGap) 1 = .ok (.ifCond .le 35, 3) := by decide +kernel
theorem d_G_addGap_4 : decode (mMc M_G_addGap) 4 = .ok (.aload_n 0, 1) := by decide +kernel
theorem d_G_addGap_5 : decode (mMc M_G_addGap) 5 = .ok (.getfield 15, 3) := by decide +kernel
theorem d_G_addGap_8 : decode (mMc M_G_addGap) 8 = .ok (.aload_n 0, 1) := by decide +kernel
theorem d_G_addGap_9 : decode (mMc M_G_addGap) 9 = .ok (.getfield 9, 3) := by decide +kernel
theorem d_G_addGap_12 : decode (mMc M_G_addGap) 12 = .ok (.arraylength, 1) := by decide +kernel
theorem d_G_addGap_13 : decode (mMc M_G_addGap) 13 = .ok (.if_icmp .ge 23, 3) := by decide +kernel
theorem d_G_addGap_16 : decode (mMc M_G_addGap) 16 = .ok (.aload_n 0, 1) := by decide +kernel
theorem d_G_addGap_17 : decode (mMc M_G_addGap) 17 = .ok (.getfield 9, 3) := by decide +kernel
theorem d_G_addGap_20 : decode (mMc M_G_addGap) 20 = .ok (.aload_n 0, 1) := by decide +kernel
theorem d_G_addGap_21 : decode (mMc M_G_addGap) 21 = .ok (.getfield 15, 3) := by decide +kernel
theorem d_G_addGap_24 : decode (mMc M_G_addGap) 24 = .ok (.iload_n 1, 1) := by decide +kernel
theorem d_G_addGap_25 : decode (mMc M_G_addGap) 25 = .ok (.iastore, 1) := by decide +kernel
theorem d_G_addGap_26 : decode (mMc M_G_addGap) 26 = .ok (.aload_n 0, 1) := by decide +kernel
theorem d_G_addGap_27 : decode (mMc M_G_addGap) 27 = .ok (.dup, 1) := by decide +kernel
theorem d_G_addGap_28 : decode (mMc M_G_addGap) 28 = .ok (.getfield 15, 3) := by decide +kernel
theorem d_G_addGap_31 : decode (mMc M_G_addGap) 31 = .ok (.iconst 1, 1) := by decide +kernel
theorem d_G_addGap_32 : decode (mMc M_G_addGap) 32 = .ok (.iadd, 1) := by decide +kernel
theorem d_G_addGap_33 : decode (mMc M_G_addGap) 33 = .ok (.putfield 15, 3) := by decide +kernel
theorem d_G_addGap_36 : decode (mMc M_G_addGap) 36 = .ok (.return_, 1) := by decide +kernel
theorem k_G_addGap : mCd M_G_addGap 1 := ⟨by decide, by decide, by decide +kernel, by decide, mG (7, 26) (by decide +kernel), mG (1, 7) (by decide +kernel)⟩
def M_G_mostFrom : mM := (⟨"FloatingDock$Fitting", "mostFrom", "(LFloatingDock$Fitting;I)I"⟩, prog_6_method_7_code, 5, (some .int), [])
theorem d_G_mostFrom_0 : decode (mMc M_G_mostFrom) 0 = .ok (.iload_n 1, 1) := by decide +kernel
theorem d_G_mostFrom_1 : decode (mMc M_G_mostFrom) 1 = .ok (.aload_n 0, 1) := by decide +kernel
theorem d_G_mostFrom_2 : decode (mMc M_G_mostFrom) 2 = .ok (.getfield 22, 3) := by decide +kernel
theorem d_G_mostFrom_5 : decode (mMc M_G_mostFrom) 5 = .ok (.if_icmp .lt 5, 3) := by decide +kernel
theorem d_G_mostFrom_8 : decode (mMc M_G_mostFrom) 8 = .ok (.iconst 0, 1) := by decide +kernel
theorem d_G_mostFrom_9 : decode (mMc M_G_mostFrom) 9 = .ok (.ireturn, 1) := by decide +kernel
theorem d_G_mostFrom_10 : decode (mMc M_G_mostFrom) 10 = .ok (.aload_n 0, 1) := by decide +kernel
theorem d_G_mostFrom_11 : decode (mMc M_G_mostFrom) 11 = .ok (.iload_n 1, 1) := by decide +kernel
theorem d_G_mostFrom_12 : decode (mMc M_G_mostFrom) 12 = .ok (.iconst 1, 1) := by decide +kernel
theorem d_G_mostFrom_13 : decode (mMc M_G_mostFrom) 13 = .ok (.iadd, 1) := by decide +kernel
theorem d_G_mostFrom_14 : decode (mMc M_G_mostFrom) 14 = .ok (.invokestatic 36, 3) := by decide +kernel
theorem d_G_mostFrom_17 : decode (mMc M_G_mostFrom) 17 = .ok (.istore_n 2, 1) := by decide +kernel
theorem d_G_mostFrom_18 : decode (mMc M_G_mostFrom) 18 = .ok (.aload_n 0, 1) := by decide +kernel
theorem d_G_mostFrom_19 : decode (mMc M_G_mostFrom) 19 = .ok (.getfield 19, 3) := by decide +kernel
theorem d_G_mostFrom_22 : decode (mMc M_G_mostFrom) 22 = .ok (.iload_n 1, 1) := by decide +kernel
theorem d_G_mostFrom_23 : decode (mMc M_G_mostFrom) 23 = .ok (.iaload, 1) := by decide +kernel
theorem d_G_mostFrom_24 : decode (mMc M_G_mostFrom) 24 = .ok (.istore_n 3, 1) := by decide +kernel
theorem d_G_mostFrom_25 : decode (mMc M_G_mostFrom) 25 = .ok (.iconst 0, 1) := by decide +kernel
theorem d_G_mostFrom_26 : decode (mMc M_G_mostFrom) 26 = .ok (.istore 4, 2) := by decide +kernel
theorem d_G_mostFrom_28 : decode (mMc M_G_mostFrom) 28 = .ok (.iload 4, 2) := by decide +kernel
theorem d_G_mostFrom_30 : decode (mMc M_G_mostFrom) 30 = .ok (.aload_n 0, 1) := by decide +kernel
theorem d_G_mostFrom_31 : decode (mMc M_G_mostFrom) 31 = .ok (.getfield 15, 3) := by decide +kernel
theorem d_G_mostFrom_34 : decode (mMc M_G_mostFrom) 34 = .ok (.if_icmp .ge 56, 3) := by decide +kernel
theorem d_G_mostFrom_37 : decode (mMc M_G_mostFrom) 37 = .ok (.aload_n 0, 1) := by decide +kernel
theorem d_G_mostFrom_38 : decode (mMc M_G_mostFrom) 38 = .ok (.getfield 9, 3) := by decide +kernel
theorem d_G_mostFrom_41 : decode (mMc M_G_mostFrom) 41 = .ok (.iload 4, 2) := by decide +kernel
theorem d_G_mostFrom_43 : decode (mMc M_G_mostFrom) 43 = .ok (.iaload, 1) := by decide +kernel
theorem d_G_mostFrom_44 : decode (mMc M_G_mostFrom) 44 = .ok (.iload_n 3, 1) := by decide +kernel
theorem d_G_mostFrom_45 : decode (mMc M_G_mostFrom) 45 = .ok (.if_icmp .lt 39, 3) := by decide +kernel
theorem d_G_mostFrom_48 : decode (mMc M_G_mostFrom) 48 = .ok (.aload_n 0, 1) := by decide +kernel
theorem d_G_mostFrom_49 : decode (mMc M_G_mostFrom) 49 = .ok (.getfield 9, 3) := by decide +kernel
theorem d_G_mostFrom_52 : decode (mMc M_G_mostFrom) 52 = .ok (.iload 4, 2) := by decide +kernel
theorem d_G_mostFrom_54 : decode (mMc M_G_mostFrom) 54 = .ok (.dup2, 1) := by decide +kernel
theorem d_G_mostFrom_55 : decode (mMc M_G_mostFrom) 55 = .ok (.iaload, 1) := by decide +kernel
theorem d_G_mostFrom_56 : decode (mMc M_G_mostFrom) 56 = .ok (.iload_n 3, 1) := by decide +kernel
theorem d_G_mostFrom_57 : decode (mMc M_G_mostFrom) 57 = .ok (.isub, 1) := by decide +kernel
theorem d_G_mostFrom_58 : decode (mMc M_G_mostFrom) 58 = .ok (.iastore, 1) := by decide +kernel
theorem d_G_mostFrom_59 : decode (mMc M_G_mostFrom) 59 = .ok (.iload_n 2, 1) := by decide +kernel
theorem d_G_mostFrom_60 : decode (mMc M_G_mostFrom) 60 = .ok (.iconst 1, 1) := by decide +kernel
theorem d_G_mostFrom_61 : decode (mMc M_G_mostFrom) 61 = .ok (.aload_n 0, 1) := by decide +kernel
theorem d_G_mostFrom_62 : decode (mMc M_G_mostFrom) 62 = .ok (.iload_n 1, 1) := by decide +kernel
theorem d_G_mostFrom_63 : decode (mMc M_G_mostFrom) 63 = .ok (.iconst 1, 1) := by decide +kernel
theorem d_G_mostFrom_64 : decode (mMc M_G_mostFrom) 64 = .ok (.iadd, 1) := by decide +kernel
theorem d_G_mostFrom_65 : decode (mMc M_G_mostFrom) 65 = .ok (.invokestatic 36, 3) := by decide +kernel
theorem d_G_mostFrom_68 : decode (mMc M_G_mostFrom) 68 = .ok (.iadd, 1) := by decide +kernel
theorem d_G_mostFrom_69 : decode (mMc M_G_mostFrom) 69 = .ok (.invokestatic 49, 3) := by decide +kernel
theorem d_G_mostFrom_72 : decode (mMc M_G_mostFrom) 72 = .ok (.istore_n 2, 1) := by decide +kernel
theorem d_G_mostFrom_73 : decode (mMc M_G_mostFrom) 73 = .ok (.aload_n 0, 1) := by decide +kernel
theorem d_G_mostFrom_74 : decode (mMc M_G_mostFrom) 74 = .ok (.getfield 9, 3) := by decide +kernel
theorem d_G_mostFrom_77 : decode (mMc M_G_mostFrom) 77 = .ok (.iload 4, 2) := by decide +kernel
theorem d_G_mostFrom_79 : decode (mMc M_G_mostFrom) 79 = .ok (.dup2, 1) := by decide +kernel
theorem d_G_mostFrom_80 : decode (mMc M_G_mostFrom) 80 = .ok (.iaload, 1) := by decide +kernel
theorem d_G_mostFrom_81 : decode (mMc M_G_mostFrom) 81 = .ok (.iload_n 3, 1) := by decide +kernel
theorem d_G_mostFrom_82 : decode (mMc M_G_mostFrom) 82 = .ok (.iadd, 1) := by decide +kernel
theorem d_G_mostFrom_83 : decode (mMc M_G_mostFrom) 83 = .ok (.iastore, 1) := by decide +kernel
theorem d_G_mostFrom_84 : decode (mMc M_G_mostFrom) 84 = .ok (.iinc 4 1, 3) := by decide +kernel
theorem d_G_mostFrom_87 : decode (mMc M_G_mostFrom) 87 = .ok (.goto (-59), 3) := by decide +kernel
theorem d_G_mostFrom_90 : decode (mMc M_G_mostFrom) 90 = .ok (.iload_n 2, 1) := by decide +kernel
theorem d_G_mostFrom_91 : decode (mMc M_G_mostFrom) 91 = .ok (.ireturn, 1) := by decide +kernel
theorem k_G_mostFrom : mCd M_G_mostFrom 2 := ⟨by decide, by decide, by decide +kernel, by decide, mG (7, 29) (by decide +kernel), mG (1, 7) (by decide +kernel)⟩
def M_G_mostByTable : mM := (⟨"FloatingDock$Fitting", "mostByTable", "(LFloatingDock$Dock;)I"⟩, prog_6_method_3_code, 4, (some .int), [])
theorem d_G_mostByTable_0 : decode (mMc M_G_mostByTable) 0 = .ok (.aload_n 0, 1) := by decide +kernel
theorem d_G_mostByTable_1 : decode (mMc M_G_mostByTable) 1 = .ok (.aload_n 1, 1) := by decide +kernel
theorem d_G_mostByTable_2 : decode (mMc M_G_mostByTable) 2 = .ok (.invokevirtual 32, 3) := by decide +kernel
theorem d_G_mostByTable_5 : decode (mMc M_G_mostByTable) 5 = .ok (.aload_n 0, 1) := by decide +kernel
theorem d_G_mostByTable_6 : decode (mMc M_G_mostByTable) 6 = .ok (.invokevirtual 40, 3) := by decide +kernel
theorem d_G_mostByTable_9 : decode (mMc M_G_mostByTable) 9 = .ok (.iconst 0, 1) := by decide +kernel
theorem d_G_mostByTable_10 : decode (mMc M_G_mostByTable) 10 = .ok (.istore_n 2, 1) := by decide +kernel
theorem d_G_mostByTable_11 : decode (mMc M_G_mostByTable) 11 = .ok (.iconst 0, 1) := by decide +kernel
theorem d_G_mostByTable_12 : decode (mMc M_G_mostByTable) 12 = .ok (.istore_n 3, 1) := by decide +kernel
theorem d_G_mostByTable_13 : decode (mMc M_G_mostByTable) 13 = .ok (.iload_n 3, 1) := by decide +kernel
theorem d_G_mostByTable_14 : decode (mMc M_G_mostByTable) 14 = .ok (.iconst 1, 1) := by decide +kernel
theorem d_G_mostByTable_15 : decode (mMc M_G_mostByTable) 15 = .ok (.aload_n 0, 1) := by decide +kernel
theorem d_G_mostByTable_16 : decode (mMc M_G_mostByTable) 16 = .ok (.getfield 22, 3) := by decide +kernel
theorem d_G_mostByTable_19 : decode (mMc M_G_mostByTable) 19 = .ok (.ishl, 1) := by decide +kernel
theorem d_G_mostByTable_20 : decode (mMc M_G_mostByTable) 20 = .ok (.if_icmp .ge 27, 3) := by decide +kernel
theorem d_G_mostByTable_23 : decode (mMc M_G_mostByTable) 23 = .ok (.aload_n 0, 1) := by decide +kernel
theorem d_G_mostByTable_24 : decode (mMc M_G_mostByTable) 24 = .ok (.getfield 28, 3) := by decide +kernel
theorem d_G_mostByTable_27 : decode (mMc M_G_mostByTable) 27 = .ok (.iload_n 3, 1) := by decide +kernel
theorem d_G_mostByTable_28 : decode (mMc M_G_mostByTable) 28 = .ok (.baload, 1) := by decide +kernel
theorem d_G_mostByTable_29 : decode (mMc M_G_mostByTable) 29 = .ok (.ifCond .eq 12, 3) := by decide +kernel
theorem d_G_mostByTable_32 : decode (mMc M_G_mostByTable) 32 = .ok (.iload_n 2, 1) := by decide +kernel
theorem d_G_mostByTable_33 : decode (mMc M_G_mostByTable) 33 = .ok (.iload_n 3, 1) := by decide +kernel
theorem d_G_mostByTable_34 : decode (mMc M_G_mostByTable) 34 = .ok (.invokestatic 43, 3) := by decide +kernel
theorem d_G_mostByTable_37 : decode (mMc M_G_mostByTable) 37 = .ok (.invokestatic 49, 3) := by decide +kernel
theorem d_G_mostByTable_40 : decode (mMc M_G_mostByTable) 40 = .ok (.istore_n 2, 1) := by decide +kernel
theorem d_G_mostByTable_41 : decode (mMc M_G_mostByTable) 41 = .ok (.iinc 3 1, 3) := by decide +kernel
theorem d_G_mostByTable_44 : decode (mMc M_G_mostByTable) 44 = .ok (.goto (-31), 3) := by decide +kernel
theorem d_G_mostByTable_47 : decode (mMc M_G_mostByTable) 47 = .ok (.iload_n 2, 1) := by decide +kernel
theorem d_G_mostByTable_48 : decode (mMc M_G_mostByTable) 48 = .ok (.ireturn, 1) := by decide +kernel
theorem k_G_mostByTable : mCd M_G_mostByTable 1 := ⟨by decide, by decide, by decide +kernel, by decide, mG (7, 34) (by decide +kernel), mG (1, 7) (by decide +kernel)⟩
def M_G_fillTable : mM := (⟨"FloatingDock$Fitting", "fillTable", "()V"⟩, prog_6_method_8_code, 2, none, [])
theorem d_G_fillTable_0 : decode (mMc M_G_fillTable) 0 = .ok (.iconst 0, 1) := by decide +kernel
theorem d_G_fillTable_1 : decode (mMc M_G_fillTable) 1 = .ok (.istore_n 1, 1) := by decide +kernel
theorem d_G_fillTable_2 : decode (mMc M_G_fillTable) 2 = .ok (.iload_n 1, 1) := by decide +kernel
theorem d_G_fillTable_3 : decode (mMc M_G_fillTable) 3 = .ok (.iconst 1, 1) := by decide +kernel
theorem d_G_fillTable_4 : decode (mMc M_G_fillTable) 4 = .ok (.aload_n 0, 1) := by decide +kernel
theorem d_G_fillTable_5 : decode (mMc M_G_fillTable) 5 = .ok (.getfield 22, 3) := by decide +kernel
theorem d_G_fillTable_8 : decode (mMc M_G_fillTable) 8 = .ok (.ishl, 1) := by decide +kernel
theorem d_G_fillTable_9 : decode (mMc M_G_fillTable) 9 = .ok (.if_icmp .ge 35, 3) := by decide +kernel
theorem d_G_fillTable_12 : decode (mMc M_G_fillTable) 12 = .ok (.aload_n 0, 1) := by decide +kernel
theorem d_G_fillTable_13 : decode (mMc M_G_fillTable) 13 = .ok (.getfield 25, 3) := by decide +kernel
theorem d_G_fillTable_16 : decode (mMc M_G_fillTable) 16 = .ok (.iload_n 1, 1) := by decide +kernel
theorem d_G_fillTable_17 : decode (mMc M_G_fillTable) 17 = .ok (.aload_n 0, 1) := by decide +kernel
theorem d_G_fillTable_18 : decode (mMc M_G_fillTable) 18 = .ok (.iload_n 1, 1) := by decide +kernel
theorem d_G_fillTable_19 : decode (mMc M_G_fillTable) 19 = .ok (.invokevirtual 85, 3) := by decide +kernel
theorem d_G_fillTable_22 : decode (mMc M_G_fillTable) 22 = .ok (.iastore, 1) := by decide +kernel
theorem d_G_fillTable_23 : decode (mMc M_G_fillTable) 23 = .ok (.aload_n 0, 1) := by decide +kernel
theorem d_G_fillTable_24 : decode (mMc M_G_fillTable) 24 = .ok (.getfield 28, 3) := by decide +kernel
theorem d_G_fillTable_27 : decode (mMc M_G_fillTable) 27 = .ok (.iload_n 1, 1) := by decide +kernel
theorem d_G_fillTable_28 : decode (mMc M_G_fillTable) 28 = .ok (.iload_n 1, 1) := by decide +kernel
theorem d_G_fillTable_29 : decode (mMc M_G_fillTable) 29 = .ok (.ifCond .ne 7, 3) := by decide +kernel
theorem d_G_fillTable_32 : decode (mMc M_G_fillTable) 32 = .ok (.iconst 1, 1) := by decide +kernel
theorem d_G_fillTable_33 : decode (mMc M_G_fillTable) 33 = .ok (.goto 4, 3) := by decide +kernel
theorem d_G_fillTable_36 : decode (mMc M_G_fillTable) 36 = .ok (.iconst 0, 1) := by decide +kernel
theorem d_G_fillTable_37 : decode (mMc M_G_fillTable) 37 = .ok (.bastore, 1) := by decide +kernel
theorem d_G_fillTable_38 : decode (mMc M_G_fillTable) 38 = .ok (.iinc 1 1, 3) := by decide +kernel
theorem d_G_fillTable_41 : decode (mMc M_G_fillTable) 41 = .ok (.goto (-39), 3) := by decide +kernel
theorem d_G_fillTable_44 : decode (mMc M_G_fillTable) 44 = .ok (.iconst 0, 1) := by decide +kernel
theorem d_G_fillTable_45 : decode (mMc M_G_fillTable) 45 = .ok (.istore_n 1, 1) := by decide +kernel
theorem d_G_fillTable_46 : decode (mMc M_G_fillTable) 46 = .ok (.iload_n 1, 1) := by decide +kernel
theorem d_G_fillTable_47 : decode (mMc M_G_fillTable) 47 = .ok (.aload_n 0, 1) := by decide +kernel
theorem d_G_fillTable_48 : decode (mMc M_G_fillTable) 48 = .ok (.getfield 15, 3) := by decide +kernel
theorem d_G_fillTable_51 : decode (mMc M_G_fillTable) 51 = .ok (.if_icmp .ge 19, 3) := by decide +kernel
theorem d_G_fillTable_54 : decode (mMc M_G_fillTable) 54 = .ok (.aload_n 0, 1) := by decide +kernel
theorem d_G_fillTable_55 : decode (mMc M_G_fillTable) 55 = .ok (.aload_n 0, 1) := by decide +kernel
theorem d_G_fillTable_56 : decode (mMc M_G_fillTable) 56 = .ok (.getfield 9, 3) := by decide +kernel
theorem d_G_fillTable_59 : decode (mMc M_G_fillTable) 59 = .ok (.iload_n 1, 1) := by decide +kernel
theorem d_G_fillTable_60 : decode (mMc M_G_fillTable) 60 = .ok (.iaload, 1) := by decide +kernel
theorem d_G_fillTable_61 : decode (mMc M_G_fillTable) 61 = .ok (.invokevirtual 88, 3) := by decide +kernel
theorem d_G_fillTable_64 : decode (mMc M_G_fillTable) 64 = .ok (.iinc 1 1, 3) := by decide +kernel
theorem d_G_fillTable_67 : decode (mMc M_G_fillTable) 67 = .ok (.goto (-21), 3) := by decide +kernel
theorem d_G_fillTable_70 : decode (mMc M_G_fillTable) 70 = .ok (.return_, 1) := by decide +kernel
theorem k_G_fillTable : mCd M_G_fillTable 0 := ⟨by decide, by decide, by decide +kernel, by decide, mG (7, 38) (by decide +kernel), mG (1, 7) (by decide +kernel)⟩
def M_G_sumOf : mM := (⟨"FloatingDock$Fitting", "sumOf", "(I)I"⟩, prog_6_method_9_code, 4, (some .int), [])
theorem d_G_sumOf_0 : decode (mMc M_G_sumOf) 0 = .ok (.iconst 0, 1) := by decide +kernel
theorem d_G_sumOf_1 : decode (mMc M_G_sumOf) 1 = .ok (.istore_n 2, 1) := by decide +kernel
theorem d_G_sumOf_2 : decode (mMc M_G_sumOf) 2 = .ok (.iconst 0, 1) := by decide +kernel
theorem d_G_sumOf_3 : decode (mMc M_G_sumOf) 3 = .ok (.istore_n 3, 1) := by decide +kernel
theorem d_G_sumOf_4 : decode (mMc M_G_sumOf) 4 = .ok (.iload_n 3, 1) := by decide +kernel
theorem d_G_sumOf_5 : decode (mMc M_G_sumOf) 5 = .ok (.aload_n 0, 1) := by decide +kernel
theorem d_G_sumOf_6 : decode (mMc M_G_sumOf) 6 = .ok (.getfield 22, 3) := by decide +kernel
theorem d_G_sumOf_9 : decode (mMc M_G_sumOf) 9 = .ok (.if_icmp .ge 26, 3) := by decide +kernel
theorem d_G_sumOf_12 : decode (mMc M_G_sumOf) 12 = .ok (.iload_n 1, 1) := by decide +kernel
theorem d_G_sumOf_13 : decode (mMc M_G_sumOf) 13 = .ok (.iload_n 3, 1) := by decide +kernel
theorem d_G_sumOf_14 : decode (mMc M_G_sumOf) 14 = .ok (.ishr, 1) := by decide +kernel
theorem d_G_sumOf_15 : decode (mMc M_G_sumOf) 15 = .ok (.iconst 1, 1) := by decide +kernel
theorem d_G_sumOf_16 : decode (mMc M_G_sumOf) 16 = .ok (.iand, 1) := by decide +kernel
theorem d_G_sumOf_17 : decode (mMc M_G_sumOf) 17 = .ok (.ifCond .eq 12, 3) := by decide +kernel
theorem d_G_sumOf_20 : decode (mMc M_G_sumOf) 20 = .ok (.iload_n 2, 1) := by decide +kernel
theorem d_G_sumOf_21 : decode (mMc M_G_sumOf) 21 = .ok (.aload_n 0, 1) := by decide +kernel
theorem d_G_sumOf_22 : decode (mMc M_G_sumOf) 22 = .ok (.getfield 19, 3) := by decide +kernel
theorem d_G_sumOf_25 : decode (mMc M_G_sumOf) 25 = .ok (.iload_n 3, 1) := by decide +kernel
theorem d_G_sumOf_26 : decode (mMc M_G_sumOf) 26 = .ok (.iaload, 1) := by decide +kernel
theorem d_G_sumOf_27 : decode (mMc M_G_sumOf) 27 = .ok (.iadd, 1) := by decide +kernel
theorem d_G_sumOf_28 : decode (mMc M_G_sumOf) 28 = .ok (.istore_n 2, 1) := by decide +kernel
theorem d_G_sumOf_29 : decode (mMc M_G_sumOf) 29 = .ok (.iinc 3 1, 3) := by decide +kernel
theorem d_G_sumOf_32 : decode (mMc M_G_sumOf) 32 = .ok (.goto (-28), 3) := by decide +kernel
theorem d_G_sumOf_35 : decode (mMc M_G_sumOf) 35 = .ok (.iload_n 2, 1) := by decide +kernel
theorem d_G_sumOf_36 : decode (mMc M_G_sumOf) 36 = .ok (.ireturn, 1) := by decide +kernel
theorem k_G_sumOf : mCd M_G_sumOf 1 := ⟨by decide, by decide, by decide +kernel, by decide, mG (7, 42) (by decide +kernel), mG (1, 7) (by decide +kernel)⟩
def M_G_fillGap : mM := (⟨"FloatingDock$Fitting", "fillGap", "(I)V"⟩, prog_6_method_10_code, 3, none, [])
theorem d_G_fillGap_0 : decode (mMc M_G_fillGap) 0 = .ok (.iconst 1, 1) := by decide +kernel
theorem d_G_fillGap_1 : decode (mMc M_G_fillGap) 1 = .ok (.aload_n 0, 1) := by decide +kernel
theorem d_G_fillGap_2 : decode (mMc M_G_fillGap) 2 = .ok (.getfield 22, 3) := by decide +kernel
theorem d_G_fillGap_5 : decode (mMc M_G_fillGap) 5 = .ok (.ishl, 1) := by decide +kernel
theorem d_G_fillGap_6 : decode (mMc M_G_fillGap) 6 = .ok (.iconst 1, 1) := by decide +kernel
theorem d_G_fillGap_7 : decode (mMc M_G_fillGap) 7 = .ok (.isub, 1) := by decide +kernel
theorem d_G_fillGap_8 : decode (mMc M_G_fillGap) 8 = .ok (.istore_n 2, 1) := by decide +kernel
theorem d_G_fillGap_9 : decode (mMc M_G_fillGap) 9 = .ok (.iload_n 2, 1) := by decide +kernel
theorem d_G_fillGap_10 : decode (mMc M_G_fillGap) 10 = .ok (.ifCond .le 38, 3) := by decide +kernel
theorem d_G_fillGap_13 : decode (mMc M_G_fillGap) 13 = .ok (.aload_n 0, 1) := by decide +kernel
theorem d_G_fillGap_14 : decode (mMc M_G_fillGap) 14 = .ok (.getfield 28, 3) := by decide +kernel
theorem d_G_fillGap_17 : decode (mMc M_G_fillGap) 17 = .ok (.iload_n 2, 1) := by decide +kernel
theorem d_G_fillGap_18 : decode (mMc M_G_fillGap) 18 = .ok (.aload_n 0, 1) := by decide +kernel
theorem d_G_fillGap_19 : decode (mMc M_G_fillGap) 19 = .ok (.getfield 28, 3) := by decide +kernel
theorem d_G_fillGap_22 : decode (mMc M_G_fillGap) 22 = .ok (.iload_n 2, 1) := by decide +kernel
theorem d_G_fillGap_23 : decode (mMc M_G_fillGap) 23 = .ok (.baload, 1) := by decide +kernel
theorem d_G_fillGap_24 : decode (mMc M_G_fillGap) 24 = .ok (.ifCond .ne 12, 3) := by decide +kernel
theorem d_G_fillGap_27 : decode (mMc M_G_fillGap) 27 = .ok (.aload_n 0, 1) := by decide +kernel
theorem d_G_fillGap_28 : decode (mMc M_G_fillGap) 28 = .ok (.iload_n 2, 1) := by decide +kernel
theorem d_G_fillGap_29 : decode (mMc M_G_fillGap) 29 = .ok (.iload_n 1, 1) := by decide +kernel
theorem d_G_fillGap_30 : decode (mMc M_G_fillGap) 30 = .ok (.invokevirtual 91, 3) := by decide +kernel
theorem d_G_fillGap_33 : decode (mMc M_G_fillGap) 33 = .ok (.ifCond .eq 7, 3) := by decide +kernel
theorem d_G_fillGap_36 : decode (mMc M_G_fillGap) 36 = .ok (.iconst 1, 1) := by decide +kernel
theorem d_G_fillGap_37 : decode (mMc M_G_fillGap) 37 = .ok (.goto 4, 3) := by decide +kernel
theorem d_G_fillGap_40 : decode (mMc M_G_fillGap) 40 = .ok (.iconst 0, 1) := by decide +kernel
theorem d_G_fillGap_41 : decode (mMc M_G_fillGap) 41 = .ok (.bastore, 1) := by decide +kernel
theorem d_G_fillGap_42 : decode (mMc M_G_fillGap) 42 = .ok (.iinc 2 (-1), 3) := by decide +kernel
theorem d_G_fillGap_45 : decode (mMc M_G_fillGap) 45 = .ok (.goto (-36), 3) := by decide +kernel
theorem d_G_fillGap_48 : decode (mMc M_G_fillGap) 48 = .ok (.return_, 1) := by decide +kernel
theorem k_G_fillGap : mCd M_G_fillGap 1 := ⟨by decide, by decide, by decide +kernel, by decide, mG (7, 46) (by decide +kernel), mG (1, 7) (by decide +kernel)⟩
def M_G_fitsWith : mM := (⟨"FloatingDock$Fitting", "fitsWith", "(II)Z"⟩, prog_6_method_11_code, 4, (some .boolean), [])
theorem d_G_fitsWith_0 : decode (mMc M_G_fitsWith) 0 = .ok (.iload_n 1, 1) := by decide +kernel
theorem d_G_fitsWith_1 : decode (mMc M_G_fitsWith) 1 = .ok (.istore_n 3, 1) := by decide +kernel
theorem d_G_fitsWith_2 : decode (mMc M_G_fitsWith) 2 = .ok (.iload_n 3, 1) := by decide +kernel
theorem d_G_fitsWith_3 : decode (mMc M_G_fitsWith) 3 = .ok (.ifCond .le 35, 3) := by decide +kernel
theorem d_G_fitsWith_6 : decode (mMc M_G_fitsWith) 6 = .ok (.aload_n 0, 1) := by decide +kernel
theorem d_G_fitsWith_7 : decode (mMc M_G_fitsWith) 7 = .ok (.getfield 25, 3) := by decide +kernel
theorem d_G_fitsWith_10 : decode (mMc M_G_fitsWith) 10 = .ok (.iload_n 3, 1) := by decide +kernel
theorem d_G_fitsWith_11 : decode (mMc M_G_fitsWith) 11 = .ok (.iaload, 1) := by decide +kernel
theorem d_G_fitsWith_12 : decode (mMc M_G_fitsWith) 12 = .ok (.iload_n 2, 1) := by decide +kernel
theorem d_G_fitsWith_13 : decode (mMc M_G_fitsWith) 13 = .ok (.if_icmp .gt 16, 3) := by decide +kernel
theorem d_G_fitsWith_16 : decode (mMc M_G_fitsWith) 16 = .ok (.aload_n 0, 1) := by decide +kernel
theorem d_G_fitsWith_17 : decode (mMc M_G_fitsWith) 17 = .ok (.getfield 28, 3) := by decide +kernel
theorem d_G_fitsWith_20 : decode (mMc M_G_fitsWith) 20 = .ok (.iload_n 1, 1) := by decide +kernel
theorem d_G_fitsWith_21 : decode (mMc M_G_fitsWith) 21 = .ok (.iload_n 3, 1) := by decide +kernel
theorem d_G_fitsWith_22 : decode (mMc M_G_fitsWith) 22 = .ok (.isub, 1) := by decide +kernel
theorem d_G_fitsWith_23 : decode (mMc M_G_fitsWith) 23 = .ok (.baload, 1) := by decide +kernel
theorem d_G_fitsWith_24 : decode (mMc M_G_fitsWith) 24 = .ok (.ifCond .eq 5, 3) := by decide +kernel
theorem d_G_fitsWith_27 : decode (mMc M_G_fitsWith) 27 = .ok (.iconst 1, 1) := by decide +kernel
theorem d_G_fitsWith_28 : decode (mMc M_G_fitsWith) 28 = .ok (.ireturn, 1) := by decide +kernel
theorem d_G_fitsWith_29 : decode (mMc M_G_fitsWith) 29 = .ok (.iload_n 3, 1) := by decide +kernel
theorem d_G_fitsWith_30 : decode (mMc M_G_fitsWith) 30 = .ok (.iconst 1, 1) := by decide +kernel
theorem d_G_fitsWith_31 : decode (mMc M_G_fitsWith) 31 = .ok (.isub, 1) := by decide +kernel
theorem d_G_fitsWith_32 : decode (mMc M_G_fitsWith) 32 = .ok (.iload_n 1, 1) := by decide +kernel
theorem d_G_fitsWith_33 : decode (mMc M_G_fitsWith) 33 = .ok (.iand, 1) := by decide +kernel
theorem d_G_fitsWith_34 : decode (mMc M_G_fitsWith) 34 = .ok (.istore_n 3, 1) := by decide +kernel
theorem d_G_fitsWith_35 : decode (mMc M_G_fitsWith) 35 = .ok (.goto (-33), 3) := by decide +kernel
theorem d_G_fitsWith_38 : decode (mMc M_G_fitsWith) 38 = .ok (.iconst 0, 1) := by decide +kernel
theorem d_G_fitsWith_39 : decode (mMc M_G_fitsWith) 39 = .ok (.ireturn, 1) := by decide +kernel
theorem k_G_fitsWith : mCd M_G_fitsWith 2 := ⟨by decide, by decide, by decide +kernel, by decide, mG (7, 50) (by decide +kernel), mG (1, 7) (by decide +kernel)⟩
def M_G_mostMetres : mM := (⟨"FloatingDock$Fitting", "mostMetres", "(LFloatingDock$Dock;)I"⟩, prog_6_method_4_code, 4, (some .int), [])
theorem d_G_mostMetres_0 : decode (mMc M_G_mostMetres) 0 = .ok (.aload_n 0, 1) := by decide +kernel
theorem d_G_mostMetres_1 : decode (mMc M_G_mostMetres) 1 = .ok (.aload_n 1, 1) := by decide +kernel
theorem d_G_mostMetres_2 : decode (mMc M_G_mostMetres) 2 = .ok (.invokevirtual 32, 3) := by decide +kernel
theorem d_G_mostMetres_5 : decode (mMc M_G_mostMetres) 5 = .ok (.aload_n 0, 1) := by decide +kernel
theorem d_G_mostMetres_6 : decode (mMc M_G_mostMetres) 6 = .ok (.invokevirtual 40, 3) := by decide +kernel
theorem d_G_mostMetres_9 : decode (mMc M_G_mostMetres) 9 = .ok (.iconst 0, 1) := by decide +kernel
theorem d_G_mostMetres_10 : decode (mMc M_G_mostMetres) 10 = .ok (.istore_n 2, 1) := by decide +kernel
theorem d_G_mostMetres_11 : decode (mMc M_G_mostMetres) 11 = .ok (.iconst 0, 1) := by decide +kernel
theorem d_G_mostMetres_12 : decode (mMc M_G_mostMetres) 12 = .ok (.istore_n 3, 1) := by decide +kernel
theorem d_G_mostMetres_13 : decode (mMc M_G_mostMetres) 13 = .ok (.iload_n 3, 1) := by decide +kernel
theorem d_G_mostMetres_14 : decode (mMc M_G_mostMetres) 14 = .ok (.iconst 1, 1) := by decide +kernel
theorem d_G_mostMetres_15 : decode (mMc M_G_mostMetres) 15 = .ok (.aload_n 0, 1) := by decide +kernel
theorem d_G_mostMetres_16 : decode (mMc M_G_mostMetres) 16 = .ok (.getfield 22, 3) := by decide +kernel
theorem d_G_mostMetres_19 : decode (mMc M_G_mostMetres) 19 = .ok (.ishl, 1) := by decide +kernel
theorem d_G_mostMetres_20 : decode (mMc M_G_mostMetres) 20 = .ok (.if_icmp .ge 29, 3) := by decide +kernel
theorem d_G_mostMetres_23 : decode (mMc M_G_mostMetres) 23 = .ok (.aload_n 0, 1) := by decide +kernel
theorem d_G_mostMetres_24 : decode (mMc M_G_mostMetres) 24 = .ok (.getfield 28, 3) := by decide +kernel
theorem d_G_mostMetres_27 : decode (mMc M_G_mostMetres) 27 = .ok (.iload_n 3, 1) := by decide +kernel
theorem d_G_mostMetres_28 : decode (mMc M_G_mostMetres) 28 = .ok (.baload, 1) := by decide +kernel
theorem d_G_mostMetres_29 : decode (mMc M_G_mostMetres) 29 = .ok (.ifCond .eq 14, 3) := by decide +kernel
theorem d_G_mostMetres_32 : decode (mMc M_G_mostMetres) 32 = .ok (.iload_n 2, 1) := by decide +kernel
theorem d_G_mostMetres_33 : decode (mMc M_G_mostMetres) 33 = .ok (.aload_n 0, 1) := by decide +kernel
theorem d_G_mostMetres_34 : decode (mMc M_G_mostMetres) 34 = .ok (.getfield 25, 3) := by decide +kernel
theorem d_G_mostMetres_37 : decode (mMc M_G_mostMetres) 37 = .ok (.iload_n 3, 1) := by decide +kernel
theorem d_G_mostMetres_38 : decode (mMc M_G_mostMetres) 38 = .ok (.iaload, 1) := by decide +kernel
theorem d_G_mostMetres_39 : decode (mMc M_G_mostMetres) 39 = .ok (.invokestatic 49, 3) := by decide +kernel
theorem d_G_mostMetres_42 : decode (mMc M_G_mostMetres) 42 = .ok (.istore_n 2, 1) := by decide +kernel
theorem d_G_mostMetres_43 : decode (mMc M_G_mostMetres) 43 = .ok (.iinc 3 1, 3) := by decide +kernel
theorem d_G_mostMetres_46 : decode (mMc M_G_mostMetres) 46 = .ok (.goto (-33), 3) := by decide +kernel
theorem d_G_mostMetres_49 : decode (mMc M_G_mostMetres) 49 = .ok (.iload_n 2, 1) := by decide +kernel
theorem d_G_mostMetres_50 : decode (mMc M_G_mostMetres) 50 = .ok (.ireturn, 1) := by decide +kernel
theorem k_G_mostMetres : mCd M_G_mostMetres 1 := ⟨by decide, by decide, by decide +kernel, by decide, mG (7, 79) (by decide +kernel), mG (1, 7) (by decide +kernel)⟩
def M_H_init : mM := (⟨"FloatingDock$History", "<init>", "()V"⟩, prog_9_method_1_code, 2, none, [])
theorem d_H_init_0 : decode (mMc M_H_init) 0 = .ok (.aload_n 0, 1) := by decide +kernel
theorem d_H_init_1 : decode (mMc M_H_init) 1 = .ok (.invokespecial 1, 3) := by decide +kernel
theorem d_H_init_4 : decode (mMc M_H_init) 4 = .ok (.aload_n 0, 1) := by decide +kernel
theorem d_H_init_5 : decode (mMc M_H_init) 5 = .ok (.bipush 8, 2) := by decide +kernel
theorem d_H_init_7 : decode (mMc M_H_init) 7 = .ok (.anewarray 9, 3) := by decide +kernel
theorem d_H_init_10 : decode (mMc M_H_init) 10 = .ok (.putfield 11, 3) := by decide +kernel
theorem d_H_init_13 : decode (mMc M_H_init) 13 = .ok (.aload_n 0, 1) := by decide +kernel
theorem d_H_init_14 : decode (mMc M_H_init) 14 = .ok (.iconst 0, 1) := by decide +kernel
theorem d_H_init_15 : decode (mMc M_H_init) 15 = .ok (.putfield 15, 3) := by decide +kernel
theorem d_H_init_18 : decode (mMc M_H_init) 18 = .ok (.aload_n 0, 1) := by decide +kernel
theorem d_H_init_19 : decode (mMc M_H_init) 19 = .ok (.iconst 0, 1) := by decide +kernel
theorem d_H_init_20 : decode (mMc M_H_init) 20 = .ok (.putfield 19, 3) := by decide +kernel
theorem d_H_init_23 : decode (mMc M_H_init) 23 = .ok (.iconst 0, 1) := by decide +kernel
theorem d_H_init_24 : decode (mMc M_H_init) 24 = .ok (.istore_n 1, 1) := by decide +kernel
theorem d_H_init_25 : decode (mMc M_H_init) 25 = .ok (.iload_n 1, 1) := by decide +kernel
theorem d_H_init_26 : decode (mMc M_H_init) 26 = .ok (.aload_n 0, 1) := by decide +kernel
theorem d_H_init_27 : decode (mMc M_H_init) 27 = .ok (.getfield 11, 3) := by decide +kernel
theorem d_H_init_30 : decode (mMc M_H_init) 30 = .ok (.arraylength, 1) := by decide +kernel
theorem d_H_init_31 : decode (mMc M_H_init) 31 = .ok (.if_icmp .ge 22, 3) := by decide +kernel
theorem d_H_init_34 : decode (mMc M_H_init) 34 = .ok (.aload_n 0, 1) := by decide +kernel
theorem d_H_init_35 : decode (mMc M_H_init) 35 = .ok (.getfield 11, 3) := by decide +kernel
theorem d_H_init_38 : decode (mMc M_H_init) 38 = .ok (.iload_n 1, 1) := by decide +kernel
theorem d_H_init_39 : decode (mMc M_H_init) 39 = .ok (.new 9, 3) := by decide +kernel
theorem d_H_init_42 : decode (mMc M_H_init) 42 = .ok (.dup, 1) := by decide +kernel
theorem d_H_init_43 : decode (mMc M_H_init) 43 = .ok (.invokespecial 22, 3) := by decide +kernel
theorem d_H_init_46 : decode (mMc M_H_init) 46 = .ok (.aastore, 1) := by decide +kernel
theorem d_H_init_47 : decode (mMc M_H_init) 47 = .ok (.iinc 1 1, 3) := by decide +kernel
theorem d_H_init_50 : decode (mMc M_H_init) 50 = .ok (.goto (-25), 3) := by decide +kernel
theorem d_H_init_53 : decode (mMc M_H_init) 53 = .ok (.return_, 1) := by decide +kernel
theorem k_H_init : mCd M_H_init 0 := ⟨by decide, by decide, by decide +kernel, by decide, mG (1, 181) (by decide +kernel), mG (1, 6) (by decide +kernel)⟩
def M_H_push : mM := (⟨"FloatingDock$History", "push", "(LFloatingDock$Dock;)LFloatingDock$Dock;"⟩, prog_9_method_2_code, 3, (some (.object "FloatingDock$Dock")), [])
theorem d_H_push_0 : decode (mMc M_H_push) 0 = .ok (.aload_n 0, 1) := by decide +kernel
theorem d_H_push_1 : decode (mMc M_H_push) 1 = .ok (.getfield 11, 3) := by decide +kernel
theorem d_H_push_4 : decode (mMc M_H_push) 4 = .ok (.aload_n 0, 1) := by decide +kernel
theorem d_H_push_5 : decode (mMc M_H_push) 5 = .ok (.getfield 15, 3) := by decide +kernel
theorem d_H_push_8 : decode (mMc M_H_push) 8 = .ok (.aaload, 1) := by decide +kernel
theorem d_H_push_9 : decode (mMc M_H_push) 9 = .ok (.astore_n 2, 1) := by decide +kernel
theorem d_H_push_10 : decode (mMc M_H_push) 10 = .ok (.aload_n 0, 1) := by decide +kernel
theorem d_H_push_11 : decode (mMc M_H_push) 11 = .ok (.getfield 11, 3) := by decide +kernel
theorem d_H_push_14 : decode (mMc M_H_push) 14 = .ok (.aload_n 0, 1) := by decide +kernel
theorem d_H_push_15 : decode (mMc M_H_push) 15 = .ok (.getfield 15, 3) := by decide +kernel
theorem d_H_push_18 : decode (mMc M_H_push) 18 = .ok (.aload_n 1, 1) := by decide +kernel
theorem d_H_push_19 : decode (mMc M_H_push) 19 = .ok (.aastore, 1) := by decide +kernel
theorem d_H_push_20 : decode (mMc M_H_push) 20 = .ok (.aload_n 0, 1) := by decide +kernel
theorem d_H_push_21 : decode (mMc M_H_push) 21 = .ok (.aload_n 0, 1) := by decide +kernel
theorem d_H_push_22 : decode (mMc M_H_push) 22 = .ok (.getfield 15, 3) := by decide +kernel
theorem d_H_push_25 : decode (mMc M_H_push) 25 = .ok (.iconst 1, 1) := by decide +kernel
theorem d_H_push_26 : decode (mMc M_H_push) 26 = .ok (.iadd, 1) := by decide +kernel
theorem d_H_push_27 : decode (mMc M_H_push) 27 = .ok (.bipush 8, 2) := by decide +kernel
theorem d_H_push_29 : decode (mMc M_H_push) 29 = .ok (.irem, 1) := by decide +kernel
theorem d_H_push_30 : decode (mMc M_H_push) 30 = .ok (.putfield 15, 3) := by decide +kernel
theorem d_H_push_33 : decode (mMc M_H_push) 33 = .ok (.aload_n 0, 1) := by decide +kernel
theorem d_H_push_34 : decode (mMc M_H_push) 34 = .ok (.bipush 8, 2) := by decide +kernel
theorem d_H_push_36 : decode (mMc M_H_push) 36 = .ok (.aload_n 0, 1) := by decide +kernel
theorem d_H_push_37 : decode (mMc M_H_push) 37 = .ok (.getfield 19, 3) := by decide +kernel
theorem d_H_push_40 : decode (mMc M_H_push) 40 = .ok (.iconst 1, 1) := by decide +kernel
theorem d_H_push_41 : decode (mMc M_H_push) 41 = .ok (.iadd, 1) := by decide +kernel
theorem d_H_push_42 : decode (mMc M_H_push) 42 = .ok (.invokestatic 23, 3) := by decide +kernel
theorem d_H_push_45 : decode (mMc M_H_push) 45 = .ok (.putfield 19, 3) := by decide +kernel
theorem d_H_push_48 : decode (mMc M_H_push) 48 = .ok (.aload_n 2, 1) := by decide +kernel
theorem d_H_push_49 : decode (mMc M_H_push) 49 = .ok (.areturn, 1) := by decide +kernel
theorem k_H_push : mCd M_H_push 1 := ⟨by decide, by decide, by decide +kernel, by decide, mG (2, 236) (by decide +kernel), mG (1, 6) (by decide +kernel)⟩
def M_H_forget : mM := (⟨"FloatingDock$History", "forget", "()V"⟩, prog_9_method_4_code, 1, none, [])
theorem d_H_forget_0 : decode (mMc M_H_forget) 0 = .ok (.aload_n 0, 1) := by decide +kernel
theorem d_H_forget_1 : decode (mMc M_H_forget) 1 = .ok (.iconst 0, 1) := by decide +kernel
theorem d_H_forget_2 : decode (mMc M_H_forget) 2 = .ok (.putfield 19, 3) := by decide +kernel
theorem d_H_forget_5 : decode (mMc M_H_forget) 5 = .ok (.return_, 1) := by decide +kernel
theorem k_H_forget : mCd M_H_forget 0 := ⟨by decide, by decide, by decide +kernel, by decide, mG (7, 88) (by decide +kernel), mG (1, 6) (by decide +kernel)⟩
def M_T_init : mM := (⟨"FloatingDock$CommandText", "<init>", "()V"⟩, prog_4_method_1_code, 1, none, [])
theorem d_T_init_0 : decode (mMc M_T_init) 0 = .ok (.aload_n 0, 1) := by decide +kernel
theorem d_T_init_1 : decode (mMc M_T_init) 1 = .ok (.invokespecial 1, 3) := by decide +kernel
theorem d_T_init_4 : decode (mMc M_T_init) 4 = .ok (.aload_n 0, 1) := by decide +kernel
theorem d_T_init_5 : decode (mMc M_T_init) 5 = .ok (.new 7, 3) := by decide +kernel
theorem d_T_init_8 : decode (mMc M_T_init) 8 = .ok (.dup, 1) := by decide +kernel
theorem d_T_init_9 : decode (mMc M_T_init) 9 = .ok (.invokespecial 9, 3) := by decide +kernel
theorem d_T_init_12 : decode (mMc M_T_init) 12 = .ok (.putfield 10, 3) := by decide +kernel
theorem d_T_init_15 : decode (mMc M_T_init) 15 = .ok (.aload_n 0, 1) := by decide +kernel
theorem d_T_init_16 : decode (mMc M_T_init) 16 = .ok (.iconst 0, 1) := by decide +kernel
theorem d_T_init_17 : decode (mMc M_T_init) 17 = .ok (.putfield 16, 3) := by decide +kernel
theorem d_T_init_20 : decode (mMc M_T_init) 20 = .ok (.aload_n 0, 1) := by decide +kernel
theorem d_T_init_21 : decode (mMc M_T_init) 21 = .ok (.iconst 0, 1) := by decide +kernel
theorem d_T_init_22 : decode (mMc M_T_init) 22 = .ok (.putfield 20, 3) := by decide +kernel
theorem d_T_init_25 : decode (mMc M_T_init) 25 = .ok (.aload_n 0, 1) := by decide +kernel
theorem d_T_init_26 : decode (mMc M_T_init) 26 = .ok (.iconst 0, 1) := by decide +kernel
theorem d_T_init_27 : decode (mMc M_T_init) 27 = .ok (.putfield 23, 3) := by decide +kernel
theorem d_T_init_30 : decode (mMc M_T_init) 30 = .ok (.aload_n 0, 1) := by decide +kernel
theorem d_T_init_31 : decode (mMc M_T_init) 31 = .ok (.getstatic 26, 3) := by decide +kernel
theorem d_T_init_34 : decode (mMc M_T_init) 34 = .ok (.putfield 32, 3) := by decide +kernel
theorem d_T_init_37 : decode (mMc M_T_init) 37 = .ok (.aload_n 0, 1) := by decide +kernel
theorem d_T_init_38 : decode (mMc M_T_init) 38 = .ok (.iconst 3, 1) := by decide +kernel
theorem d_T_init_39 : decode (mMc M_T_init) 39 = .ok (.newarray .int, 2) := by decide +kernel
theorem d_T_init_41 : decode (mMc M_T_init) 41 = .ok (.putfield 35, 3) := by decide +kernel
theorem d_T_init_44 : decode (mMc M_T_init) 44 = .ok (.aload_n 0, 1) := by decide +kernel
theorem d_T_init_45 : decode (mMc M_T_init) 45 = .ok (.iconst 0, 1) := by decide +kernel
theorem d_T_init_46 : decode (mMc M_T_init) 46 = .ok (.putfield 39, 3) := by decide +kernel
theorem d_T_init_49 : decode (mMc M_T_init) 49 = .ok (.return_, 1) := by decide +kernel
theorem k_T_init : mCd M_T_init 0 := ⟨by decide, by decide, by decide +kernel, by decide, mG (1, 226) (by decide +kernel), mG (1, 8) (by decide +kernel)⟩
def M_F_init : mM := (⟨"FloatingDock", "<init>", "()V"⟩, prog_1_method_1_code, 1, none, [])
theorem d_F_init_0 : decode (mMc M_F_init) 0 = .ok (.aload_n 0, 1) := by decide +kernel
theorem d_F_init_1 : decode (mMc M_F_init) 1 = .ok (.invokespecial 1, 3) := by decide +kernel
theorem d_F_init_4 : decode (mMc M_F_init) 4 = .ok (.aload_n 0, 1) := by decide +kernel
theorem d_F_init_5 : decode (mMc M_F_init) 5 = .ok (.new 7, 3) := by decide +kernel
theorem d_F_init_8 : decode (mMc M_F_init) 8 = .ok (.dup, 1) := by decide +kernel
theorem d_F_init_9 : decode (mMc M_F_init) 9 = .ok (.invokespecial 9, 3) := by decide +kernel
theorem d_F_init_12 : decode (mMc M_F_init) 12 = .ok (.putfield 10, 3) := by decide +kernel
theorem d_F_init_15 : decode (mMc M_F_init) 15 = .ok (.aload_n 0, 1) := by decide +kernel
theorem d_F_init_16 : decode (mMc M_F_init) 16 = .ok (.new 7, 3) := by decide +kernel
theorem d_F_init_19 : decode (mMc M_F_init) 19 = .ok (.dup, 1) := by decide +kernel
theorem d_F_init_20 : decode (mMc M_F_init) 20 = .ok (.invokespecial 9, 3) := by decide +kernel
theorem d_F_init_23 : decode (mMc M_F_init) 23 = .ok (.putfield 16, 3) := by decide +kernel
theorem d_F_init_26 : decode (mMc M_F_init) 26 = .ok (.aload_n 0, 1) := by decide +kernel
theorem d_F_init_27 : decode (mMc M_F_init) 27 = .ok (.new 19, 3) := by decide +kernel
theorem d_F_init_30 : decode (mMc M_F_init) 30 = .ok (.dup, 1) := by decide +kernel
theorem d_F_init_31 : decode (mMc M_F_init) 31 = .ok (.invokespecial 21, 3) := by decide +kernel
theorem d_F_init_34 : decode (mMc M_F_init) 34 = .ok (.putfield 22, 3) := by decide +kernel
theorem d_F_init_37 : decode (mMc M_F_init) 37 = .ok (.aload_n 0, 1) := by decide +kernel
theorem d_F_init_38 : decode (mMc M_F_init) 38 = .ok (.new 7, 3) := by decide +kernel
theorem d_F_init_41 : decode (mMc M_F_init) 41 = .ok (.dup, 1) := by decide +kernel
theorem d_F_init_42 : decode (mMc M_F_init) 42 = .ok (.invokespecial 9, 3) := by decide +kernel
theorem d_F_init_45 : decode (mMc M_F_init) 45 = .ok (.putfield 26, 3) := by decide +kernel
theorem d_F_init_48 : decode (mMc M_F_init) 48 = .ok (.aload_n 0, 1) := by decide +kernel
theorem d_F_init_49 : decode (mMc M_F_init) 49 = .ok (.iconst 0, 1) := by decide +kernel
theorem d_F_init_50 : decode (mMc M_F_init) 50 = .ok (.putfield 29, 3) := by decide +kernel
theorem d_F_init_53 : decode (mMc M_F_init) 53 = .ok (.aload_n 0, 1) := by decide +kernel
theorem d_F_init_54 : decode (mMc M_F_init) 54 = .ok (.new 33, 3) := by decide +kernel
theorem d_F_init_57 : decode (mMc M_F_init) 57 = .ok (.dup, 1) := by decide +kernel
theorem d_F_init_58 : decode (mMc M_F_init) 58 = .ok (.invokespecial 35, 3) := by decide +kernel
theorem d_F_init_61 : decode (mMc M_F_init) 61 = .ok (.putfield 36, 3) := by decide +kernel
theorem d_F_init_64 : decode (mMc M_F_init) 64 = .ok (.aload_n 0, 1) := by decide +kernel
theorem d_F_init_65 : decode (mMc M_F_init) 65 = .ok (.new 40, 3) := by decide +kernel
theorem d_F_init_68 : decode (mMc M_F_init) 68 = .ok (.dup, 1) := by decide +kernel
theorem d_F_init_69 : decode (mMc M_F_init) 69 = .ok (.invokespecial 42, 3) := by decide +kernel
theorem d_F_init_72 : decode (mMc M_F_init) 72 = .ok (.putfield 43, 3) := by decide +kernel
theorem d_F_init_75 : decode (mMc M_F_init) 75 = .ok (.aload_n 0, 1) := by decide +kernel
theorem d_F_init_76 : decode (mMc M_F_init) 76 = .ok (.new 47, 3) := by decide +kernel
theorem d_F_init_79 : decode (mMc M_F_init) 79 = .ok (.dup, 1) := by decide +kernel
theorem d_F_init_80 : decode (mMc M_F_init) 80 = .ok (.invokespecial 49, 3) := by decide +kernel
theorem d_F_init_83 : decode (mMc M_F_init) 83 = .ok (.putfield 50, 3) := by decide +kernel
theorem d_F_init_86 : decode (mMc M_F_init) 86 = .ok (.aload_n 0, 1) := by decide +kernel
theorem d_F_init_87 : decode (mMc M_F_init) 87 = .ok (.iconst (-1), 1) := by decide +kernel
theorem d_F_init_88 : decode (mMc M_F_init) 88 = .ok (.putfield 54, 3) := by decide +kernel
theorem d_F_init_91 : decode (mMc M_F_init) 91 = .ok (.aload_n 0, 1) := by decide +kernel
theorem d_F_init_92 : decode (mMc M_F_init) 92 = .ok (.iconst (-1), 1) := by decide +kernel
theorem d_F_init_93 : decode (mMc M_F_init) 93 = .ok (.putfield 58, 3) := by decide +kernel
theorem d_F_init_96 : decode (mMc M_F_init) 96 = .ok (.aload_n 0, 1) := by decide +kernel
theorem d_F_init_97 : decode (mMc M_F_init) 97 = .ok (.iconst (-1), 1) := by decide +kernel
theorem d_F_init_98 : decode (mMc M_F_init) 98 = .ok (.putfield 61, 3) := by decide +kernel
theorem d_F_init_101 : decode (mMc M_F_init) 101 = .ok (.return_, 1) := by decide +kernel
theorem k_F_init : mCd M_F_init 0 := ⟨by decide, by decide, by decide +kernel, by decide, mG (1, 40) (by decide +kernel), mG (1, 1) (by decide +kernel)⟩
def M_F_addShip : mM := (⟨"FloatingDock", "addShip", "(III)I"⟩, prog_1_method_2_code, 5, (some .int), [])
theorem d_F_addShip_0 : decode (mMc M_F_addShip) 0 = .ok (.aload_n 0, 1) := by decide +kernel
theorem d_F_addShip_1 : decode (mMc M_F_addShip) 1 = .ok (.invokevirtual 64, 3) := by decide +kernel
theorem d_F_addShip_4 : decode (mMc M_F_addShip) 4 = .ok (.aload_n 0, 1) := by decide +kernel
theorem d_F_addShip_5 : decode (mMc M_F_addShip) 5 = .ok (.getfield 10, 3) := by decide +kernel
theorem d_F_addShip_8 : decode (mMc M_F_addShip) 8 = .ok (.getfield 67, 3) := by decide +kernel
theorem d_F_addShip_11 : decode (mMc M_F_addShip) 11 = .ok (.iload_n 1, 1) := by decide +kernel
theorem d_F_addShip_12 : decode (mMc M_F_addShip) 12 = .ok (.iload_n 2, 1) := by decide +kernel
theorem d_F_addShip_13 : decode (mMc M_F_addShip) 13 = .ok (.iload_n 3, 1) := by decide +kernel
theorem d_F_addShip_14 : decode (mMc M_F_addShip) 14 = .ok (.invokevirtual 71, 3) := by decide +kernel
theorem d_F_addShip_17 : decode (mMc M_F_addShip) 17 = .ok (.istore 4, 2) := by decide +kernel
theorem d_F_addShip_19 : decode (mMc M_F_addShip) 19 = .ok (.aload_n 0, 1) := by decide +kernel
theorem d_F_addShip_20 : decode (mMc M_F_addShip) 20 = .ok (.invokevirtual 77, 3) := by decide +kernel
theorem d_F_addShip_23 : decode (mMc M_F_addShip) 23 = .ok (.iload 4, 2) := by decide +kernel
theorem d_F_addShip_25 : decode (mMc M_F_addShip) 25 = .ok (.ireturn, 1) := by decide +kernel
theorem k_F_addShip : mCd M_F_addShip 3 := ⟨by decide, by decide, by decide +kernel, by decide, mG (2, 108) (by decide +kernel), mG (1, 1) (by decide +kernel)⟩
def M_F_startChange : mM := (⟨"FloatingDock", "startChange", "()V"⟩, prog_1_method_57_code, 1, none, [])
theorem d_F_startChange_0 : decode (mMc M_F_startChange) 0 = .ok (.aload_n 0, 1) := by decide +kernel
theorem d_F_startChange_1 : decode (mMc M_F_startChange) 1 = .ok (.getfield 16, 3) := by decide +kernel
theorem d_F_startChange_4 : decode (mMc M_F_startChange) 4 = .ok (.aload_n 0, 1) := by decide +kernel
theorem d_F_startChange_5 : decode (mMc M_F_startChange) 5 = .ok (.getfield 10, 3) := by decide +kernel
theorem d_F_startChange_8 : decode (mMc M_F_startChange) 8 = .ok (.invokevirtual 287, 3) := by decide +kernel
theorem d_F_startChange_11 : decode (mMc M_F_startChange) 11 = .ok (.return_, 1) := by decide +kernel
theorem k_F_startChange : mCd M_F_startChange 0 := ⟨by decide, by decide, by decide +kernel, by decide, mG (2, 112) (by decide +kernel), mG (1, 1) (by decide +kernel)⟩
def M_F_keepChange : mM := (⟨"FloatingDock", "keepChange", "()V"⟩, prog_1_method_58_code, 1, none, [])
theorem d_F_keepChange_0 : decode (mMc M_F_keepChange) 0 = .ok (.aload_n 0, 1) := by decide +kernel
theorem d_F_keepChange_1 : decode (mMc M_F_keepChange) 1 = .ok (.aload_n 0, 1) := by decide +kernel
theorem d_F_keepChange_2 : decode (mMc M_F_keepChange) 2 = .ok (.getfield 22, 3) := by decide +kernel
theorem d_F_keepChange_5 : decode (mMc M_F_keepChange) 5 = .ok (.aload_n 0, 1) := by decide +kernel
theorem d_F_keepChange_6 : decode (mMc M_F_keepChange) 6 = .ok (.getfield 16, 3) := by decide +kernel
theorem d_F_keepChange_9 : decode (mMc M_F_keepChange) 9 = .ok (.invokevirtual 356, 3) := by decide +kernel
theorem d_F_keepChange_12 : decode (mMc M_F_keepChange) 12 = .ok (.putfield 16, 3) := by decide +kernel
theorem d_F_keepChange_15 : decode (mMc M_F_keepChange) 15 = .ok (.return_, 1) := by decide +kernel
theorem k_F_keepChange : mCd M_F_keepChange 0 := ⟨by decide, by decide, by decide +kernel, by decide, mG (2, 232) (by decide +kernel), mG (1, 1) (by decide +kernel)⟩
def M_F_removeShip : mM := (⟨"FloatingDock", "removeShip", "(I)I"⟩, prog_1_method_3_code, 3, (some .int), [])
theorem d_F_removeShip_0 : decode (mMc M_F_removeShip) 0 = .ok (.aload_n 0, 1) := by decide +kernel
theorem d_F_removeShip_1 : decode (mMc M_F_removeShip) 1 = .ok (.invokevirtual 64, 3) := by decide +kernel
theorem d_F_removeShip_4 : decode (mMc M_F_removeShip) 4 = .ok (.aload_n 0, 1) := by decide +kernel
theorem d_F_removeShip_5 : decode (mMc M_F_removeShip) 5 = .ok (.getfield 10, 3) := by decide +kernel
theorem d_F_removeShip_8 : decode (mMc M_F_removeShip) 8 = .ok (.getfield 67, 3) := by decide +kernel
theorem d_F_removeShip_11 : decode (mMc M_F_removeShip) 11 = .ok (.iload_n 1, 1) := by decide +kernel
theorem d_F_removeShip_12 : decode (mMc M_F_removeShip) 12 = .ok (.invokevirtual 80, 3) := by decide +kernel
theorem d_F_removeShip_15 : decode (mMc M_F_removeShip) 15 = .ok (.istore_n 2, 1) := by decide +kernel
theorem d_F_removeShip_16 : decode (mMc M_F_removeShip) 16 = .ok (.aload_n 0, 1) := by decide +kernel
theorem d_F_removeShip_17 : decode (mMc M_F_removeShip) 17 = .ok (.invokevirtual 77, 3) := by decide +kernel
theorem d_F_removeShip_20 : decode (mMc M_F_removeShip) 20 = .ok (.iload_n 2, 1) := by decide +kernel
theorem d_F_removeShip_21 : decode (mMc M_F_removeShip) 21 = .ok (.ireturn, 1) := by decide +kernel
theorem k_F_removeShip : mCd M_F_removeShip 1 := ⟨by decide, by decide, by decide +kernel, by decide, mG (3, 3) (by decide +kernel), mG (1, 1) (by decide +kernel)⟩
def M_F_enter : mM := (⟨"FloatingDock", "enter", "(II)I"⟩, prog_1_method_4_code, 4, (some .int), [])
theorem d_F_enter_0 : decode (mMc M_F_enter) 0 = .ok (.aload_n 0, 1) := by decide +kernel
theorem d_F_enter_1 : decode (mMc M_F_enter) 1 = .ok (.invokevirtual 64, 3) := by decide +kernel
theorem d_F_enter_4 : decode (mMc M_F_enter) 4 = .ok (.aload_n 0, 1) := by decide +kernel
theorem d_F_enter_5 : decode (mMc M_F_enter) 5 = .ok (.iload_n 1, 1) := by decide +kernel
theorem d_F_enter_6 : decode (mMc M_F_enter) 6 = .ok (.iload_n 2, 1) := by decide +kernel
theorem d_F_enter_7 : decode (mMc M_F_enter) 7 = .ok (.invokevirtual 84, 3) := by decide +kernel
theorem d_F_enter_10 : decode (mMc M_F_enter) 10 = .ok (.istore_n 3, 1) := by decide +kernel
theorem d_F_enter_11 : decode (mMc M_F_enter) 11 = .ok (.aload_n 0, 1) := by decide +kernel
theorem d_F_enter_12 : decode (mMc M_F_enter) 12 = .ok (.invokevirtual 77, 3) := by decide +kernel
theorem d_F_enter_15 : decode (mMc M_F_enter) 15 = .ok (.iload_n 3, 1) := by decide +kernel
theorem d_F_enter_16 : decode (mMc M_F_enter) 16 = .ok (.ireturn, 1) := by decide +kernel
theorem k_F_enter : mCd M_F_enter 2 := ⟨by decide, by decide, by decide +kernel, by decide, mG (3, 40) (by decide +kernel), mG (1, 1) (by decide +kernel)⟩
def M_F_letIn : mM := (⟨"FloatingDock", "letIn", "(II)I"⟩, prog_1_method_59_code, 3, (some .int), [])
theorem d_F_letIn_0 : decode (mMc M_F_letIn) 0 = .ok (.aload_n 0, 1) := by decide +kernel
theorem d_F_letIn_1 : decode (mMc M_F_letIn) 1 = .ok (.aload_n 0, 1) := by decide +kernel
theorem d_F_letIn_2 : decode (mMc M_F_letIn) 2 = .ok (.getfield 10, 3) := by decide +kernel
theorem d_F_letIn_5 : decode (mMc M_F_letIn) 5 = .ok (.iload_n 1, 1) := by decide +kernel
theorem d_F_letIn_6 : decode (mMc M_F_letIn) 6 = .ok (.iload_n 2, 1) := by decide +kernel
theorem d_F_letIn_7 : decode (mMc M_F_letIn) 7 = .ok (.invokevirtual 359, 3) := by decide +kernel
theorem d_F_letIn_10 : decode (mMc M_F_letIn) 10 = .ok (.invokevirtual 362, 3) := by decide +kernel
theorem d_F_letIn_13 : decode (mMc M_F_letIn) 13 = .ok (.aload_n 0, 1) := by decide +kernel
theorem d_F_letIn_14 : decode (mMc M_F_letIn) 14 = .ok (.getfield 10, 3) := by decide +kernel
theorem d_F_letIn_17 : decode (mMc M_F_letIn) 17 = .ok (.iload_n 1, 1) := by decide +kernel
theorem d_F_letIn_18 : decode (mMc M_F_letIn) 18 = .ok (.iload_n 2, 1) := by decide +kernel
theorem d_F_letIn_19 : decode (mMc M_F_letIn) 19 = .ok (.invokevirtual 365, 3) := by decide +kernel
theorem d_F_letIn_22 : decode (mMc M_F_letIn) 22 = .ok (.ireturn, 1) := by decide +kernel
theorem k_F_letIn : mCd M_F_letIn 2 := ⟨by decide, by decide, by decide +kernel, by decide, mG (3, 44) (by decide +kernel), mG (1, 1) (by decide +kernel)⟩
def M_F_refuseFor : mM := (⟨"FloatingDock", "refuseFor", "(I)V"⟩, prog_1_method_61_code, 2, none, [])
theorem d_F_refuseFor_0 : decode (mMc M_F_refuseFor) 0 = .ok (.iload_n 1, 1) := by decide +kernel
theorem d_F_refuseFor_1 : decode (mMc M_F_refuseFor) 1 = .ok (.ifCond .eq 19, 3) := by decide +kernel
theorem d_F_refuseFor_4 : decode (mMc M_F_refuseFor) 4 = .ok (.aload_n 0, 1) := by decide +kernel
theorem d_F_refuseFor_5 : decode (mMc M_F_refuseFor) 5 = .ok (.iload_n 1, 1) := by decide +kernel
theorem d_F_refuseFor_6 : decode (mMc M_F_refuseFor) 6 = .ok (.putfield 54, 3) := by decide +kernel
theorem d_F_refuseFor_9 : decode (mMc M_F_refuseFor) 9 = .ok (.new 374, 3) := by decide +kernel
theorem d_F_refuseFor_12 : decode (mMc M_F_refuseFor) 12 = .ok (.dup, 1) := by decide +kernel
theorem d_F_refuseFor_13 : decode (mMc M_F_refuseFor) 13 = .ok (.ldc_w 376, 3) := by decide +kernel
theorem d_F_refuseFor_16 : decode (mMc M_F_refuseFor) 16 = .ok (.invokespecial 378, 3) := by decide +kernel
theorem d_F_refuseFor_19 : decode (mMc M_F_refuseFor) 19 = .ok (.athrow, 1) := by decide +kernel
theorem d_F_refuseFor_20 : decode (mMc M_F_refuseFor) 20 = .ok (.return_, 1) := by decide +kernel
theorem k_F_refuseFor : mCd M_F_refuseFor 1 := ⟨by decide, by decide, by decide +kernel, by decide, mG (3, 72) (by decide +kernel), mG (1, 1) (by decide +kernel)⟩
def M_F_leave : mM := (⟨"FloatingDock", "leave", "(I)I"⟩, prog_1_method_5_code, 3, (some .int), [])
theorem d_F_leave_0 : decode (mMc M_F_leave) 0 = .ok (.aload_n 0, 1) := by decide +kernel
theorem d_F_leave_1 : decode (mMc M_F_leave) 1 = .ok (.invokevirtual 64, 3) := by decide +kernel
theorem d_F_leave_4 : decode (mMc M_F_leave) 4 = .ok (.aload_n 0, 1) := by decide +kernel
theorem d_F_leave_5 : decode (mMc M_F_leave) 5 = .ok (.iload_n 1, 1) := by decide +kernel
theorem d_F_leave_6 : decode (mMc M_F_leave) 6 = .ok (.invokevirtual 88, 3) := by decide +kernel
theorem d_F_leave_9 : decode (mMc M_F_leave) 9 = .ok (.istore_n 2, 1) := by decide +kernel
theorem d_F_leave_10 : decode (mMc M_F_leave) 10 = .ok (.aload_n 0, 1) := by decide +kernel
theorem d_F_leave_11 : decode (mMc M_F_leave) 11 = .ok (.invokevirtual 77, 3) := by decide +kernel
theorem d_F_leave_14 : decode (mMc M_F_leave) 14 = .ok (.iload_n 2, 1) := by decide +kernel
theorem d_F_leave_15 : decode (mMc M_F_leave) 15 = .ok (.ireturn, 1) := by decide +kernel
theorem k_F_leave : mCd M_F_leave 1 := ⟨by decide, by decide, by decide +kernel, by decide, mG (3, 104) (by decide +kernel), mG (1, 1) (by decide +kernel)⟩
def M_F_letOut : mM := (⟨"FloatingDock", "letOut", "(I)I"⟩, prog_1_method_60_code, 2, (some .int), [])
theorem d_F_letOut_0 : decode (mMc M_F_letOut) 0 = .ok (.aload_n 0, 1) := by decide +kernel
theorem d_F_letOut_1 : decode (mMc M_F_letOut) 1 = .ok (.aload_n 0, 1) := by decide +kernel
theorem d_F_letOut_2 : decode (mMc M_F_letOut) 2 = .ok (.getfield 10, 3) := by decide +kernel
theorem d_F_letOut_5 : decode (mMc M_F_letOut) 5 = .ok (.iload_n 1, 1) := by decide +kernel
theorem d_F_letOut_6 : decode (mMc M_F_letOut) 6 = .ok (.invokevirtual 368, 3) := by decide +kernel
theorem d_F_letOut_9 : decode (mMc M_F_letOut) 9 = .ok (.invokevirtual 362, 3) := by decide +kernel
theorem d_F_letOut_12 : decode (mMc M_F_letOut) 12 = .ok (.aload_n 0, 1) := by decide +kernel
theorem d_F_letOut_13 : decode (mMc M_F_letOut) 13 = .ok (.getfield 10, 3) := by decide +kernel
theorem d_F_letOut_16 : decode (mMc M_F_letOut) 16 = .ok (.iload_n 1, 1) := by decide +kernel
theorem d_F_letOut_17 : decode (mMc M_F_letOut) 17 = .ok (.invokevirtual 371, 3) := by decide +kernel
theorem d_F_letOut_20 : decode (mMc M_F_letOut) 20 = .ok (.ireturn, 1) := by decide +kernel
theorem k_F_letOut : mCd M_F_letOut 1 := ⟨by decide, by decide, by decide +kernel, by decide, mG (3, 108) (by decide +kernel), mG (1, 1) (by decide +kernel)⟩
def M_F_setCleaning : mM := (⟨"FloatingDock", "setCleaning", "(IZ)Z"⟩, prog_1_method_6_code, 4, (some .boolean), [])
theorem d_F_setCleaning_0 : decode (mMc M_F_setCleaning) 0 = .ok (.aload_n 0, 1) := by decide +kernel
theorem d_F_setCleaning_1 : decode (mMc M_F_setCleaning) 1 = .ok (.invokevirtual 64, 3) := by decide +kernel
theorem d_F_setCleaning_4 : decode (mMc M_F_setCleaning) 4 = .ok (.aload_n 0, 1) := by decide +kernel
theorem d_F_setCleaning_5 : decode (mMc M_F_setCleaning) 5 = .ok (.getfield 10, 3) := by decide +kernel
theorem d_F_setCleaning_8 : decode (mMc M_F_setCleaning) 8 = .ok (.iload_n 1, 1) := by decide +kernel
theorem d_F_setCleaning_9 : decode (mMc M_F_setCleaning) 9 = .ok (.iload_n 2, 1) := by decide +kernel
theorem d_F_setCleaning_10 : decode (mMc M_F_setCleaning) 10 = .ok (.invokevirtual 91, 3) := by decide +kernel
theorem d_F_setCleaning_13 : decode (mMc M_F_setCleaning) 13 = .ok (.istore_n 3, 1) := by decide +kernel
theorem d_F_setCleaning_14 : decode (mMc M_F_setCleaning) 14 = .ok (.aload_n 0, 1) := by decide +kernel
theorem d_F_setCleaning_15 : decode (mMc M_F_setCleaning) 15 = .ok (.invokevirtual 77, 3) := by decide +kernel
theorem d_F_setCleaning_18 : decode (mMc M_F_setCleaning) 18 = .ok (.iload_n 3, 1) := by decide +kernel
theorem d_F_setCleaning_19 : decode (mMc M_F_setCleaning) 19 = .ok (.ireturn, 1) := by decide +kernel
theorem k_F_setCleaning : mCd M_F_setCleaning 2 := ⟨by decide, by decide, by decide +kernel, by decide, mG (3, 131) (by decide +kernel), mG (1, 1) (by decide +kernel)⟩
def M_F_setGate : mM := (⟨"FloatingDock", "setGate", "(Z)Z"⟩, prog_1_method_16_code, 3, (some .boolean), [])
theorem d_F_setGate_0 : decode (mMc M_F_setGate) 0 = .ok (.aload_n 0, 1) := by decide +kernel
theorem d_F_setGate_1 : decode (mMc M_F_setGate) 1 = .ok (.invokevirtual 64, 3) := by decide +kernel
theorem d_F_setGate_4 : decode (mMc M_F_setGate) 4 = .ok (.aload_n 0, 1) := by decide +kernel
theorem d_F_setGate_5 : decode (mMc M_F_setGate) 5 = .ok (.getfield 10, 3) := by decide +kernel
theorem d_F_setGate_8 : decode (mMc M_F_setGate) 8 = .ok (.iload_n 1, 1) := by decide +kernel
theorem d_F_setGate_9 : decode (mMc M_F_setGate) 9 = .ok (.invokevirtual 149, 3) := by decide +kernel
theorem d_F_setGate_12 : decode (mMc M_F_setGate) 12 = .ok (.istore_n 2, 1) := by decide +kernel
theorem d_F_setGate_13 : decode (mMc M_F_setGate) 13 = .ok (.aload_n 0, 1) := by decide +kernel
theorem d_F_setGate_14 : decode (mMc M_F_setGate) 14 = .ok (.invokevirtual 77, 3) := by decide +kernel
theorem d_F_setGate_17 : decode (mMc M_F_setGate) 17 = .ok (.iload_n 2, 1) := by decide +kernel
theorem d_F_setGate_18 : decode (mMc M_F_setGate) 18 = .ok (.ireturn, 1) := by decide +kernel
theorem k_F_setGate : mCd M_F_setGate 1 := ⟨by decide, by decide, by decide +kernel, by decide, mG (3, 142) (by decide +kernel), mG (1, 1) (by decide +kernel)⟩
def M_F_setPump : mM := (⟨"FloatingDock", "setPump", "(I)I"⟩, prog_1_method_18_code, 3, (some .int), [])
theorem d_F_setPump_0 : decode (mMc M_F_setPump) 0 = .ok (.aload_n 0, 1) := by decide +kernel
theorem d_F_setPump_1 : decode (mMc M_F_setPump) 1 = .ok (.invokevirtual 64, 3) := by decide +kernel
theorem d_F_setPump_4 : decode (mMc M_F_setPump) 4 = .ok (.aload_n 0, 1) := by decide +kernel
theorem d_F_setPump_5 : decode (mMc M_F_setPump) 5 = .ok (.getfield 10, 3) := by decide +kernel
theorem d_F_setPump_8 : decode (mMc M_F_setPump) 8 = .ok (.iload_n 1, 1) := by decide +kernel
theorem d_F_setPump_9 : decode (mMc M_F_setPump) 9 = .ok (.invokevirtual 156, 3) := by decide +kernel
theorem d_F_setPump_12 : decode (mMc M_F_setPump) 12 = .ok (.istore_n 2, 1) := by decide +kernel
theorem d_F_setPump_13 : decode (mMc M_F_setPump) 13 = .ok (.aload_n 0, 1) := by decide +kernel
theorem d_F_setPump_14 : decode (mMc M_F_setPump) 14 = .ok (.invokevirtual 77, 3) := by decide +kernel
theorem d_F_setPump_17 : decode (mMc M_F_setPump) 17 = .ok (.iload_n 2, 1) := by decide +kernel
theorem d_F_setPump_18 : decode (mMc M_F_setPump) 18 = .ok (.ireturn, 1) := by decide +kernel
theorem k_F_setPump : mCd M_F_setPump 1 := ⟨by decide, by decide, by decide +kernel, by decide, mG (3, 159) (by decide +kernel), mG (1, 1) (by decide +kernel)⟩
def M_F_pass : mM := (⟨"FloatingDock", "pass", "(I)I"⟩, prog_1_method_22_code, 3, (some .int), [])
theorem d_F_pass_0 : decode (mMc M_F_pass) 0 = .ok (.aload_n 0, 1) := by decide +kernel
theorem d_F_pass_1 : decode (mMc M_F_pass) 1 = .ok (.invokevirtual 64, 3) := by decide +kernel
theorem d_F_pass_4 : decode (mMc M_F_pass) 4 = .ok (.aload_n 0, 1) := by decide +kernel
theorem d_F_pass_5 : decode (mMc M_F_pass) 5 = .ok (.getfield 10, 3) := by decide +kernel
theorem d_F_pass_8 : decode (mMc M_F_pass) 8 = .ok (.iload_n 1, 1) := by decide +kernel
theorem d_F_pass_9 : decode (mMc M_F_pass) 9 = .ok (.invokevirtual 171, 3) := by decide +kernel
theorem d_F_pass_12 : decode (mMc M_F_pass) 12 = .ok (.istore_n 2, 1) := by decide +kernel
theorem d_F_pass_13 : decode (mMc M_F_pass) 13 = .ok (.aload_n 0, 1) := by decide +kernel
theorem d_F_pass_14 : decode (mMc M_F_pass) 14 = .ok (.invokevirtual 77, 3) := by decide +kernel
theorem d_F_pass_17 : decode (mMc M_F_pass) 17 = .ok (.iload_n 2, 1) := by decide +kernel
theorem d_F_pass_18 : decode (mMc M_F_pass) 18 = .ok (.ireturn, 1) := by decide +kernel
theorem k_F_pass : mCd M_F_pass 1 := ⟨by decide, by decide, by decide +kernel, by decide, mG (3, 168) (by decide +kernel), mG (1, 1) (by decide +kernel)⟩
def M_F_placeBlock : mM := (⟨"FloatingDock", "placeBlock", "(I)I"⟩, prog_1_method_26_code, 3, (some .int), [])
theorem d_F_placeBlock_0 : decode (mMc M_F_placeBlock) 0 = .ok (.aload_n 0, 1) := by decide +kernel
theorem d_F_placeBlock_1 : decode (mMc M_F_placeBlock) 1 = .ok (.invokevirtual 64, 3) := by decide +kernel
theorem d_F_placeBlock_4 : decode (mMc M_F_placeBlock) 4 = .ok (.aload_n 0, 1) := by decide +kernel
theorem d_F_placeBlock_5 : decode (mMc M_F_placeBlock) 5 = .ok (.getfield 10, 3) := by decide +kernel
theorem d_F_placeBlock_8 : decode (mMc M_F_placeBlock) 8 = .ok (.iload_n 1, 1) := by decide +kernel
theorem d_F_placeBlock_9 : decode (mMc M_F_placeBlock) 9 = .ok (.invokevirtual 183, 3) := by decide +kernel
theorem d_F_placeBlock_12 : decode (mMc M_F_placeBlock) 12 = .ok (.istore_n 2, 1) := by decide +kernel
theorem d_F_placeBlock_13 : decode (mMc M_F_placeBlock) 13 = .ok (.aload_n 0, 1) := by decide +kernel
theorem d_F_placeBlock_14 : decode (mMc M_F_placeBlock) 14 = .ok (.invokevirtual 77, 3) := by decide +kernel
theorem d_F_placeBlock_17 : decode (mMc M_F_placeBlock) 17 = .ok (.iload_n 2, 1) := by decide +kernel
theorem d_F_placeBlock_18 : decode (mMc M_F_placeBlock) 18 = .ok (.ireturn, 1) := by decide +kernel
theorem k_F_placeBlock : mCd M_F_placeBlock 1 := ⟨by decide, by decide, by decide +kernel, by decide, mG (3, 202) (by decide +kernel), mG (1, 1) (by decide +kernel)⟩
def M_F_removeBlock : mM := (⟨"FloatingDock", "removeBlock", "(I)I"⟩, prog_1_method_27_code, 3, (some .int), [])
theorem d_F_removeBlock_0 : decode (mMc M_F_removeBlock) 0 = .ok (.aload_n 0, 1) := by decide +kernel
theorem d_F_removeBlock_1 : decode (mMc M_F_removeBlock) 1 = .ok (.invokevirtual 64, 3) := by decide +kernel
theorem d_F_removeBlock_4 : decode (mMc M_F_removeBlock) 4 = .ok (.aload_n 0, 1) := by decide +kernel
theorem d_F_removeBlock_5 : decode (mMc M_F_removeBlock) 5 = .ok (.getfield 10, 3) := by decide +kernel
theorem d_F_removeBlock_8 : decode (mMc M_F_removeBlock) 8 = .ok (.iload_n 1, 1) := by decide +kernel
theorem d_F_removeBlock_9 : decode (mMc M_F_removeBlock) 9 = .ok (.invokevirtual 186, 3) := by decide +kernel
theorem d_F_removeBlock_12 : decode (mMc M_F_removeBlock) 12 = .ok (.istore_n 2, 1) := by decide +kernel
theorem d_F_removeBlock_13 : decode (mMc M_F_removeBlock) 13 = .ok (.aload_n 0, 1) := by decide +kernel
theorem d_F_removeBlock_14 : decode (mMc M_F_removeBlock) 14 = .ok (.invokevirtual 77, 3) := by decide +kernel
theorem d_F_removeBlock_17 : decode (mMc M_F_removeBlock) 17 = .ok (.iload_n 2, 1) := by decide +kernel
theorem d_F_removeBlock_18 : decode (mMc M_F_removeBlock) 18 = .ok (.ireturn, 1) := by decide +kernel
theorem k_F_removeBlock : mCd M_F_removeBlock 1 := ⟨by decide, by decide, by decide +kernel, by decide, mG (3, 239) (by decide +kernel), mG (1, 1) (by decide +kernel)⟩
def M_F_pay : mM := (⟨"FloatingDock", "pay", "(II)I"⟩, prog_1_method_39_code, 4, (some .int), [])
theorem d_F_pay_0 : decode (mMc M_F_pay) 0 = .ok (.aload_n 0, 1) := by decide +kernel
theorem d_F_pay_1 : decode (mMc M_F_pay) 1 = .ok (.invokevirtual 64, 3) := by decide +kernel
theorem d_F_pay_4 : decode (mMc M_F_pay) 4 = .ok (.aload_n 0, 1) := by decide +kernel
theorem d_F_pay_5 : decode (mMc M_F_pay) 5 = .ok (.getfield 10, 3) := by decide +kernel
theorem d_F_pay_8 : decode (mMc M_F_pay) 8 = .ok (.iload_n 1, 1) := by decide +kernel
theorem d_F_pay_9 : decode (mMc M_F_pay) 9 = .ok (.iload_n 2, 1) := by decide +kernel
theorem d_F_pay_10 : decode (mMc M_F_pay) 10 = .ok (.invokevirtual 243, 3) := by decide +kernel
theorem d_F_pay_13 : decode (mMc M_F_pay) 13 = .ok (.istore_n 3, 1) := by decide +kernel
theorem d_F_pay_14 : decode (mMc M_F_pay) 14 = .ok (.aload_n 0, 1) := by decide +kernel
theorem d_F_pay_15 : decode (mMc M_F_pay) 15 = .ok (.invokevirtual 77, 3) := by decide +kernel
theorem d_F_pay_18 : decode (mMc M_F_pay) 18 = .ok (.iload_n 3, 1) := by decide +kernel
theorem d_F_pay_19 : decode (mMc M_F_pay) 19 = .ok (.ireturn, 1) := by decide +kernel
theorem k_F_pay : mCd M_F_pay 2 := ⟨by decide, by decide, by decide +kernel, by decide, mG (4, 14) (by decide +kernel), mG (1, 1) (by decide +kernel)⟩
def M_F_isGateOpen : mM := (⟨"FloatingDock", "isGateOpen", "()Z"⟩, prog_1_method_17_code, 1, (some .boolean), [])
theorem d_F_isGateOpen_0 : decode (mMc M_F_isGateOpen) 0 = .ok (.aload_n 0, 1) := by decide +kernel
theorem d_F_isGateOpen_1 : decode (mMc M_F_isGateOpen) 1 = .ok (.getfield 10, 3) := by decide +kernel
theorem d_F_isGateOpen_4 : decode (mMc M_F_isGateOpen) 4 = .ok (.getfield 153, 3) := by decide +kernel
theorem d_F_isGateOpen_7 : decode (mMc M_F_isGateOpen) 7 = .ok (.ireturn, 1) := by decide +kernel
theorem k_F_isGateOpen : mCd M_F_isGateOpen 0 := ⟨by decide, by decide, by decide +kernel, by decide, mG (5, 167) (by decide +kernel), mG (1, 1) (by decide +kernel)⟩
def M_F_shipCount : mM := (⟨"FloatingDock", "shipCount", "()I"⟩, prog_1_method_7_code, 1, (some .int), [])
theorem d_F_shipCount_0 : decode (mMc M_F_shipCount) 0 = .ok (.aload_n 0, 1) := by decide +kernel
theorem d_F_shipCount_1 : decode (mMc M_F_shipCount) 1 = .ok (.getfield 10, 3) := by decide +kernel
theorem d_F_shipCount_4 : decode (mMc M_F_shipCount) 4 = .ok (.getfield 67, 3) := by decide +kernel
theorem d_F_shipCount_7 : decode (mMc M_F_shipCount) 7 = .ok (.getfield 95, 3) := by decide +kernel
theorem d_F_shipCount_10 : decode (mMc M_F_shipCount) 10 = .ok (.ireturn, 1) := by decide +kernel
theorem k_F_shipCount : mCd M_F_shipCount 0 := ⟨by decide, by decide, by decide +kernel, by decide, mG (5, 174) (by decide +kernel), mG (1, 1) (by decide +kernel)⟩
def M_F_shipAt : mM := (⟨"FloatingDock", "shipAt", "(I)I"⟩, prog_1_method_8_code, 2, (some .int), [])
theorem d_F_shipAt_0 : decode (mMc M_F_shipAt) 0 = .ok (.iload_n 1, 1) := by decide +kernel
theorem d_F_shipAt_1 : decode (mMc M_F_shipAt) 1 = .ok (.ifCond .lt 17, 3) := by decide +kernel
theorem d_F_shipAt_4 : decode (mMc M_F_shipAt) 4 = .ok (.iload_n 1, 1) := by decide +kernel
theorem d_F_shipAt_5 : decode (mMc M_F_shipAt) 5 = .ok (.aload_n 0, 1) := by decide +kernel
theorem d_F_shipAt_6 : decode (mMc M_F_shipAt) 6 = .ok (.getfield 10, 3) := by decide +kernel
theorem d_F_shipAt_9 : decode (mMc M_F_shipAt) 9 = .ok (.getfield 67, 3) := by decide +kernel
theorem d_F_shipAt_12 : decode (mMc M_F_shipAt) 12 = .ok (.getfield 95, 3) := by decide +kernel
theorem d_F_shipAt_15 : decode (mMc M_F_shipAt) 15 = .ok (.if_icmp .lt 13, 3) := by decide +kernel
theorem d_F_shipAt_18 : decode (mMc M_F_shipAt) 18 = .ok (.new 98, 3) := by decide +kernel
theorem d_F_shipAt_21 : decode (mMc M_F_shipAt) 21 = .ok (.dup, 1) := by decide +kernel
theorem d_F_shipAt_22 : decode (mMc M_F_shipAt) 22 = .ok (.ldc 100, 2) := by decide +kernel
theorem d_F_shipAt_24 : decode (mMc M_F_shipAt) 24 = .ok (.invokespecial 102, 3) := by decide +kernel
theorem d_F_shipAt_27 : decode (mMc M_F_shipAt) 27 = .ok (.athrow, 1) := by decide +kernel
theorem d_F_shipAt_28 : decode (mMc M_F_shipAt) 28 = .ok (.aload_n 0, 1) := by decide +kernel
theorem d_F_shipAt_29 : decode (mMc M_F_shipAt) 29 = .ok (.getfield 10, 3) := by decide +kernel
theorem d_F_shipAt_32 : decode (mMc M_F_shipAt) 32 = .ok (.getfield 67, 3) := by decide +kernel
theorem d_F_shipAt_35 : decode (mMc M_F_shipAt) 35 = .ok (.getfield 105, 3) := by decide +kernel
theorem d_F_shipAt_38 : decode (mMc M_F_shipAt) 38 = .ok (.iload_n 1, 1) := by decide +kernel
theorem d_F_shipAt_39 : decode (mMc M_F_shipAt) 39 = .ok (.aaload, 1) := by decide +kernel
theorem d_F_shipAt_40 : decode (mMc M_F_shipAt) 40 = .ok (.getfield 109, 3) := by decide +kernel
theorem d_F_shipAt_43 : decode (mMc M_F_shipAt) 43 = .ok (.ireturn, 1) := by decide +kernel
theorem k_F_shipAt : mCd M_F_shipAt 1 := ⟨by decide, by decide, by decide +kernel, by decide, mG (5, 178) (by decide +kernel), mG (1, 1) (by decide +kernel)⟩
def M_F_billOf : mM := (⟨"FloatingDock", "billOf", "(I)I"⟩, prog_1_method_38_code, 2, (some .int), [])
theorem d_F_billOf_0 : decode (mMc M_F_billOf) 0 = .ok (.aload_n 0, 1) := by decide +kernel
theorem d_F_billOf_1 : decode (mMc M_F_billOf) 1 = .ok (.getfield 10, 3) := by decide +kernel
theorem d_F_billOf_4 : decode (mMc M_F_billOf) 4 = .ok (.getfield 67, 3) := by decide +kernel
theorem d_F_billOf_7 : decode (mMc M_F_billOf) 7 = .ok (.iload_n 1, 1) := by decide +kernel
theorem d_F_billOf_8 : decode (mMc M_F_billOf) 8 = .ok (.invokevirtual 114, 3) := by decide +kernel
theorem d_F_billOf_11 : decode (mMc M_F_billOf) 11 = .ok (.getfield 240, 3) := by decide +kernel
theorem d_F_billOf_14 : decode (mMc M_F_billOf) 14 = .ok (.ireturn, 1) := by decide +kernel
theorem k_F_billOf : mCd M_F_billOf 1 := ⟨by decide, by decide, by decide +kernel, by decide, mG (5, 198) (by decide +kernel), mG (1, 1) (by decide +kernel)⟩
def M_F_positionOf : mM := (⟨"FloatingDock", "positionOf", "(I)I"⟩, prog_1_method_10_code, 2, (some .int), [])
theorem d_F_positionOf_0 : decode (mMc M_F_positionOf) 0 = .ok (.aload_n 0, 1) := by decide +kernel
theorem d_F_positionOf_1 : decode (mMc M_F_positionOf) 1 = .ok (.getfield 10, 3) := by decide +kernel
theorem d_F_positionOf_4 : decode (mMc M_F_positionOf) 4 = .ok (.getfield 67, 3) := by decide +kernel
theorem d_F_positionOf_7 : decode (mMc M_F_positionOf) 7 = .ok (.iload_n 1, 1) := by decide +kernel
theorem d_F_positionOf_8 : decode (mMc M_F_positionOf) 8 = .ok (.invokevirtual 122, 3) := by decide +kernel
theorem d_F_positionOf_11 : decode (mMc M_F_positionOf) 11 = .ok (.getfield 125, 3) := by decide +kernel
theorem d_F_positionOf_14 : decode (mMc M_F_positionOf) 14 = .ok (.ireturn, 1) := by decide +kernel
theorem k_F_positionOf : mCd M_F_positionOf 1 := ⟨by decide, by decide, by decide +kernel, by decide, mG (5, 217) (by decide +kernel), mG (1, 1) (by decide +kernel)⟩
def M_F_seaLevel : mM := (⟨"FloatingDock", "seaLevel", "(I)I"⟩, prog_1_method_20_code, 2, (some .int), [])
theorem d_F_seaLevel_0 : decode (mMc M_F_seaLevel) 0 = .ok (.iload_n 1, 1) := by decide +kernel
theorem d_F_seaLevel_1 : decode (mMc M_F_seaLevel) 1 = .ok (.invokestatic 159, 3) := by decide +kernel
theorem d_F_seaLevel_4 : decode (mMc M_F_seaLevel) 4 = .ok (.iload_n 1, 1) := by decide +kernel
theorem d_F_seaLevel_5 : decode (mMc M_F_seaLevel) 5 = .ok (.invokestatic 165, 3) := by decide +kernel
theorem d_F_seaLevel_8 : decode (mMc M_F_seaLevel) 8 = .ok (.ireturn, 1) := by decide +kernel
theorem k_F_seaLevel : mCd M_F_seaLevel 1 := ⟨by decide, by decide, by decide +kernel, by decide, mG (5, 228) (by decide +kernel), mG (1, 1) (by decide +kernel)⟩
def M_F_levelAfter : mM := (⟨"FloatingDock", "levelAfter", "(I)I"⟩, prog_1_method_24_code, 2, (some .int), [])
theorem d_F_levelAfter_0 : decode (mMc M_F_levelAfter) 0 = .ok (.aload_n 0, 1) := by decide +kernel
theorem d_F_levelAfter_1 : decode (mMc M_F_levelAfter) 1 = .ok (.getfield 10, 3) := by decide +kernel
theorem d_F_levelAfter_4 : decode (mMc M_F_levelAfter) 4 = .ok (.iload_n 1, 1) := by decide +kernel
theorem d_F_levelAfter_5 : decode (mMc M_F_levelAfter) 5 = .ok (.invokevirtual 177, 3) := by decide +kernel
theorem d_F_levelAfter_8 : decode (mMc M_F_levelAfter) 8 = .ok (.ireturn, 1) := by decide +kernel
theorem k_F_levelAfter : mCd M_F_levelAfter 1 := ⟨by decide, by decide, by decide +kernel, by decide, mG (5, 239) (by decide +kernel), mG (1, 1) (by decide +kernel)⟩
def M_F_hoursUntilAfloat : mM := (⟨"FloatingDock", "hoursUntilAfloat", "(I)I"⟩, prog_1_method_25_code, 2, (some .int), [])
theorem d_F_hoursUntilAfloat_0 : decode (mMc M_F_hoursUntilAfloat) 0 = .ok (.aload_n 0, 1) := by decide +kernel
theorem d_F_hoursUntilAfloat_1 : decode (mMc M_F_hoursUntilAfloat) 1 = .ok (.getfield 10, 3) := by decide +kernel
theorem d_F_hoursUntilAfloat_4 : decode (mMc M_F_hoursUntilAfloat) 4 = .ok (.iload_n 1, 1) := by decide +kernel
theorem d_F_hoursUntilAfloat_5 : decode (mMc M_F_hoursUntilAfloat) 5 = .ok (.invokevirtual 180, 3) := by decide +kernel
theorem d_F_hoursUntilAfloat_8 : decode (mMc M_F_hoursUntilAfloat) 8 = .ok (.ireturn, 1) := by decide +kernel
theorem k_F_hoursUntilAfloat : mCd M_F_hoursUntilAfloat 1 := ⟨by decide, by decide, by decide +kernel, by decide, mG (6, 7) (by decide +kernel), mG (1, 1) (by decide +kernel)⟩
def M_F_hasBlock : mM := (⟨"FloatingDock", "hasBlock", "(I)Z"⟩, prog_1_method_28_code, 2, (some .boolean), [])
theorem d_F_hasBlock_0 : decode (mMc M_F_hasBlock) 0 = .ok (.iload_n 1, 1) := by decide +kernel
theorem d_F_hasBlock_1 : decode (mMc M_F_hasBlock) 1 = .ok (.invokestatic 189, 3) := by decide +kernel
theorem d_F_hasBlock_4 : decode (mMc M_F_hasBlock) 4 = .ok (.aload_n 0, 1) := by decide +kernel
theorem d_F_hasBlock_5 : decode (mMc M_F_hasBlock) 5 = .ok (.getfield 10, 3) := by decide +kernel
theorem d_F_hasBlock_8 : decode (mMc M_F_hasBlock) 8 = .ok (.getfield 194, 3) := by decide +kernel
theorem d_F_hasBlock_11 : decode (mMc M_F_hasBlock) 11 = .ok (.iload_n 1, 1) := by decide +kernel
theorem d_F_hasBlock_12 : decode (mMc M_F_hasBlock) 12 = .ok (.invokevirtual 198, 3) := by decide +kernel
theorem d_F_hasBlock_15 : decode (mMc M_F_hasBlock) 15 = .ok (.ireturn, 1) := by decide +kernel
theorem k_F_hasBlock : mCd M_F_hasBlock 1 := ⟨by decide, by decide, by decide +kernel, by decide, mG (6, 16) (by decide +kernel), mG (1, 1) (by decide +kernel)⟩
def M_F_shipAtPosition : mM := (⟨"FloatingDock", "shipAtPosition", "(I)I"⟩, prog_1_method_31_code, 3, (some .int), [])
theorem d_F_shipAtPosition_0 : decode (mMc M_F_shipAtPosition) 0 = .ok (.iload_n 1, 1) := by decide +kernel
theorem d_F_shipAtPosition_1 : decode (mMc M_F_shipAtPosition) 1 = .ok (.invokestatic 189, 3) := by decide +kernel
theorem d_F_shipAtPosition_4 : decode (mMc M_F_shipAtPosition) 4 = .ok (.aload_n 0, 1) := by decide +kernel
theorem d_F_shipAtPosition_5 : decode (mMc M_F_shipAtPosition) 5 = .ok (.getfield 10, 3) := by decide +kernel
theorem d_F_shipAtPosition_8 : decode (mMc M_F_shipAtPosition) 8 = .ok (.getfield 67, 3) := by decide +kernel
theorem d_F_shipAtPosition_11 : decode (mMc M_F_shipAtPosition) 11 = .ok (.iload_n 1, 1) := by decide +kernel
theorem d_F_shipAtPosition_12 : decode (mMc M_F_shipAtPosition) 12 = .ok (.iconst 1, 1) := by decide +kernel
theorem d_F_shipAtPosition_13 : decode (mMc M_F_shipAtPosition) 13 = .ok (.invokevirtual 208, 3) := by decide +kernel
theorem d_F_shipAtPosition_16 : decode (mMc M_F_shipAtPosition) 16 = .ok (.astore_n 2, 1) := by decide +kernel
theorem d_F_shipAtPosition_17 : decode (mMc M_F_shipAtPosition) 17 = .ok (.aload_n 2, 1) := by decide +kernel
theorem d_F_shipAtPosition_18 : decode (mMc M_F_shipAtPosition) 18 = .ok (.ifnonnull 13, 3) := by decide +kernel
theorem d_F_shipAtPosition_21 : decode (mMc M_F_shipAtPosition) 21 = .ok (.new 144, 3) := by decide +kernel
theorem d_F_shipAtPosition_24 : decode (mMc M_F_shipAtPosition) 24 = .ok (.dup, 1) := by decide +kernel
theorem d_F_shipAtPosition_25 : decode (mMc M_F_shipAtPosition) 25 = .ok (.ldc 212, 2) := by decide +kernel
theorem d_F_shipAtPosition_27 : decode (mMc M_F_shipAtPosition) 27 = .ok (.invokespecial 148, 3) := by decide +kernel
theorem d_F_shipAtPosition_30 : decode (mMc M_F_shipAtPosition) 30 = .ok (.athrow, 1) := by decide +kernel
theorem d_F_shipAtPosition_31 : decode (mMc M_F_shipAtPosition) 31 = .ok (.aload_n 2, 1) := by decide +kernel
theorem d_F_shipAtPosition_32 : decode (mMc M_F_shipAtPosition) 32 = .ok (.getfield 109, 3) := by decide +kernel
theorem d_F_shipAtPosition_35 : decode (mMc M_F_shipAtPosition) 35 = .ok (.ireturn, 1) := by decide +kernel
theorem k_F_shipAtPosition : mCd M_F_shipAtPosition 1 := ⟨by decide, by decide, by decide +kernel, by decide, mG (6, 22) (by decide +kernel), mG (1, 1) (by decide +kernel)⟩
def M_F_firstGap : mM := (⟨"FloatingDock", "firstGap", "(I)I"⟩, prog_1_method_32_code, 2, (some .int), [])
theorem d_F_firstGap_0 : decode (mMc M_F_firstGap) 0 = .ok (.iload_n 1, 1) := by decide +kernel
theorem d_F_firstGap_1 : decode (mMc M_F_firstGap) 1 = .ok (.invokestatic 214, 3) := by decide +kernel
theorem d_F_firstGap_4 : decode (mMc M_F_firstGap) 4 = .ok (.aload_n 0, 1) := by decide +kernel
theorem d_F_firstGap_5 : decode (mMc M_F_firstGap) 5 = .ok (.getfield 10, 3) := by decide +kernel
theorem d_F_firstGap_8 : decode (mMc M_F_firstGap) 8 = .ok (.getfield 67, 3) := by decide +kernel
theorem d_F_firstGap_11 : decode (mMc M_F_firstGap) 11 = .ok (.iload_n 1, 1) := by decide +kernel
theorem d_F_firstGap_12 : decode (mMc M_F_firstGap) 12 = .ok (.invokevirtual 217, 3) := by decide +kernel
theorem d_F_firstGap_15 : decode (mMc M_F_firstGap) 15 = .ok (.invokestatic 220, 3) := by decide +kernel
theorem d_F_firstGap_18 : decode (mMc M_F_firstGap) 18 = .ok (.ireturn, 1) := by decide +kernel
theorem k_F_firstGap : mCd M_F_firstGap 1 := ⟨by decide, by decide, by decide +kernel, by decide, mG (6, 28) (by decide +kernel), mG (1, 1) (by decide +kernel)⟩
def M_F_foundGap : mM := (⟨"FloatingDock", "foundGap", "(I)I"⟩, prog_1_method_62_code, 1, (some .int), [])
theorem d_F_foundGap_0 : decode (mMc M_F_foundGap) 0 = .ok (.iload_n 0, 1) := by decide +kernel
theorem d_F_foundGap_1 : decode (mMc M_F_foundGap) 1 = .ok (.iconst (-1), 1) := by decide +kernel
theorem d_F_foundGap_2 : decode (mMc M_F_foundGap) 2 = .ok (.if_icmp .ne 14, 3) := by decide +kernel
theorem d_F_foundGap_5 : decode (mMc M_F_foundGap) 5 = .ok (.new 144, 3) := by decide +kernel
theorem d_F_foundGap_8 : decode (mMc M_F_foundGap) 8 = .ok (.dup, 1) := by decide +kernel
theorem d_F_foundGap_9 : decode (mMc M_F_foundGap) 9 = .ok (.ldc_w 379, 3) := by decide +kernel
theorem d_F_foundGap_12 : decode (mMc M_F_foundGap) 12 = .ok (.invokespecial 148, 3) := by decide +kernel
theorem d_F_foundGap_15 : decode (mMc M_F_foundGap) 15 = .ok (.athrow, 1) := by decide +kernel
theorem d_F_foundGap_16 : decode (mMc M_F_foundGap) 16 = .ok (.iload_n 0, 1) := by decide +kernel
theorem d_F_foundGap_17 : decode (mMc M_F_foundGap) 17 = .ok (.ireturn, 1) := by decide +kernel
theorem k_F_foundGap : mCd M_F_foundGap 1 := ⟨by decide, by decide, by decide +kernel, by decide, mG (6, 40) (by decide +kernel), mG (1, 1) (by decide +kernel)⟩
def M_F_firstGapByShips : mM := (⟨"FloatingDock", "firstGapByShips", "(I)I"⟩, prog_1_method_33_code, 2, (some .int), [])
theorem d_F_firstGapByShips_0 : decode (mMc M_F_firstGapByShips) 0 = .ok (.iload_n 1, 1) := by decide +kernel
theorem d_F_firstGapByShips_1 : decode (mMc M_F_firstGapByShips) 1 = .ok (.invokestatic 214, 3) := by decide +kernel
theorem d_F_firstGapByShips_4 : decode (mMc M_F_firstGapByShips) 4 = .ok (.aload_n 0, 1) := by decide +kernel
theorem d_F_firstGapByShips_5 : decode (mMc M_F_firstGapByShips) 5 = .ok (.getfield 10, 3) := by decide +kernel
theorem d_F_firstGapByShips_8 : decode (mMc M_F_firstGapByShips) 8 = .ok (.getfield 67, 3) := by decide +kernel
theorem d_F_firstGapByShips_11 : decode (mMc M_F_firstGapByShips) 11 = .ok (.iload_n 1, 1) := by decide +kernel
theorem d_F_firstGapByShips_12 : decode (mMc M_F_firstGapByShips) 12 = .ok (.invokevirtual 223, 3) := by decide +kernel
theorem d_F_firstGapByShips_15 : decode (mMc M_F_firstGapByShips) 15 = .ok (.invokestatic 220, 3) := by decide +kernel
theorem d_F_firstGapByShips_18 : decode (mMc M_F_firstGapByShips) 18 = .ok (.ireturn, 1) := by decide +kernel
theorem k_F_firstGapByShips : mCd M_F_firstGapByShips 1 := ⟨by decide, by decide, by decide +kernel, by decide, mG (6, 45) (by decide +kernel), mG (1, 1) (by decide +kernel)⟩
def M_F_shipAtRank : mM := (⟨"FloatingDock", "shipAtRank", "(I)I"⟩, prog_1_method_43_code, 3, (some .int), [])
theorem d_F_shipAtRank_0 : decode (mMc M_F_shipAtRank) 0 = .ok (.aload_n 0, 1) := by decide +kernel
theorem d_F_shipAtRank_1 : decode (mMc M_F_shipAtRank) 1 = .ok (.getfield 10, 3) := by decide +kernel
theorem d_F_shipAtRank_4 : decode (mMc M_F_shipAtRank) 4 = .ok (.getfield 67, 3) := by decide +kernel
theorem d_F_shipAtRank_7 : decode (mMc M_F_shipAtRank) 7 = .ok (.iload_n 1, 1) := by decide +kernel
theorem d_F_shipAtRank_8 : decode (mMc M_F_shipAtRank) 8 = .ok (.invokevirtual 255, 3) := by decide +kernel
theorem d_F_shipAtRank_11 : decode (mMc M_F_shipAtRank) 11 = .ok (.astore_n 2, 1) := by decide +kernel
theorem d_F_shipAtRank_12 : decode (mMc M_F_shipAtRank) 12 = .ok (.aload_n 2, 1) := by decide +kernel
theorem d_F_shipAtRank_13 : decode (mMc M_F_shipAtRank) 13 = .ok (.ifnonnull 14, 3) := by decide +kernel
theorem d_F_shipAtRank_16 : decode (mMc M_F_shipAtRank) 16 = .ok (.new 98, 3) := by decide +kernel
theorem d_F_shipAtRank_19 : decode (mMc M_F_shipAtRank) 19 = .ok (.dup, 1) := by decide +kernel
theorem d_F_shipAtRank_20 : decode (mMc M_F_shipAtRank) 20 = .ok (.ldc_w 258, 3) := by decide +kernel
theorem d_F_shipAtRank_23 : decode (mMc M_F_shipAtRank) 23 = .ok (.invokespecial 102, 3) := by decide +kernel
theorem d_F_shipAtRank_26 : decode (mMc M_F_shipAtRank) 26 = .ok (.athrow, 1) := by decide +kernel
theorem d_F_shipAtRank_27 : decode (mMc M_F_shipAtRank) 27 = .ok (.aload_n 2, 1) := by decide +kernel
theorem d_F_shipAtRank_28 : decode (mMc M_F_shipAtRank) 28 = .ok (.getfield 109, 3) := by decide +kernel
theorem d_F_shipAtRank_31 : decode (mMc M_F_shipAtRank) 31 = .ok (.ireturn, 1) := by decide +kernel
theorem k_F_shipAtRank : mCd M_F_shipAtRank 1 := ⟨by decide, by decide, by decide +kernel, by decide, mG (6, 57) (by decide +kernel), mG (1, 1) (by decide +kernel)⟩
def M_F_dirtOf : mM := (⟨"FloatingDock", "dirtOf", "(I)I"⟩, prog_1_method_11_code, 2, (some .int), [])
theorem d_F_dirtOf_0 : decode (mMc M_F_dirtOf) 0 = .ok (.aload_n 0, 1) := by decide +kernel
theorem d_F_dirtOf_1 : decode (mMc M_F_dirtOf) 1 = .ok (.getfield 10, 3) := by decide +kernel
theorem d_F_dirtOf_4 : decode (mMc M_F_dirtOf) 4 = .ok (.getfield 67, 3) := by decide +kernel
theorem d_F_dirtOf_7 : decode (mMc M_F_dirtOf) 7 = .ok (.iload_n 1, 1) := by decide +kernel
theorem d_F_dirtOf_8 : decode (mMc M_F_dirtOf) 8 = .ok (.invokevirtual 114, 3) := by decide +kernel
theorem d_F_dirtOf_11 : decode (mMc M_F_dirtOf) 11 = .ok (.getfield 128, 3) := by decide +kernel
theorem d_F_dirtOf_14 : decode (mMc M_F_dirtOf) 14 = .ok (.ireturn, 1) := by decide +kernel
theorem k_F_dirtOf : mCd M_F_dirtOf 1 := ⟨by decide, by decide, by decide +kernel, by decide, mG (6, 84) (by decide +kernel), mG (1, 1) (by decide +kernel)⟩
def M_F_blocksBeneath : mM := (⟨"FloatingDock", "blocksBeneath", "(I)I"⟩, prog_1_method_29_code, 2, (some .int), [])
theorem d_F_blocksBeneath_0 : decode (mMc M_F_blocksBeneath) 0 = .ok (.aload_n 0, 1) := by decide +kernel
theorem d_F_blocksBeneath_1 : decode (mMc M_F_blocksBeneath) 1 = .ok (.getfield 10, 3) := by decide +kernel
theorem d_F_blocksBeneath_4 : decode (mMc M_F_blocksBeneath) 4 = .ok (.getfield 194, 3) := by decide +kernel
theorem d_F_blocksBeneath_7 : decode (mMc M_F_blocksBeneath) 7 = .ok (.aload_n 0, 1) := by decide +kernel
theorem d_F_blocksBeneath_8 : decode (mMc M_F_blocksBeneath) 8 = .ok (.getfield 10, 3) := by decide +kernel
theorem d_F_blocksBeneath_11 : decode (mMc M_F_blocksBeneath) 11 = .ok (.getfield 67, 3) := by decide +kernel
theorem d_F_blocksBeneath_14 : decode (mMc M_F_blocksBeneath) 14 = .ok (.iload_n 1, 1) := by decide +kernel
theorem d_F_blocksBeneath_15 : decode (mMc M_F_blocksBeneath) 15 = .ok (.invokevirtual 114, 3) := by decide +kernel
theorem d_F_blocksBeneath_18 : decode (mMc M_F_blocksBeneath) 18 = .ok (.invokevirtual 201, 3) := by decide +kernel
theorem d_F_blocksBeneath_21 : decode (mMc M_F_blocksBeneath) 21 = .ok (.ireturn, 1) := by decide +kernel
theorem k_F_blocksBeneath : mCd M_F_blocksBeneath 1 := ⟨by decide, by decide, by decide +kernel, by decide, mG (6, 95) (by decide +kernel), mG (1, 1) (by decide +kernel)⟩
def M_F_blocksBeneathByBlocks : mM := (⟨"FloatingDock", "blocksBeneathByBlocks", "(I)I"⟩, prog_1_method_30_code, 2, (some .int), [])
theorem d_F_blocksBeneathByBlocks_0 : decode (mMc M_F_blocksBeneathByBlocks) 0 = .ok (.aload_n 0, 1) := by decide +kernel
theorem d_F_blocksBeneathByBlocks_1 : decode (mMc M_F_blocksBeneathByBlocks) 1 = .ok (.getfield 10, 3) := by decide +kernel
theorem d_F_blocksBeneathByBlocks_4 : decode (mMc M_F_blocksBeneathByBlocks) 4 = .ok (.getfield 194, 3) := by decide +kernel
theorem d_F_blocksBeneathByBlocks_7 : decode (mMc M_F_blocksBeneathByBlocks) 7 = .ok (.aload_n 0, 1) := by decide +kernel
theorem d_F_blocksBeneathByBlocks_8 : decode (mMc M_F_blocksBeneathByBlocks) 8 = .ok (.getfield 10, 3) := by decide +kernel
theorem d_F_blocksBeneathByBlocks_11 : decode (mMc M_F_blocksBeneathByBlocks) 11 = .ok (.getfield 67, 3) := by decide +kernel
theorem d_F_blocksBeneathByBlocks_14 : decode (mMc M_F_blocksBeneathByBlocks) 14 = .ok (.iload_n 1, 1) := by decide +kernel
theorem d_F_blocksBeneathByBlocks_15 : decode (mMc M_F_blocksBeneathByBlocks) 15 = .ok (.invokevirtual 114, 3) := by decide +kernel
theorem d_F_blocksBeneathByBlocks_18 : decode (mMc M_F_blocksBeneathByBlocks) 18 = .ok (.invokevirtual 205, 3) := by decide +kernel
theorem d_F_blocksBeneathByBlocks_21 : decode (mMc M_F_blocksBeneathByBlocks) 21 = .ok (.ireturn, 1) := by decide +kernel
theorem k_F_blocksBeneathByBlocks : mCd M_F_blocksBeneathByBlocks 1 := ⟨by decide, by decide, by decide +kernel, by decide, mG (6, 106) (by decide +kernel), mG (1, 1) (by decide +kernel)⟩
def M_F_freeMetres : mM := (⟨"FloatingDock", "freeMetres", "()I"⟩, prog_1_method_34_code, 1, (some .int), [])
theorem d_F_freeMetres_0 : decode (mMc M_F_freeMetres) 0 = .ok (.bipush 60, 2) := by decide +kernel
theorem d_F_freeMetres_2 : decode (mMc M_F_freeMetres) 2 = .ok (.aload_n 0, 1) := by decide +kernel
theorem d_F_freeMetres_3 : decode (mMc M_F_freeMetres) 3 = .ok (.getfield 10, 3) := by decide +kernel
theorem d_F_freeMetres_6 : decode (mMc M_F_freeMetres) 6 = .ok (.getfield 67, 3) := by decide +kernel
theorem d_F_freeMetres_9 : decode (mMc M_F_freeMetres) 9 = .ok (.invokevirtual 226, 3) := by decide +kernel
theorem d_F_freeMetres_12 : decode (mMc M_F_freeMetres) 12 = .ok (.isub, 1) := by decide +kernel
theorem d_F_freeMetres_13 : decode (mMc M_F_freeMetres) 13 = .ok (.ireturn, 1) := by decide +kernel
theorem k_F_freeMetres : mCd M_F_freeMetres 0 := ⟨by decide, by decide, by decide +kernel, by decide, mG (6, 111) (by decide +kernel), mG (1, 1) (by decide +kernel)⟩
def M_F_takenShare : mM := (⟨"FloatingDock", "takenShare", "()F"⟩, prog_1_method_52_code, 1, (some .float), [])
theorem d_F_takenShare_0 : decode (mMc M_F_takenShare) 0 = .ok (.aload_n 0, 1) := by decide +kernel
theorem d_F_takenShare_1 : decode (mMc M_F_takenShare) 1 = .ok (.getfield 10, 3) := by decide +kernel
theorem d_F_takenShare_4 : decode (mMc M_F_takenShare) 4 = .ok (.getfield 67, 3) := by decide +kernel
theorem d_F_takenShare_7 : decode (mMc M_F_takenShare) 7 = .ok (.invokevirtual 226, 3) := by decide +kernel
theorem d_F_takenShare_10 : decode (mMc M_F_takenShare) 10 = .ok (.i2f, 1) := by decide +kernel
theorem d_F_takenShare_11 : decode (mMc M_F_takenShare) 11 = .ok (.ldc_w 330, 3) := by decide +kernel
theorem d_F_takenShare_14 : decode (mMc M_F_takenShare) 14 = .ok (.fdiv, 1) := by decide +kernel
theorem d_F_takenShare_15 : decode (mMc M_F_takenShare) 15 = .ok (.freturn, 1) := by decide +kernel
theorem k_F_takenShare : mCd M_F_takenShare 0 := ⟨by decide, by decide, by decide +kernel, by decide, mG (6, 119) (by decide +kernel), mG (1, 1) (by decide +kernel)⟩
def M_F_describeDock : mM := (⟨"FloatingDock", "describeDock", "()I"⟩, prog_1_method_48_code, 2, (some .int), [])
theorem d_F_describeDock_0 : decode (mMc M_F_describeDock) 0 = .ok (.aload_n 0, 1) := by decide +kernel
theorem d_F_describeDock_1 : decode (mMc M_F_describeDock) 1 = .ok (.getfield 50, 3) := by decide +kernel
theorem d_F_describeDock_4 : decode (mMc M_F_describeDock) 4 = .ok (.iconst 0, 1) := by decide +kernel
theorem d_F_describeDock_5 : decode (mMc M_F_describeDock) 5 = .ok (.invokevirtual 300, 3) := by decide +kernel
theorem d_F_describeDock_8 : decode (mMc M_F_describeDock) 8 = .ok (.iconst 0, 1) := by decide +kernel
theorem d_F_describeDock_9 : decode (mMc M_F_describeDock) 9 = .ok (.istore_n 1, 1) := by decide +kernel
theorem d_F_describeDock_10 : decode (mMc M_F_describeDock) 10 = .ok (.iload_n 1, 1) := by decide +kernel
theorem d_F_describeDock_11 : decode (mMc M_F_describeDock) 11 = .ok (.bipush 60, 2) := by decide +kernel
theorem d_F_describeDock_13 : decode (mMc M_F_describeDock) 13 = .ok (.if_icmp .ge 25, 3) := by decide +kernel
theorem d_F_describeDock_16 : decode (mMc M_F_describeDock) 16 = .ok (.aload_n 0, 1) := by decide +kernel
theorem d_F_describeDock_17 : decode (mMc M_F_describeDock) 17 = .ok (.getfield 50, 3) := by decide +kernel
theorem d_F_describeDock_20 : decode (mMc M_F_describeDock) 20 = .ok (.aload_n 0, 1) := by decide +kernel
theorem d_F_describeDock_21 : decode (mMc M_F_describeDock) 21 = .ok (.getfield 10, 3) := by decide +kernel
theorem d_F_describeDock_24 : decode (mMc M_F_describeDock) 24 = .ok (.iload_n 1, 1) := by decide +kernel
theorem d_F_describeDock_25 : decode (mMc M_F_describeDock) 25 = .ok (.invokevirtual 303, 3) := by decide +kernel
theorem d_F_describeDock_28 : decode (mMc M_F_describeDock) 28 = .ok (.invokevirtual 307, 3) := by decide +kernel
theorem d_F_describeDock_31 : decode (mMc M_F_describeDock) 31 = .ok (.pop, 1) := by decide +kernel
theorem d_F_describeDock_32 : decode (mMc M_F_describeDock) 32 = .ok (.iinc 1 1, 3) := by decide +kernel
theorem d_F_describeDock_35 : decode (mMc M_F_describeDock) 35 = .ok (.goto (-25), 3) := by decide +kernel
theorem d_F_describeDock_38 : decode (mMc M_F_describeDock) 38 = .ok (.aload_n 0, 1) := by decide +kernel
theorem d_F_describeDock_39 : decode (mMc M_F_describeDock) 39 = .ok (.getfield 50, 3) := by decide +kernel
theorem d_F_describeDock_42 : decode (mMc M_F_describeDock) 42 = .ok (.invokevirtual 311, 3) := by decide +kernel
theorem d_F_describeDock_45 : decode (mMc M_F_describeDock) 45 = .ok (.ireturn, 1) := by decide +kernel
theorem k_F_describeDock : mCd M_F_describeDock 0 := ⟨by decide, by decide, by decide +kernel, by decide, mG (6, 125) (by decide +kernel), mG (1, 1) (by decide +kernel)⟩
def M_F_lineAt : mM := (⟨"FloatingDock", "lineAt", "(I)C"⟩, prog_1_method_50_code, 2, (some .char), [])
theorem d_F_lineAt_0 : decode (mMc M_F_lineAt) 0 = .ok (.iload_n 1, 1) := by decide +kernel
theorem d_F_lineAt_1 : decode (mMc M_F_lineAt) 1 = .ok (.ifCond .lt 14, 3) := by decide +kernel
theorem d_F_lineAt_4 : decode (mMc M_F_lineAt) 4 = .ok (.iload_n 1, 1) := by decide +kernel
theorem d_F_lineAt_5 : decode (mMc M_F_lineAt) 5 = .ok (.aload_n 0, 1) := by decide +kernel
theorem d_F_lineAt_6 : decode (mMc M_F_lineAt) 6 = .ok (.getfield 50, 3) := by decide +kernel
theorem d_F_lineAt_9 : decode (mMc M_F_lineAt) 9 = .ok (.invokevirtual 311, 3) := by decide +kernel
theorem d_F_lineAt_12 : decode (mMc M_F_lineAt) 12 = .ok (.if_icmp .lt 14, 3) := by decide +kernel
theorem d_F_lineAt_15 : decode (mMc M_F_lineAt) 15 = .ok (.new 98, 3) := by decide +kernel
theorem d_F_lineAt_18 : decode (mMc M_F_lineAt) 18 = .ok (.dup, 1) := by decide +kernel
theorem d_F_lineAt_19 : decode (mMc M_F_lineAt) 19 = .ok (.ldc_w 317, 3) := by decide +kernel
theorem d_F_lineAt_22 : decode (mMc M_F_lineAt) 22 = .ok (.invokespecial 102, 3) := by decide +kernel
theorem d_F_lineAt_25 : decode (mMc M_F_lineAt) 25 = .ok (.athrow, 1) := by decide +kernel
theorem d_F_lineAt_26 : decode (mMc M_F_lineAt) 26 = .ok (.aload_n 0, 1) := by decide +kernel
theorem d_F_lineAt_27 : decode (mMc M_F_lineAt) 27 = .ok (.getfield 50, 3) := by decide +kernel
theorem d_F_lineAt_30 : decode (mMc M_F_lineAt) 30 = .ok (.iload_n 1, 1) := by decide +kernel
theorem d_F_lineAt_31 : decode (mMc M_F_lineAt) 31 = .ok (.invokevirtual 319, 3) := by decide +kernel
theorem d_F_lineAt_34 : decode (mMc M_F_lineAt) 34 = .ok (.ireturn, 1) := by decide +kernel
theorem k_F_lineAt : mCd M_F_lineAt 1 := ⟨by decide, by decide, by decide +kernel, by decide, mG (6, 152) (by decide +kernel), mG (1, 1) (by decide +kernel)⟩
def M_F_isAfloat : mM := (⟨"FloatingDock", "isAfloat", "(I)Z"⟩, prog_1_method_14_code, 2, (some .boolean), [])
theorem d_F_isAfloat_0 : decode (mMc M_F_isAfloat) 0 = .ok (.aload_n 0, 1) := by decide +kernel
theorem d_F_isAfloat_1 : decode (mMc M_F_isAfloat) 1 = .ok (.getfield 10, 3) := by decide +kernel
theorem d_F_isAfloat_4 : decode (mMc M_F_isAfloat) 4 = .ok (.getfield 67, 3) := by decide +kernel
theorem d_F_isAfloat_7 : decode (mMc M_F_isAfloat) 7 = .ok (.iload_n 1, 1) := by decide +kernel
theorem d_F_isAfloat_8 : decode (mMc M_F_isAfloat) 8 = .ok (.invokevirtual 114, 3) := by decide +kernel
theorem d_F_isAfloat_11 : decode (mMc M_F_isAfloat) 11 = .ok (.aload_n 0, 1) := by decide +kernel
theorem d_F_isAfloat_12 : decode (mMc M_F_isAfloat) 12 = .ok (.getfield 10, 3) := by decide +kernel
theorem d_F_isAfloat_15 : decode (mMc M_F_isAfloat) 15 = .ok (.getfield 137, 3) := by decide +kernel
theorem d_F_isAfloat_18 : decode (mMc M_F_isAfloat) 18 = .ok (.invokevirtual 140, 3) := by decide +kernel
theorem d_F_isAfloat_21 : decode (mMc M_F_isAfloat) 21 = .ok (.ireturn, 1) := by decide +kernel
theorem k_F_isAfloat : mCd M_F_isAfloat 1 := ⟨by decide, by decide, by decide +kernel, by decide, mG (6, 162) (by decide +kernel), mG (1, 1) (by decide +kernel)⟩
def M_F_damageOf : mM := (⟨"FloatingDock", "damageOf", "(I)I"⟩, prog_1_method_12_code, 2, (some .int), [])
theorem d_F_damageOf_0 : decode (mMc M_F_damageOf) 0 = .ok (.aload_n 0, 1) := by decide +kernel
theorem d_F_damageOf_1 : decode (mMc M_F_damageOf) 1 = .ok (.getfield 10, 3) := by decide +kernel
theorem d_F_damageOf_4 : decode (mMc M_F_damageOf) 4 = .ok (.getfield 67, 3) := by decide +kernel
theorem d_F_damageOf_7 : decode (mMc M_F_damageOf) 7 = .ok (.iload_n 1, 1) := by decide +kernel
theorem d_F_damageOf_8 : decode (mMc M_F_damageOf) 8 = .ok (.invokevirtual 114, 3) := by decide +kernel
theorem d_F_damageOf_11 : decode (mMc M_F_damageOf) 11 = .ok (.getfield 131, 3) := by decide +kernel
theorem d_F_damageOf_14 : decode (mMc M_F_damageOf) 14 = .ok (.ireturn, 1) := by decide +kernel
theorem k_F_damageOf : mCd M_F_damageOf 1 := ⟨by decide, by decide, by decide +kernel, by decide, mG (6, 172) (by decide +kernel), mG (1, 1) (by decide +kernel)⟩
def M_F_isInDock : mM := (⟨"FloatingDock", "isInDock", "(I)Z"⟩, prog_1_method_9_code, 2, (some .boolean), [])
theorem d_F_isInDock_0 : decode (mMc M_F_isInDock) 0 = .ok (.aload_n 0, 1) := by decide +kernel
theorem d_F_isInDock_1 : decode (mMc M_F_isInDock) 1 = .ok (.getfield 10, 3) := by decide +kernel
theorem d_F_isInDock_4 : decode (mMc M_F_isInDock) 4 = .ok (.getfield 67, 3) := by decide +kernel
theorem d_F_isInDock_7 : decode (mMc M_F_isInDock) 7 = .ok (.iload_n 1, 1) := by decide +kernel
theorem d_F_isInDock_8 : decode (mMc M_F_isInDock) 8 = .ok (.invokevirtual 114, 3) := by decide +kernel
theorem d_F_isInDock_11 : decode (mMc M_F_isInDock) 11 = .ok (.invokevirtual 118, 3) := by decide +kernel
theorem d_F_isInDock_14 : decode (mMc M_F_isInDock) 14 = .ok (.ireturn, 1) := by decide +kernel
theorem k_F_isInDock : mCd M_F_isInDock 1 := ⟨by decide, by decide, by decide +kernel, by decide, mG (6, 177) (by decide +kernel), mG (1, 1) (by decide +kernel)⟩
def M_F_describeBill : mM := (⟨"FloatingDock", "describeBill", "(I)I"⟩, prog_1_method_49_code, 3, (some .int), [])
theorem d_F_describeBill_0 : decode (mMc M_F_describeBill) 0 = .ok (.aload_n 0, 1) := by decide +kernel
theorem d_F_describeBill_1 : decode (mMc M_F_describeBill) 1 = .ok (.getfield 10, 3) := by decide +kernel
theorem d_F_describeBill_4 : decode (mMc M_F_describeBill) 4 = .ok (.getfield 67, 3) := by decide +kernel
theorem d_F_describeBill_7 : decode (mMc M_F_describeBill) 7 = .ok (.iload_n 1, 1) := by decide +kernel
theorem d_F_describeBill_8 : decode (mMc M_F_describeBill) 8 = .ok (.invokevirtual 114, 3) := by decide +kernel
theorem d_F_describeBill_11 : decode (mMc M_F_describeBill) 11 = .ok (.astore_n 2, 1) := by decide +kernel
theorem d_F_describeBill_12 : decode (mMc M_F_describeBill) 12 = .ok (.aload_n 0, 1) := by decide +kernel
theorem d_F_describeBill_13 : decode (mMc M_F_describeBill) 13 = .ok (.getfield 50, 3) := by decide +kernel
theorem d_F_describeBill_16 : decode (mMc M_F_describeBill) 16 = .ok (.iconst 0, 1) := by decide +kernel
theorem d_F_describeBill_17 : decode (mMc M_F_describeBill) 17 = .ok (.invokevirtual 300, 3) := by decide +kernel
theorem d_F_describeBill_20 : decode (mMc M_F_describeBill) 20 = .ok (.aload_n 0, 1) := by decide +kernel
theorem d_F_describeBill_21 : decode (mMc M_F_describeBill) 21 = .ok (.getfield 50, 3) := by decide +kernel
theorem d_F_describeBill_24 : decode (mMc M_F_describeBill) 24 = .ok (.bipush 35, 2) := by decide +kernel
theorem d_F_describeBill_26 : decode (mMc M_F_describeBill) 26 = .ok (.invokevirtual 307, 3) := by decide +kernel
theorem d_F_describeBill_29 : decode (mMc M_F_describeBill) 29 = .ok (.aload_n 2, 1) := by decide +kernel
theorem d_F_describeBill_30 : decode (mMc M_F_describeBill) 30 = .ok (.getfield 109, 3) := by decide +kernel
theorem d_F_describeBill_33 : decode (mMc M_F_describeBill) 33 = .ok (.invokevirtual 314, 3) := by decide +kernel
theorem d_F_describeBill_36 : decode (mMc M_F_describeBill) 36 = .ok (.pop, 1) := by decide +kernel
theorem d_F_describeBill_37 : decode (mMc M_F_describeBill) 37 = .ok (.aload_n 0, 1) := by decide +kernel
theorem d_F_describeBill_38 : decode (mMc M_F_describeBill) 38 = .ok (.getfield 50, 3) := by decide +kernel
theorem d_F_describeBill_41 : decode (mMc M_F_describeBill) 41 = .ok (.bipush 58, 2) := by decide +kernel
theorem d_F_describeBill_43 : decode (mMc M_F_describeBill) 43 = .ok (.invokevirtual 307, 3) := by decide +kernel
theorem d_F_describeBill_46 : decode (mMc M_F_describeBill) 46 = .ok (.aload_n 2, 1) := by decide +kernel
theorem d_F_describeBill_47 : decode (mMc M_F_describeBill) 47 = .ok (.getfield 240, 3) := by decide +kernel
theorem d_F_describeBill_50 : decode (mMc M_F_describeBill) 50 = .ok (.invokevirtual 314, 3) := by decide +kernel
theorem d_F_describeBill_53 : decode (mMc M_F_describeBill) 53 = .ok (.pop, 1) := by decide +kernel
theorem d_F_describeBill_54 : decode (mMc M_F_describeBill) 54 = .ok (.aload_n 0, 1) := by decide +kernel
theorem d_F_describeBill_55 : decode (mMc M_F_describeBill) 55 = .ok (.getfield 50, 3) := by decide +kernel
theorem d_F_describeBill_58 : decode (mMc M_F_describeBill) 58 = .ok (.bipush 47, 2) := by decide +kernel
theorem d_F_describeBill_60 : decode (mMc M_F_describeBill) 60 = .ok (.invokevirtual 307, 3) := by decide +kernel
theorem d_F_describeBill_63 : decode (mMc M_F_describeBill) 63 = .ok (.aload_n 2, 1) := by decide +kernel
theorem d_F_describeBill_64 : decode (mMc M_F_describeBill) 64 = .ok (.getfield 128, 3) := by decide +kernel
theorem d_F_describeBill_67 : decode (mMc M_F_describeBill) 67 = .ok (.invokevirtual 314, 3) := by decide +kernel
theorem d_F_describeBill_70 : decode (mMc M_F_describeBill) 70 = .ok (.pop, 1) := by decide +kernel
theorem d_F_describeBill_71 : decode (mMc M_F_describeBill) 71 = .ok (.aload_n 2, 1) := by decide +kernel
theorem d_F_describeBill_72 : decode (mMc M_F_describeBill) 72 = .ok (.getfield 131, 3) := by decide +kernel
theorem d_F_describeBill_75 : decode (mMc M_F_describeBill) 75 = .ok (.ifCond .eq 20, 3) := by decide +kernel
theorem d_F_describeBill_78 : decode (mMc M_F_describeBill) 78 = .ok (.aload_n 0, 1) := by decide +kernel
theorem d_F_describeBill_79 : decode (mMc M_F_describeBill) 79 = .ok (.getfield 50, 3) := by decide +kernel
theorem d_F_describeBill_82 : decode (mMc M_F_describeBill) 82 = .ok (.bipush 33, 2) := by decide +kernel
theorem d_F_describeBill_84 : decode (mMc M_F_describeBill) 84 = .ok (.invokevirtual 307, 3) := by decide +kernel
theorem d_F_describeBill_87 : decode (mMc M_F_describeBill) 87 = .ok (.aload_n 2, 1) := by decide +kernel
theorem d_F_describeBill_88 : decode (mMc M_F_describeBill) 88 = .ok (.getfield 131, 3) := by decide +kernel
theorem d_F_describeBill_91 : decode (mMc M_F_describeBill) 91 = .ok (.invokevirtual 314, 3) := by decide +kernel
theorem d_F_describeBill_94 : decode (mMc M_F_describeBill) 94 = .ok (.pop, 1) := by decide +kernel
theorem d_F_describeBill_95 : decode (mMc M_F_describeBill) 95 = .ok (.aload_n 2, 1) := by decide +kernel
theorem d_F_describeBill_96 : decode (mMc M_F_describeBill) 96 = .ok (.invokevirtual 118, 3) := by decide +kernel
theorem d_F_describeBill_99 : decode (mMc M_F_describeBill) 99 = .ok (.ifCond .eq 32, 3) := by decide +kernel
theorem d_F_describeBill_102 : decode (mMc M_F_describeBill) 102 = .ok (.aload_n 0, 1) := by decide +kernel
theorem d_F_describeBill_103 : decode (mMc M_F_describeBill) 103 = .ok (.getfield 50, 3) := by decide +kernel
theorem d_F_describeBill_106 : decode (mMc M_F_describeBill) 106 = .ok (.aload_n 2, 1) := by decide +kernel
theorem d_F_describeBill_107 : decode (mMc M_F_describeBill) 107 = .ok (.aload_n 0, 1) := by decide +kernel
theorem d_F_describeBill_108 : decode (mMc M_F_describeBill) 108 = .ok (.getfield 10, 3) := by decide +kernel
theorem d_F_describeBill_111 : decode (mMc M_F_describeBill) 111 = .ok (.getfield 137, 3) := by decide +kernel
theorem d_F_describeBill_114 : decode (mMc M_F_describeBill) 114 = .ok (.invokevirtual 140, 3) := by decide +kernel
theorem d_F_describeBill_117 : decode (mMc M_F_describeBill) 117 = .ok (.ifCond .eq 8, 3) := by decide +kernel
theorem d_F_describeBill_120 : decode (mMc M_F_describeBill) 120 = .ok (.bipush 126, 2) := by decide +kernel
theorem d_F_describeBill_122 : decode (mMc M_F_describeBill) 122 = .ok (.goto 5, 3) := by decide +kernel
theorem d_F_describeBill_125 : decode (mMc M_F_describeBill) 125 = .ok (.bipush 95, 2) := by decide +kernel
theorem d_F_describeBill_127 : decode (mMc M_F_describeBill) 127 = .ok (.invokevirtual 307, 3) := by decide +kernel
theorem d_F_describeBill_130 : decode (mMc M_F_describeBill) 130 = .ok (.pop, 1) := by decide +kernel
theorem d_F_describeBill_131 : decode (mMc M_F_describeBill) 131 = .ok (.aload_n 0, 1) := by decide +kernel
theorem d_F_describeBill_132 : decode (mMc M_F_describeBill) 132 = .ok (.getfield 50, 3) := by decide +kernel
theorem d_F_describeBill_135 : decode (mMc M_F_describeBill) 135 = .ok (.invokevirtual 311, 3) := by decide +kernel
theorem d_F_describeBill_138 : decode (mMc M_F_describeBill) 138 = .ok (.ireturn, 1) := by decide +kernel
theorem k_F_describeBill : mCd M_F_describeBill 1 := ⟨by decide, by decide, by decide +kernel, by decide, mG (6, 182) (by decide +kernel), mG (1, 1) (by decide +kernel)⟩
def M_F_billTotal : mM := (⟨"FloatingDock", "billTotal", "()I"⟩, prog_1_method_40_code, 1, (some .int), [])
theorem d_F_billTotal_0 : decode (mMc M_F_billTotal) 0 = .ok (.aload_n 0, 1) := by decide +kernel
theorem d_F_billTotal_1 : decode (mMc M_F_billTotal) 1 = .ok (.getfield 10, 3) := by decide +kernel
theorem d_F_billTotal_4 : decode (mMc M_F_billTotal) 4 = .ok (.getfield 67, 3) := by decide +kernel
theorem d_F_billTotal_7 : decode (mMc M_F_billTotal) 7 = .ok (.invokevirtual 246, 3) := by decide +kernel
theorem d_F_billTotal_10 : decode (mMc M_F_billTotal) 10 = .ok (.ireturn, 1) := by decide +kernel
theorem k_F_billTotal : mCd M_F_billTotal 0 := ⟨by decide, by decide, by decide +kernel, by decide, mG (6, 187) (by decide +kernel), mG (1, 1) (by decide +kernel)⟩
def M_F_billTotalByAccount : mM := (⟨"FloatingDock", "billTotalByAccount", "()I"⟩, prog_1_method_41_code, 1, (some .int), [])
theorem d_F_billTotalByAccount_0 : decode (mMc M_F_billTotalByAccount) 0 = .ok (.aload_n 0, 1) := by decide +kernel
theorem d_F_billTotalByAccount_1 : decode (mMc M_F_billTotalByAccount) 1 = .ok (.getfield 10, 3) := by decide +kernel
theorem d_F_billTotalByAccount_4 : decode (mMc M_F_billTotalByAccount) 4 = .ok (.invokevirtual 249, 3) := by decide +kernel
theorem d_F_billTotalByAccount_7 : decode (mMc M_F_billTotalByAccount) 7 = .ok (.ireturn, 1) := by decide +kernel
theorem k_F_billTotalByAccount : mCd M_F_billTotalByAccount 0 := ⟨by decide, by decide, by decide +kernel, by decide, mG (6, 195) (by decide +kernel), mG (1, 1) (by decide +kernel)⟩
def M_F_meanDirt : mM := (⟨"FloatingDock", "meanDirt", "()D"⟩, prog_1_method_51_code, 1, (some .double), [])
theorem d_F_meanDirt_0 : decode (mMc M_F_meanDirt) 0 = .ok (.aload_n 0, 1) := by decide +kernel
theorem d_F_meanDirt_1 : decode (mMc M_F_meanDirt) 1 = .ok (.getfield 10, 3) := by decide +kernel
theorem d_F_meanDirt_4 : decode (mMc M_F_meanDirt) 4 = .ok (.getfield 67, 3) := by decide +kernel
theorem d_F_meanDirt_7 : decode (mMc M_F_meanDirt) 7 = .ok (.getfield 95, 3) := by decide +kernel
theorem d_F_meanDirt_10 : decode (mMc M_F_meanDirt) 10 = .ok (.ifCond .ne 14, 3) := by decide +kernel
theorem d_F_meanDirt_13 : decode (mMc M_F_meanDirt) 13 = .ok (.new 322, 3) := by decide +kernel
theorem d_F_meanDirt_16 : decode (mMc M_F_meanDirt) 16 = .ok (.dup, 1) := by decide +kernel
theorem d_F_meanDirt_17 : decode (mMc M_F_meanDirt) 17 = .ok (.ldc_w 324, 3) := by decide +kernel
theorem d_F_meanDirt_20 : decode (mMc M_F_meanDirt) 20 = .ok (.invokespecial 326, 3) := by decide +kernel
theorem d_F_meanDirt_23 : decode (mMc M_F_meanDirt) 23 = .ok (.athrow, 1) := by decide +kernel
theorem d_F_meanDirt_24 : decode (mMc M_F_meanDirt) 24 = .ok (.aload_n 0, 1) := by decide +kernel
theorem d_F_meanDirt_25 : decode (mMc M_F_meanDirt) 25 = .ok (.getfield 10, 3) := by decide +kernel
theorem d_F_meanDirt_28 : decode (mMc M_F_meanDirt) 28 = .ok (.getfield 67, 3) := by decide +kernel
theorem d_F_meanDirt_31 : decode (mMc M_F_meanDirt) 31 = .ok (.invokevirtual 327, 3) := by decide +kernel
theorem d_F_meanDirt_34 : decode (mMc M_F_meanDirt) 34 = .ok (.i2d, 1) := by decide +kernel
theorem d_F_meanDirt_35 : decode (mMc M_F_meanDirt) 35 = .ok (.aload_n 0, 1) := by decide +kernel
theorem d_F_meanDirt_36 : decode (mMc M_F_meanDirt) 36 = .ok (.getfield 10, 3) := by decide +kernel
theorem d_F_meanDirt_39 : decode (mMc M_F_meanDirt) 39 = .ok (.getfield 67, 3) := by decide +kernel
theorem d_F_meanDirt_42 : decode (mMc M_F_meanDirt) 42 = .ok (.getfield 95, 3) := by decide +kernel
theorem d_F_meanDirt_45 : decode (mMc M_F_meanDirt) 45 = .ok (.i2d, 1) := by decide +kernel
theorem d_F_meanDirt_46 : decode (mMc M_F_meanDirt) 46 = .ok (.ddiv, 1) := by decide +kernel
theorem d_F_meanDirt_47 : decode (mMc M_F_meanDirt) 47 = .ok (.dreturn, 1) := by decide +kernel
theorem k_F_meanDirt : mCd M_F_meanDirt 0 := ⟨by decide, by decide, by decide +kernel, by decide, mG (6, 203) (by decide +kernel), mG (1, 1) (by decide +kernel)⟩
def M_F_isConsistent : mM := (⟨"FloatingDock", "isConsistent", "()Z"⟩, prog_1_method_53_code, 1, (some .boolean), [])
theorem d_F_isConsistent_0 : decode (mMc M_F_isConsistent) 0 = .ok (.aload_n 0, 1) := by decide +kernel
theorem d_F_isConsistent_1 : decode (mMc M_F_isConsistent) 1 = .ok (.getfield 10, 3) := by decide +kernel
theorem d_F_isConsistent_4 : decode (mMc M_F_isConsistent) 4 = .ok (.getfield 174, 3) := by decide +kernel
theorem d_F_isConsistent_7 : decode (mMc M_F_isConsistent) 7 = .ok (.invokestatic 331, 3) := by decide +kernel
theorem d_F_isConsistent_10 : decode (mMc M_F_isConsistent) 10 = .ok (.ifCond .eq 98, 3) := by decide +kernel
theorem d_F_isConsistent_13 : decode (mMc M_F_isConsistent) 13 = .ok (.aload_n 0, 1) := by decide +kernel
theorem d_F_isConsistent_14 : decode (mMc M_F_isConsistent) 14 = .ok (.getfield 10, 3) := by decide +kernel
theorem d_F_isConsistent_17 : decode (mMc M_F_isConsistent) 17 = .ok (.getfield 194, 3) := by decide +kernel
theorem d_F_isConsistent_20 : decode (mMc M_F_isConsistent) 20 = .ok (.aload_n 0, 1) := by decide +kernel
theorem d_F_isConsistent_21 : decode (mMc M_F_isConsistent) 21 = .ok (.getfield 10, 3) := by decide +kernel
theorem d_F_isConsistent_24 : decode (mMc M_F_isConsistent) 24 = .ok (.getfield 67, 3) := by decide +kernel
theorem d_F_isConsistent_27 : decode (mMc M_F_isConsistent) 27 = .ok (.invokevirtual 334, 3) := by decide +kernel
theorem d_F_isConsistent_30 : decode (mMc M_F_isConsistent) 30 = .ok (.ifCond .eq 78, 3) := by decide +kernel
theorem d_F_isConsistent_33 : decode (mMc M_F_isConsistent) 33 = .ok (.aload_n 0, 1) := by decide +kernel
theorem d_F_isConsistent_34 : decode (mMc M_F_isConsistent) 34 = .ok (.getfield 10, 3) := by decide +kernel
theorem d_F_isConsistent_37 : decode (mMc M_F_isConsistent) 37 = .ok (.getfield 67, 3) := by decide +kernel
theorem d_F_isConsistent_40 : decode (mMc M_F_isConsistent) 40 = .ok (.invokevirtual 338, 3) := by decide +kernel
theorem d_F_isConsistent_43 : decode (mMc M_F_isConsistent) 43 = .ok (.ifCond .eq 65, 3) := by decide +kernel
theorem d_F_isConsistent_46 : decode (mMc M_F_isConsistent) 46 = .ok (.aload_n 0, 1) := by decide +kernel
theorem d_F_isConsistent_47 : decode (mMc M_F_isConsistent) 47 = .ok (.getfield 36, 3) := by decide +kernel
theorem d_F_isConsistent_50 : decode (mMc M_F_isConsistent) 50 = .ok (.aload_n 0, 1) := by decide +kernel
theorem d_F_isConsistent_51 : decode (mMc M_F_isConsistent) 51 = .ok (.getfield 10, 3) := by decide +kernel
theorem d_F_isConsistent_54 : decode (mMc M_F_isConsistent) 54 = .ok (.invokevirtual 230, 3) := by decide +kernel
theorem d_F_isConsistent_57 : decode (mMc M_F_isConsistent) 57 = .ok (.aload_n 0, 1) := by decide +kernel
theorem d_F_isConsistent_58 : decode (mMc M_F_isConsistent) 58 = .ok (.getfield 36, 3) := by decide +kernel
theorem d_F_isConsistent_61 : decode (mMc M_F_isConsistent) 61 = .ok (.aload_n 0, 1) := by decide +kernel
theorem d_F_isConsistent_62 : decode (mMc M_F_isConsistent) 62 = .ok (.getfield 10, 3) := by decide +kernel
theorem d_F_isConsistent_65 : decode (mMc M_F_isConsistent) 65 = .ok (.invokevirtual 234, 3) := by decide +kernel
theorem d_F_isConsistent_68 : decode (mMc M_F_isConsistent) 68 = .ok (.if_icmp .ne 40, 3) := by decide +kernel
theorem d_F_isConsistent_71 : decode (mMc M_F_isConsistent) 71 = .ok (.aload_n 0, 1) := by decide +kernel
theorem d_F_isConsistent_72 : decode (mMc M_F_isConsistent) 72 = .ok (.getfield 10, 3) := by decide +kernel
theorem d_F_isConsistent_75 : decode (mMc M_F_isConsistent) 75 = .ok (.getfield 67, 3) := by decide +kernel
theorem d_F_isConsistent_78 : decode (mMc M_F_isConsistent) 78 = .ok (.invokevirtual 246, 3) := by decide +kernel
theorem d_F_isConsistent_81 : decode (mMc M_F_isConsistent) 81 = .ok (.aload_n 0, 1) := by decide +kernel
theorem d_F_isConsistent_82 : decode (mMc M_F_isConsistent) 82 = .ok (.getfield 10, 3) := by decide +kernel
theorem d_F_isConsistent_85 : decode (mMc M_F_isConsistent) 85 = .ok (.invokevirtual 249, 3) := by decide +kernel
theorem d_F_isConsistent_88 : decode (mMc M_F_isConsistent) 88 = .ok (.if_icmp .ne 20, 3) := by decide +kernel
theorem d_F_isConsistent_91 : decode (mMc M_F_isConsistent) 91 = .ok (.aload_n 0, 1) := by decide +kernel
theorem d_F_isConsistent_92 : decode (mMc M_F_isConsistent) 92 = .ok (.getfield 10, 3) := by decide +kernel
theorem d_F_isConsistent_95 : decode (mMc M_F_isConsistent) 95 = .ok (.getfield 67, 3) := by decide +kernel
theorem d_F_isConsistent_98 : decode (mMc M_F_isConsistent) 98 = .ok (.invokevirtual 341, 3) := by decide +kernel
theorem d_F_isConsistent_101 : decode (mMc M_F_isConsistent) 101 = .ok (.ifCond .ne 7, 3) := by decide +kernel
theorem d_F_isConsistent_104 : decode (mMc M_F_isConsistent) 104 = .ok (.iconst 1, 1) := by decide +kernel
theorem d_F_isConsistent_105 : decode (mMc M_F_isConsistent) 105 = .ok (.goto 4, 3) := by decide +kernel
theorem d_F_isConsistent_108 : decode (mMc M_F_isConsistent) 108 = .ok (.iconst 0, 1) := by decide +kernel
theorem d_F_isConsistent_109 : decode (mMc M_F_isConsistent) 109 = .ok (.ireturn, 1) := by decide +kernel
theorem k_F_isConsistent : mCd M_F_isConsistent 0 := ⟨by decide, by decide, by decide +kernel, by decide, mG (6, 227) (by decide +kernel), mG (1, 1) (by decide +kernel)⟩
def M_F_save : mM := (⟨"FloatingDock", "save", "()I"⟩, prog_1_method_55_code, 1, (some .int), [])
theorem d_F_save_0 : decode (mMc M_F_save) 0 = .ok (.aload_n 0, 1) := by decide +kernel
theorem d_F_save_1 : decode (mMc M_F_save) 1 = .ok (.getfield 26, 3) := by decide +kernel
theorem d_F_save_4 : decode (mMc M_F_save) 4 = .ok (.aload_n 0, 1) := by decide +kernel
theorem d_F_save_5 : decode (mMc M_F_save) 5 = .ok (.getfield 10, 3) := by decide +kernel
theorem d_F_save_8 : decode (mMc M_F_save) 8 = .ok (.invokevirtual 287, 3) := by decide +kernel
theorem d_F_save_11 : decode (mMc M_F_save) 11 = .ok (.aload_n 0, 1) := by decide +kernel
theorem d_F_save_12 : decode (mMc M_F_save) 12 = .ok (.iconst 1, 1) := by decide +kernel
theorem d_F_save_13 : decode (mMc M_F_save) 13 = .ok (.putfield 29, 3) := by decide +kernel
theorem d_F_save_16 : decode (mMc M_F_save) 16 = .ok (.aload_n 0, 1) := by decide +kernel
theorem d_F_save_17 : decode (mMc M_F_save) 17 = .ok (.getfield 10, 3) := by decide +kernel
theorem d_F_save_20 : decode (mMc M_F_save) 20 = .ok (.getfield 67, 3) := by decide +kernel
theorem d_F_save_23 : decode (mMc M_F_save) 23 = .ok (.getfield 95, 3) := by decide +kernel
theorem d_F_save_26 : decode (mMc M_F_save) 26 = .ok (.ireturn, 1) := by decide +kernel
theorem k_F_save : mCd M_F_save 0 := ⟨by decide, by decide, by decide +kernel, by decide, mG (7, 70) (by decide +kernel), mG (1, 1) (by decide +kernel)⟩
def M_F_mostFittingMetres : mM := (⟨"FloatingDock", "mostFittingMetres", "()I"⟩, prog_1_method_37_code, 1, (some .int), [])
theorem d_F_mostFittingMetres_0 : decode (mMc M_F_mostFittingMetres) 0 = .ok (.aload_n 0, 1) := by decide +kernel
theorem d_F_mostFittingMetres_1 : decode (mMc M_F_mostFittingMetres) 1 = .ok (.getfield 36, 3) := by decide +kernel
theorem d_F_mostFittingMetres_4 : decode (mMc M_F_mostFittingMetres) 4 = .ok (.aload_n 0, 1) := by decide +kernel
theorem d_F_mostFittingMetres_5 : decode (mMc M_F_mostFittingMetres) 5 = .ok (.getfield 10, 3) := by decide +kernel
theorem d_F_mostFittingMetres_8 : decode (mMc M_F_mostFittingMetres) 8 = .ok (.invokevirtual 237, 3) := by decide +kernel
theorem d_F_mostFittingMetres_11 : decode (mMc M_F_mostFittingMetres) 11 = .ok (.ireturn, 1) := by decide +kernel
theorem k_F_mostFittingMetres : mCd M_F_mostFittingMetres 0 := ⟨by decide, by decide, by decide +kernel, by decide, mG (7, 75) (by decide +kernel), mG (1, 1) (by decide +kernel)⟩
def M_F_restore : mM := (⟨"FloatingDock", "restore", "()I"⟩, prog_1_method_56_code, 1, (some .int), [])
theorem d_F_restore_0 : decode (mMc M_F_restore) 0 = .ok (.aload_n 0, 1) := by decide +kernel
theorem d_F_restore_1 : decode (mMc M_F_restore) 1 = .ok (.getfield 29, 3) := by decide +kernel
theorem d_F_restore_4 : decode (mMc M_F_restore) 4 = .ok (.ifCond .ne 14, 3) := by decide +kernel
theorem d_F_restore_7 : decode (mMc M_F_restore) 7 = .ok (.new 291, 3) := by decide +kernel
theorem d_F_restore_10 : decode (mMc M_F_restore) 10 = .ok (.dup, 1) := by decide +kernel
theorem d_F_restore_11 : decode (mMc M_F_restore) 11 = .ok (.ldc_w 351, 3) := by decide +kernel
theorem d_F_restore_14 : decode (mMc M_F_restore) 14 = .ok (.invokespecial 295, 3) := by decide +kernel
theorem d_F_restore_17 : decode (mMc M_F_restore) 17 = .ok (.athrow, 1) := by decide +kernel
theorem d_F_restore_18 : decode (mMc M_F_restore) 18 = .ok (.aload_n 0, 1) := by decide +kernel
theorem d_F_restore_19 : decode (mMc M_F_restore) 19 = .ok (.getfield 10, 3) := by decide +kernel
theorem d_F_restore_22 : decode (mMc M_F_restore) 22 = .ok (.aload_n 0, 1) := by decide +kernel
theorem d_F_restore_23 : decode (mMc M_F_restore) 23 = .ok (.getfield 26, 3) := by decide +kernel
theorem d_F_restore_26 : decode (mMc M_F_restore) 26 = .ok (.invokevirtual 287, 3) := by decide +kernel
theorem d_F_restore_29 : decode (mMc M_F_restore) 29 = .ok (.aload_n 0, 1) := by decide +kernel
theorem d_F_restore_30 : decode (mMc M_F_restore) 30 = .ok (.getfield 22, 3) := by decide +kernel
theorem d_F_restore_33 : decode (mMc M_F_restore) 33 = .ok (.invokevirtual 353, 3) := by decide +kernel
theorem d_F_restore_36 : decode (mMc M_F_restore) 36 = .ok (.aload_n 0, 1) := by decide +kernel
theorem d_F_restore_37 : decode (mMc M_F_restore) 37 = .ok (.getfield 10, 3) := by decide +kernel
theorem d_F_restore_40 : decode (mMc M_F_restore) 40 = .ok (.getfield 67, 3) := by decide +kernel
theorem d_F_restore_43 : decode (mMc M_F_restore) 43 = .ok (.getfield 95, 3) := by decide +kernel
theorem d_F_restore_46 : decode (mMc M_F_restore) 46 = .ok (.ireturn, 1) := by decide +kernel
theorem k_F_restore : mCd M_F_restore 0 := ⟨by decide, by decide, by decide +kernel, by decide, mG (7, 83) (by decide +kernel), mG (1, 1) (by decide +kernel)⟩
def M_F_mostFitting : mM := (⟨"FloatingDock", "mostFitting", "()I"⟩, prog_1_method_35_code, 1, (some .int), [])
theorem d_F_mostFitting_0 : decode (mMc M_F_mostFitting) 0 = .ok (.aload_n 0, 1) := by decide +kernel
theorem d_F_mostFitting_1 : decode (mMc M_F_mostFitting) 1 = .ok (.getfield 36, 3) := by decide +kernel
theorem d_F_mostFitting_4 : decode (mMc M_F_mostFitting) 4 = .ok (.aload_n 0, 1) := by decide +kernel
theorem d_F_mostFitting_5 : decode (mMc M_F_mostFitting) 5 = .ok (.getfield 10, 3) := by decide +kernel
theorem d_F_mostFitting_8 : decode (mMc M_F_mostFitting) 8 = .ok (.invokevirtual 230, 3) := by decide +kernel
theorem d_F_mostFitting_11 : decode (mMc M_F_mostFitting) 11 = .ok (.ireturn, 1) := by decide +kernel
theorem k_F_mostFitting : mCd M_F_mostFitting 0 := ⟨by decide, by decide, by decide +kernel, by decide, mG (7, 92) (by decide +kernel), mG (1, 1) (by decide +kernel)⟩
def M_F_mostFittingByTable : mM := (⟨"FloatingDock", "mostFittingByTable", "()I"⟩, prog_1_method_36_code, 1, (some .int), [])
theorem d_F_mostFittingByTable_0 : decode (mMc M_F_mostFittingByTable) 0 = .ok (.aload_n 0, 1) := by decide +kernel
theorem d_F_mostFittingByTable_1 : decode (mMc M_F_mostFittingByTable) 1 = .ok (.getfield 36, 3) := by decide +kernel
theorem d_F_mostFittingByTable_4 : decode (mMc M_F_mostFittingByTable) 4 = .ok (.aload_n 0, 1) := by decide +kernel
theorem d_F_mostFittingByTable_5 : decode (mMc M_F_mostFittingByTable) 5 = .ok (.getfield 10, 3) := by decide +kernel
theorem d_F_mostFittingByTable_8 : decode (mMc M_F_mostFittingByTable) 8 = .ok (.invokevirtual 234, 3) := by decide +kernel
theorem d_F_mostFittingByTable_11 : decode (mMc M_F_mostFittingByTable) 11 = .ok (.ireturn, 1) := by decide +kernel
theorem k_F_mostFittingByTable : mCd M_F_mostFittingByTable 0 := ⟨by decide, by decide, by decide +kernel, by decide, mG (7, 99) (by decide +kernel), mG (1, 1) (by decide +kernel)⟩
def M_F_seaLevelByHours : mM := (⟨"FloatingDock", "seaLevelByHours", "(I)I"⟩, prog_1_method_21_code, 2, (some .int), [])
theorem d_F_seaLevelByHours_0 : decode (mMc M_F_seaLevelByHours) 0 = .ok (.iload_n 1, 1) := by decide +kernel
theorem d_F_seaLevelByHours_1 : decode (mMc M_F_seaLevelByHours) 1 = .ok (.invokestatic 159, 3) := by decide +kernel
theorem d_F_seaLevelByHours_4 : decode (mMc M_F_seaLevelByHours) 4 = .ok (.iload_n 1, 1) := by decide +kernel
theorem d_F_seaLevelByHours_5 : decode (mMc M_F_seaLevelByHours) 5 = .ok (.invokestatic 168, 3) := by decide +kernel
theorem d_F_seaLevelByHours_8 : decode (mMc M_F_seaLevelByHours) 8 = .ok (.ireturn, 1) := by decide +kernel
theorem k_F_seaLevelByHours : mCd M_F_seaLevelByHours 1 := ⟨by decide, by decide, by decide +kernel, by decide, mG (7, 106) (by decide +kernel), mG (1, 1) (by decide +kernel)⟩
def M_F_hour : mM := (⟨"FloatingDock", "hour", "()I"⟩, prog_1_method_23_code, 1, (some .int), [])
theorem d_F_hour_0 : decode (mMc M_F_hour) 0 = .ok (.aload_n 0, 1) := by decide +kernel
theorem d_F_hour_1 : decode (mMc M_F_hour) 1 = .ok (.getfield 10, 3) := by decide +kernel
theorem d_F_hour_4 : decode (mMc M_F_hour) 4 = .ok (.getfield 174, 3) := by decide +kernel
theorem d_F_hour_7 : decode (mMc M_F_hour) 7 = .ok (.ireturn, 1) := by decide +kernel
theorem k_F_hour : mCd M_F_hour 0 := ⟨by decide, by decide, by decide +kernel, by decide, mG (7, 117) (by decide +kernel), mG (1, 1) (by decide +kernel)⟩
def M_F_level : mM := (⟨"FloatingDock", "level", "()I"⟩, prog_1_method_19_code, 1, (some .int), [])
theorem d_F_level_0 : decode (mMc M_F_level) 0 = .ok (.aload_n 0, 1) := by decide +kernel
theorem d_F_level_1 : decode (mMc M_F_level) 1 = .ok (.getfield 10, 3) := by decide +kernel
theorem d_F_level_4 : decode (mMc M_F_level) 4 = .ok (.getfield 137, 3) := by decide +kernel
theorem d_F_level_7 : decode (mMc M_F_level) 7 = .ok (.ireturn, 1) := by decide +kernel
theorem k_F_level : mCd M_F_level 0 := ⟨by decide, by decide, by decide +kernel, by decide, mG (7, 121) (by decide +kernel), mG (1, 1) (by decide +kernel)⟩
def M_F_paidTotal : mM := (⟨"FloatingDock", "paidTotal", "()I"⟩, prog_1_method_42_code, 1, (some .int), [])
theorem d_F_paidTotal_0 : decode (mMc M_F_paidTotal) 0 = .ok (.aload_n 0, 1) := by decide +kernel
theorem d_F_paidTotal_1 : decode (mMc M_F_paidTotal) 1 = .ok (.getfield 10, 3) := by decide +kernel
theorem d_F_paidTotal_4 : decode (mMc M_F_paidTotal) 4 = .ok (.getfield 252, 3) := by decide +kernel
theorem d_F_paidTotal_7 : decode (mMc M_F_paidTotal) 7 = .ok (.ireturn, 1) := by decide +kernel
theorem k_F_paidTotal : mCd M_F_paidTotal 0 := ⟨by decide, by decide, by decide +kernel, by decide, mG (7, 125) (by decide +kernel), mG (1, 1) (by decide +kernel)⟩
def M_F_hoursAfloat : mM := (⟨"FloatingDock", "hoursAfloat", "(I)I"⟩, prog_1_method_13_code, 2, (some .int), [])
theorem d_F_hoursAfloat_0 : decode (mMc M_F_hoursAfloat) 0 = .ok (.aload_n 0, 1) := by decide +kernel
theorem d_F_hoursAfloat_1 : decode (mMc M_F_hoursAfloat) 1 = .ok (.getfield 10, 3) := by decide +kernel
theorem d_F_hoursAfloat_4 : decode (mMc M_F_hoursAfloat) 4 = .ok (.getfield 67, 3) := by decide +kernel
theorem d_F_hoursAfloat_7 : decode (mMc M_F_hoursAfloat) 7 = .ok (.iload_n 1, 1) := by decide +kernel
theorem d_F_hoursAfloat_8 : decode (mMc M_F_hoursAfloat) 8 = .ok (.invokevirtual 114, 3) := by decide +kernel
theorem d_F_hoursAfloat_11 : decode (mMc M_F_hoursAfloat) 11 = .ok (.getfield 134, 3) := by decide +kernel
theorem d_F_hoursAfloat_14 : decode (mMc M_F_hoursAfloat) 14 = .ok (.ireturn, 1) := by decide +kernel
theorem k_F_hoursAfloat : mCd M_F_hoursAfloat 1 := ⟨by decide, by decide, by decide +kernel, by decide, mG (7, 129) (by decide +kernel), mG (1, 1) (by decide +kernel)⟩
