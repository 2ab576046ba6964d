/-! methods, instructions, what a caller asks -/
def M_SB_init : mM := (⟨"java/lang/StringBuilder", "<init>", "()V"⟩, prog_32_method_1_code, 1, none, [])
theorem d_SB_init_0 : decode (mMc M_SB_init) 0 = .ok (.aload_n 0, 1) := by decide +kernel
theorem d_SB_init_1 : decode (mMc M_SB_init) 1 = .ok (.bipush 16, 2) := by decide +kernel
theorem d_SB_init_3 : decode (mMc M_SB_init) 3 = .ok (.invokespecial 1, 3) := by decide +kernel
theorem d_SB_init_6 : decode (mMc M_SB_init) 6 = .ok (.return_, 1) := by decide +kernel
theorem k_SB_init : mCd M_SB_init 0 := ⟨by decide, by decide, by decide +kernel, by decide, mG (1, 232) (by decide +kernel), mG (1, 10) (by decide +kernel)⟩
def M_AB_init : mM := (⟨"java/lang/AbstractStringBuilder", "<init>", "(I)V"⟩, prog_15_method_2_code, 2, none, [])
theorem d_AB_init_0 : decode (mMc M_AB_init) 0 = .ok (.aload_n 0, 1) := by decide +kernel
theorem d_AB_init_1 : decode (mMc M_AB_init) 1 = .ok (.invokespecial 3, 3) := by decide +kernel
theorem d_AB_init_4 : decode (mMc M_AB_init) 4 = .ok (.getstatic 18, 3) := by decide +kernel
theorem d_AB_init_7 : decode (mMc M_AB_init) 7 = .ok (.ifCond .eq 18, 3) := by decide +kernel
theorem d_AB_init_10 : decode (mMc M_AB_init) 10 = .ok (.aload_n 0, 1) := by decide +kernel
theorem d_AB_init_11 : decode (mMc M_AB_init) 11 = .ok (.iload_n 1, 1) := by decide +kernel
theorem d_AB_init_12 : decode (mMc M_AB_init) 12 = .ok (.newarray .byte, 2) := by decide +kernel
theorem d_AB_init_14 : decode (mMc M_AB_init) 14 = .ok (.putfield 15, 3) := by decide +kernel
theorem d_AB_init_17 : decode (mMc M_AB_init) 17 = .ok (.aload_n 0, 1) := by decide +kernel
theorem d_AB_init_18 : decode (mMc M_AB_init) 18 = .ok (.iconst 0, 1) := by decide +kernel
theorem d_AB_init_19 : decode (mMc M_AB_init) 19 = .ok (.putfield 22, 3) := by decide +kernel
theorem d_AB_init_22 : decode (mMc M_AB_init) 22 = .ok (.goto 16, 3) := by decide +kernel
theorem d_AB_init_25 : decode (mMc M_AB_init) 25 = .ok (.aload_n 0, 1) := by decide +kernel
theorem d_AB_init_26 : decode (mMc M_AB_init) 26 = .ok (.iload_n 1, 1) := by decide +kernel
theorem d_AB_init_27 : decode (mMc M_AB_init) 27 = .ok (.invokestatic 26, 3) := by decide +kernel
theorem d_AB_init_30 : decode (mMc M_AB_init) 30 = .ok (.putfield 15, 3) := by decide +kernel
theorem d_AB_init_33 : decode (mMc M_AB_init) 33 = .ok (.aload_n 0, 1) := by decide +kernel
theorem d_AB_init_34 : decode (mMc M_AB_init) 34 = .ok (.iconst 1, 1) := by decide +kernel
theorem d_AB_init_35 : decode (mMc M_AB_init) 35 = .ok (.putfield 22, 3) := by decide +kernel
theorem d_AB_init_38 : decode (mMc M_AB_init) 38 = .ok (.return_, 1) := by decide +kernel
theorem k_AB_init : mCd M_AB_init 1 := ⟨by decide, by decide, by decide +kernel, by decide, mG (1, 235) (by decide +kernel), mG (1, 9) (by decide +kernel)⟩
def M_MA_max : mM := (⟨"java/lang/Math", "max", "(II)I"⟩, prog_28_method_65_code, 2, (some .int), [])
theorem d_MA_max_0 : decode (mMc M_MA_max) 0 = .ok (.iload_n 0, 1) := by decide +kernel
theorem d_MA_max_1 : decode (mMc M_MA_max) 1 = .ok (.iload_n 1, 1) := by decide +kernel
theorem d_MA_max_2 : decode (mMc M_MA_max) 2 = .ok (.if_icmp .lt 7, 3) := by decide +kernel
theorem d_MA_max_5 : decode (mMc M_MA_max) 5 = .ok (.iload_n 0, 1) := by decide +kernel
theorem d_MA_max_6 : decode (mMc M_MA_max) 6 = .ok (.goto 4, 3) := by decide +kernel
theorem d_MA_max_9 : decode (mMc M_MA_max) 9 = .ok (.iload_n 1, 1) := by decide +kernel
theorem d_MA_max_10 : decode (mMc M_MA_max) 10 = .ok (.ireturn, 1) := by decide +kernel
theorem k_MA_max : mCd M_MA_max 2 := ⟨by decide, by decide, by decide +kernel, by decide, mG (3, 185) (by decide +kernel), mG (1, 21) (by decide +kernel)⟩
def M_MA_min : mM := (⟨"java/lang/Math", "min", "(II)I"⟩, prog_28_method_69_code, 2, (some .int), [])
theorem d_MA_min_0 : decode (mMc M_MA_min) 0 = .ok (.iload_n 0, 1) := by decide +kernel
theorem d_MA_min_1 : decode (mMc M_MA_min) 1 = .ok (.iload_n 1, 1) := by decide +kernel
theorem d_MA_min_2 : decode (mMc M_MA_min) 2 = .ok (.if_icmp .gt 7, 3) := by decide +kernel
theorem d_MA_min_5 : decode (mMc M_MA_min) 5 = .ok (.iload_n 0, 1) := by decide +kernel
theorem d_MA_min_6 : decode (mMc M_MA_min) 6 = .ok (.goto 4, 3) := by decide +kernel
theorem d_MA_min_9 : decode (mMc M_MA_min) 9 = .ok (.iload_n 1, 1) := by decide +kernel
theorem d_MA_min_10 : decode (mMc M_MA_min) 10 = .ok (.ireturn, 1) := by decide +kernel
theorem k_MA_min : mCd M_MA_min 2 := ⟨by decide, by decide, by decide +kernel, by decide, mG (2, 239) (by decide +kernel), mG (1, 21) (by decide +kernel)⟩
def M_MA_abs : mM := (⟨"java/lang/Math", "abs", "(I)I"⟩, prog_28_method_59_code, 1, (some .int), [])
theorem d_MA_abs_0 : decode (mMc M_MA_abs) 0 = .ok (.iload_n 0, 1) := by decide +kernel
theorem d_MA_abs_1 : decode (mMc M_MA_abs) 1 = .ok (.ifCond .ge 8, 3) := by decide +kernel
theorem d_MA_abs_4 : decode (mMc M_MA_abs) 4 = .ok (.iload_n 0, 1) := by decide +kernel
theorem d_MA_abs_5 : decode (mMc M_MA_abs) 5 = .ok (.ineg, 1) := by decide +kernel
theorem d_MA_abs_6 : decode (mMc M_MA_abs) 6 = .ok (.goto 4, 3) := by decide +kernel
theorem d_MA_abs_9 : decode (mMc M_MA_abs) 9 = .ok (.iload_n 0, 1) := by decide +kernel
theorem d_MA_abs_10 : decode (mMc M_MA_abs) 10 = .ok (.ireturn, 1) := by decide +kernel
theorem k_MA_abs : mCd M_MA_abs 1 := ⟨by decide, by decide, by decide +kernel, by decide, mG (3, 152) (by decide +kernel), mG (1, 21) (by decide +kernel)⟩
def M_IN_bitCount : mM := (⟨"java/lang/Integer", "bitCount", "(I)I"⟩, prog_27_method_49_code, 1, (some .int), [])
theorem d_IN_bitCount_0 : decode (mMc M_IN_bitCount) 0 = .ok (.iload_n 0, 1) := by decide +kernel
theorem d_IN_bitCount_1 : decode (mMc M_IN_bitCount) 1 = .ok (.iload_n 0, 1) := by decide +kernel
theorem d_IN_bitCount_2 : decode (mMc M_IN_bitCount) 2 = .ok (.iconst 1, 1) := by decide +kernel
theorem d_IN_bitCount_3 : decode (mMc M_IN_bitCount) 3 = .ok (.iushr, 1) := by decide +kernel
theorem d_IN_bitCount_4 : decode (mMc M_IN_bitCount) 4 = .ok (.ldc_w 265, 3) := by decide +kernel
theorem d_IN_bitCount_7 : decode (mMc M_IN_bitCount) 7 = .ok (.iand, 1) := by decide +kernel
theorem d_IN_bitCount_8 : decode (mMc M_IN_bitCount) 8 = .ok (.isub, 1) := by decide +kernel
theorem d_IN_bitCount_9 : decode (mMc M_IN_bitCount) 9 = .ok (.istore_n 0, 1) := by decide +kernel
theorem d_IN_bitCount_10 : decode (mMc M_IN_bitCount) 10 = .ok (.iload_n 0, 1) := by decide +kernel
theorem d_IN_bitCount_11 : decode (mMc M_IN_bitCount) 11 = .ok (.ldc_w 266, 3) := by decide +kernel
theorem d_IN_bitCount_14 : decode (mMc M_IN_bitCount) 14 = .ok (.iand, 1) := by decide +kernel
theorem d_IN_bitCount_15 : decode (mMc M_IN_bitCount) 15 = .ok (.iload_n 0, 1) := by decide +kernel
theorem d_IN_bitCount_16 : decode (mMc M_IN_bitCount) 16 = .ok (.iconst 2, 1) := by decide +kernel
theorem d_IN_bitCount_17 : decode (mMc M_IN_bitCount) 17 = .ok (.iushr, 1) := by decide +kernel
theorem d_IN_bitCount_18 : decode (mMc M_IN_bitCount) 18 = .ok (.ldc_w 266, 3) := by decide +kernel
theorem d_IN_bitCount_21 : decode (mMc M_IN_bitCount) 21 = .ok (.iand, 1) := by decide +kernel
theorem d_IN_bitCount_22 : decode (mMc M_IN_bitCount) 22 = .ok (.iadd, 1) := by decide +kernel
theorem d_IN_bitCount_23 : decode (mMc M_IN_bitCount) 23 = .ok (.istore_n 0, 1) := by decide +kernel
theorem d_IN_bitCount_24 : decode (mMc M_IN_bitCount) 24 = .ok (.iload_n 0, 1) := by decide +kernel
theorem d_IN_bitCount_25 : decode (mMc M_IN_bitCount) 25 = .ok (.iload_n 0, 1) := by decide +kernel
theorem d_IN_bitCount_26 : decode (mMc M_IN_bitCount) 26 = .ok (.iconst 4, 1) := by decide +kernel
theorem d_IN_bitCount_27 : decode (mMc M_IN_bitCount) 27 = .ok (.iushr, 1) := by decide +kernel
theorem d_IN_bitCount_28 : decode (mMc M_IN_bitCount) 28 = .ok (.iadd, 1) := by decide +kernel
theorem d_IN_bitCount_29 : decode (mMc M_IN_bitCount) 29 = .ok (.ldc_w 267, 3) := by decide +kernel
theorem d_IN_bitCount_32 : decode (mMc M_IN_bitCount) 32 = .ok (.iand, 1) := by decide +kernel
theorem d_IN_bitCount_33 : decode (mMc M_IN_bitCount) 33 = .ok (.istore_n 0, 1) := by decide +kernel
theorem d_IN_bitCount_34 : decode (mMc M_IN_bitCount) 34 = .ok (.iload_n 0, 1) := by decide +kernel
theorem d_IN_bitCount_35 : decode (mMc M_IN_bitCount) 35 = .ok (.iload_n 0, 1) := by decide +kernel
theorem d_IN_bitCount_36 : decode (mMc M_IN_bitCount) 36 = .ok (.bipush 8, 2) := by decide +kernel
theorem d_IN_bitCount_38 : decode (mMc M_IN_bitCount) 38 = .ok (.iushr, 1) := by decide +kernel
theorem d_IN_bitCount_39 : decode (mMc M_IN_bitCount) 39 = .ok (.iadd, 1) := by decide +kernel
theorem d_IN_bitCount_40 : decode (mMc M_IN_bitCount) 40 = .ok (.istore_n 0, 1) := by decide +kernel
theorem d_IN_bitCount_41 : decode (mMc M_IN_bitCount) 41 = .ok (.iload_n 0, 1) := by decide +kernel
theorem d_IN_bitCount_42 : decode (mMc M_IN_bitCount) 42 = .ok (.iload_n 0, 1) := by decide +kernel
theorem d_IN_bitCount_43 : decode (mMc M_IN_bitCount) 43 = .ok (.bipush 16, 2) := by decide +kernel
theorem d_IN_bitCount_45 : decode (mMc M_IN_bitCount) 45 = .ok (.iushr, 1) := by decide +kernel
theorem d_IN_bitCount_46 : decode (mMc M_IN_bitCount) 46 = .ok (.iadd, 1) := by decide +kernel
theorem d_IN_bitCount_47 : decode (mMc M_IN_bitCount) 47 = .ok (.istore_n 0, 1) := by decide +kernel
theorem d_IN_bitCount_48 : decode (mMc M_IN_bitCount) 48 = .ok (.iload_n 0, 1) := by decide +kernel
theorem d_IN_bitCount_49 : decode (mMc M_IN_bitCount) 49 = .ok (.bipush 63, 2) := by decide +kernel
theorem d_IN_bitCount_51 : decode (mMc M_IN_bitCount) 51 = .ok (.iand, 1) := by decide +kernel
theorem d_IN_bitCount_52 : decode (mMc M_IN_bitCount) 52 = .ok (.ireturn, 1) := by decide +kernel
theorem k_IN_bitCount : mCd M_IN_bitCount 1 := ⟨by decide, by decide, by decide +kernel, by decide, mG (7, 53) (by decide +kernel), mG (1, 32) (by decide +kernel)⟩
def M_SB_setLength : mM := (⟨"java/lang/StringBuilder", "setLength", "(I)V"⟩, prog_32_method_89_code, 2, none, [])
theorem d_SB_setLength_0 : decode (mMc M_SB_setLength) 0 = .ok (.aload_n 0, 1) := by decide +kernel
theorem d_SB_setLength_1 : decode (mMc M_SB_setLength) 1 = .ok (.iload_n 1, 1) := by decide +kernel
theorem d_SB_setLength_2 : decode (mMc M_SB_setLength) 2 = .ok (.invokespecial 333, 3) := by decide +kernel
theorem d_SB_setLength_5 : decode (mMc M_SB_setLength) 5 = .ok (.return_, 1) := by decide +kernel
theorem k_SB_setLength : mCd M_SB_setLength 1 := ⟨by decide, by decide, by decide +kernel, by decide, mG (4, 139) (by decide +kernel), mG (1, 10) (by decide +kernel)⟩
def M_AB_setLength : mM := (⟨"java/lang/AbstractStringBuilder", "setLength", "(I)V"⟩, prog_15_method_13_code, 2, none, [])
theorem d_AB_setLength_0 : decode (mMc M_AB_setLength) 0 = .ok (.iload_n 1, 1) := by decide +kernel
theorem d_AB_setLength_1 : decode (mMc M_AB_setLength) 1 = .ok (.ifCond .ge 12, 3) := by decide +kernel
theorem d_AB_setLength_4 : decode (mMc M_AB_setLength) 4 = .ok (.new 129, 3) := by decide +kernel
theorem d_AB_setLength_7 : decode (mMc M_AB_setLength) 7 = .ok (.dup, 1) := by decide +kernel
theorem d_AB_setLength_8 : decode (mMc M_AB_setLength) 8 = .ok (.iload_n 1, 1) := by decide +kernel
theorem d_AB_setLength_9 : decode (mMc M_AB_setLength) 9 = .ok (.invokespecial 131, 3) := by decide +kernel
theorem d_AB_setLength_12 : decode (mMc M_AB_setLength) 12 = .ok (.athrow, 1) := by decide +kernel
theorem d_AB_setLength_13 : decode (mMc M_AB_setLength) 13 = .ok (.aload_n 0, 1) := by decide +kernel
theorem d_AB_setLength_14 : decode (mMc M_AB_setLength) 14 = .ok (.iload_n 1, 1) := by decide +kernel
theorem d_AB_setLength_15 : decode (mMc M_AB_setLength) 15 = .ok (.invokevirtual 100, 3) := by decide +kernel
theorem d_AB_setLength_18 : decode (mMc M_AB_setLength) 18 = .ok (.aload_n 0, 1) := by decide +kernel
theorem d_AB_setLength_19 : decode (mMc M_AB_setLength) 19 = .ok (.getfield 79, 3) := by decide +kernel
theorem d_AB_setLength_22 : decode (mMc M_AB_setLength) 22 = .ok (.iload_n 1, 1) := by decide +kernel
theorem d_AB_setLength_23 : decode (mMc M_AB_setLength) 23 = .ok (.if_icmp .ge 40, 3) := by decide +kernel
theorem d_AB_setLength_26 : decode (mMc M_AB_setLength) 26 = .ok (.aload_n 0, 1) := by decide +kernel
theorem d_AB_setLength_27 : decode (mMc M_AB_setLength) 27 = .ok (.invokevirtual 83, 3) := by decide +kernel
theorem d_AB_setLength_30 : decode (mMc M_AB_setLength) 30 = .ok (.ifCond .eq 18, 3) := by decide +kernel
theorem d_AB_setLength_33 : decode (mMc M_AB_setLength) 33 = .ok (.aload_n 0, 1) := by decide +kernel
theorem d_AB_setLength_34 : decode (mMc M_AB_setLength) 34 = .ok (.getfield 15, 3) := by decide +kernel
theorem d_AB_setLength_37 : decode (mMc M_AB_setLength) 37 = .ok (.aload_n 0, 1) := by decide +kernel
theorem d_AB_setLength_38 : decode (mMc M_AB_setLength) 38 = .ok (.getfield 79, 3) := by decide +kernel
theorem d_AB_setLength_41 : decode (mMc M_AB_setLength) 41 = .ok (.iload_n 1, 1) := by decide +kernel
theorem d_AB_setLength_42 : decode (mMc M_AB_setLength) 42 = .ok (.invokestatic 133, 3) := by decide +kernel
theorem d_AB_setLength_45 : decode (mMc M_AB_setLength) 45 = .ok (.goto 31, 3) := by decide +kernel
theorem d_AB_setLength_48 : decode (mMc M_AB_setLength) 48 = .ok (.aload_n 0, 1) := by decide +kernel
theorem d_AB_setLength_49 : decode (mMc M_AB_setLength) 49 = .ok (.getfield 15, 3) := by decide +kernel
theorem d_AB_setLength_52 : decode (mMc M_AB_setLength) 52 = .ok (.aload_n 0, 1) := by decide +kernel
theorem d_AB_setLength_53 : decode (mMc M_AB_setLength) 53 = .ok (.getfield 79, 3) := by decide +kernel
theorem d_AB_setLength_56 : decode (mMc M_AB_setLength) 56 = .ok (.iload_n 1, 1) := by decide +kernel
theorem d_AB_setLength_57 : decode (mMc M_AB_setLength) 57 = .ok (.invokestatic 137, 3) := by decide +kernel
theorem d_AB_setLength_60 : decode (mMc M_AB_setLength) 60 = .ok (.goto 16, 3) := by decide +kernel
theorem d_AB_setLength_63 : decode (mMc M_AB_setLength) 63 = .ok (.aload_n 0, 1) := by decide +kernel
theorem d_AB_setLength_64 : decode (mMc M_AB_setLength) 64 = .ok (.getfield 79, 3) := by decide +kernel
theorem d_AB_setLength_67 : decode (mMc M_AB_setLength) 67 = .ok (.iload_n 1, 1) := by decide +kernel
theorem d_AB_setLength_68 : decode (mMc M_AB_setLength) 68 = .ok (.if_icmp .le 8, 3) := by decide +kernel
theorem d_AB_setLength_71 : decode (mMc M_AB_setLength) 71 = .ok (.aload_n 0, 1) := by decide +kernel
theorem d_AB_setLength_72 : decode (mMc M_AB_setLength) 72 = .ok (.iconst 1, 1) := by decide +kernel
theorem d_AB_setLength_73 : decode (mMc M_AB_setLength) 73 = .ok (.putfield 73, 3) := by decide +kernel
theorem d_AB_setLength_76 : decode (mMc M_AB_setLength) 76 = .ok (.aload_n 0, 1) := by decide +kernel
theorem d_AB_setLength_77 : decode (mMc M_AB_setLength) 77 = .ok (.iload_n 1, 1) := by decide +kernel
theorem d_AB_setLength_78 : decode (mMc M_AB_setLength) 78 = .ok (.putfield 79, 3) := by decide +kernel
theorem d_AB_setLength_81 : decode (mMc M_AB_setLength) 81 = .ok (.return_, 1) := by decide +kernel
theorem k_AB_setLength : mCd M_AB_setLength 1 := ⟨by decide, by decide, by decide +kernel, by decide, mG (4, 142) (by decide +kernel), mG (1, 9) (by decide +kernel)⟩
def M_AB_ensureCapacityInternal : mM := (⟨"java/lang/AbstractStringBuilder", "ensureCapacityInternal", "(I)V"⟩, prog_15_method_9_code, 3, none, [])
theorem d_AB_ensureCapacityInternal_0 : decode (mMc M_AB_ensureCapacityInternal) 0 = .ok (.aload_n 0, 1) := by decide +kernel
theorem d_AB_ensureCapacityInternal_1 : decode (mMc M_AB_ensureCapacityInternal) 1 = .ok (.getfield 15, 3) := by decide +kernel
theorem d_AB_ensureCapacityInternal_4 : decode (mMc M_AB_ensureCapacityInternal) 4 = .ok (.arraylength, 1) := by decide +kernel
theorem d_AB_ensureCapacityInternal_5 : decode (mMc M_AB_ensureCapacityInternal) 5 = .ok (.aload_n 0, 1) := by decide +kernel
theorem d_AB_ensureCapacityInternal_6 : decode (mMc M_AB_ensureCapacityInternal) 6 = .ok (.getfield 22, 3) := by decide +kernel
theorem d_AB_ensureCapacityInternal_9 : decode (mMc M_AB_ensureCapacityInternal) 9 = .ok (.ishr, 1) := by decide +kernel
theorem d_AB_ensureCapacityInternal_10 : decode (mMc M_AB_ensureCapacityInternal) 10 = .ok (.istore_n 2, 1) := by decide +kernel
theorem d_AB_ensureCapacityInternal_11 : decode (mMc M_AB_ensureCapacityInternal) 11 = .ok (.iload_n 1, 1) := by decide +kernel
theorem d_AB_ensureCapacityInternal_12 : decode (mMc M_AB_ensureCapacityInternal) 12 = .ok (.iload_n 2, 1) := by decide +kernel
theorem d_AB_ensureCapacityInternal_13 : decode (mMc M_AB_ensureCapacityInternal) 13 = .ok (.isub, 1) := by decide +kernel
theorem d_AB_ensureCapacityInternal_14 : decode (mMc M_AB_ensureCapacityInternal) 14 = .ok (.ifCond .le 24, 3) := by decide +kernel
theorem d_AB_ensureCapacityInternal_17 : decode (mMc M_AB_ensureCapacityInternal) 17 = .ok (.aload_n 0, 1) := by decide +kernel
theorem d_AB_ensureCapacityInternal_18 : decode (mMc M_AB_ensureCapacityInternal) 18 = .ok (.aload_n 0, 1) := by decide +kernel
theorem d_AB_ensureCapacityInternal_19 : decode (mMc M_AB_ensureCapacityInternal) 19 = .ok (.getfield 15, 3) := by decide +kernel
theorem d_AB_ensureCapacityInternal_22 : decode (mMc M_AB_ensureCapacityInternal) 22 = .ok (.aload_n 0, 1) := by decide +kernel
theorem d_AB_ensureCapacityInternal_23 : decode (mMc M_AB_ensureCapacityInternal) 23 = .ok (.iload_n 1, 1) := by decide +kernel
theorem d_AB_ensureCapacityInternal_24 : decode (mMc M_AB_ensureCapacityInternal) 24 = .ok (.invokevirtual 104, 3) := by decide +kernel
theorem d_AB_ensureCapacityInternal_27 : decode (mMc M_AB_ensureCapacityInternal) 27 = .ok (.aload_n 0, 1) := by decide +kernel
theorem d_AB_ensureCapacityInternal_28 : decode (mMc M_AB_ensureCapacityInternal) 28 = .ok (.getfield 22, 3) := by decide +kernel
theorem d_AB_ensureCapacityInternal_31 : decode (mMc M_AB_ensureCapacityInternal) 31 = .ok (.ishl, 1) := by decide +kernel
theorem d_AB_ensureCapacityInternal_32 : decode (mMc M_AB_ensureCapacityInternal) 32 = .ok (.invokestatic 108, 3) := by decide +kernel
theorem d_AB_ensureCapacityInternal_35 : decode (mMc M_AB_ensureCapacityInternal) 35 = .ok (.putfield 15, 3) := by decide +kernel
theorem d_AB_ensureCapacityInternal_38 : decode (mMc M_AB_ensureCapacityInternal) 38 = .ok (.return_, 1) := by decide +kernel
theorem k_AB_ensureCapacityInternal : mCd M_AB_ensureCapacityInternal 1 := ⟨by decide, by decide, by decide +kernel, by decide, mG (4, 165) (by decide +kernel), mG (1, 9) (by decide +kernel)⟩
def M_AB_newCapacity : mM := (⟨"java/lang/AbstractStringBuilder", "newCapacity", "(I)I"⟩, prog_15_method_10_code, 6, (some .int), [])
theorem d_AB_newCapacity_0 : decode (mMc M_AB_newCapacity) 0 = .ok (.aload_n 0, 1) := by decide +kernel
theorem d_AB_newCapacity_1 : decode (mMc M_AB_newCapacity) 1 = .ok (.getfield 15, 3) := by decide +kernel
theorem d_AB_newCapacity_4 : decode (mMc M_AB_newCapacity) 4 = .ok (.arraylength, 1) := by decide +kernel
theorem d_AB_newCapacity_5 : decode (mMc M_AB_newCapacity) 5 = .ok (.istore_n 2, 1) := by decide +kernel
theorem d_AB_newCapacity_6 : decode (mMc M_AB_newCapacity) 6 = .ok (.iload_n 1, 1) := by decide +kernel
theorem d_AB_newCapacity_7 : decode (mMc M_AB_newCapacity) 7 = .ok (.aload_n 0, 1) := by decide +kernel
theorem d_AB_newCapacity_8 : decode (mMc M_AB_newCapacity) 8 = .ok (.getfield 22, 3) := by decide +kernel
theorem d_AB_newCapacity_11 : decode (mMc M_AB_newCapacity) 11 = .ok (.ishl, 1) := by decide +kernel
theorem d_AB_newCapacity_12 : decode (mMc M_AB_newCapacity) 12 = .ok (.istore_n 3, 1) := by decide +kernel
theorem d_AB_newCapacity_13 : decode (mMc M_AB_newCapacity) 13 = .ok (.iload_n 3, 1) := by decide +kernel
theorem d_AB_newCapacity_14 : decode (mMc M_AB_newCapacity) 14 = .ok (.iload_n 2, 1) := by decide +kernel
theorem d_AB_newCapacity_15 : decode (mMc M_AB_newCapacity) 15 = .ok (.isub, 1) := by decide +kernel
theorem d_AB_newCapacity_16 : decode (mMc M_AB_newCapacity) 16 = .ok (.istore 4, 2) := by decide +kernel
theorem d_AB_newCapacity_18 : decode (mMc M_AB_newCapacity) 18 = .ok (.iload_n 2, 1) := by decide +kernel
theorem d_AB_newCapacity_19 : decode (mMc M_AB_newCapacity) 19 = .ok (.iload 4, 2) := by decide +kernel
theorem d_AB_newCapacity_21 : decode (mMc M_AB_newCapacity) 21 = .ok (.iload_n 2, 1) := by decide +kernel
theorem d_AB_newCapacity_22 : decode (mMc M_AB_newCapacity) 22 = .ok (.iconst 2, 1) := by decide +kernel
theorem d_AB_newCapacity_23 : decode (mMc M_AB_newCapacity) 23 = .ok (.aload_n 0, 1) := by decide +kernel
theorem d_AB_newCapacity_24 : decode (mMc M_AB_newCapacity) 24 = .ok (.getfield 22, 3) := by decide +kernel
theorem d_AB_newCapacity_27 : decode (mMc M_AB_newCapacity) 27 = .ok (.ishl, 1) := by decide +kernel
theorem d_AB_newCapacity_28 : decode (mMc M_AB_newCapacity) 28 = .ok (.iadd, 1) := by decide +kernel
theorem d_AB_newCapacity_29 : decode (mMc M_AB_newCapacity) 29 = .ok (.invokestatic 114, 3) := by decide +kernel
theorem d_AB_newCapacity_32 : decode (mMc M_AB_newCapacity) 32 = .ok (.istore 5, 2) := by decide +kernel
theorem d_AB_newCapacity_34 : decode (mMc M_AB_newCapacity) 34 = .ok (.iload 5, 2) := by decide +kernel
theorem d_AB_newCapacity_36 : decode (mMc M_AB_newCapacity) 36 = .ok (.ldc 39, 2) := by decide +kernel
theorem d_AB_newCapacity_38 : decode (mMc M_AB_newCapacity) 38 = .ok (.if_icmp .ne 13, 3) := by decide +kernel
theorem d_AB_newCapacity_41 : decode (mMc M_AB_newCapacity) 41 = .ok (.new 120, 3) := by decide +kernel
theorem d_AB_newCapacity_44 : decode (mMc M_AB_newCapacity) 44 = .ok (.dup, 1) := by decide +kernel
theorem d_AB_newCapacity_45 : decode (mMc M_AB_newCapacity) 45 = .ok (.ldc 122, 2) := by decide +kernel
theorem d_AB_newCapacity_47 : decode (mMc M_AB_newCapacity) 47 = .ok (.invokespecial 124, 3) := by decide +kernel
theorem d_AB_newCapacity_50 : decode (mMc M_AB_newCapacity) 50 = .ok (.athrow, 1) := by decide +kernel
theorem d_AB_newCapacity_51 : decode (mMc M_AB_newCapacity) 51 = .ok (.iload 5, 2) := by decide +kernel
theorem d_AB_newCapacity_53 : decode (mMc M_AB_newCapacity) 53 = .ok (.aload_n 0, 1) := by decide +kernel
theorem d_AB_newCapacity_54 : decode (mMc M_AB_newCapacity) 54 = .ok (.getfield 22, 3) := by decide +kernel
theorem d_AB_newCapacity_57 : decode (mMc M_AB_newCapacity) 57 = .ok (.ishr, 1) := by decide +kernel
theorem d_AB_newCapacity_58 : decode (mMc M_AB_newCapacity) 58 = .ok (.ireturn, 1) := by decide +kernel
theorem k_AB_newCapacity : mCd M_AB_newCapacity 1 := ⟨by decide, by decide, by decide +kernel, by decide, mG (4, 169) (by decide +kernel), mG (1, 9) (by decide +kernel)⟩
def M_AS_newLength : mM := (⟨"jdk/internal/util/ArraysSupport", "newLength", "(III)I"⟩, prog_43_method_27_code, 4, (some .int), [])
theorem d_AS_newLength_0 : decode (mMc M_AS_newLength) 0 = .ok (.iload_n 0, 1) := by decide +kernel
theorem d_AS_newLength_1 : decode (mMc M_AS_newLength) 1 = .ok (.iload_n 1, 1) := by decide +kernel
theorem d_AS_newLength_2 : decode (mMc M_AS_newLength) 2 = .ok (.iload_n 2, 1) := by decide +kernel
theorem d_AS_newLength_3 : decode (mMc M_AS_newLength) 3 = .ok (.invokestatic 194, 3) := by decide +kernel
theorem d_AS_newLength_6 : decode (mMc M_AS_newLength) 6 = .ok (.iadd, 1) := by decide +kernel
theorem d_AS_newLength_7 : decode (mMc M_AS_newLength) 7 = .ok (.istore_n 3, 1) := by decide +kernel
theorem d_AS_newLength_8 : decode (mMc M_AS_newLength) 8 = .ok (.iconst 0, 1) := by decide +kernel
theorem d_AS_newLength_9 : decode (mMc M_AS_newLength) 9 = .ok (.iload_n 3, 1) := by decide +kernel
theorem d_AS_newLength_10 : decode (mMc M_AS_newLength) 10 = .ok (.if_icmp .ge 11, 3) := by decide +kernel
theorem d_AS_newLength_13 : decode (mMc M_AS_newLength) 13 = .ok (.iload_n 3, 1) := by decide +kernel
theorem d_AS_newLength_14 : decode (mMc M_AS_newLength) 14 = .ok (.ldc 200, 2) := by decide +kernel
theorem d_AS_newLength_16 : decode (mMc M_AS_newLength) 16 = .ok (.if_icmp .gt 5, 3) := by decide +kernel
theorem d_AS_newLength_19 : decode (mMc M_AS_newLength) 19 = .ok (.iload_n 3, 1) := by decide +kernel
theorem d_AS_newLength_20 : decode (mMc M_AS_newLength) 20 = .ok (.ireturn, 1) := by decide +kernel
theorem d_AS_newLength_21 : decode (mMc M_AS_newLength) 21 = .ok (.iload_n 0, 1) := by decide +kernel
theorem d_AS_newLength_22 : decode (mMc M_AS_newLength) 22 = .ok (.iload_n 1, 1) := by decide +kernel
theorem d_AS_newLength_23 : decode (mMc M_AS_newLength) 23 = .ok (.invokestatic 201, 3) := by decide +kernel
theorem d_AS_newLength_26 : decode (mMc M_AS_newLength) 26 = .ok (.ireturn, 1) := by decide +kernel
theorem k_AS_newLength : mCd M_AS_newLength 3 := ⟨by decide, by decide, by decide +kernel, by decide, mG (4, 172) (by decide +kernel), mG (1, 29) (by decide +kernel)⟩
def M_AR_copyOf : mM := (⟨"java/util/Arrays", "copyOf", "([BI)[B"⟩, prog_41_method_121_code, 3, (some (.array .byte)), [])
theorem d_AR_copyOf_0 : decode (mMc M_AR_copyOf) 0 = .ok (.iload_n 1, 1) := by decide +kernel
theorem d_AR_copyOf_1 : decode (mMc M_AR_copyOf) 1 = .ok (.aload_n 0, 1) := by decide +kernel
theorem d_AR_copyOf_2 : decode (mMc M_AR_copyOf) 2 = .ok (.arraylength, 1) := by decide +kernel
theorem d_AR_copyOf_3 : decode (mMc M_AR_copyOf) 3 = .ok (.if_icmp .ne 11, 3) := by decide +kernel
theorem d_AR_copyOf_6 : decode (mMc M_AR_copyOf) 6 = .ok (.aload_n 0, 1) := by decide +kernel
theorem d_AR_copyOf_7 : decode (mMc M_AR_copyOf) 7 = .ok (.invokevirtual 310, 3) := by decide +kernel
theorem d_AR_copyOf_10 : decode (mMc M_AR_copyOf) 10 = .ok (.checkcast 311, 3) := by decide +kernel
theorem d_AR_copyOf_13 : decode (mMc M_AR_copyOf) 13 = .ok (.areturn, 1) := by decide +kernel
theorem d_AR_copyOf_14 : decode (mMc M_AR_copyOf) 14 = .ok (.iload_n 1, 1) := by decide +kernel
theorem d_AR_copyOf_15 : decode (mMc M_AR_copyOf) 15 = .ok (.newarray .byte, 2) := by decide +kernel
theorem d_AR_copyOf_17 : decode (mMc M_AR_copyOf) 17 = .ok (.astore_n 2, 1) := by decide +kernel
theorem d_AR_copyOf_18 : decode (mMc M_AR_copyOf) 18 = .ok (.aload_n 0, 1) := by decide +kernel
theorem d_AR_copyOf_19 : decode (mMc M_AR_copyOf) 19 = .ok (.iconst 0, 1) := by decide +kernel
theorem d_AR_copyOf_20 : decode (mMc M_AR_copyOf) 20 = .ok (.aload_n 2, 1) := by decide +kernel
theorem d_AR_copyOf_21 : decode (mMc M_AR_copyOf) 21 = .ok (.iconst 0, 1) := by decide +kernel
theorem d_AR_copyOf_22 : decode (mMc M_AR_copyOf) 22 = .ok (.aload_n 0, 1) := by decide +kernel
theorem d_AR_copyOf_23 : decode (mMc M_AR_copyOf) 23 = .ok (.arraylength, 1) := by decide +kernel
theorem d_AR_copyOf_24 : decode (mMc M_AR_copyOf) 24 = .ok (.iload_n 1, 1) := by decide +kernel
theorem d_AR_copyOf_25 : decode (mMc M_AR_copyOf) 25 = .ok (.invokestatic 304, 3) := by decide +kernel
theorem d_AR_copyOf_28 : decode (mMc M_AR_copyOf) 28 = .ok (.invokestatic 150, 3) := by decide +kernel
theorem d_AR_copyOf_31 : decode (mMc M_AR_copyOf) 31 = .ok (.aload_n 2, 1) := by decide +kernel
theorem d_AR_copyOf_32 : decode (mMc M_AR_copyOf) 32 = .ok (.areturn, 1) := by decide +kernel
theorem k_AR_copyOf : mCd M_AR_copyOf 2 := ⟨by decide, by decide, by decide +kernel, by decide, mG (4, 181) (by decide +kernel), mG (1, 30) (by decide +kernel)⟩
def M_AB_isLatin1 : mM := (⟨"java/lang/AbstractStringBuilder", "isLatin1", "()Z"⟩, prog_15_method_68_code, 1, (some .boolean), [])
theorem d_AB_isLatin1_0 : decode (mMc M_AB_isLatin1) 0 = .ok (.getstatic 18, 3) := by decide +kernel
theorem d_AB_isLatin1_3 : decode (mMc M_AB_isLatin1) 3 = .ok (.ifCond .eq 14, 3) := by decide +kernel
theorem d_AB_isLatin1_6 : decode (mMc M_AB_isLatin1) 6 = .ok (.aload_n 0, 1) := by decide +kernel
theorem d_AB_isLatin1_7 : decode (mMc M_AB_isLatin1) 7 = .ok (.getfield 22, 3) := by decide +kernel
theorem d_AB_isLatin1_10 : decode (mMc M_AB_isLatin1) 10 = .ok (.ifCond .ne 7, 3) := by decide +kernel
theorem d_AB_isLatin1_13 : decode (mMc M_AB_isLatin1) 13 = .ok (.iconst 1, 1) := by decide +kernel
theorem d_AB_isLatin1_14 : decode (mMc M_AB_isLatin1) 14 = .ok (.goto 4, 3) := by decide +kernel
theorem d_AB_isLatin1_17 : decode (mMc M_AB_isLatin1) 17 = .ok (.iconst 0, 1) := by decide +kernel
theorem d_AB_isLatin1_18 : decode (mMc M_AB_isLatin1) 18 = .ok (.ireturn, 1) := by decide +kernel
theorem k_AB_isLatin1 : mCd M_AB_isLatin1 0 := ⟨by decide, by decide, by decide +kernel, by decide, mG (4, 195) (by decide +kernel), mG (1, 9) (by decide +kernel)⟩
def M_SB_append_I : mM := (⟨"java/lang/StringBuilder", "append", "(I)Ljava/lang/StringBuilder;"⟩, prog_32_method_15_code, 2, (some (.object "java/lang/StringBuilder")), [])
theorem d_SB_append_I_0 : decode (mMc M_SB_append_I) 0 = .ok (.aload_n 0, 1) := by decide +kernel
theorem d_SB_append_I_1 : decode (mMc M_SB_append_I) 1 = .ok (.iload_n 1, 1) := by decide +kernel
theorem d_SB_append_I_2 : decode (mMc M_SB_append_I) 2 = .ok (.invokespecial 53, 3) := by decide +kernel
theorem d_SB_append_I_5 : decode (mMc M_SB_append_I) 5 = .ok (.pop, 1) := by decide +kernel
theorem d_SB_append_I_6 : decode (mMc M_SB_append_I) 6 = .ok (.aload_n 0, 1) := by decide +kernel
theorem d_SB_append_I_7 : decode (mMc M_SB_append_I) 7 = .ok (.areturn, 1) := by decide +kernel
theorem k_SB_append_I : mCd M_SB_append_I 1 := ⟨by decide, by decide, by decide +kernel, by decide, mG (5, 9) (by decide +kernel), mG (1, 10) (by decide +kernel)⟩
def M_AB_append_I : mM := (⟨"java/lang/AbstractStringBuilder", "append", "(I)Ljava/lang/AbstractStringBuilder;"⟩, prog_15_method_32_code, 4, (some (.object "java/lang/AbstractStringBuilder")), [])
theorem d_AB_append_I_0 : decode (mMc M_AB_append_I) 0 = .ok (.aload_n 0, 1) := by decide +kernel
theorem d_AB_append_I_1 : decode (mMc M_AB_append_I) 1 = .ok (.getfield 79, 3) := by decide +kernel
theorem d_AB_append_I_4 : decode (mMc M_AB_append_I) 4 = .ok (.istore_n 2, 1) := by decide +kernel
theorem d_AB_append_I_5 : decode (mMc M_AB_append_I) 5 = .ok (.iload_n 2, 1) := by decide +kernel
theorem d_AB_append_I_6 : decode (mMc M_AB_append_I) 6 = .ok (.iload_n 1, 1) := by decide +kernel
theorem d_AB_append_I_7 : decode (mMc M_AB_append_I) 7 = .ok (.invokestatic 245, 3) := by decide +kernel
theorem d_AB_append_I_10 : decode (mMc M_AB_append_I) 10 = .ok (.iadd, 1) := by decide +kernel
theorem d_AB_append_I_11 : decode (mMc M_AB_append_I) 11 = .ok (.istore_n 3, 1) := by decide +kernel
theorem d_AB_append_I_12 : decode (mMc M_AB_append_I) 12 = .ok (.aload_n 0, 1) := by decide +kernel
theorem d_AB_append_I_13 : decode (mMc M_AB_append_I) 13 = .ok (.iload_n 3, 1) := by decide +kernel
theorem d_AB_append_I_14 : decode (mMc M_AB_append_I) 14 = .ok (.invokevirtual 100, 3) := by decide +kernel
theorem d_AB_append_I_17 : decode (mMc M_AB_append_I) 17 = .ok (.aload_n 0, 1) := by decide +kernel
theorem d_AB_append_I_18 : decode (mMc M_AB_append_I) 18 = .ok (.invokevirtual 83, 3) := by decide +kernel
theorem d_AB_append_I_21 : decode (mMc M_AB_append_I) 21 = .ok (.ifCond .eq 16, 3) := by decide +kernel
theorem d_AB_append_I_24 : decode (mMc M_AB_append_I) 24 = .ok (.iload_n 1, 1) := by decide +kernel
theorem d_AB_append_I_25 : decode (mMc M_AB_append_I) 25 = .ok (.iload_n 3, 1) := by decide +kernel
theorem d_AB_append_I_26 : decode (mMc M_AB_append_I) 26 = .ok (.aload_n 0, 1) := by decide +kernel
theorem d_AB_append_I_27 : decode (mMc M_AB_append_I) 27 = .ok (.getfield 15, 3) := by decide +kernel
theorem d_AB_append_I_30 : decode (mMc M_AB_append_I) 30 = .ok (.invokestatic 248, 3) := by decide +kernel
theorem d_AB_append_I_33 : decode (mMc M_AB_append_I) 33 = .ok (.pop, 1) := by decide +kernel
theorem d_AB_append_I_34 : decode (mMc M_AB_append_I) 34 = .ok (.goto 14, 3) := by decide +kernel
theorem d_AB_append_I_37 : decode (mMc M_AB_append_I) 37 = .ok (.iload_n 1, 1) := by decide +kernel
theorem d_AB_append_I_38 : decode (mMc M_AB_append_I) 38 = .ok (.iload_n 2, 1) := by decide +kernel
theorem d_AB_append_I_39 : decode (mMc M_AB_append_I) 39 = .ok (.iload_n 3, 1) := by decide +kernel
theorem d_AB_append_I_40 : decode (mMc M_AB_append_I) 40 = .ok (.aload_n 0, 1) := by decide +kernel
theorem d_AB_append_I_41 : decode (mMc M_AB_append_I) 41 = .ok (.getfield 15, 3) := by decide +kernel
theorem d_AB_append_I_44 : decode (mMc M_AB_append_I) 44 = .ok (.invokestatic 251, 3) := by decide +kernel
theorem d_AB_append_I_47 : decode (mMc M_AB_append_I) 47 = .ok (.pop, 1) := by decide +kernel
theorem d_AB_append_I_48 : decode (mMc M_AB_append_I) 48 = .ok (.aload_n 0, 1) := by decide +kernel
theorem d_AB_append_I_49 : decode (mMc M_AB_append_I) 49 = .ok (.iload_n 3, 1) := by decide +kernel
theorem d_AB_append_I_50 : decode (mMc M_AB_append_I) 50 = .ok (.putfield 79, 3) := by decide +kernel
theorem d_AB_append_I_53 : decode (mMc M_AB_append_I) 53 = .ok (.aload_n 0, 1) := by decide +kernel
theorem d_AB_append_I_54 : decode (mMc M_AB_append_I) 54 = .ok (.areturn, 1) := by decide +kernel
theorem k_AB_append_I : mCd M_AB_append_I 1 := ⟨by decide, by decide, by decide +kernel, by decide, mG (5, 12) (by decide +kernel), mG (1, 9) (by decide +kernel)⟩
def M_IN_stringSize : mM := (⟨"java/lang/Integer", "stringSize", "(I)I"⟩, prog_27_method_13_code, 4, (some .int), [])
theorem d_IN_stringSize_0 : decode (mMc M_IN_stringSize) 0 = .ok (.iconst 1, 1) := by decide +kernel
theorem d_IN_stringSize_1 : decode (mMc M_IN_stringSize) 1 = .ok (.istore_n 1, 1) := by decide +kernel
theorem d_IN_stringSize_2 : decode (mMc M_IN_stringSize) 2 = .ok (.iload_n 0, 1) := by decide +kernel
theorem d_IN_stringSize_3 : decode (mMc M_IN_stringSize) 3 = .ok (.ifCond .lt 8, 3) := by decide +kernel
theorem d_IN_stringSize_6 : decode (mMc M_IN_stringSize) 6 = .ok (.iconst 0, 1) := by decide +kernel
theorem d_IN_stringSize_7 : decode (mMc M_IN_stringSize) 7 = .ok (.istore_n 1, 1) := by decide +kernel
theorem d_IN_stringSize_8 : decode (mMc M_IN_stringSize) 8 = .ok (.iload_n 0, 1) := by decide +kernel
theorem d_IN_stringSize_9 : decode (mMc M_IN_stringSize) 9 = .ok (.ineg, 1) := by decide +kernel
theorem d_IN_stringSize_10 : decode (mMc M_IN_stringSize) 10 = .ok (.istore_n 0, 1) := by decide +kernel
theorem d_IN_stringSize_11 : decode (mMc M_IN_stringSize) 11 = .ok (.bipush (-10), 2) := by decide +kernel
theorem d_IN_stringSize_13 : decode (mMc M_IN_stringSize) 13 = .ok (.istore_n 2, 1) := by decide +kernel
theorem d_IN_stringSize_14 : decode (mMc M_IN_stringSize) 14 = .ok (.iconst 1, 1) := by decide +kernel
theorem d_IN_stringSize_15 : decode (mMc M_IN_stringSize) 15 = .ok (.istore_n 3, 1) := by decide +kernel
theorem d_IN_stringSize_16 : decode (mMc M_IN_stringSize) 16 = .ok (.iload_n 3, 1) := by decide +kernel
theorem d_IN_stringSize_17 : decode (mMc M_IN_stringSize) 17 = .ok (.bipush 10, 2) := by decide +kernel
theorem d_IN_stringSize_19 : decode (mMc M_IN_stringSize) 19 = .ok (.if_icmp .ge 23, 3) := by decide +kernel
theorem d_IN_stringSize_22 : decode (mMc M_IN_stringSize) 22 = .ok (.iload_n 0, 1) := by decide +kernel
theorem d_IN_stringSize_23 : decode (mMc M_IN_stringSize) 23 = .ok (.iload_n 2, 1) := by decide +kernel
theorem d_IN_stringSize_24 : decode (mMc M_IN_stringSize) 24 = .ok (.if_icmp .le 7, 3) := by decide +kernel
theorem d_IN_stringSize_27 : decode (mMc M_IN_stringSize) 27 = .ok (.iload_n 3, 1) := by decide +kernel
theorem d_IN_stringSize_28 : decode (mMc M_IN_stringSize) 28 = .ok (.iload_n 1, 1) := by decide +kernel
theorem d_IN_stringSize_29 : decode (mMc M_IN_stringSize) 29 = .ok (.iadd, 1) := by decide +kernel
theorem d_IN_stringSize_30 : decode (mMc M_IN_stringSize) 30 = .ok (.ireturn, 1) := by decide +kernel
theorem d_IN_stringSize_31 : decode (mMc M_IN_stringSize) 31 = .ok (.bipush 10, 2) := by decide +kernel
theorem d_IN_stringSize_33 : decode (mMc M_IN_stringSize) 33 = .ok (.iload_n 2, 1) := by decide +kernel
theorem d_IN_stringSize_34 : decode (mMc M_IN_stringSize) 34 = .ok (.imul, 1) := by decide +kernel
theorem d_IN_stringSize_35 : decode (mMc M_IN_stringSize) 35 = .ok (.istore_n 2, 1) := by decide +kernel
theorem d_IN_stringSize_36 : decode (mMc M_IN_stringSize) 36 = .ok (.iinc 3 1, 3) := by decide +kernel
theorem d_IN_stringSize_39 : decode (mMc M_IN_stringSize) 39 = .ok (.goto (-23), 3) := by decide +kernel
theorem d_IN_stringSize_42 : decode (mMc M_IN_stringSize) 42 = .ok (.bipush 10, 2) := by decide +kernel
theorem d_IN_stringSize_44 : decode (mMc M_IN_stringSize) 44 = .ok (.iload_n 1, 1) := by decide +kernel
theorem d_IN_stringSize_45 : decode (mMc M_IN_stringSize) 45 = .ok (.iadd, 1) := by decide +kernel
theorem d_IN_stringSize_46 : decode (mMc M_IN_stringSize) 46 = .ok (.ireturn, 1) := by decide +kernel
theorem k_IN_stringSize : mCd M_IN_stringSize 1 := ⟨by decide, by decide, by decide +kernel, by decide, mG (5, 15) (by decide +kernel), mG (1, 32) (by decide +kernel)⟩
def M_IN_getChars : mM := (⟨"java/lang/Integer", "getChars", "(II[B)I"⟩, prog_27_method_12_code, 7, (some .int), [])
theorem d_IN_getChars_0 : decode (mMc M_IN_getChars) 0 = .ok (.iload_n 1, 1) := by decide +kernel
theorem d_IN_getChars_1 : decode (mMc M_IN_getChars) 1 = .ok (.istore 5, 2) := by decide +kernel
theorem d_IN_getChars_3 : decode (mMc M_IN_getChars) 3 = .ok (.iload_n 0, 1) := by decide +kernel
theorem d_IN_getChars_4 : decode (mMc M_IN_getChars) 4 = .ok (.ifCond .ge 7, 3) := by decide +kernel
theorem d_IN_getChars_7 : decode (mMc M_IN_getChars) 7 = .ok (.iconst 1, 1) := by decide +kernel
theorem d_IN_getChars_8 : decode (mMc M_IN_getChars) 8 = .ok (.goto 4, 3) := by decide +kernel
theorem d_IN_getChars_11 : decode (mMc M_IN_getChars) 11 = .ok (.iconst 0, 1) := by decide +kernel
theorem d_IN_getChars_12 : decode (mMc M_IN_getChars) 12 = .ok (.istore 6, 2) := by decide +kernel
theorem d_IN_getChars_14 : decode (mMc M_IN_getChars) 14 = .ok (.iload 6, 2) := by decide +kernel
theorem d_IN_getChars_16 : decode (mMc M_IN_getChars) 16 = .ok (.ifCond .ne 6, 3) := by decide +kernel
theorem d_IN_getChars_19 : decode (mMc M_IN_getChars) 19 = .ok (.iload_n 0, 1) := by decide +kernel
theorem d_IN_getChars_20 : decode (mMc M_IN_getChars) 20 = .ok (.ineg, 1) := by decide +kernel
theorem d_IN_getChars_21 : decode (mMc M_IN_getChars) 21 = .ok (.istore_n 0, 1) := by decide +kernel
theorem d_IN_getChars_22 : decode (mMc M_IN_getChars) 22 = .ok (.iload_n 0, 1) := by decide +kernel
theorem d_IN_getChars_23 : decode (mMc M_IN_getChars) 23 = .ok (.bipush (-100), 2) := by decide +kernel
theorem d_IN_getChars_25 : decode (mMc M_IN_getChars) 25 = .ok (.if_icmp .gt 47, 3) := by decide +kernel
theorem d_IN_getChars_28 : decode (mMc M_IN_getChars) 28 = .ok (.iload_n 0, 1) := by decide +kernel
theorem d_IN_getChars_29 : decode (mMc M_IN_getChars) 29 = .ok (.bipush 100, 2) := by decide +kernel
theorem d_IN_getChars_31 : decode (mMc M_IN_getChars) 31 = .ok (.idiv, 1) := by decide +kernel
theorem d_IN_getChars_32 : decode (mMc M_IN_getChars) 32 = .ok (.istore_n 3, 1) := by decide +kernel
theorem d_IN_getChars_33 : decode (mMc M_IN_getChars) 33 = .ok (.iload_n 3, 1) := by decide +kernel
theorem d_IN_getChars_34 : decode (mMc M_IN_getChars) 34 = .ok (.bipush 100, 2) := by decide +kernel
theorem d_IN_getChars_36 : decode (mMc M_IN_getChars) 36 = .ok (.imul, 1) := by decide +kernel
theorem d_IN_getChars_37 : decode (mMc M_IN_getChars) 37 = .ok (.iload_n 0, 1) := by decide +kernel
theorem d_IN_getChars_38 : decode (mMc M_IN_getChars) 38 = .ok (.isub, 1) := by decide +kernel
theorem d_IN_getChars_39 : decode (mMc M_IN_getChars) 39 = .ok (.istore 4, 2) := by decide +kernel
theorem d_IN_getChars_41 : decode (mMc M_IN_getChars) 41 = .ok (.iload_n 3, 1) := by decide +kernel
theorem d_IN_getChars_42 : decode (mMc M_IN_getChars) 42 = .ok (.istore_n 0, 1) := by decide +kernel
theorem d_IN_getChars_43 : decode (mMc M_IN_getChars) 43 = .ok (.aload_n 2, 1) := by decide +kernel
theorem d_IN_getChars_44 : decode (mMc M_IN_getChars) 44 = .ok (.iinc 5 (-1), 3) := by decide +kernel
theorem d_IN_getChars_47 : decode (mMc M_IN_getChars) 47 = .ok (.iload 5, 2) := by decide +kernel
theorem d_IN_getChars_49 : decode (mMc M_IN_getChars) 49 = .ok (.getstatic 83, 3) := by decide +kernel
theorem d_IN_getChars_52 : decode (mMc M_IN_getChars) 52 = .ok (.iload 4, 2) := by decide +kernel
theorem d_IN_getChars_54 : decode (mMc M_IN_getChars) 54 = .ok (.baload, 1) := by decide +kernel
theorem d_IN_getChars_55 : decode (mMc M_IN_getChars) 55 = .ok (.bastore, 1) := by decide +kernel
theorem d_IN_getChars_56 : decode (mMc M_IN_getChars) 56 = .ok (.aload_n 2, 1) := by decide +kernel
theorem d_IN_getChars_57 : decode (mMc M_IN_getChars) 57 = .ok (.iinc 5 (-1), 3) := by decide +kernel
theorem d_IN_getChars_60 : decode (mMc M_IN_getChars) 60 = .ok (.iload 5, 2) := by decide +kernel
theorem d_IN_getChars_62 : decode (mMc M_IN_getChars) 62 = .ok (.getstatic 87, 3) := by decide +kernel
theorem d_IN_getChars_65 : decode (mMc M_IN_getChars) 65 = .ok (.iload 4, 2) := by decide +kernel
theorem d_IN_getChars_67 : decode (mMc M_IN_getChars) 67 = .ok (.baload, 1) := by decide +kernel
theorem d_IN_getChars_68 : decode (mMc M_IN_getChars) 68 = .ok (.bastore, 1) := by decide +kernel
theorem d_IN_getChars_69 : decode (mMc M_IN_getChars) 69 = .ok (.goto (-47), 3) := by decide +kernel
theorem d_IN_getChars_72 : decode (mMc M_IN_getChars) 72 = .ok (.aload_n 2, 1) := by decide +kernel
theorem d_IN_getChars_73 : decode (mMc M_IN_getChars) 73 = .ok (.iinc 5 (-1), 3) := by decide +kernel
theorem d_IN_getChars_76 : decode (mMc M_IN_getChars) 76 = .ok (.iload 5, 2) := by decide +kernel
theorem d_IN_getChars_78 : decode (mMc M_IN_getChars) 78 = .ok (.getstatic 83, 3) := by decide +kernel
theorem d_IN_getChars_81 : decode (mMc M_IN_getChars) 81 = .ok (.iload_n 0, 1) := by decide +kernel
theorem d_IN_getChars_82 : decode (mMc M_IN_getChars) 82 = .ok (.ineg, 1) := by decide +kernel
theorem d_IN_getChars_83 : decode (mMc M_IN_getChars) 83 = .ok (.baload, 1) := by decide +kernel
theorem d_IN_getChars_84 : decode (mMc M_IN_getChars) 84 = .ok (.bastore, 1) := by decide +kernel
theorem d_IN_getChars_85 : decode (mMc M_IN_getChars) 85 = .ok (.iload_n 0, 1) := by decide +kernel
theorem d_IN_getChars_86 : decode (mMc M_IN_getChars) 86 = .ok (.bipush (-9), 2) := by decide +kernel
theorem d_IN_getChars_88 : decode (mMc M_IN_getChars) 88 = .ok (.if_icmp .ge 16, 3) := by decide +kernel
theorem d_IN_getChars_91 : decode (mMc M_IN_getChars) 91 = .ok (.aload_n 2, 1) := by decide +kernel
theorem d_IN_getChars_92 : decode (mMc M_IN_getChars) 92 = .ok (.iinc 5 (-1), 3) := by decide +kernel
theorem d_IN_getChars_95 : decode (mMc M_IN_getChars) 95 = .ok (.iload 5, 2) := by decide +kernel
theorem d_IN_getChars_97 : decode (mMc M_IN_getChars) 97 = .ok (.getstatic 87, 3) := by decide +kernel
theorem d_IN_getChars_100 : decode (mMc M_IN_getChars) 100 = .ok (.iload_n 0, 1) := by decide +kernel
theorem d_IN_getChars_101 : decode (mMc M_IN_getChars) 101 = .ok (.ineg, 1) := by decide +kernel
theorem d_IN_getChars_102 : decode (mMc M_IN_getChars) 102 = .ok (.baload, 1) := by decide +kernel
theorem d_IN_getChars_103 : decode (mMc M_IN_getChars) 103 = .ok (.bastore, 1) := by decide +kernel
theorem d_IN_getChars_104 : decode (mMc M_IN_getChars) 104 = .ok (.iload 6, 2) := by decide +kernel
theorem d_IN_getChars_106 : decode (mMc M_IN_getChars) 106 = .ok (.ifCond .eq 12, 3) := by decide +kernel
theorem d_IN_getChars_109 : decode (mMc M_IN_getChars) 109 = .ok (.aload_n 2, 1) := by decide +kernel
theorem d_IN_getChars_110 : decode (mMc M_IN_getChars) 110 = .ok (.iinc 5 (-1), 3) := by decide +kernel
theorem d_IN_getChars_113 : decode (mMc M_IN_getChars) 113 = .ok (.iload 5, 2) := by decide +kernel
theorem d_IN_getChars_115 : decode (mMc M_IN_getChars) 115 = .ok (.bipush 45, 2) := by decide +kernel
theorem d_IN_getChars_117 : decode (mMc M_IN_getChars) 117 = .ok (.bastore, 1) := by decide +kernel
theorem d_IN_getChars_118 : decode (mMc M_IN_getChars) 118 = .ok (.iload 5, 2) := by decide +kernel
theorem d_IN_getChars_120 : decode (mMc M_IN_getChars) 120 = .ok (.ireturn, 1) := by decide +kernel
theorem k_IN_getChars : mCd M_IN_getChars 3 := ⟨by decide, by decide, by decide +kernel, by decide, mG (5, 18) (by decide +kernel), mG (1, 32) (by decide +kernel)⟩
def M_SB_length : mM := (⟨"java/lang/StringBuilder", "length", "()I"⟩, prog_32_method_93_code, 1, (some .int), [])
theorem d_SB_length_0 : decode (mMc M_SB_length) 0 = .ok (.aload_n 0, 1) := by decide +kernel
theorem d_SB_length_1 : decode (mMc M_SB_length) 1 = .ok (.invokespecial 343, 3) := by decide +kernel
theorem d_SB_length_4 : decode (mMc M_SB_length) 4 = .ok (.ireturn, 1) := by decide +kernel
theorem k_SB_length : mCd M_SB_length 0 := ⟨by decide, by decide, by decide +kernel, by decide, mG (4, 105) (by decide +kernel), mG (1, 10) (by decide +kernel)⟩
def M_AB_length : mM := (⟨"java/lang/AbstractStringBuilder", "length", "()I"⟩, prog_15_method_6_code, 1, (some .int), [])
theorem d_AB_length_0 : decode (mMc M_AB_length) 0 = .ok (.aload_n 0, 1) := by decide +kernel
theorem d_AB_length_1 : decode (mMc M_AB_length) 1 = .ok (.getfield 79, 3) := by decide +kernel
theorem d_AB_length_4 : decode (mMc M_AB_length) 4 = .ok (.ireturn, 1) := by decide +kernel
theorem k_AB_length : mCd M_AB_length 0 := ⟨by decide, by decide, by decide +kernel, by decide, mG (4, 108) (by decide +kernel), mG (1, 9) (by decide +kernel)⟩
def M_SB_append_C : mM := (⟨"java/lang/StringBuilder", "append", "(C)Ljava/lang/StringBuilder;"⟩, prog_32_method_14_code, 2, (some (.object "java/lang/StringBuilder")), [])
theorem d_SB_append_C_0 : decode (mMc M_SB_append_C) 0 = .ok (.aload_n 0, 1) := by decide +kernel
theorem d_SB_append_C_1 : decode (mMc M_SB_append_C) 1 = .ok (.iload_n 1, 1) := by decide +kernel
theorem d_SB_append_C_2 : decode (mMc M_SB_append_C) 2 = .ok (.invokespecial 50, 3) := by decide +kernel
theorem d_SB_append_C_5 : decode (mMc M_SB_append_C) 5 = .ok (.pop, 1) := by decide +kernel
theorem d_SB_append_C_6 : decode (mMc M_SB_append_C) 6 = .ok (.aload_n 0, 1) := by decide +kernel
theorem d_SB_append_C_7 : decode (mMc M_SB_append_C) 7 = .ok (.areturn, 1) := by decide +kernel
theorem k_SB_append_C : mCd M_SB_append_C 1 := ⟨by decide, by decide, by decide +kernel, by decide, mG (6, 134) (by decide +kernel), mG (1, 10) (by decide +kernel)⟩
def M_AB_append_C : mM := (⟨"java/lang/AbstractStringBuilder", "append", "(C)Ljava/lang/AbstractStringBuilder;"⟩, prog_15_method_31_code, 2, (some (.object "java/lang/AbstractStringBuilder")), [])
theorem d_AB_append_C_0 : decode (mMc M_AB_append_C) 0 = .ok (.aload_n 0, 1) := by decide +kernel
theorem d_AB_append_C_1 : decode (mMc M_AB_append_C) 1 = .ok (.aload_n 0, 1) := by decide +kernel
theorem d_AB_append_C_2 : decode (mMc M_AB_append_C) 2 = .ok (.getfield 79, 3) := by decide +kernel
theorem d_AB_append_C_5 : decode (mMc M_AB_append_C) 5 = .ok (.iconst 1, 1) := by decide +kernel
theorem d_AB_append_C_6 : decode (mMc M_AB_append_C) 6 = .ok (.iadd, 1) := by decide +kernel
theorem d_AB_append_C_7 : decode (mMc M_AB_append_C) 7 = .ok (.invokevirtual 100, 3) := by decide +kernel
theorem d_AB_append_C_10 : decode (mMc M_AB_append_C) 10 = .ok (.aload_n 0, 1) := by decide +kernel
theorem d_AB_append_C_11 : decode (mMc M_AB_append_C) 11 = .ok (.invokevirtual 83, 3) := by decide +kernel
theorem d_AB_append_C_14 : decode (mMc M_AB_append_C) 14 = .ok (.ifCond .eq 31, 3) := by decide +kernel
theorem d_AB_append_C_17 : decode (mMc M_AB_append_C) 17 = .ok (.iload_n 1, 1) := by decide +kernel
theorem d_AB_append_C_18 : decode (mMc M_AB_append_C) 18 = .ok (.invokestatic 191, 3) := by decide +kernel
theorem d_AB_append_C_21 : decode (mMc M_AB_append_C) 21 = .ok (.ifCond .eq 24, 3) := by decide +kernel
theorem d_AB_append_C_24 : decode (mMc M_AB_append_C) 24 = .ok (.aload_n 0, 1) := by decide +kernel
theorem d_AB_append_C_25 : decode (mMc M_AB_append_C) 25 = .ok (.getfield 15, 3) := by decide +kernel
theorem d_AB_append_C_28 : decode (mMc M_AB_append_C) 28 = .ok (.aload_n 0, 1) := by decide +kernel
theorem d_AB_append_C_29 : decode (mMc M_AB_append_C) 29 = .ok (.dup, 1) := by decide +kernel
theorem d_AB_append_C_30 : decode (mMc M_AB_append_C) 30 = .ok (.getfield 79, 3) := by decide +kernel
theorem d_AB_append_C_33 : decode (mMc M_AB_append_C) 33 = .ok (.dup_x1, 1) := by decide +kernel
theorem d_AB_append_C_34 : decode (mMc M_AB_append_C) 34 = .ok (.iconst 1, 1) := by decide +kernel
theorem d_AB_append_C_35 : decode (mMc M_AB_append_C) 35 = .ok (.iadd, 1) := by decide +kernel
theorem d_AB_append_C_36 : decode (mMc M_AB_append_C) 36 = .ok (.putfield 79, 3) := by decide +kernel
theorem d_AB_append_C_39 : decode (mMc M_AB_append_C) 39 = .ok (.iload_n 1, 1) := by decide +kernel
theorem d_AB_append_C_40 : decode (mMc M_AB_append_C) 40 = .ok (.i2b, 1) := by decide +kernel
theorem d_AB_append_C_41 : decode (mMc M_AB_append_C) 41 = .ok (.bastore, 1) := by decide +kernel
theorem d_AB_append_C_42 : decode (mMc M_AB_append_C) 42 = .ok (.goto 33, 3) := by decide +kernel
theorem d_AB_append_C_45 : decode (mMc M_AB_append_C) 45 = .ok (.aload_n 0, 1) := by decide +kernel
theorem d_AB_append_C_46 : decode (mMc M_AB_append_C) 46 = .ok (.invokevirtual 83, 3) := by decide +kernel
theorem d_AB_append_C_49 : decode (mMc M_AB_append_C) 49 = .ok (.ifCond .eq 7, 3) := by decide +kernel
theorem d_AB_append_C_52 : decode (mMc M_AB_append_C) 52 = .ok (.aload_n 0, 1) := by decide +kernel
theorem d_AB_append_C_53 : decode (mMc M_AB_append_C) 53 = .ok (.invokevirtual 195, 3) := by decide +kernel
theorem d_AB_append_C_56 : decode (mMc M_AB_append_C) 56 = .ok (.aload_n 0, 1) := by decide +kernel
theorem d_AB_append_C_57 : decode (mMc M_AB_append_C) 57 = .ok (.getfield 15, 3) := by decide +kernel
theorem d_AB_append_C_60 : decode (mMc M_AB_append_C) 60 = .ok (.aload_n 0, 1) := by decide +kernel
theorem d_AB_append_C_61 : decode (mMc M_AB_append_C) 61 = .ok (.dup, 1) := by decide +kernel
theorem d_AB_append_C_62 : decode (mMc M_AB_append_C) 62 = .ok (.getfield 79, 3) := by decide +kernel
theorem d_AB_append_C_65 : decode (mMc M_AB_append_C) 65 = .ok (.dup_x1, 1) := by decide +kernel
theorem d_AB_append_C_66 : decode (mMc M_AB_append_C) 66 = .ok (.iconst 1, 1) := by decide +kernel
theorem d_AB_append_C_67 : decode (mMc M_AB_append_C) 67 = .ok (.iadd, 1) := by decide +kernel
theorem d_AB_append_C_68 : decode (mMc M_AB_append_C) 68 = .ok (.putfield 79, 3) := by decide +kernel
theorem d_AB_append_C_71 : decode (mMc M_AB_append_C) 71 = .ok (.iload_n 1, 1) := by decide +kernel
theorem d_AB_append_C_72 : decode (mMc M_AB_append_C) 72 = .ok (.invokestatic 197, 3) := by decide +kernel
theorem d_AB_append_C_75 : decode (mMc M_AB_append_C) 75 = .ok (.aload_n 0, 1) := by decide +kernel
theorem d_AB_append_C_76 : decode (mMc M_AB_append_C) 76 = .ok (.areturn, 1) := by decide +kernel
theorem k_AB_append_C : mCd M_AB_append_C 1 := ⟨by decide, by decide, by decide +kernel, by decide, mG (6, 137) (by decide +kernel), mG (1, 9) (by decide +kernel)⟩
def M_S1_canEncode : mM := (⟨"java/lang/StringLatin1", "canEncode", "(C)Z"⟩, prog_34_method_3_code, 1, (some .boolean), [])
theorem d_S1_canEncode_0 : decode (mMc M_S1_canEncode) 0 = .ok (.iload_n 0, 1) := by decide +kernel
theorem d_S1_canEncode_1 : decode (mMc M_S1_canEncode) 1 = .ok (.sipush 255, 3) := by decide +kernel
theorem d_S1_canEncode_4 : decode (mMc M_S1_canEncode) 4 = .ok (.if_icmp .gt 7, 3) := by decide +kernel
theorem d_S1_canEncode_7 : decode (mMc M_S1_canEncode) 7 = .ok (.iconst 1, 1) := by decide +kernel
theorem d_S1_canEncode_8 : decode (mMc M_S1_canEncode) 8 = .ok (.goto 4, 3) := by decide +kernel
theorem d_S1_canEncode_11 : decode (mMc M_S1_canEncode) 11 = .ok (.iconst 0, 1) := by decide +kernel
theorem d_S1_canEncode_12 : decode (mMc M_S1_canEncode) 12 = .ok (.ireturn, 1) := by decide +kernel
theorem k_S1_canEncode : mCd M_S1_canEncode 1 := ⟨by decide, by decide, by decide +kernel, by decide, mG (6, 140) (by decide +kernel), mG (1, 25) (by decide +kernel)⟩
def M_ST_checkIndex : mM := (⟨"java/lang/String", "checkIndex", "(II)V"⟩, prog_31_method_155_code, 2, none, [])
theorem d_ST_checkIndex_0 : decode (mMc M_ST_checkIndex) 0 = .ok (.iload_n 0, 1) := by decide +kernel
theorem d_ST_checkIndex_1 : decode (mMc M_ST_checkIndex) 1 = .ok (.iload_n 1, 1) := by decide +kernel
theorem d_ST_checkIndex_2 : decode (mMc M_ST_checkIndex) 2 = .ok (.getstatic 1053, 3) := by decide +kernel
theorem d_ST_checkIndex_5 : decode (mMc M_ST_checkIndex) 5 = .ok (.invokestatic 1059, 3) := by decide +kernel
theorem d_ST_checkIndex_8 : decode (mMc M_ST_checkIndex) 8 = .ok (.pop, 1) := by decide +kernel
theorem d_ST_checkIndex_9 : decode (mMc M_ST_checkIndex) 9 = .ok (.return_, 1) := by decide +kernel
theorem k_ST_checkIndex : mCd M_ST_checkIndex 2 := ⟨by decide, by decide, by decide +kernel, by decide, mG (4, 65) (by decide +kernel), mG (1, 11) (by decide +kernel)⟩
def M_PR_checkIndex : mM := (⟨"jdk/internal/util/Preconditions", "checkIndex", "(IILjava/util/function/BiFunction;)I"⟩, prog_44_method_11_code, 3, (some .int), [])
theorem d_PR_checkIndex_0 : decode (mMc M_PR_checkIndex) 0 = .ok (.iload_n 0, 1) := by decide +kernel
theorem d_PR_checkIndex_1 : decode (mMc M_PR_checkIndex) 1 = .ok (.ifCond .lt 8, 3) := by decide +kernel
theorem d_PR_checkIndex_4 : decode (mMc M_PR_checkIndex) 4 = .ok (.iload_n 0, 1) := by decide +kernel
theorem d_PR_checkIndex_5 : decode (mMc M_PR_checkIndex) 5 = .ok (.iload_n 1, 1) := by decide +kernel
theorem d_PR_checkIndex_6 : decode (mMc M_PR_checkIndex) 6 = .ok (.if_icmp .lt 10, 3) := by decide +kernel
theorem d_PR_checkIndex_9 : decode (mMc M_PR_checkIndex) 9 = .ok (.aload_n 2, 1) := by decide +kernel
theorem d_PR_checkIndex_10 : decode (mMc M_PR_checkIndex) 10 = .ok (.iload_n 0, 1) := by decide +kernel
theorem d_PR_checkIndex_11 : decode (mMc M_PR_checkIndex) 11 = .ok (.iload_n 1, 1) := by decide +kernel
theorem d_PR_checkIndex_12 : decode (mMc M_PR_checkIndex) 12 = .ok (.invokestatic 95, 3) := by decide +kernel
theorem d_PR_checkIndex_15 : decode (mMc M_PR_checkIndex) 15 = .ok (.athrow, 1) := by decide +kernel
theorem d_PR_checkIndex_16 : decode (mMc M_PR_checkIndex) 16 = .ok (.iload_n 0, 1) := by decide +kernel
theorem d_PR_checkIndex_17 : decode (mMc M_PR_checkIndex) 17 = .ok (.ireturn, 1) := by decide +kernel
theorem k_PR_checkIndex : mCd M_PR_checkIndex 3 := ⟨by decide, by decide, by decide +kernel, by decide, mG (4, 70) (by decide +kernel), mG (1, 26) (by decide +kernel)⟩
def M_ST_charAt : mM := (⟨"java/lang/String", "charAt", "(I)C"⟩, prog_31_method_56_code, 2, (some .char), [])
theorem d_ST_charAt_0 : decode (mMc M_ST_charAt) 0 = .ok (.aload_n 0, 1) := by decide +kernel
theorem d_ST_charAt_1 : decode (mMc M_ST_charAt) 1 = .ok (.invokevirtual 492, 3) := by decide +kernel
theorem d_ST_charAt_4 : decode (mMc M_ST_charAt) 4 = .ok (.ifCond .eq 12, 3) := by decide +kernel
theorem d_ST_charAt_7 : decode (mMc M_ST_charAt) 7 = .ok (.aload_n 0, 1) := by decide +kernel
theorem d_ST_charAt_8 : decode (mMc M_ST_charAt) 8 = .ok (.getfield 9, 3) := by decide +kernel
theorem d_ST_charAt_11 : decode (mMc M_ST_charAt) 11 = .ok (.iload_n 1, 1) := by decide +kernel
theorem d_ST_charAt_12 : decode (mMc M_ST_charAt) 12 = .ok (.invokestatic 495, 3) := by decide +kernel
theorem d_ST_charAt_15 : decode (mMc M_ST_charAt) 15 = .ok (.ireturn, 1) := by decide +kernel
theorem d_ST_charAt_16 : decode (mMc M_ST_charAt) 16 = .ok (.aload_n 0, 1) := by decide +kernel
theorem d_ST_charAt_17 : decode (mMc M_ST_charAt) 17 = .ok (.getfield 9, 3) := by decide +kernel
theorem d_ST_charAt_20 : decode (mMc M_ST_charAt) 20 = .ok (.iload_n 1, 1) := by decide +kernel
theorem d_ST_charAt_21 : decode (mMc M_ST_charAt) 21 = .ok (.invokestatic 498, 3) := by decide +kernel
theorem d_ST_charAt_24 : decode (mMc M_ST_charAt) 24 = .ok (.ireturn, 1) := by decide +kernel
theorem k_ST_charAt : mCd M_ST_charAt 1 := ⟨by decide, by decide, by decide +kernel, by decide, mG (4, 55) (by decide +kernel), mG (1, 11) (by decide +kernel)⟩
def M_ST_isLatin1 : mM := (⟨"java/lang/String", "isLatin1", "()Z"⟩, prog_31_method_154_code, 1, (some .boolean), [])
theorem d_ST_isLatin1_0 : decode (mMc M_ST_isLatin1) 0 = .ok (.getstatic 38, 3) := by decide +kernel
theorem d_ST_isLatin1_3 : decode (mMc M_ST_isLatin1) 3 = .ok (.ifCond .eq 14, 3) := by decide +kernel
theorem d_ST_isLatin1_6 : decode (mMc M_ST_isLatin1) 6 = .ok (.aload_n 0, 1) := by decide +kernel
theorem d_ST_isLatin1_7 : decode (mMc M_ST_isLatin1) 7 = .ok (.getfield 15, 3) := by decide +kernel
theorem d_ST_isLatin1_10 : decode (mMc M_ST_isLatin1) 10 = .ok (.ifCond .ne 7, 3) := by decide +kernel
theorem d_ST_isLatin1_13 : decode (mMc M_ST_isLatin1) 13 = .ok (.iconst 1, 1) := by decide +kernel
theorem d_ST_isLatin1_14 : decode (mMc M_ST_isLatin1) 14 = .ok (.goto 4, 3) := by decide +kernel
theorem d_ST_isLatin1_17 : decode (mMc M_ST_isLatin1) 17 = .ok (.iconst 0, 1) := by decide +kernel
theorem d_ST_isLatin1_18 : decode (mMc M_ST_isLatin1) 18 = .ok (.ireturn, 1) := by decide +kernel
theorem k_ST_isLatin1 : mCd M_ST_isLatin1 0 := ⟨by decide, by decide, by decide +kernel, by decide, mG (4, 59) (by decide +kernel), mG (1, 11) (by decide +kernel)⟩
def M_ST_length : mM := (⟨"java/lang/String", "length", "()I"⟩, prog_31_method_54_code, 1, (some .int), [])
theorem d_ST_length_0 : decode (mMc M_ST_length) 0 = .ok (.aload_n 0, 1) := by decide +kernel
theorem d_ST_length_1 : decode (mMc M_ST_length) 1 = .ok (.getfield 9, 3) := by decide +kernel
theorem d_ST_length_4 : decode (mMc M_ST_length) 4 = .ok (.arraylength, 1) := by decide +kernel
theorem d_ST_length_5 : decode (mMc M_ST_length) 5 = .ok (.aload_n 0, 1) := by decide +kernel
theorem d_ST_length_6 : decode (mMc M_ST_length) 6 = .ok (.invokevirtual 335, 3) := by decide +kernel
theorem d_ST_length_9 : decode (mMc M_ST_length) 9 = .ok (.ishr, 1) := by decide +kernel
theorem d_ST_length_10 : decode (mMc M_ST_length) 10 = .ok (.ireturn, 1) := by decide +kernel
theorem k_ST_length : mCd M_ST_length 0 := ⟨by decide, by decide, by decide +kernel, by decide, mG (4, 46) (by decide +kernel), mG (1, 11) (by decide +kernel)⟩
def M_ST_coder : mM := (⟨"java/lang/String", "coder", "()B"⟩, prog_31_method_152_code, 1, (some .byte), [])
theorem d_ST_coder_0 : decode (mMc M_ST_coder) 0 = .ok (.getstatic 38, 3) := by decide +kernel
theorem d_ST_coder_3 : decode (mMc M_ST_coder) 3 = .ok (.ifCond .eq 10, 3) := by decide +kernel
theorem d_ST_coder_6 : decode (mMc M_ST_coder) 6 = .ok (.aload_n 0, 1) := by decide +kernel
theorem d_ST_coder_7 : decode (mMc M_ST_coder) 7 = .ok (.getfield 15, 3) := by decide +kernel
theorem d_ST_coder_10 : decode (mMc M_ST_coder) 10 = .ok (.goto 4, 3) := by decide +kernel
theorem d_ST_coder_13 : decode (mMc M_ST_coder) 13 = .ok (.iconst 1, 1) := by decide +kernel
theorem d_ST_coder_14 : decode (mMc M_ST_coder) 14 = .ok (.ireturn, 1) := by decide +kernel
theorem k_ST_coder : mCd M_ST_coder 0 := ⟨by decide, by decide, by decide +kernel, by decide, mG (4, 50) (by decide +kernel), mG (1, 11) (by decide +kernel)⟩
def M_S1_charAt : mM := (⟨"java/lang/StringLatin1", "charAt", "([BI)C"⟩, prog_34_method_2_code, 2, (some .char), [])
theorem d_S1_charAt_0 : decode (mMc M_S1_charAt) 0 = .ok (.iload_n 1, 1) := by decide +kernel
theorem d_S1_charAt_1 : decode (mMc M_S1_charAt) 1 = .ok (.aload_n 0, 1) := by decide +kernel
theorem d_S1_charAt_2 : decode (mMc M_S1_charAt) 2 = .ok (.arraylength, 1) := by decide +kernel
theorem d_S1_charAt_3 : decode (mMc M_S1_charAt) 3 = .ok (.invokestatic 9, 3) := by decide +kernel
theorem d_S1_charAt_6 : decode (mMc M_S1_charAt) 6 = .ok (.aload_n 0, 1) := by decide +kernel
theorem d_S1_charAt_7 : decode (mMc M_S1_charAt) 7 = .ok (.iload_n 1, 1) := by decide +kernel
theorem d_S1_charAt_8 : decode (mMc M_S1_charAt) 8 = .ok (.baload, 1) := by decide +kernel
theorem d_S1_charAt_9 : decode (mMc M_S1_charAt) 9 = .ok (.sipush 255, 3) := by decide +kernel
theorem d_S1_charAt_12 : decode (mMc M_S1_charAt) 12 = .ok (.iand, 1) := by decide +kernel
theorem d_S1_charAt_13 : decode (mMc M_S1_charAt) 13 = .ok (.i2c, 1) := by decide +kernel
theorem d_S1_charAt_14 : decode (mMc M_S1_charAt) 14 = .ok (.ireturn, 1) := by decide +kernel
theorem k_S1_charAt : mCd M_S1_charAt 2 := ⟨by decide, by decide, by decide +kernel, by decide, mG (4, 62) (by decide +kernel), mG (1, 25) (by decide +kernel)⟩
def M_SB_charAt : mM := (⟨"java/lang/StringBuilder", "charAt", "(I)C"⟩, prog_32_method_88_code, 2, (some .char), [])
theorem d_SB_charAt_0 : decode (mMc M_SB_charAt) 0 = .ok (.aload_n 0, 1) := by decide +kernel
theorem d_SB_charAt_1 : decode (mMc M_SB_charAt) 1 = .ok (.iload_n 1, 1) := by decide +kernel
theorem d_SB_charAt_2 : decode (mMc M_SB_charAt) 2 = .ok (.invokespecial 329, 3) := by decide +kernel
theorem d_SB_charAt_5 : decode (mMc M_SB_charAt) 5 = .ok (.ireturn, 1) := by decide +kernel
theorem k_SB_charAt : mCd M_SB_charAt 1 := ⟨by decide, by decide, by decide +kernel, by decide, mG (4, 112) (by decide +kernel), mG (1, 10) (by decide +kernel)⟩
def M_AB_charAt : mM := (⟨"java/lang/AbstractStringBuilder", "charAt", "(I)C"⟩, prog_15_method_14_code, 5, (some .char), [])
theorem d_AB_charAt_0 : decode (mMc M_AB_charAt) 0 = .ok (.aload_n 0, 1) := by decide +kernel
theorem d_AB_charAt_1 : decode (mMc M_AB_charAt) 1 = .ok (.getfield 22, 3) := by decide +kernel
theorem d_AB_charAt_4 : decode (mMc M_AB_charAt) 4 = .ok (.istore_n 2, 1) := by decide +kernel
theorem d_AB_charAt_5 : decode (mMc M_AB_charAt) 5 = .ok (.aload_n 0, 1) := by decide +kernel
theorem d_AB_charAt_6 : decode (mMc M_AB_charAt) 6 = .ok (.getfield 15, 3) := by decide +kernel
theorem d_AB_charAt_9 : decode (mMc M_AB_charAt) 9 = .ok (.astore_n 3, 1) := by decide +kernel
theorem d_AB_charAt_10 : decode (mMc M_AB_charAt) 10 = .ok (.aload_n 0, 1) := by decide +kernel
theorem d_AB_charAt_11 : decode (mMc M_AB_charAt) 11 = .ok (.getfield 79, 3) := by decide +kernel
theorem d_AB_charAt_14 : decode (mMc M_AB_charAt) 14 = .ok (.aload_n 3, 1) := by decide +kernel
theorem d_AB_charAt_15 : decode (mMc M_AB_charAt) 15 = .ok (.arraylength, 1) := by decide +kernel
theorem d_AB_charAt_16 : decode (mMc M_AB_charAt) 16 = .ok (.iload_n 2, 1) := by decide +kernel
theorem d_AB_charAt_17 : decode (mMc M_AB_charAt) 17 = .ok (.ishr, 1) := by decide +kernel
theorem d_AB_charAt_18 : decode (mMc M_AB_charAt) 18 = .ok (.invokestatic 138, 3) := by decide +kernel
theorem d_AB_charAt_21 : decode (mMc M_AB_charAt) 21 = .ok (.istore 4, 2) := by decide +kernel
theorem d_AB_charAt_23 : decode (mMc M_AB_charAt) 23 = .ok (.iload_n 1, 1) := by decide +kernel
theorem d_AB_charAt_24 : decode (mMc M_AB_charAt) 24 = .ok (.iload 4, 2) := by decide +kernel
theorem d_AB_charAt_26 : decode (mMc M_AB_charAt) 26 = .ok (.invokestatic 144, 3) := by decide +kernel
theorem d_AB_charAt_29 : decode (mMc M_AB_charAt) 29 = .ok (.iload_n 2, 1) := by decide +kernel
theorem d_AB_charAt_30 : decode (mMc M_AB_charAt) 30 = .ok (.ifCond .ne 12, 3) := by decide +kernel
theorem d_AB_charAt_33 : decode (mMc M_AB_charAt) 33 = .ok (.aload_n 3, 1) := by decide +kernel
theorem d_AB_charAt_34 : decode (mMc M_AB_charAt) 34 = .ok (.iload_n 1, 1) := by decide +kernel
theorem d_AB_charAt_35 : decode (mMc M_AB_charAt) 35 = .ok (.baload, 1) := by decide +kernel
theorem d_AB_charAt_36 : decode (mMc M_AB_charAt) 36 = .ok (.sipush 255, 3) := by decide +kernel
theorem d_AB_charAt_39 : decode (mMc M_AB_charAt) 39 = .ok (.iand, 1) := by decide +kernel
theorem d_AB_charAt_40 : decode (mMc M_AB_charAt) 40 = .ok (.i2c, 1) := by decide +kernel
theorem d_AB_charAt_41 : decode (mMc M_AB_charAt) 41 = .ok (.ireturn, 1) := by decide +kernel
theorem d_AB_charAt_42 : decode (mMc M_AB_charAt) 42 = .ok (.aload_n 3, 1) := by decide +kernel
theorem d_AB_charAt_43 : decode (mMc M_AB_charAt) 43 = .ok (.iload_n 1, 1) := by decide +kernel
theorem d_AB_charAt_44 : decode (mMc M_AB_charAt) 44 = .ok (.invokestatic 148, 3) := by decide +kernel
theorem d_AB_charAt_47 : decode (mMc M_AB_charAt) 47 = .ok (.ireturn, 1) := by decide +kernel
theorem k_AB_charAt : mCd M_AB_charAt 1 := ⟨by decide, by decide, by decide +kernel, by decide, mG (4, 115) (by decide +kernel), mG (1, 9) (by decide +kernel)⟩
def M_SB_append_o : mM := (⟨"java/lang/StringBuilder", "append", "(Ljava/lang/String;)Ljava/lang/StringBuilder;"⟩, prog_32_method_7_code, 2, (some (.object "java/lang/StringBuilder")), [])
theorem d_SB_append_o_0 : decode (mMc M_SB_append_o) 0 = .ok (.aload_n 0, 1) := by decide +kernel
theorem d_SB_append_o_1 : decode (mMc M_SB_append_o) 1 = .ok (.aload_n 1, 1) := by decide +kernel
theorem d_SB_append_o_2 : decode (mMc M_SB_append_o) 2 = .ok (.invokespecial 29, 3) := by decide +kernel
theorem d_SB_append_o_5 : decode (mMc M_SB_append_o) 5 = .ok (.pop, 1) := by decide +kernel
theorem d_SB_append_o_6 : decode (mMc M_SB_append_o) 6 = .ok (.aload_n 0, 1) := by decide +kernel
theorem d_SB_append_o_7 : decode (mMc M_SB_append_o) 7 = .ok (.areturn, 1) := by decide +kernel
theorem k_SB_append_o : mCd M_SB_append_o 1 := ⟨by decide, by decide, by decide +kernel, by decide, mG (4, 154) (by decide +kernel), mG (1, 10) (by decide +kernel)⟩
def M_AB_append_o : mM := (⟨"java/lang/AbstractStringBuilder", "append", "(Ljava/lang/String;)Ljava/lang/AbstractStringBuilder;"⟩, prog_15_method_22_code, 3, (some (.object "java/lang/AbstractStringBuilder")), [])
theorem d_AB_append_o_0 : decode (mMc M_AB_append_o) 0 = .ok (.aload_n 1, 1) := by decide +kernel
theorem d_AB_append_o_1 : decode (mMc M_AB_append_o) 1 = .ok (.ifnonnull 8, 3) := by decide +kernel
theorem d_AB_append_o_4 : decode (mMc M_AB_append_o) 4 = .ok (.aload_n 0, 1) := by decide +kernel
theorem d_AB_append_o_5 : decode (mMc M_AB_append_o) 5 = .ok (.invokevirtual 204, 3) := by decide +kernel
theorem d_AB_append_o_8 : decode (mMc M_AB_append_o) 8 = .ok (.areturn, 1) := by decide +kernel
theorem d_AB_append_o_9 : decode (mMc M_AB_append_o) 9 = .ok (.aload_n 1, 1) := by decide +kernel
theorem d_AB_append_o_10 : decode (mMc M_AB_append_o) 10 = .ok (.invokevirtual 32, 3) := by decide +kernel
theorem d_AB_append_o_13 : decode (mMc M_AB_append_o) 13 = .ok (.istore_n 2, 1) := by decide +kernel
theorem d_AB_append_o_14 : decode (mMc M_AB_append_o) 14 = .ok (.aload_n 0, 1) := by decide +kernel
theorem d_AB_append_o_15 : decode (mMc M_AB_append_o) 15 = .ok (.aload_n 0, 1) := by decide +kernel
theorem d_AB_append_o_16 : decode (mMc M_AB_append_o) 16 = .ok (.getfield 79, 3) := by decide +kernel
theorem d_AB_append_o_19 : decode (mMc M_AB_append_o) 19 = .ok (.iload_n 2, 1) := by decide +kernel
theorem d_AB_append_o_20 : decode (mMc M_AB_append_o) 20 = .ok (.iadd, 1) := by decide +kernel
theorem d_AB_append_o_21 : decode (mMc M_AB_append_o) 21 = .ok (.invokevirtual 100, 3) := by decide +kernel
theorem d_AB_append_o_24 : decode (mMc M_AB_append_o) 24 = .ok (.aload_n 0, 1) := by decide +kernel
theorem d_AB_append_o_25 : decode (mMc M_AB_append_o) 25 = .ok (.aload_n 0, 1) := by decide +kernel
theorem d_AB_append_o_26 : decode (mMc M_AB_append_o) 26 = .ok (.getfield 79, 3) := by decide +kernel
theorem d_AB_append_o_29 : decode (mMc M_AB_append_o) 29 = .ok (.aload_n 1, 1) := by decide +kernel
theorem d_AB_append_o_30 : decode (mMc M_AB_append_o) 30 = .ok (.invokevirtual 208, 3) := by decide +kernel
theorem d_AB_append_o_33 : decode (mMc M_AB_append_o) 33 = .ok (.aload_n 0, 1) := by decide +kernel
theorem d_AB_append_o_34 : decode (mMc M_AB_append_o) 34 = .ok (.dup, 1) := by decide +kernel
theorem d_AB_append_o_35 : decode (mMc M_AB_append_o) 35 = .ok (.getfield 79, 3) := by decide +kernel
theorem d_AB_append_o_38 : decode (mMc M_AB_append_o) 38 = .ok (.iload_n 2, 1) := by decide +kernel
theorem d_AB_append_o_39 : decode (mMc M_AB_append_o) 39 = .ok (.iadd, 1) := by decide +kernel
theorem d_AB_append_o_40 : decode (mMc M_AB_append_o) 40 = .ok (.putfield 79, 3) := by decide +kernel
theorem d_AB_append_o_43 : decode (mMc M_AB_append_o) 43 = .ok (.aload_n 0, 1) := by decide +kernel
theorem d_AB_append_o_44 : decode (mMc M_AB_append_o) 44 = .ok (.areturn, 1) := by decide +kernel
theorem k_AB_append_o : mCd M_AB_append_o 1 := ⟨by decide, by decide, by decide +kernel, by decide, mG (4, 157) (by decide +kernel), mG (1, 9) (by decide +kernel)⟩
def M_AB_putStringAt : mM := (⟨"java/lang/AbstractStringBuilder", "putStringAt", "(ILjava/lang/String;)V"⟩, prog_15_method_73_code, 3, none, [])
theorem d_AB_putStringAt_0 : decode (mMc M_AB_putStringAt) 0 = .ok (.aload_n 0, 1) := by decide +kernel
theorem d_AB_putStringAt_1 : decode (mMc M_AB_putStringAt) 1 = .ok (.aload_n 2, 1) := by decide +kernel
theorem d_AB_putStringAt_2 : decode (mMc M_AB_putStringAt) 2 = .ok (.invokevirtual 397, 3) := by decide +kernel
theorem d_AB_putStringAt_5 : decode (mMc M_AB_putStringAt) 5 = .ok (.aload_n 2, 1) := by decide +kernel
theorem d_AB_putStringAt_6 : decode (mMc M_AB_putStringAt) 6 = .ok (.aload_n 0, 1) := by decide +kernel
theorem d_AB_putStringAt_7 : decode (mMc M_AB_putStringAt) 7 = .ok (.getfield 15, 3) := by decide +kernel
theorem d_AB_putStringAt_10 : decode (mMc M_AB_putStringAt) 10 = .ok (.iload_n 1, 1) := by decide +kernel
theorem d_AB_putStringAt_11 : decode (mMc M_AB_putStringAt) 11 = .ok (.aload_n 0, 1) := by decide +kernel
theorem d_AB_putStringAt_12 : decode (mMc M_AB_putStringAt) 12 = .ok (.getfield 22, 3) := by decide +kernel
theorem d_AB_putStringAt_15 : decode (mMc M_AB_putStringAt) 15 = .ok (.invokevirtual 399, 3) := by decide +kernel
theorem d_AB_putStringAt_18 : decode (mMc M_AB_putStringAt) 18 = .ok (.return_, 1) := by decide +kernel
theorem k_AB_putStringAt : mCd M_AB_putStringAt 2 := ⟨by decide, by decide, by decide +kernel, by decide, mG (4, 215) (by decide +kernel), mG (1, 9) (by decide +kernel)⟩
def M_AB_inflateIfNeededFor : mM := (⟨"java/lang/AbstractStringBuilder", "inflateIfNeededFor", "(Ljava/lang/String;)V"⟩, prog_15_method_71_code, 2, none, [])
theorem d_AB_inflateIfNeededFor_0 : decode (mMc M_AB_inflateIfNeededFor) 0 = .ok (.getstatic 18, 3) := by decide +kernel
theorem d_AB_inflateIfNeededFor_3 : decode (mMc M_AB_inflateIfNeededFor) 3 = .ok (.ifCond .eq 18, 3) := by decide +kernel
theorem d_AB_inflateIfNeededFor_6 : decode (mMc M_AB_inflateIfNeededFor) 6 = .ok (.aload_n 0, 1) := by decide +kernel
theorem d_AB_inflateIfNeededFor_7 : decode (mMc M_AB_inflateIfNeededFor) 7 = .ok (.getfield 22, 3) := by decide +kernel
theorem d_AB_inflateIfNeededFor_10 : decode (mMc M_AB_inflateIfNeededFor) 10 = .ok (.aload_n 1, 1) := by decide +kernel
theorem d_AB_inflateIfNeededFor_11 : decode (mMc M_AB_inflateIfNeededFor) 11 = .ok (.invokevirtual 40, 3) := by decide +kernel
theorem d_AB_inflateIfNeededFor_14 : decode (mMc M_AB_inflateIfNeededFor) 14 = .ok (.if_icmp .eq 7, 3) := by decide +kernel
theorem d_AB_inflateIfNeededFor_17 : decode (mMc M_AB_inflateIfNeededFor) 17 = .ok (.aload_n 0, 1) := by decide +kernel
theorem d_AB_inflateIfNeededFor_18 : decode (mMc M_AB_inflateIfNeededFor) 18 = .ok (.invokevirtual 195, 3) := by decide +kernel
theorem d_AB_inflateIfNeededFor_21 : decode (mMc M_AB_inflateIfNeededFor) 21 = .ok (.return_, 1) := by decide +kernel
theorem k_AB_inflateIfNeededFor : mCd M_AB_inflateIfNeededFor 1 := ⟨by decide, by decide, by decide +kernel, by decide, mG (4, 219) (by decide +kernel), mG (1, 9) (by decide +kernel)⟩
def M_AB_getValue : mM := (⟨"java/lang/AbstractStringBuilder", "getValue", "()[B"⟩, prog_15_method_64_code, 1, (some (.array .byte)), [])
theorem d_AB_getValue_0 : decode (mMc M_AB_getValue) 0 = .ok (.aload_n 0, 1) := by decide +kernel
theorem d_AB_getValue_1 : decode (mMc M_AB_getValue) 1 = .ok (.getfield 15, 3) := by decide +kernel
theorem d_AB_getValue_4 : decode (mMc M_AB_getValue) 4 = .ok (.areturn, 1) := by decide +kernel
theorem k_AB_getValue : mCd M_AB_getValue 0 := ⟨by decide, by decide, by decide +kernel, by decide, mG (5, 48) (by decide +kernel), mG (1, 9) (by decide +kernel)⟩
def M_ST_getBytes : mM := (⟨"java/lang/String", "getBytes", "([BIB)V"⟩, prog_31_method_147_code, 4, none, [])
theorem d_ST_getBytes_0 : decode (mMc M_ST_getBytes) 0 = .ok (.aload_n 0, 1) := by decide +kernel
theorem d_ST_getBytes_1 : decode (mMc M_ST_getBytes) 1 = .ok (.invokevirtual 335, 3) := by decide +kernel
theorem d_ST_getBytes_4 : decode (mMc M_ST_getBytes) 4 = .ok (.iload_n 3, 1) := by decide +kernel
theorem d_ST_getBytes_5 : decode (mMc M_ST_getBytes) 5 = .ok (.if_icmp .ne 23, 3) := by decide +kernel
theorem d_ST_getBytes_8 : decode (mMc M_ST_getBytes) 8 = .ok (.aload_n 0, 1) := by decide +kernel
theorem d_ST_getBytes_9 : decode (mMc M_ST_getBytes) 9 = .ok (.getfield 9, 3) := by decide +kernel
theorem d_ST_getBytes_12 : decode (mMc M_ST_getBytes) 12 = .ok (.iconst 0, 1) := by decide +kernel
theorem d_ST_getBytes_13 : decode (mMc M_ST_getBytes) 13 = .ok (.aload_n 1, 1) := by decide +kernel
theorem d_ST_getBytes_14 : decode (mMc M_ST_getBytes) 14 = .ok (.iload_n 2, 1) := by decide +kernel
theorem d_ST_getBytes_15 : decode (mMc M_ST_getBytes) 15 = .ok (.iload_n 3, 1) := by decide +kernel
theorem d_ST_getBytes_16 : decode (mMc M_ST_getBytes) 16 = .ok (.ishl, 1) := by decide +kernel
theorem d_ST_getBytes_17 : decode (mMc M_ST_getBytes) 17 = .ok (.aload_n 0, 1) := by decide +kernel
theorem d_ST_getBytes_18 : decode (mMc M_ST_getBytes) 18 = .ok (.getfield 9, 3) := by decide +kernel
theorem d_ST_getBytes_21 : decode (mMc M_ST_getBytes) 21 = .ok (.arraylength, 1) := by decide +kernel
theorem d_ST_getBytes_22 : decode (mMc M_ST_getBytes) 22 = .ok (.invokestatic 212, 3) := by decide +kernel
theorem d_ST_getBytes_25 : decode (mMc M_ST_getBytes) 25 = .ok (.goto 18, 3) := by decide +kernel
theorem d_ST_getBytes_28 : decode (mMc M_ST_getBytes) 28 = .ok (.aload_n 0, 1) := by decide +kernel
theorem d_ST_getBytes_29 : decode (mMc M_ST_getBytes) 29 = .ok (.getfield 9, 3) := by decide +kernel
theorem d_ST_getBytes_32 : decode (mMc M_ST_getBytes) 32 = .ok (.iconst 0, 1) := by decide +kernel
theorem d_ST_getBytes_33 : decode (mMc M_ST_getBytes) 33 = .ok (.aload_n 1, 1) := by decide +kernel
theorem d_ST_getBytes_34 : decode (mMc M_ST_getBytes) 34 = .ok (.iload_n 2, 1) := by decide +kernel
theorem d_ST_getBytes_35 : decode (mMc M_ST_getBytes) 35 = .ok (.aload_n 0, 1) := by decide +kernel
theorem d_ST_getBytes_36 : decode (mMc M_ST_getBytes) 36 = .ok (.getfield 9, 3) := by decide +kernel
theorem d_ST_getBytes_39 : decode (mMc M_ST_getBytes) 39 = .ok (.arraylength, 1) := by decide +kernel
theorem d_ST_getBytes_40 : decode (mMc M_ST_getBytes) 40 = .ok (.invokestatic 106, 3) := by decide +kernel
theorem d_ST_getBytes_43 : decode (mMc M_ST_getBytes) 43 = .ok (.return_, 1) := by decide +kernel
theorem k_ST_getBytes : mCd M_ST_getBytes 3 := ⟨by decide, by decide, by decide +kernel, by decide, mG (5, 3) (by decide +kernel), mG (1, 11) (by decide +kernel)⟩
def M_SB_toString : mM := (⟨"java/lang/StringBuilder", "toString", "()Ljava/lang/String;"⟩, prog_32_method_42_code, 1, (some (.object "java/lang/String")), [])
theorem d_SB_toString_0 : decode (mMc M_SB_toString) 0 = .ok (.new 18, 3) := by decide +kernel
theorem d_SB_toString_3 : decode (mMc M_SB_toString) 3 = .ok (.dup, 1) := by decide +kernel
theorem d_SB_toString_4 : decode (mMc M_SB_toString) 4 = .ok (.aload_n 0, 1) := by decide +kernel
theorem d_SB_toString_5 : decode (mMc M_SB_toString) 5 = .ok (.invokespecial 137, 3) := by decide +kernel
theorem d_SB_toString_8 : decode (mMc M_SB_toString) 8 = .ok (.areturn, 1) := by decide +kernel
theorem k_SB_toString : mCd M_SB_toString 0 := ⟨by decide, by decide, by decide +kernel, by decide, mG (5, 34) (by decide +kernel), mG (1, 10) (by decide +kernel)⟩
def M_ST_init_o : mM := (⟨"java/lang/String", "<init>", "(Ljava/lang/StringBuilder;)V"⟩, prog_31_method_53_code, 2, none, [])
theorem d_ST_init_o_0 : decode (mMc M_ST_init_o) 0 = .ok (.aload_n 0, 1) := by decide +kernel
theorem d_ST_init_o_1 : decode (mMc M_ST_init_o) 1 = .ok (.aload_n 1, 1) := by decide +kernel
theorem d_ST_init_o_2 : decode (mMc M_ST_init_o) 2 = .ok (.aconst_null, 1) := by decide +kernel
theorem d_ST_init_o_3 : decode (mMc M_ST_init_o) 3 = .ok (.invokespecial 489, 3) := by decide +kernel
theorem d_ST_init_o_6 : decode (mMc M_ST_init_o) 6 = .ok (.return_, 1) := by decide +kernel
theorem k_ST_init_o : mCd M_ST_init_o 1 := ⟨by decide, by decide, by decide +kernel, by decide, mG (5, 39) (by decide +kernel), mG (1, 11) (by decide +kernel)⟩
def M_ST_init_oo : mM := (⟨"java/lang/String", "<init>", "(Ljava/lang/AbstractStringBuilder;Ljava/lang/Void;)V"⟩, prog_31_method_150_code, 5, none, [])
theorem d_ST_init_oo_0 : decode (mMc M_ST_init_oo) 0 = .ok (.aload_n 0, 1) := by decide +kernel
theorem d_ST_init_oo_1 : decode (mMc M_ST_init_oo) 1 = .ok (.invokespecial 1, 3) := by decide +kernel
theorem d_ST_init_oo_4 : decode (mMc M_ST_init_oo) 4 = .ok (.aload_n 1, 1) := by decide +kernel
theorem d_ST_init_oo_5 : decode (mMc M_ST_init_oo) 5 = .ok (.invokevirtual 552, 3) := by decide +kernel
theorem d_ST_init_oo_8 : decode (mMc M_ST_init_oo) 8 = .ok (.astore_n 3, 1) := by decide +kernel
theorem d_ST_init_oo_9 : decode (mMc M_ST_init_oo) 9 = .ok (.aload_n 1, 1) := by decide +kernel
theorem d_ST_init_oo_10 : decode (mMc M_ST_init_oo) 10 = .ok (.invokevirtual 549, 3) := by decide +kernel
theorem d_ST_init_oo_13 : decode (mMc M_ST_init_oo) 13 = .ok (.istore 4, 2) := by decide +kernel
theorem d_ST_init_oo_15 : decode (mMc M_ST_init_oo) 15 = .ok (.aload_n 1, 1) := by decide +kernel
theorem d_ST_init_oo_16 : decode (mMc M_ST_init_oo) 16 = .ok (.invokevirtual 1047, 3) := by decide +kernel
theorem d_ST_init_oo_19 : decode (mMc M_ST_init_oo) 19 = .ok (.ifCond .eq 22, 3) := by decide +kernel
theorem d_ST_init_oo_22 : decode (mMc M_ST_init_oo) 22 = .ok (.aload_n 0, 1) := by decide +kernel
theorem d_ST_init_oo_23 : decode (mMc M_ST_init_oo) 23 = .ok (.iconst 0, 1) := by decide +kernel
theorem d_ST_init_oo_24 : decode (mMc M_ST_init_oo) 24 = .ok (.putfield 15, 3) := by decide +kernel
theorem d_ST_init_oo_27 : decode (mMc M_ST_init_oo) 27 = .ok (.aload_n 0, 1) := by decide +kernel
theorem d_ST_init_oo_28 : decode (mMc M_ST_init_oo) 28 = .ok (.aload_n 3, 1) := by decide +kernel
theorem d_ST_init_oo_29 : decode (mMc M_ST_init_oo) 29 = .ok (.iconst 0, 1) := by decide +kernel
theorem d_ST_init_oo_30 : decode (mMc M_ST_init_oo) 30 = .ok (.iload 4, 2) := by decide +kernel
theorem d_ST_init_oo_32 : decode (mMc M_ST_init_oo) 32 = .ok (.invokestatic 54, 3) := by decide +kernel
theorem d_ST_init_oo_35 : decode (mMc M_ST_init_oo) 35 = .ok (.putfield 9, 3) := by decide +kernel
theorem d_ST_init_oo_38 : decode (mMc M_ST_init_oo) 38 = .ok (.goto 59, 3) := by decide +kernel
theorem d_ST_init_oo_41 : decode (mMc M_ST_init_oo) 41 = .ok (.getstatic 38, 3) := by decide +kernel
theorem d_ST_init_oo_44 : decode (mMc M_ST_init_oo) 44 = .ok (.ifCond .eq 35, 3) := by decide +kernel
theorem d_ST_init_oo_47 : decode (mMc M_ST_init_oo) 47 = .ok (.aload_n 1, 1) := by decide +kernel
theorem d_ST_init_oo_48 : decode (mMc M_ST_init_oo) 48 = .ok (.getfield 1048, 3) := by decide +kernel
theorem d_ST_init_oo_51 : decode (mMc M_ST_init_oo) 51 = .ok (.ifCond .eq 28, 3) := by decide +kernel
theorem d_ST_init_oo_54 : decode (mMc M_ST_init_oo) 54 = .ok (.aload_n 0, 1) := by decide +kernel
theorem d_ST_init_oo_55 : decode (mMc M_ST_init_oo) 55 = .ok (.aload_n 3, 1) := by decide +kernel
theorem d_ST_init_oo_56 : decode (mMc M_ST_init_oo) 56 = .ok (.iconst 0, 1) := by decide +kernel
theorem d_ST_init_oo_57 : decode (mMc M_ST_init_oo) 57 = .ok (.iload 4, 2) := by decide +kernel
theorem d_ST_init_oo_59 : decode (mMc M_ST_init_oo) 59 = .ok (.invokestatic 1051, 3) := by decide +kernel
theorem d_ST_init_oo_62 : decode (mMc M_ST_init_oo) 62 = .ok (.putfield 9, 3) := by decide +kernel
theorem d_ST_init_oo_65 : decode (mMc M_ST_init_oo) 65 = .ok (.aload_n 0, 1) := by decide +kernel
theorem d_ST_init_oo_66 : decode (mMc M_ST_init_oo) 66 = .ok (.aload_n 0, 1) := by decide +kernel
theorem d_ST_init_oo_67 : decode (mMc M_ST_init_oo) 67 = .ok (.getfield 9, 3) := by decide +kernel
theorem d_ST_init_oo_70 : decode (mMc M_ST_init_oo) 70 = .ok (.iload 4, 2) := by decide +kernel
theorem d_ST_init_oo_72 : decode (mMc M_ST_init_oo) 72 = .ok (.invokestatic 47, 3) := by decide +kernel
theorem d_ST_init_oo_75 : decode (mMc M_ST_init_oo) 75 = .ok (.putfield 15, 3) := by decide +kernel
theorem d_ST_init_oo_78 : decode (mMc M_ST_init_oo) 78 = .ok (.return_, 1) := by decide +kernel
theorem d_ST_init_oo_79 : decode (mMc M_ST_init_oo) 79 = .ok (.aload_n 0, 1) := by decide +kernel
theorem d_ST_init_oo_80 : decode (mMc M_ST_init_oo) 80 = .ok (.iconst 1, 1) := by decide +kernel
theorem d_ST_init_oo_81 : decode (mMc M_ST_init_oo) 81 = .ok (.putfield 15, 3) := by decide +kernel
theorem d_ST_init_oo_84 : decode (mMc M_ST_init_oo) 84 = .ok (.aload_n 0, 1) := by decide +kernel
theorem d_ST_init_oo_85 : decode (mMc M_ST_init_oo) 85 = .ok (.aload_n 3, 1) := by decide +kernel
theorem d_ST_init_oo_86 : decode (mMc M_ST_init_oo) 86 = .ok (.iconst 0, 1) := by decide +kernel
theorem d_ST_init_oo_87 : decode (mMc M_ST_init_oo) 87 = .ok (.iload 4, 2) := by decide +kernel
theorem d_ST_init_oo_89 : decode (mMc M_ST_init_oo) 89 = .ok (.iconst 1, 1) := by decide +kernel
theorem d_ST_init_oo_90 : decode (mMc M_ST_init_oo) 90 = .ok (.ishl, 1) := by decide +kernel
theorem d_ST_init_oo_91 : decode (mMc M_ST_init_oo) 91 = .ok (.invokestatic 54, 3) := by decide +kernel
theorem d_ST_init_oo_94 : decode (mMc M_ST_init_oo) 94 = .ok (.putfield 9, 3) := by decide +kernel
theorem d_ST_init_oo_97 : decode (mMc M_ST_init_oo) 97 = .ok (.return_, 1) := by decide +kernel
theorem k_ST_init_oo : mCd M_ST_init_oo 2 := ⟨by decide, by decide, by decide +kernel, by decide, mG (5, 42) (by decide +kernel), mG (1, 11) (by decide +kernel)⟩
def M_AR_copyOfRange : mM := (⟨"java/util/Arrays", "copyOfRange", "([BII)[B"⟩, prog_41_method_132_code, 3, (some (.array .byte)), [])
theorem d_AR_copyOfRange_0 : decode (mMc M_AR_copyOfRange) 0 = .ok (.iload_n 1, 1) := by decide +kernel
theorem d_AR_copyOfRange_1 : decode (mMc M_AR_copyOfRange) 1 = .ok (.ifCond .ne 9, 3) := by decide +kernel
theorem d_AR_copyOfRange_4 : decode (mMc M_AR_copyOfRange) 4 = .ok (.iload_n 2, 1) := by decide +kernel
theorem d_AR_copyOfRange_5 : decode (mMc M_AR_copyOfRange) 5 = .ok (.aload_n 0, 1) := by decide +kernel
theorem d_AR_copyOfRange_6 : decode (mMc M_AR_copyOfRange) 6 = .ok (.arraylength, 1) := by decide +kernel
theorem d_AR_copyOfRange_7 : decode (mMc M_AR_copyOfRange) 7 = .ok (.if_icmp .eq 10, 3) := by decide +kernel
theorem d_AR_copyOfRange_10 : decode (mMc M_AR_copyOfRange) 10 = .ok (.aload_n 0, 1) := by decide +kernel
theorem d_AR_copyOfRange_11 : decode (mMc M_AR_copyOfRange) 11 = .ok (.iload_n 1, 1) := by decide +kernel
theorem d_AR_copyOfRange_12 : decode (mMc M_AR_copyOfRange) 12 = .ok (.iload_n 2, 1) := by decide +kernel
theorem d_AR_copyOfRange_13 : decode (mMc M_AR_copyOfRange) 13 = .ok (.invokestatic 339, 3) := by decide +kernel
theorem d_AR_copyOfRange_16 : decode (mMc M_AR_copyOfRange) 16 = .ok (.areturn, 1) := by decide +kernel
theorem d_AR_copyOfRange_17 : decode (mMc M_AR_copyOfRange) 17 = .ok (.aload_n 0, 1) := by decide +kernel
theorem d_AR_copyOfRange_18 : decode (mMc M_AR_copyOfRange) 18 = .ok (.invokevirtual 310, 3) := by decide +kernel
theorem d_AR_copyOfRange_21 : decode (mMc M_AR_copyOfRange) 21 = .ok (.checkcast 311, 3) := by decide +kernel
theorem d_AR_copyOfRange_24 : decode (mMc M_AR_copyOfRange) 24 = .ok (.areturn, 1) := by decide +kernel
theorem k_AR_copyOfRange : mCd M_AR_copyOfRange 3 := ⟨by decide, by decide, by decide +kernel, by decide, mG (5, 53) (by decide +kernel), mG (1, 30) (by decide +kernel)⟩
def M_AR_copyOfRangeByte : mM := (⟨"java/util/Arrays", "copyOfRangeByte", "([BII)[B"⟩, prog_41_method_133_code, 5, (some (.array .byte)), [])
theorem d_AR_copyOfRangeByte_0 : decode (mMc M_AR_copyOfRangeByte) 0 = .ok (.iload_n 1, 1) := by decide +kernel
theorem d_AR_copyOfRangeByte_1 : decode (mMc M_AR_copyOfRangeByte) 1 = .ok (.iload_n 2, 1) := by decide +kernel
theorem d_AR_copyOfRangeByte_2 : decode (mMc M_AR_copyOfRangeByte) 2 = .ok (.invokestatic 343, 3) := by decide +kernel
theorem d_AR_copyOfRangeByte_5 : decode (mMc M_AR_copyOfRangeByte) 5 = .ok (.iload_n 2, 1) := by decide +kernel
theorem d_AR_copyOfRangeByte_6 : decode (mMc M_AR_copyOfRangeByte) 6 = .ok (.iload_n 1, 1) := by decide +kernel
theorem d_AR_copyOfRangeByte_7 : decode (mMc M_AR_copyOfRangeByte) 7 = .ok (.isub, 1) := by decide +kernel
theorem d_AR_copyOfRangeByte_8 : decode (mMc M_AR_copyOfRangeByte) 8 = .ok (.istore_n 3, 1) := by decide +kernel
theorem d_AR_copyOfRangeByte_9 : decode (mMc M_AR_copyOfRangeByte) 9 = .ok (.iload_n 3, 1) := by decide +kernel
theorem d_AR_copyOfRangeByte_10 : decode (mMc M_AR_copyOfRangeByte) 10 = .ok (.newarray .byte, 2) := by decide +kernel
theorem d_AR_copyOfRangeByte_12 : decode (mMc M_AR_copyOfRangeByte) 12 = .ok (.astore 4, 2) := by decide +kernel
theorem d_AR_copyOfRangeByte_14 : decode (mMc M_AR_copyOfRangeByte) 14 = .ok (.aload_n 0, 1) := by decide +kernel
theorem d_AR_copyOfRangeByte_15 : decode (mMc M_AR_copyOfRangeByte) 15 = .ok (.iload_n 1, 1) := by decide +kernel
theorem d_AR_copyOfRangeByte_16 : decode (mMc M_AR_copyOfRangeByte) 16 = .ok (.aload 4, 2) := by decide +kernel
theorem d_AR_copyOfRangeByte_18 : decode (mMc M_AR_copyOfRangeByte) 18 = .ok (.iconst 0, 1) := by decide +kernel
theorem d_AR_copyOfRangeByte_19 : decode (mMc M_AR_copyOfRangeByte) 19 = .ok (.aload_n 0, 1) := by decide +kernel
theorem d_AR_copyOfRangeByte_20 : decode (mMc M_AR_copyOfRangeByte) 20 = .ok (.arraylength, 1) := by decide +kernel
theorem d_AR_copyOfRangeByte_21 : decode (mMc M_AR_copyOfRangeByte) 21 = .ok (.iload_n 1, 1) := by decide +kernel
theorem d_AR_copyOfRangeByte_22 : decode (mMc M_AR_copyOfRangeByte) 22 = .ok (.isub, 1) := by decide +kernel
theorem d_AR_copyOfRangeByte_23 : decode (mMc M_AR_copyOfRangeByte) 23 = .ok (.iload_n 3, 1) := by decide +kernel
theorem d_AR_copyOfRangeByte_24 : decode (mMc M_AR_copyOfRangeByte) 24 = .ok (.invokestatic 304, 3) := by decide +kernel
theorem d_AR_copyOfRangeByte_27 : decode (mMc M_AR_copyOfRangeByte) 27 = .ok (.invokestatic 150, 3) := by decide +kernel
theorem d_AR_copyOfRangeByte_30 : decode (mMc M_AR_copyOfRangeByte) 30 = .ok (.aload 4, 2) := by decide +kernel
theorem d_AR_copyOfRangeByte_32 : decode (mMc M_AR_copyOfRangeByte) 32 = .ok (.areturn, 1) := by decide +kernel
theorem k_AR_copyOfRangeByte : mCd M_AR_copyOfRangeByte 3 := ⟨by decide, by decide, by decide +kernel, by decide, mG (5, 56) (by decide +kernel), mG (1, 30) (by decide +kernel)⟩
def M_AR_checkLength : mM := (⟨"java/util/Arrays", "checkLength", "(II)V"⟩, prog_41_method_131_code, 2, none, [])
theorem d_AR_checkLength_0 : decode (mMc M_AR_checkLength) 0 = .ok (.iload_n 1, 1) := by decide +kernel
theorem d_AR_checkLength_1 : decode (mMc M_AR_checkLength) 1 = .ok (.iload_n 0, 1) := by decide +kernel
theorem d_AR_checkLength_2 : decode (mMc M_AR_checkLength) 2 = .ok (.if_icmp .ge 35, 3) := by decide +kernel
theorem d_AR_checkLength_5 : decode (mMc M_AR_checkLength) 5 = .ok (.new 43, 3) := by decide +kernel
theorem d_AR_checkLength_8 : decode (mMc M_AR_checkLength) 8 = .ok (.dup, 1) := by decide +kernel
theorem d_AR_checkLength_9 : decode (mMc M_AR_checkLength) 9 = .ok (.new 45, 3) := by decide +kernel
theorem d_AR_checkLength_12 : decode (mMc M_AR_checkLength) 12 = .ok (.dup, 1) := by decide +kernel
theorem d_AR_checkLength_13 : decode (mMc M_AR_checkLength) 13 = .ok (.invokespecial 47, 3) := by decide +kernel
theorem d_AR_checkLength_16 : decode (mMc M_AR_checkLength) 16 = .ok (.iload_n 0, 1) := by decide +kernel
theorem d_AR_checkLength_17 : decode (mMc M_AR_checkLength) 17 = .ok (.invokevirtual 54, 3) := by decide +kernel
theorem d_AR_checkLength_20 : decode (mMc M_AR_checkLength) 20 = .ok (.ldc_w 337, 3) := by decide +kernel
theorem d_AR_checkLength_23 : decode (mMc M_AR_checkLength) 23 = .ok (.invokevirtual 50, 3) := by decide +kernel
theorem d_AR_checkLength_26 : decode (mMc M_AR_checkLength) 26 = .ok (.iload_n 1, 1) := by decide +kernel
theorem d_AR_checkLength_27 : decode (mMc M_AR_checkLength) 27 = .ok (.invokevirtual 54, 3) := by decide +kernel
theorem d_AR_checkLength_30 : decode (mMc M_AR_checkLength) 30 = .ok (.invokevirtual 61, 3) := by decide +kernel
theorem d_AR_checkLength_33 : decode (mMc M_AR_checkLength) 33 = .ok (.invokespecial 65, 3) := by decide +kernel
theorem d_AR_checkLength_36 : decode (mMc M_AR_checkLength) 36 = .ok (.athrow, 1) := by decide +kernel
theorem d_AR_checkLength_37 : decode (mMc M_AR_checkLength) 37 = .ok (.return_, 1) := by decide +kernel
theorem k_AR_checkLength : mCd M_AR_checkLength 2 := ⟨by decide, by decide, by decide +kernel, by decide, mG (5, 59) (by decide +kernel), mG (1, 30) (by decide +kernel)⟩
