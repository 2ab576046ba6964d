/-! methods, instructions, what a caller asks -/
def M_R_init : mM := (⟨"FloatingDockModel", "<init>", "()V"⟩, prog_13_method_1_code, 1, none, [])
theorem d_R_init_0 : decode (mMc M_R_init) 0 = .ok (.aload_n 0, 1) := by decide +kernel
theorem d_R_init_1 : decode (mMc M_R_init) 1 = .ok (.invokespecial 3, 3) := by decide +kernel
theorem d_R_init_4 : decode (mMc M_R_init) 4 = .ok (.aload_n 0, 1) := by decide +kernel
theorem d_R_init_5 : decode (mMc M_R_init) 5 = .ok (.sipush 140, 3) := by decide +kernel
theorem d_R_init_8 : decode (mMc M_R_init) 8 = .ok (.newarray .int, 2) := by decide +kernel
theorem d_R_init_10 : decode (mMc M_R_init) 10 = .ok (.putfield 9, 3) := by decide +kernel
theorem d_R_init_13 : decode (mMc M_R_init) 13 = .ok (.aload_n 0, 1) := by decide +kernel
theorem d_R_init_14 : decode (mMc M_R_init) 14 = .ok (.sipush 140, 3) := by decide +kernel
theorem d_R_init_17 : decode (mMc M_R_init) 17 = .ok (.newarray .int, 2) := by decide +kernel
theorem d_R_init_19 : decode (mMc M_R_init) 19 = .ok (.putfield 13, 3) := by decide +kernel
theorem d_R_init_22 : decode (mMc M_R_init) 22 = .ok (.aload_n 0, 1) := by decide +kernel
theorem d_R_init_23 : decode (mMc M_R_init) 23 = .ok (.sipush 140, 3) := by decide +kernel
theorem d_R_init_26 : decode (mMc M_R_init) 26 = .ok (.newarray .int, 2) := by decide +kernel
theorem d_R_init_28 : decode (mMc M_R_init) 28 = .ok (.putfield 16, 3) := by decide +kernel
theorem d_R_init_31 : decode (mMc M_R_init) 31 = .ok (.aload_n 0, 1) := by decide +kernel
theorem d_R_init_32 : decode (mMc M_R_init) 32 = .ok (.sipush 1120, 3) := by decide +kernel
theorem d_R_init_35 : decode (mMc M_R_init) 35 = .ok (.newarray .int, 2) := by decide +kernel
theorem d_R_init_37 : decode (mMc M_R_init) 37 = .ok (.putfield 19, 3) := by decide +kernel
theorem d_R_init_40 : decode (mMc M_R_init) 40 = .ok (.aload_n 0, 1) := by decide +kernel
theorem d_R_init_41 : decode (mMc M_R_init) 41 = .ok (.iconst (-1), 1) := by decide +kernel
theorem d_R_init_42 : decode (mMc M_R_init) 42 = .ok (.putfield 22, 3) := by decide +kernel
theorem d_R_init_45 : decode (mMc M_R_init) 45 = .ok (.aload_n 0, 1) := by decide +kernel
theorem d_R_init_46 : decode (mMc M_R_init) 46 = .ok (.iconst (-1), 1) := by decide +kernel
theorem d_R_init_47 : decode (mMc M_R_init) 47 = .ok (.putfield 26, 3) := by decide +kernel
theorem d_R_init_50 : decode (mMc M_R_init) 50 = .ok (.aload_n 0, 1) := by decide +kernel
theorem d_R_init_51 : decode (mMc M_R_init) 51 = .ok (.bipush 60, 2) := by decide +kernel
theorem d_R_init_53 : decode (mMc M_R_init) 53 = .ok (.newarray .int, 2) := by decide +kernel
theorem d_R_init_55 : decode (mMc M_R_init) 55 = .ok (.putfield 29, 3) := by decide +kernel
theorem d_R_init_58 : decode (mMc M_R_init) 58 = .ok (.aload_n 0, 1) := by decide +kernel
theorem d_R_init_59 : decode (mMc M_R_init) 59 = .ok (.bipush 80, 2) := by decide +kernel
theorem d_R_init_61 : decode (mMc M_R_init) 61 = .ok (.newarray .int, 2) := by decide +kernel
theorem d_R_init_63 : decode (mMc M_R_init) 63 = .ok (.putfield 32, 3) := by decide +kernel
theorem d_R_init_66 : decode (mMc M_R_init) 66 = .ok (.aload_n 0, 1) := by decide +kernel
theorem d_R_init_67 : decode (mMc M_R_init) 67 = .ok (.sipush 256, 3) := by decide +kernel
theorem d_R_init_70 : decode (mMc M_R_init) 70 = .ok (.newarray .boolean, 2) := by decide +kernel
theorem d_R_init_72 : decode (mMc M_R_init) 72 = .ok (.putfield 35, 3) := by decide +kernel
theorem d_R_init_75 : decode (mMc M_R_init) 75 = .ok (.aload_n 0, 1) := by decide +kernel
theorem d_R_init_76 : decode (mMc M_R_init) 76 = .ok (.bipush 120, 2) := by decide +kernel
theorem d_R_init_78 : decode (mMc M_R_init) 78 = .ok (.newarray .int, 2) := by decide +kernel
theorem d_R_init_80 : decode (mMc M_R_init) 80 = .ok (.putfield 39, 3) := by decide +kernel
theorem d_R_init_83 : decode (mMc M_R_init) 83 = .ok (.aload_n 0, 1) := by decide +kernel
theorem d_R_init_84 : decode (mMc M_R_init) 84 = .ok (.getfield 9, 3) := by decide +kernel
theorem d_R_init_87 : decode (mMc M_R_init) 87 = .ok (.iconst 0, 1) := by decide +kernel
theorem d_R_init_88 : decode (mMc M_R_init) 88 = .ok (.iconst 3, 1) := by decide +kernel
theorem d_R_init_89 : decode (mMc M_R_init) 89 = .ok (.iastore, 1) := by decide +kernel
theorem d_R_init_90 : decode (mMc M_R_init) 90 = .ok (.aload_n 0, 1) := by decide +kernel
theorem d_R_init_91 : decode (mMc M_R_init) 91 = .ok (.getfield 9, 3) := by decide +kernel
theorem d_R_init_94 : decode (mMc M_R_init) 94 = .ok (.iconst 1, 1) := by decide +kernel
theorem d_R_init_95 : decode (mMc M_R_init) 95 = .ok (.bipush 100, 2) := by decide +kernel
theorem d_R_init_97 : decode (mMc M_R_init) 97 = .ok (.iastore, 1) := by decide +kernel
theorem d_R_init_98 : decode (mMc M_R_init) 98 = .ok (.aload_n 0, 1) := by decide +kernel
theorem d_R_init_99 : decode (mMc M_R_init) 99 = .ok (.getfield 9, 3) := by decide +kernel
theorem d_R_init_102 : decode (mMc M_R_init) 102 = .ok (.iconst 2, 1) := by decide +kernel
theorem d_R_init_103 : decode (mMc M_R_init) 103 = .ok (.iconst 1, 1) := by decide +kernel
theorem d_R_init_104 : decode (mMc M_R_init) 104 = .ok (.iastore, 1) := by decide +kernel
theorem d_R_init_105 : decode (mMc M_R_init) 105 = .ok (.return_, 1) := by decide +kernel
theorem k_R_init : mCd M_R_init 0 := ⟨by decide, by decide, by decide +kernel, by decide, mG (7, 205) (by decide +kernel), mG (1, 15) (by decide +kernel)⟩
def M_R_thrown : mM := (⟨"FloatingDockModel", "thrown", "()I"⟩, prog_13_method_2_code, 1, (some .int), [])
theorem d_R_thrown_0 : decode (mMc M_R_thrown) 0 = .ok (.aload_n 0, 1) := by decide +kernel
theorem d_R_thrown_1 : decode (mMc M_R_thrown) 1 = .ok (.getfield 42, 3) := by decide +kernel
theorem d_R_thrown_4 : decode (mMc M_R_thrown) 4 = .ok (.ireturn, 1) := by decide +kernel
theorem k_R_thrown : mCd M_R_thrown 0 := ⟨by decide, by decide, by decide +kernel, by decide, mG (8, 31) (by decide +kernel), mG (1, 15) (by decide +kernel)⟩
def M_R_undo : mM := (⟨"FloatingDockModel", "undo", "()I"⟩, prog_13_method_10_code, 1, (some .int), [])
theorem d_R_undo_0 : decode (mMc M_R_undo) 0 = .ok (.aload_n 0, 1) := by decide +kernel
theorem d_R_undo_1 : decode (mMc M_R_undo) 1 = .ok (.aload_n 0, 1) := by decide +kernel
theorem d_R_undo_2 : decode (mMc M_R_undo) 2 = .ok (.getfield 53, 3) := by decide +kernel
theorem d_R_undo_5 : decode (mMc M_R_undo) 5 = .ok (.ifCond .le 7, 3) := by decide +kernel
theorem d_R_undo_8 : decode (mMc M_R_undo) 8 = .ok (.iconst 1, 1) := by decide +kernel
theorem d_R_undo_9 : decode (mMc M_R_undo) 9 = .ok (.goto 4, 3) := by decide +kernel
theorem d_R_undo_12 : decode (mMc M_R_undo) 12 = .ok (.iconst 0, 1) := by decide +kernel
theorem d_R_undo_13 : decode (mMc M_R_undo) 13 = .ok (.invokevirtual 59, 3) := by decide +kernel
theorem d_R_undo_16 : decode (mMc M_R_undo) 16 = .ok (.ifCond .ne 5, 3) := by decide +kernel
theorem d_R_undo_19 : decode (mMc M_R_undo) 19 = .ok (.iconst 0, 1) := by decide +kernel
theorem d_R_undo_20 : decode (mMc M_R_undo) 20 = .ok (.ireturn, 1) := by decide +kernel
theorem d_R_undo_21 : decode (mMc M_R_undo) 21 = .ok (.aload_n 0, 1) := by decide +kernel
theorem d_R_undo_22 : decode (mMc M_R_undo) 22 = .ok (.dup, 1) := by decide +kernel
theorem d_R_undo_23 : decode (mMc M_R_undo) 23 = .ok (.getfield 53, 3) := by decide +kernel
theorem d_R_undo_26 : decode (mMc M_R_undo) 26 = .ok (.iconst 1, 1) := by decide +kernel
theorem d_R_undo_27 : decode (mMc M_R_undo) 27 = .ok (.isub, 1) := by decide +kernel
theorem d_R_undo_28 : decode (mMc M_R_undo) 28 = .ok (.putfield 53, 3) := by decide +kernel
theorem d_R_undo_31 : decode (mMc M_R_undo) 31 = .ok (.aload_n 0, 1) := by decide +kernel
theorem d_R_undo_32 : decode (mMc M_R_undo) 32 = .ok (.getfield 19, 3) := by decide +kernel
theorem d_R_undo_35 : decode (mMc M_R_undo) 35 = .ok (.aload_n 0, 1) := by decide +kernel
theorem d_R_undo_36 : decode (mMc M_R_undo) 36 = .ok (.getfield 53, 3) := by decide +kernel
theorem d_R_undo_39 : decode (mMc M_R_undo) 39 = .ok (.sipush 140, 3) := by decide +kernel
theorem d_R_undo_42 : decode (mMc M_R_undo) 42 = .ok (.imul, 1) := by decide +kernel
theorem d_R_undo_43 : decode (mMc M_R_undo) 43 = .ok (.aload_n 0, 1) := by decide +kernel
theorem d_R_undo_44 : decode (mMc M_R_undo) 44 = .ok (.getfield 9, 3) := by decide +kernel
theorem d_R_undo_47 : decode (mMc M_R_undo) 47 = .ok (.iconst 0, 1) := by decide +kernel
theorem d_R_undo_48 : decode (mMc M_R_undo) 48 = .ok (.invokestatic 49, 3) := by decide +kernel
theorem d_R_undo_51 : decode (mMc M_R_undo) 51 = .ok (.aload_n 0, 1) := by decide +kernel
theorem d_R_undo_52 : decode (mMc M_R_undo) 52 = .ok (.getfield 53, 3) := by decide +kernel
theorem d_R_undo_55 : decode (mMc M_R_undo) 55 = .ok (.ireturn, 1) := by decide +kernel
theorem k_R_undo : mCd M_R_undo 0 := ⟨by decide, by decide, by decide +kernel, by decide, mG (8, 35) (by decide +kernel), mG (1, 15) (by decide +kernel)⟩
def M_R_goes : mM := (⟨"FloatingDockModel", "goes", "(Z)Z"⟩, prog_13_method_6_code, 2, (some .boolean), [])
theorem d_R_goes_0 : decode (mMc M_R_goes) 0 = .ok (.aload_n 0, 1) := by decide +kernel
theorem d_R_goes_1 : decode (mMc M_R_goes) 1 = .ok (.iload_n 1, 1) := by decide +kernel
theorem d_R_goes_2 : decode (mMc M_R_goes) 2 = .ok (.iconst 1, 1) := by decide +kernel
theorem d_R_goes_3 : decode (mMc M_R_goes) 3 = .ok (.iconst 1, 1) := by decide +kernel
theorem d_R_goes_4 : decode (mMc M_R_goes) 4 = .ok (.iconst 1, 1) := by decide +kernel
theorem d_R_goes_5 : decode (mMc M_R_goes) 5 = .ok (.invokevirtual 45, 3) := by decide +kernel
theorem d_R_goes_8 : decode (mMc M_R_goes) 8 = .ok (.ireturn, 1) := by decide +kernel
theorem k_R_goes : mCd M_R_goes 1 := ⟨by decide, by decide, by decide +kernel, by decide, mG (8, 39) (by decide +kernel), mG (1, 15) (by decide +kernel)⟩
def M_R_holds : mM := (⟨"FloatingDockModel", "holds", "(ZZZZ)Z"⟩, prog_13_method_5_code, 5, (some .boolean), [])
theorem d_R_holds_0 : decode (mMc M_R_holds) 0 = .ok (.aload_n 0, 1) := by decide +kernel
theorem d_R_holds_1 : decode (mMc M_R_holds) 1 = .ok (.iload_n 1, 1) := by decide +kernel
theorem d_R_holds_2 : decode (mMc M_R_holds) 2 = .ok (.ifCond .ne 7, 3) := by decide +kernel
theorem d_R_holds_5 : decode (mMc M_R_holds) 5 = .ok (.iconst 1, 1) := by decide +kernel
theorem d_R_holds_6 : decode (mMc M_R_holds) 6 = .ok (.goto 29, 3) := by decide +kernel
theorem d_R_holds_9 : decode (mMc M_R_holds) 9 = .ok (.iload_n 2, 1) := by decide +kernel
theorem d_R_holds_10 : decode (mMc M_R_holds) 10 = .ok (.ifCond .ne 7, 3) := by decide +kernel
theorem d_R_holds_13 : decode (mMc M_R_holds) 13 = .ok (.iconst 2, 1) := by decide +kernel
theorem d_R_holds_14 : decode (mMc M_R_holds) 14 = .ok (.goto 21, 3) := by decide +kernel
theorem d_R_holds_17 : decode (mMc M_R_holds) 17 = .ok (.iload_n 3, 1) := by decide +kernel
theorem d_R_holds_18 : decode (mMc M_R_holds) 18 = .ok (.ifCond .ne 7, 3) := by decide +kernel
theorem d_R_holds_21 : decode (mMc M_R_holds) 21 = .ok (.iconst 3, 1) := by decide +kernel
theorem d_R_holds_22 : decode (mMc M_R_holds) 22 = .ok (.goto 13, 3) := by decide +kernel
theorem d_R_holds_25 : decode (mMc M_R_holds) 25 = .ok (.iload 4, 2) := by decide +kernel
theorem d_R_holds_27 : decode (mMc M_R_holds) 27 = .ok (.ifCond .ne 7, 3) := by decide +kernel
theorem d_R_holds_30 : decode (mMc M_R_holds) 30 = .ok (.iconst 4, 1) := by decide +kernel
theorem d_R_holds_31 : decode (mMc M_R_holds) 31 = .ok (.goto 4, 3) := by decide +kernel
theorem d_R_holds_34 : decode (mMc M_R_holds) 34 = .ok (.iconst 0, 1) := by decide +kernel
theorem d_R_holds_35 : decode (mMc M_R_holds) 35 = .ok (.putfield 42, 3) := by decide +kernel
theorem d_R_holds_38 : decode (mMc M_R_holds) 38 = .ok (.aload_n 0, 1) := by decide +kernel
theorem d_R_holds_39 : decode (mMc M_R_holds) 39 = .ok (.getfield 42, 3) := by decide +kernel
theorem d_R_holds_42 : decode (mMc M_R_holds) 42 = .ok (.ifCond .ne 7, 3) := by decide +kernel
theorem d_R_holds_45 : decode (mMc M_R_holds) 45 = .ok (.iconst 1, 1) := by decide +kernel
theorem d_R_holds_46 : decode (mMc M_R_holds) 46 = .ok (.goto 4, 3) := by decide +kernel
theorem d_R_holds_49 : decode (mMc M_R_holds) 49 = .ok (.iconst 0, 1) := by decide +kernel
theorem d_R_holds_50 : decode (mMc M_R_holds) 50 = .ok (.ireturn, 1) := by decide +kernel
theorem k_R_holds : mCd M_R_holds 4 := ⟨by decide, by decide, by decide +kernel, by decide, mG (8, 43) (by decide +kernel), mG (1, 15) (by decide +kernel)⟩
def M_R_copies : mM := (⟨"FloatingDockModel", "copies", "([II[II)V"⟩, prog_13_method_4_code, 5, none, [])
theorem d_R_copies_0 : decode (mMc M_R_copies) 0 = .ok (.iconst 0, 1) := by decide +kernel
theorem d_R_copies_1 : decode (mMc M_R_copies) 1 = .ok (.istore 4, 2) := by decide +kernel
theorem d_R_copies_3 : decode (mMc M_R_copies) 3 = .ok (.iload 4, 2) := by decide +kernel
theorem d_R_copies_5 : decode (mMc M_R_copies) 5 = .ok (.sipush 140, 3) := by decide +kernel
theorem d_R_copies_8 : decode (mMc M_R_copies) 8 = .ok (.if_icmp .ge 21, 3) := by decide +kernel
theorem d_R_copies_11 : decode (mMc M_R_copies) 11 = .ok (.aload_n 2, 1) := by decide +kernel
theorem d_R_copies_12 : decode (mMc M_R_copies) 12 = .ok (.iload_n 3, 1) := by decide +kernel
theorem d_R_copies_13 : decode (mMc M_R_copies) 13 = .ok (.iload 4, 2) := by decide +kernel
theorem d_R_copies_15 : decode (mMc M_R_copies) 15 = .ok (.iadd, 1) := by decide +kernel
theorem d_R_copies_16 : decode (mMc M_R_copies) 16 = .ok (.aload_n 0, 1) := by decide +kernel
theorem d_R_copies_17 : decode (mMc M_R_copies) 17 = .ok (.iload_n 1, 1) := by decide +kernel
theorem d_R_copies_18 : decode (mMc M_R_copies) 18 = .ok (.iload 4, 2) := by decide +kernel
theorem d_R_copies_20 : decode (mMc M_R_copies) 20 = .ok (.iadd, 1) := by decide +kernel
theorem d_R_copies_21 : decode (mMc M_R_copies) 21 = .ok (.iaload, 1) := by decide +kernel
theorem d_R_copies_22 : decode (mMc M_R_copies) 22 = .ok (.iastore, 1) := by decide +kernel
theorem d_R_copies_23 : decode (mMc M_R_copies) 23 = .ok (.iinc 4 1, 3) := by decide +kernel
theorem d_R_copies_26 : decode (mMc M_R_copies) 26 = .ok (.goto (-23), 3) := by decide +kernel
theorem d_R_copies_29 : decode (mMc M_R_copies) 29 = .ok (.return_, 1) := by decide +kernel
theorem k_R_copies : mCd M_R_copies 4 := ⟨by decide, by decide, by decide +kernel, by decide, mG (8, 46) (by decide +kernel), mG (1, 15) (by decide +kernel)⟩
def M_R_save : mM := (⟨"FloatingDockModel", "save", "()I"⟩, prog_13_method_11_code, 1, (some .int), [])
theorem d_R_save_0 : decode (mMc M_R_save) 0 = .ok (.aload_n 0, 1) := by decide +kernel
theorem d_R_save_1 : decode (mMc M_R_save) 1 = .ok (.iconst 0, 1) := by decide +kernel
theorem d_R_save_2 : decode (mMc M_R_save) 2 = .ok (.putfield 42, 3) := by decide +kernel
theorem d_R_save_5 : decode (mMc M_R_save) 5 = .ok (.aload_n 0, 1) := by decide +kernel
theorem d_R_save_6 : decode (mMc M_R_save) 6 = .ok (.getfield 9, 3) := by decide +kernel
theorem d_R_save_9 : decode (mMc M_R_save) 9 = .ok (.iconst 0, 1) := by decide +kernel
theorem d_R_save_10 : decode (mMc M_R_save) 10 = .ok (.aload_n 0, 1) := by decide +kernel
theorem d_R_save_11 : decode (mMc M_R_save) 11 = .ok (.getfield 16, 3) := by decide +kernel
theorem d_R_save_14 : decode (mMc M_R_save) 14 = .ok (.iconst 0, 1) := by decide +kernel
theorem d_R_save_15 : decode (mMc M_R_save) 15 = .ok (.invokestatic 49, 3) := by decide +kernel
theorem d_R_save_18 : decode (mMc M_R_save) 18 = .ok (.aload_n 0, 1) := by decide +kernel
theorem d_R_save_19 : decode (mMc M_R_save) 19 = .ok (.iconst 1, 1) := by decide +kernel
theorem d_R_save_20 : decode (mMc M_R_save) 20 = .ok (.putfield 63, 3) := by decide +kernel
theorem d_R_save_23 : decode (mMc M_R_save) 23 = .ok (.aload_n 0, 1) := by decide +kernel
theorem d_R_save_24 : decode (mMc M_R_save) 24 = .ok (.getfield 9, 3) := by decide +kernel
theorem d_R_save_27 : decode (mMc M_R_save) 27 = .ok (.iconst 4, 1) := by decide +kernel
theorem d_R_save_28 : decode (mMc M_R_save) 28 = .ok (.iaload, 1) := by decide +kernel
theorem d_R_save_29 : decode (mMc M_R_save) 29 = .ok (.ireturn, 1) := by decide +kernel
theorem k_R_save : mCd M_R_save 0 := ⟨by decide, by decide, by decide +kernel, by decide, mG (8, 50) (by decide +kernel), mG (1, 15) (by decide +kernel)⟩
def M_R_restore : mM := (⟨"FloatingDockModel", "restore", "()I"⟩, prog_13_method_12_code, 1, (some .int), [])
theorem d_R_restore_0 : decode (mMc M_R_restore) 0 = .ok (.aload_n 0, 1) := by decide +kernel
theorem d_R_restore_1 : decode (mMc M_R_restore) 1 = .ok (.aload_n 0, 1) := by decide +kernel
theorem d_R_restore_2 : decode (mMc M_R_restore) 2 = .ok (.getfield 63, 3) := by decide +kernel
theorem d_R_restore_5 : decode (mMc M_R_restore) 5 = .ok (.invokevirtual 59, 3) := by decide +kernel
theorem d_R_restore_8 : decode (mMc M_R_restore) 8 = .ok (.ifCond .ne 5, 3) := by decide +kernel
theorem d_R_restore_11 : decode (mMc M_R_restore) 11 = .ok (.iconst 0, 1) := by decide +kernel
theorem d_R_restore_12 : decode (mMc M_R_restore) 12 = .ok (.ireturn, 1) := by decide +kernel
theorem d_R_restore_13 : decode (mMc M_R_restore) 13 = .ok (.aload_n 0, 1) := by decide +kernel
theorem d_R_restore_14 : decode (mMc M_R_restore) 14 = .ok (.getfield 16, 3) := by decide +kernel
theorem d_R_restore_17 : decode (mMc M_R_restore) 17 = .ok (.iconst 0, 1) := by decide +kernel
theorem d_R_restore_18 : decode (mMc M_R_restore) 18 = .ok (.aload_n 0, 1) := by decide +kernel
theorem d_R_restore_19 : decode (mMc M_R_restore) 19 = .ok (.getfield 9, 3) := by decide +kernel
theorem d_R_restore_22 : decode (mMc M_R_restore) 22 = .ok (.iconst 0, 1) := by decide +kernel
theorem d_R_restore_23 : decode (mMc M_R_restore) 23 = .ok (.invokestatic 49, 3) := by decide +kernel
theorem d_R_restore_26 : decode (mMc M_R_restore) 26 = .ok (.aload_n 0, 1) := by decide +kernel
theorem d_R_restore_27 : decode (mMc M_R_restore) 27 = .ok (.iconst 0, 1) := by decide +kernel
theorem d_R_restore_28 : decode (mMc M_R_restore) 28 = .ok (.putfield 53, 3) := by decide +kernel
theorem d_R_restore_31 : decode (mMc M_R_restore) 31 = .ok (.aload_n 0, 1) := by decide +kernel
theorem d_R_restore_32 : decode (mMc M_R_restore) 32 = .ok (.getfield 9, 3) := by decide +kernel
theorem d_R_restore_35 : decode (mMc M_R_restore) 35 = .ok (.iconst 4, 1) := by decide +kernel
theorem d_R_restore_36 : decode (mMc M_R_restore) 36 = .ok (.iaload, 1) := by decide +kernel
theorem d_R_restore_37 : decode (mMc M_R_restore) 37 = .ok (.ireturn, 1) := by decide +kernel
theorem k_R_restore : mCd M_R_restore 0 := ⟨by decide, by decide, by decide +kernel, by decide, mG (8, 54) (by decide +kernel), mG (1, 15) (by decide +kernel)⟩
def M_R_addShip : mM := (⟨"FloatingDockModel", "addShip", "(III)I"⟩, prog_13_method_26_code, 4, (some .int), [])
theorem d_R_addShip_0 : decode (mMc M_R_addShip) 0 = .ok (.aload_n 0, 1) := by decide +kernel
theorem d_R_addShip_1 : decode (mMc M_R_addShip) 1 = .ok (.invokevirtual 94, 3) := by decide +kernel
theorem d_R_addShip_4 : decode (mMc M_R_addShip) 4 = .ok (.aload_n 0, 1) := by decide +kernel
theorem d_R_addShip_5 : decode (mMc M_R_addShip) 5 = .ok (.aload_n 0, 1) := by decide +kernel
theorem d_R_addShip_6 : decode (mMc M_R_addShip) 6 = .ok (.iload_n 1, 1) := by decide +kernel
theorem d_R_addShip_7 : decode (mMc M_R_addShip) 7 = .ok (.iload_n 2, 1) := by decide +kernel
theorem d_R_addShip_8 : decode (mMc M_R_addShip) 8 = .ok (.iload_n 3, 1) := by decide +kernel
theorem d_R_addShip_9 : decode (mMc M_R_addShip) 9 = .ok (.invokevirtual 97, 3) := by decide +kernel
theorem d_R_addShip_12 : decode (mMc M_R_addShip) 12 = .ok (.invokevirtual 101, 3) := by decide +kernel
theorem d_R_addShip_15 : decode (mMc M_R_addShip) 15 = .ok (.ireturn, 1) := by decide +kernel
theorem k_R_addShip : mCd M_R_addShip 3 := ⟨by decide, by decide, by decide +kernel, by decide, mG (8, 58) (by decide +kernel), mG (1, 15) (by decide +kernel)⟩
def M_R_begins : mM := (⟨"FloatingDockModel", "begins", "()V"⟩, prog_13_method_7_code, 1, none, [])
theorem d_R_begins_0 : decode (mMc M_R_begins) 0 = .ok (.aload_n 0, 1) := by decide +kernel
theorem d_R_begins_1 : decode (mMc M_R_begins) 1 = .ok (.getfield 9, 3) := by decide +kernel
theorem d_R_begins_4 : decode (mMc M_R_begins) 4 = .ok (.iconst 0, 1) := by decide +kernel
theorem d_R_begins_5 : decode (mMc M_R_begins) 5 = .ok (.aload_n 0, 1) := by decide +kernel
theorem d_R_begins_6 : decode (mMc M_R_begins) 6 = .ok (.getfield 13, 3) := by decide +kernel
theorem d_R_begins_9 : decode (mMc M_R_begins) 9 = .ok (.iconst 0, 1) := by decide +kernel
theorem d_R_begins_10 : decode (mMc M_R_begins) 10 = .ok (.invokestatic 49, 3) := by decide +kernel
theorem d_R_begins_13 : decode (mMc M_R_begins) 13 = .ok (.return_, 1) := by decide +kernel
theorem k_R_begins : mCd M_R_begins 0 := ⟨by decide, by decide, by decide +kernel, by decide, mG (8, 62) (by decide +kernel), mG (1, 15) (by decide +kernel)⟩
def M_R_adds : mM := (⟨"FloatingDockModel", "adds", "(III)I"⟩, prog_13_method_25_code, 7, (some .int), [])
theorem d_R_adds_0 : decode (mMc M_R_adds) 0 = .ok (.iload_n 1, 1) := by decide +kernel
theorem d_R_adds_1 : decode (mMc M_R_adds) 1 = .ok (.iconst 5, 1) := by decide +kernel
theorem d_R_adds_2 : decode (mMc M_R_adds) 2 = .ok (.bipush 30, 2) := by decide +kernel
theorem d_R_adds_4 : decode (mMc M_R_adds) 4 = .ok (.invokestatic 83, 3) := by decide +kernel
theorem d_R_adds_7 : decode (mMc M_R_adds) 7 = .ok (.ifCond .eq 27, 3) := by decide +kernel
theorem d_R_adds_10 : decode (mMc M_R_adds) 10 = .ok (.iload_n 2, 1) := by decide +kernel
theorem d_R_adds_11 : decode (mMc M_R_adds) 11 = .ok (.iconst 5, 1) := by decide +kernel
theorem d_R_adds_12 : decode (mMc M_R_adds) 12 = .ok (.bipush 80, 2) := by decide +kernel
theorem d_R_adds_14 : decode (mMc M_R_adds) 14 = .ok (.invokestatic 83, 3) := by decide +kernel
theorem d_R_adds_17 : decode (mMc M_R_adds) 17 = .ok (.ifCond .eq 17, 3) := by decide +kernel
theorem d_R_adds_20 : decode (mMc M_R_adds) 20 = .ok (.iload_n 3, 1) := by decide +kernel
theorem d_R_adds_21 : decode (mMc M_R_adds) 21 = .ok (.iconst 0, 1) := by decide +kernel
theorem d_R_adds_22 : decode (mMc M_R_adds) 22 = .ok (.bipush 99, 2) := by decide +kernel
theorem d_R_adds_24 : decode (mMc M_R_adds) 24 = .ok (.invokestatic 83, 3) := by decide +kernel
theorem d_R_adds_27 : decode (mMc M_R_adds) 27 = .ok (.ifCond .eq 7, 3) := by decide +kernel
theorem d_R_adds_30 : decode (mMc M_R_adds) 30 = .ok (.iconst 1, 1) := by decide +kernel
theorem d_R_adds_31 : decode (mMc M_R_adds) 31 = .ok (.goto 4, 3) := by decide +kernel
theorem d_R_adds_34 : decode (mMc M_R_adds) 34 = .ok (.iconst 0, 1) := by decide +kernel
theorem d_R_adds_35 : decode (mMc M_R_adds) 35 = .ok (.istore 4, 2) := by decide +kernel
theorem d_R_adds_37 : decode (mMc M_R_adds) 37 = .ok (.aload_n 0, 1) := by decide +kernel
theorem d_R_adds_38 : decode (mMc M_R_adds) 38 = .ok (.iload 4, 2) := by decide +kernel
theorem d_R_adds_40 : decode (mMc M_R_adds) 40 = .ok (.aload_n 0, 1) := by decide +kernel
theorem d_R_adds_41 : decode (mMc M_R_adds) 41 = .ok (.getfield 9, 3) := by decide +kernel
theorem d_R_adds_44 : decode (mMc M_R_adds) 44 = .ok (.iconst 4, 1) := by decide +kernel
theorem d_R_adds_45 : decode (mMc M_R_adds) 45 = .ok (.iaload, 1) := by decide +kernel
theorem d_R_adds_46 : decode (mMc M_R_adds) 46 = .ok (.bipush 8, 2) := by decide +kernel
theorem d_R_adds_48 : decode (mMc M_R_adds) 48 = .ok (.if_icmp .ge 7, 3) := by decide +kernel
theorem d_R_adds_51 : decode (mMc M_R_adds) 51 = .ok (.iconst 1, 1) := by decide +kernel
theorem d_R_adds_52 : decode (mMc M_R_adds) 52 = .ok (.goto 4, 3) := by decide +kernel
theorem d_R_adds_55 : decode (mMc M_R_adds) 55 = .ok (.iconst 0, 1) := by decide +kernel
theorem d_R_adds_56 : decode (mMc M_R_adds) 56 = .ok (.iconst 1, 1) := by decide +kernel
theorem d_R_adds_57 : decode (mMc M_R_adds) 57 = .ok (.iconst 1, 1) := by decide +kernel
theorem d_R_adds_58 : decode (mMc M_R_adds) 58 = .ok (.invokevirtual 45, 3) := by decide +kernel
theorem d_R_adds_61 : decode (mMc M_R_adds) 61 = .ok (.ifCond .ne 5, 3) := by decide +kernel
theorem d_R_adds_64 : decode (mMc M_R_adds) 64 = .ok (.iconst 0, 1) := by decide +kernel
theorem d_R_adds_65 : decode (mMc M_R_adds) 65 = .ok (.ireturn, 1) := by decide +kernel
theorem d_R_adds_66 : decode (mMc M_R_adds) 66 = .ok (.aload_n 0, 1) := by decide +kernel
theorem d_R_adds_67 : decode (mMc M_R_adds) 67 = .ok (.getfield 9, 3) := by decide +kernel
theorem d_R_adds_70 : decode (mMc M_R_adds) 70 = .ok (.iconst 4, 1) := by decide +kernel
theorem d_R_adds_71 : decode (mMc M_R_adds) 71 = .ok (.iaload, 1) := by decide +kernel
theorem d_R_adds_72 : decode (mMc M_R_adds) 72 = .ok (.istore 5, 2) := by decide +kernel
theorem d_R_adds_74 : decode (mMc M_R_adds) 74 = .ok (.iconst 0, 1) := by decide +kernel
theorem d_R_adds_75 : decode (mMc M_R_adds) 75 = .ok (.istore 6, 2) := by decide +kernel
theorem d_R_adds_77 : decode (mMc M_R_adds) 77 = .ok (.iload 6, 2) := by decide +kernel
theorem d_R_adds_79 : decode (mMc M_R_adds) 79 = .ok (.bipush 9, 2) := by decide +kernel
theorem d_R_adds_81 : decode (mMc M_R_adds) 81 = .ok (.if_icmp .ge 22, 3) := by decide +kernel
theorem d_R_adds_84 : decode (mMc M_R_adds) 84 = .ok (.aload_n 0, 1) := by decide +kernel
theorem d_R_adds_85 : decode (mMc M_R_adds) 85 = .ok (.getfield 9, 3) := by decide +kernel
theorem d_R_adds_88 : decode (mMc M_R_adds) 88 = .ok (.iload 5, 2) := by decide +kernel
theorem d_R_adds_90 : decode (mMc M_R_adds) 90 = .ok (.iload 6, 2) := by decide +kernel
theorem d_R_adds_92 : decode (mMc M_R_adds) 92 = .ok (.invokestatic 76, 3) := by decide +kernel
theorem d_R_adds_95 : decode (mMc M_R_adds) 95 = .ok (.iconst 0, 1) := by decide +kernel
theorem d_R_adds_96 : decode (mMc M_R_adds) 96 = .ok (.iastore, 1) := by decide +kernel
theorem d_R_adds_97 : decode (mMc M_R_adds) 97 = .ok (.iinc 6 1, 3) := by decide +kernel
theorem d_R_adds_100 : decode (mMc M_R_adds) 100 = .ok (.goto (-23), 3) := by decide +kernel
theorem d_R_adds_103 : decode (mMc M_R_adds) 103 = .ok (.aload_n 0, 1) := by decide +kernel
theorem d_R_adds_104 : decode (mMc M_R_adds) 104 = .ok (.getfield 9, 3) := by decide +kernel
theorem d_R_adds_107 : decode (mMc M_R_adds) 107 = .ok (.iload 5, 2) := by decide +kernel
theorem d_R_adds_109 : decode (mMc M_R_adds) 109 = .ok (.iconst 0, 1) := by decide +kernel
theorem d_R_adds_110 : decode (mMc M_R_adds) 110 = .ok (.invokestatic 76, 3) := by decide +kernel
theorem d_R_adds_113 : decode (mMc M_R_adds) 113 = .ok (.aload_n 0, 1) := by decide +kernel
theorem d_R_adds_114 : decode (mMc M_R_adds) 114 = .ok (.getfield 9, 3) := by decide +kernel
theorem d_R_adds_117 : decode (mMc M_R_adds) 117 = .ok (.iconst 5, 1) := by decide +kernel
theorem d_R_adds_118 : decode (mMc M_R_adds) 118 = .ok (.iaload, 1) := by decide +kernel
theorem d_R_adds_119 : decode (mMc M_R_adds) 119 = .ok (.iastore, 1) := by decide +kernel
theorem d_R_adds_120 : decode (mMc M_R_adds) 120 = .ok (.aload_n 0, 1) := by decide +kernel
theorem d_R_adds_121 : decode (mMc M_R_adds) 121 = .ok (.getfield 9, 3) := by decide +kernel
theorem d_R_adds_124 : decode (mMc M_R_adds) 124 = .ok (.iload 5, 2) := by decide +kernel
theorem d_R_adds_126 : decode (mMc M_R_adds) 126 = .ok (.iconst 1, 1) := by decide +kernel
theorem d_R_adds_127 : decode (mMc M_R_adds) 127 = .ok (.invokestatic 76, 3) := by decide +kernel
theorem d_R_adds_130 : decode (mMc M_R_adds) 130 = .ok (.iload_n 1, 1) := by decide +kernel
theorem d_R_adds_131 : decode (mMc M_R_adds) 131 = .ok (.iastore, 1) := by decide +kernel
theorem d_R_adds_132 : decode (mMc M_R_adds) 132 = .ok (.aload_n 0, 1) := by decide +kernel
theorem d_R_adds_133 : decode (mMc M_R_adds) 133 = .ok (.getfield 9, 3) := by decide +kernel
theorem d_R_adds_136 : decode (mMc M_R_adds) 136 = .ok (.iload 5, 2) := by decide +kernel
theorem d_R_adds_138 : decode (mMc M_R_adds) 138 = .ok (.iconst 2, 1) := by decide +kernel
theorem d_R_adds_139 : decode (mMc M_R_adds) 139 = .ok (.invokestatic 76, 3) := by decide +kernel
theorem d_R_adds_142 : decode (mMc M_R_adds) 142 = .ok (.iload_n 2, 1) := by decide +kernel
theorem d_R_adds_143 : decode (mMc M_R_adds) 143 = .ok (.iastore, 1) := by decide +kernel
theorem d_R_adds_144 : decode (mMc M_R_adds) 144 = .ok (.aload_n 0, 1) := by decide +kernel
theorem d_R_adds_145 : decode (mMc M_R_adds) 145 = .ok (.getfield 9, 3) := by decide +kernel
theorem d_R_adds_148 : decode (mMc M_R_adds) 148 = .ok (.iload 5, 2) := by decide +kernel
theorem d_R_adds_150 : decode (mMc M_R_adds) 150 = .ok (.iconst 3, 1) := by decide +kernel
theorem d_R_adds_151 : decode (mMc M_R_adds) 151 = .ok (.invokestatic 76, 3) := by decide +kernel
theorem d_R_adds_154 : decode (mMc M_R_adds) 154 = .ok (.iload_n 3, 1) := by decide +kernel
theorem d_R_adds_155 : decode (mMc M_R_adds) 155 = .ok (.iastore, 1) := by decide +kernel
theorem d_R_adds_156 : decode (mMc M_R_adds) 156 = .ok (.aload_n 0, 1) := by decide +kernel
theorem d_R_adds_157 : decode (mMc M_R_adds) 157 = .ok (.getfield 9, 3) := by decide +kernel
theorem d_R_adds_160 : decode (mMc M_R_adds) 160 = .ok (.iload 5, 2) := by decide +kernel
theorem d_R_adds_162 : decode (mMc M_R_adds) 162 = .ok (.iconst 4, 1) := by decide +kernel
theorem d_R_adds_163 : decode (mMc M_R_adds) 163 = .ok (.invokestatic 76, 3) := by decide +kernel
theorem d_R_adds_166 : decode (mMc M_R_adds) 166 = .ok (.iconst (-1), 1) := by decide +kernel
theorem d_R_adds_167 : decode (mMc M_R_adds) 167 = .ok (.iastore, 1) := by decide +kernel
theorem d_R_adds_168 : decode (mMc M_R_adds) 168 = .ok (.aload_n 0, 1) := by decide +kernel
theorem d_R_adds_169 : decode (mMc M_R_adds) 169 = .ok (.getfield 9, 3) := by decide +kernel
theorem d_R_adds_172 : decode (mMc M_R_adds) 172 = .ok (.iconst 4, 1) := by decide +kernel
theorem d_R_adds_173 : decode (mMc M_R_adds) 173 = .ok (.dup2, 1) := by decide +kernel
theorem d_R_adds_174 : decode (mMc M_R_adds) 174 = .ok (.iaload, 1) := by decide +kernel
theorem d_R_adds_175 : decode (mMc M_R_adds) 175 = .ok (.iconst 1, 1) := by decide +kernel
theorem d_R_adds_176 : decode (mMc M_R_adds) 176 = .ok (.iadd, 1) := by decide +kernel
theorem d_R_adds_177 : decode (mMc M_R_adds) 177 = .ok (.iastore, 1) := by decide +kernel
theorem d_R_adds_178 : decode (mMc M_R_adds) 178 = .ok (.aload_n 0, 1) := by decide +kernel
theorem d_R_adds_179 : decode (mMc M_R_adds) 179 = .ok (.getfield 9, 3) := by decide +kernel
theorem d_R_adds_182 : decode (mMc M_R_adds) 182 = .ok (.iconst 5, 1) := by decide +kernel
theorem d_R_adds_183 : decode (mMc M_R_adds) 183 = .ok (.dup2, 1) := by decide +kernel
theorem d_R_adds_184 : decode (mMc M_R_adds) 184 = .ok (.iaload, 1) := by decide +kernel
theorem d_R_adds_185 : decode (mMc M_R_adds) 185 = .ok (.iconst 1, 1) := by decide +kernel
theorem d_R_adds_186 : decode (mMc M_R_adds) 186 = .ok (.iadd, 1) := by decide +kernel
theorem d_R_adds_187 : decode (mMc M_R_adds) 187 = .ok (.iastore, 1) := by decide +kernel
theorem d_R_adds_188 : decode (mMc M_R_adds) 188 = .ok (.aload_n 0, 1) := by decide +kernel
theorem d_R_adds_189 : decode (mMc M_R_adds) 189 = .ok (.getfield 9, 3) := by decide +kernel
theorem d_R_adds_192 : decode (mMc M_R_adds) 192 = .ok (.iconst 5, 1) := by decide +kernel
theorem d_R_adds_193 : decode (mMc M_R_adds) 193 = .ok (.iaload, 1) := by decide +kernel
theorem d_R_adds_194 : decode (mMc M_R_adds) 194 = .ok (.iconst 1, 1) := by decide +kernel
theorem d_R_adds_195 : decode (mMc M_R_adds) 195 = .ok (.isub, 1) := by decide +kernel
theorem d_R_adds_196 : decode (mMc M_R_adds) 196 = .ok (.ireturn, 1) := by decide +kernel
theorem k_R_adds : mCd M_R_adds 3 := ⟨by decide, by decide, by decide +kernel, by decide, mG (8, 66) (by decide +kernel), mG (1, 15) (by decide +kernel)⟩
def M_R_isIn : mM := (⟨"FloatingDockModel", "isIn", "(III)Z"⟩, prog_13_method_3_code, 3, (some .boolean), [])
theorem d_R_isIn_0 : decode (mMc M_R_isIn) 0 = .ok (.iload_n 0, 1) := by decide +kernel
theorem d_R_isIn_1 : decode (mMc M_R_isIn) 1 = .ok (.iload_n 1, 1) := by decide +kernel
theorem d_R_isIn_2 : decode (mMc M_R_isIn) 2 = .ok (.if_icmp .lt 12, 3) := by decide +kernel
theorem d_R_isIn_5 : decode (mMc M_R_isIn) 5 = .ok (.iload_n 0, 1) := by decide +kernel
theorem d_R_isIn_6 : decode (mMc M_R_isIn) 6 = .ok (.iload_n 2, 1) := by decide +kernel
theorem d_R_isIn_7 : decode (mMc M_R_isIn) 7 = .ok (.if_icmp .gt 7, 3) := by decide +kernel
theorem d_R_isIn_10 : decode (mMc M_R_isIn) 10 = .ok (.iconst 1, 1) := by decide +kernel
theorem d_R_isIn_11 : decode (mMc M_R_isIn) 11 = .ok (.goto 4, 3) := by decide +kernel
theorem d_R_isIn_14 : decode (mMc M_R_isIn) 14 = .ok (.iconst 0, 1) := by decide +kernel
theorem d_R_isIn_15 : decode (mMc M_R_isIn) 15 = .ok (.ireturn, 1) := by decide +kernel
theorem k_R_isIn : mCd M_R_isIn 3 := ⟨by decide, by decide, by decide +kernel, by decide, mG (8, 69) (by decide +kernel), mG (1, 15) (by decide +kernel)⟩
def M_R_place : mM := (⟨"FloatingDockModel", "place", "(II)I"⟩, prog_13_method_14_code, 2, (some .int), [])
theorem d_R_place_0 : decode (mMc M_R_place) 0 = .ok (.bipush 8, 2) := by decide +kernel
theorem d_R_place_2 : decode (mMc M_R_place) 2 = .ok (.bipush 9, 2) := by decide +kernel
theorem d_R_place_4 : decode (mMc M_R_place) 4 = .ok (.iconst 0, 1) := by decide +kernel
theorem d_R_place_5 : decode (mMc M_R_place) 5 = .ok (.iload_n 0, 1) := by decide +kernel
theorem d_R_place_6 : decode (mMc M_R_place) 6 = .ok (.invokestatic 71, 3) := by decide +kernel
theorem d_R_place_9 : decode (mMc M_R_place) 9 = .ok (.imul, 1) := by decide +kernel
theorem d_R_place_10 : decode (mMc M_R_place) 10 = .ok (.iadd, 1) := by decide +kernel
theorem d_R_place_11 : decode (mMc M_R_place) 11 = .ok (.iload_n 1, 1) := by decide +kernel
theorem d_R_place_12 : decode (mMc M_R_place) 12 = .ok (.iadd, 1) := by decide +kernel
theorem d_R_place_13 : decode (mMc M_R_place) 13 = .ok (.ireturn, 1) := by decide +kernel
theorem k_R_place : mCd M_R_place 2 := ⟨by decide, by decide, by decide +kernel, by decide, mG (8, 72) (by decide +kernel), mG (1, 15) (by decide +kernel)⟩
def M_R_ends : mM := (⟨"FloatingDockModel", "ends", "(I)I"⟩, prog_13_method_9_code, 2, (some .int), [])
theorem d_R_ends_0 : decode (mMc M_R_ends) 0 = .ok (.aload_n 0, 1) := by decide +kernel
theorem d_R_ends_1 : decode (mMc M_R_ends) 1 = .ok (.getfield 42, 3) := by decide +kernel
theorem d_R_ends_4 : decode (mMc M_R_ends) 4 = .ok (.ifCond .eq 18, 3) := by decide +kernel
theorem d_R_ends_7 : decode (mMc M_R_ends) 7 = .ok (.aload_n 0, 1) := by decide +kernel
theorem d_R_ends_8 : decode (mMc M_R_ends) 8 = .ok (.getfield 13, 3) := by decide +kernel
theorem d_R_ends_11 : decode (mMc M_R_ends) 11 = .ok (.iconst 0, 1) := by decide +kernel
theorem d_R_ends_12 : decode (mMc M_R_ends) 12 = .ok (.aload_n 0, 1) := by decide +kernel
theorem d_R_ends_13 : decode (mMc M_R_ends) 13 = .ok (.getfield 9, 3) := by decide +kernel
theorem d_R_ends_16 : decode (mMc M_R_ends) 16 = .ok (.iconst 0, 1) := by decide +kernel
theorem d_R_ends_17 : decode (mMc M_R_ends) 17 = .ok (.invokestatic 49, 3) := by decide +kernel
theorem d_R_ends_20 : decode (mMc M_R_ends) 20 = .ok (.iconst 0, 1) := by decide +kernel
theorem d_R_ends_21 : decode (mMc M_R_ends) 21 = .ok (.ireturn, 1) := by decide +kernel
theorem d_R_ends_22 : decode (mMc M_R_ends) 22 = .ok (.aload_n 0, 1) := by decide +kernel
theorem d_R_ends_23 : decode (mMc M_R_ends) 23 = .ok (.invokevirtual 56, 3) := by decide +kernel
theorem d_R_ends_26 : decode (mMc M_R_ends) 26 = .ok (.iload_n 1, 1) := by decide +kernel
theorem d_R_ends_27 : decode (mMc M_R_ends) 27 = .ok (.ireturn, 1) := by decide +kernel
theorem k_R_ends : mCd M_R_ends 1 := ⟨by decide, by decide, by decide +kernel, by decide, mG (8, 77) (by decide +kernel), mG (1, 15) (by decide +kernel)⟩
def M_R_remembers : mM := (⟨"FloatingDockModel", "remembers", "()V"⟩, prog_13_method_8_code, 2, none, [])
theorem d_R_remembers_0 : decode (mMc M_R_remembers) 0 = .ok (.aload_n 0, 1) := by decide +kernel
theorem d_R_remembers_1 : decode (mMc M_R_remembers) 1 = .ok (.getfield 53, 3) := by decide +kernel
theorem d_R_remembers_4 : decode (mMc M_R_remembers) 4 = .ok (.bipush 8, 2) := by decide +kernel
theorem d_R_remembers_6 : decode (mMc M_R_remembers) 6 = .ok (.if_icmp .ne 44, 3) := by decide +kernel
theorem d_R_remembers_9 : decode (mMc M_R_remembers) 9 = .ok (.iconst 0, 1) := by decide +kernel
theorem d_R_remembers_10 : decode (mMc M_R_remembers) 10 = .ok (.istore_n 1, 1) := by decide +kernel
theorem d_R_remembers_11 : decode (mMc M_R_remembers) 11 = .ok (.iload_n 1, 1) := by decide +kernel
theorem d_R_remembers_12 : decode (mMc M_R_remembers) 12 = .ok (.sipush 980, 3) := by decide +kernel
theorem d_R_remembers_15 : decode (mMc M_R_remembers) 15 = .ok (.if_icmp .ge 25, 3) := by decide +kernel
theorem d_R_remembers_18 : decode (mMc M_R_remembers) 18 = .ok (.aload_n 0, 1) := by decide +kernel
theorem d_R_remembers_19 : decode (mMc M_R_remembers) 19 = .ok (.getfield 19, 3) := by decide +kernel
theorem d_R_remembers_22 : decode (mMc M_R_remembers) 22 = .ok (.iload_n 1, 1) := by decide +kernel
theorem d_R_remembers_23 : decode (mMc M_R_remembers) 23 = .ok (.aload_n 0, 1) := by decide +kernel
theorem d_R_remembers_24 : decode (mMc M_R_remembers) 24 = .ok (.getfield 19, 3) := by decide +kernel
theorem d_R_remembers_27 : decode (mMc M_R_remembers) 27 = .ok (.iload_n 1, 1) := by decide +kernel
theorem d_R_remembers_28 : decode (mMc M_R_remembers) 28 = .ok (.sipush 140, 3) := by decide +kernel
theorem d_R_remembers_31 : decode (mMc M_R_remembers) 31 = .ok (.iadd, 1) := by decide +kernel
theorem d_R_remembers_32 : decode (mMc M_R_remembers) 32 = .ok (.iaload, 1) := by decide +kernel
theorem d_R_remembers_33 : decode (mMc M_R_remembers) 33 = .ok (.iastore, 1) := by decide +kernel
theorem d_R_remembers_34 : decode (mMc M_R_remembers) 34 = .ok (.iinc 1 1, 3) := by decide +kernel
theorem d_R_remembers_37 : decode (mMc M_R_remembers) 37 = .ok (.goto (-26), 3) := by decide +kernel
theorem d_R_remembers_40 : decode (mMc M_R_remembers) 40 = .ok (.aload_n 0, 1) := by decide +kernel
theorem d_R_remembers_41 : decode (mMc M_R_remembers) 41 = .ok (.dup, 1) := by decide +kernel
theorem d_R_remembers_42 : decode (mMc M_R_remembers) 42 = .ok (.getfield 53, 3) := by decide +kernel
theorem d_R_remembers_45 : decode (mMc M_R_remembers) 45 = .ok (.iconst 1, 1) := by decide +kernel
theorem d_R_remembers_46 : decode (mMc M_R_remembers) 46 = .ok (.isub, 1) := by decide +kernel
theorem d_R_remembers_47 : decode (mMc M_R_remembers) 47 = .ok (.putfield 53, 3) := by decide +kernel
theorem d_R_remembers_50 : decode (mMc M_R_remembers) 50 = .ok (.aload_n 0, 1) := by decide +kernel
theorem d_R_remembers_51 : decode (mMc M_R_remembers) 51 = .ok (.getfield 13, 3) := by decide +kernel
theorem d_R_remembers_54 : decode (mMc M_R_remembers) 54 = .ok (.iconst 0, 1) := by decide +kernel
theorem d_R_remembers_55 : decode (mMc M_R_remembers) 55 = .ok (.aload_n 0, 1) := by decide +kernel
theorem d_R_remembers_56 : decode (mMc M_R_remembers) 56 = .ok (.getfield 19, 3) := by decide +kernel
theorem d_R_remembers_59 : decode (mMc M_R_remembers) 59 = .ok (.aload_n 0, 1) := by decide +kernel
theorem d_R_remembers_60 : decode (mMc M_R_remembers) 60 = .ok (.getfield 53, 3) := by decide +kernel
theorem d_R_remembers_63 : decode (mMc M_R_remembers) 63 = .ok (.sipush 140, 3) := by decide +kernel
theorem d_R_remembers_66 : decode (mMc M_R_remembers) 66 = .ok (.imul, 1) := by decide +kernel
theorem d_R_remembers_67 : decode (mMc M_R_remembers) 67 = .ok (.invokestatic 49, 3) := by decide +kernel
theorem d_R_remembers_70 : decode (mMc M_R_remembers) 70 = .ok (.aload_n 0, 1) := by decide +kernel
theorem d_R_remembers_71 : decode (mMc M_R_remembers) 71 = .ok (.dup, 1) := by decide +kernel
theorem d_R_remembers_72 : decode (mMc M_R_remembers) 72 = .ok (.getfield 53, 3) := by decide +kernel
theorem d_R_remembers_75 : decode (mMc M_R_remembers) 75 = .ok (.iconst 1, 1) := by decide +kernel
theorem d_R_remembers_76 : decode (mMc M_R_remembers) 76 = .ok (.iadd, 1) := by decide +kernel
theorem d_R_remembers_77 : decode (mMc M_R_remembers) 77 = .ok (.putfield 53, 3) := by decide +kernel
theorem d_R_remembers_80 : decode (mMc M_R_remembers) 80 = .ok (.return_, 1) := by decide +kernel
theorem k_R_remembers : mCd M_R_remembers 0 := ⟨by decide, by decide, by decide +kernel, by decide, mG (8, 81) (by decide +kernel), mG (1, 15) (by decide +kernel)⟩
def M_R_removeShip : mM := (⟨"FloatingDockModel", "removeShip", "(I)I"⟩, prog_13_method_28_code, 2, (some .int), [])
theorem d_R_removeShip_0 : decode (mMc M_R_removeShip) 0 = .ok (.aload_n 0, 1) := by decide +kernel
theorem d_R_removeShip_1 : decode (mMc M_R_removeShip) 1 = .ok (.invokevirtual 94, 3) := by decide +kernel
theorem d_R_removeShip_4 : decode (mMc M_R_removeShip) 4 = .ok (.aload_n 0, 1) := by decide +kernel
theorem d_R_removeShip_5 : decode (mMc M_R_removeShip) 5 = .ok (.aload_n 0, 1) := by decide +kernel
theorem d_R_removeShip_6 : decode (mMc M_R_removeShip) 6 = .ok (.iload_n 1, 1) := by decide +kernel
theorem d_R_removeShip_7 : decode (mMc M_R_removeShip) 7 = .ok (.invokevirtual 107, 3) := by decide +kernel
theorem d_R_removeShip_10 : decode (mMc M_R_removeShip) 10 = .ok (.invokevirtual 101, 3) := by decide +kernel
theorem d_R_removeShip_13 : decode (mMc M_R_removeShip) 13 = .ok (.ireturn, 1) := by decide +kernel
theorem k_R_removeShip : mCd M_R_removeShip 1 := ⟨by decide, by decide, by decide +kernel, by decide, mG (8, 85) (by decide +kernel), mG (1, 15) (by decide +kernel)⟩
def M_R_removes : mM := (⟨"FloatingDockModel", "removes", "(I)I"⟩, prog_13_method_27_code, 5, (some .int), [])
theorem d_R_removes_0 : decode (mMc M_R_removes) 0 = .ok (.aload_n 0, 1) := by decide +kernel
theorem d_R_removes_1 : decode (mMc M_R_removes) 1 = .ok (.iload_n 1, 1) := by decide +kernel
theorem d_R_removes_2 : decode (mMc M_R_removes) 2 = .ok (.invokevirtual 104, 3) := by decide +kernel
theorem d_R_removes_5 : decode (mMc M_R_removes) 5 = .ok (.istore_n 2, 1) := by decide +kernel
theorem d_R_removes_6 : decode (mMc M_R_removes) 6 = .ok (.aload_n 0, 1) := by decide +kernel
theorem d_R_removes_7 : decode (mMc M_R_removes) 7 = .ok (.iload_n 2, 1) := by decide +kernel
theorem d_R_removes_8 : decode (mMc M_R_removes) 8 = .ok (.iconst (-1), 1) := by decide +kernel
theorem d_R_removes_9 : decode (mMc M_R_removes) 9 = .ok (.if_icmp .eq 7, 3) := by decide +kernel
theorem d_R_removes_12 : decode (mMc M_R_removes) 12 = .ok (.iconst 1, 1) := by decide +kernel
theorem d_R_removes_13 : decode (mMc M_R_removes) 13 = .ok (.goto 4, 3) := by decide +kernel
theorem d_R_removes_16 : decode (mMc M_R_removes) 16 = .ok (.iconst 0, 1) := by decide +kernel
theorem d_R_removes_17 : decode (mMc M_R_removes) 17 = .ok (.aload_n 0, 1) := by decide +kernel
theorem d_R_removes_18 : decode (mMc M_R_removes) 18 = .ok (.iload_n 2, 1) := by decide +kernel
theorem d_R_removes_19 : decode (mMc M_R_removes) 19 = .ok (.invokevirtual 79, 3) := by decide +kernel
theorem d_R_removes_22 : decode (mMc M_R_removes) 22 = .ok (.ifCond .ne 17, 3) := by decide +kernel
theorem d_R_removes_25 : decode (mMc M_R_removes) 25 = .ok (.aload_n 0, 1) := by decide +kernel
theorem d_R_removes_26 : decode (mMc M_R_removes) 26 = .ok (.iload_n 2, 1) := by decide +kernel
theorem d_R_removes_27 : decode (mMc M_R_removes) 27 = .ok (.bipush 8, 2) := by decide +kernel
theorem d_R_removes_29 : decode (mMc M_R_removes) 29 = .ok (.invokevirtual 67, 3) := by decide +kernel
theorem d_R_removes_32 : decode (mMc M_R_removes) 32 = .ok (.ifCond .ne 7, 3) := by decide +kernel
theorem d_R_removes_35 : decode (mMc M_R_removes) 35 = .ok (.iconst 1, 1) := by decide +kernel
theorem d_R_removes_36 : decode (mMc M_R_removes) 36 = .ok (.goto 4, 3) := by decide +kernel
theorem d_R_removes_39 : decode (mMc M_R_removes) 39 = .ok (.iconst 0, 1) := by decide +kernel
theorem d_R_removes_40 : decode (mMc M_R_removes) 40 = .ok (.iconst 1, 1) := by decide +kernel
theorem d_R_removes_41 : decode (mMc M_R_removes) 41 = .ok (.iconst 1, 1) := by decide +kernel
theorem d_R_removes_42 : decode (mMc M_R_removes) 42 = .ok (.invokevirtual 45, 3) := by decide +kernel
theorem d_R_removes_45 : decode (mMc M_R_removes) 45 = .ok (.ifCond .ne 5, 3) := by decide +kernel
theorem d_R_removes_48 : decode (mMc M_R_removes) 48 = .ok (.iconst 0, 1) := by decide +kernel
theorem d_R_removes_49 : decode (mMc M_R_removes) 49 = .ok (.ireturn, 1) := by decide +kernel
theorem d_R_removes_50 : decode (mMc M_R_removes) 50 = .ok (.aload_n 0, 1) := by decide +kernel
theorem d_R_removes_51 : decode (mMc M_R_removes) 51 = .ok (.iload_n 2, 1) := by decide +kernel
theorem d_R_removes_52 : decode (mMc M_R_removes) 52 = .ok (.iconst 3, 1) := by decide +kernel
theorem d_R_removes_53 : decode (mMc M_R_removes) 53 = .ok (.invokevirtual 67, 3) := by decide +kernel
theorem d_R_removes_56 : decode (mMc M_R_removes) 56 = .ok (.istore_n 3, 1) := by decide +kernel
theorem d_R_removes_57 : decode (mMc M_R_removes) 57 = .ok (.iload_n 2, 1) := by decide +kernel
theorem d_R_removes_58 : decode (mMc M_R_removes) 58 = .ok (.iconst 0, 1) := by decide +kernel
theorem d_R_removes_59 : decode (mMc M_R_removes) 59 = .ok (.invokestatic 76, 3) := by decide +kernel
theorem d_R_removes_62 : decode (mMc M_R_removes) 62 = .ok (.istore 4, 2) := by decide +kernel
theorem d_R_removes_64 : decode (mMc M_R_removes) 64 = .ok (.iload 4, 2) := by decide +kernel
theorem d_R_removes_66 : decode (mMc M_R_removes) 66 = .ok (.bipush 71, 2) := by decide +kernel
theorem d_R_removes_68 : decode (mMc M_R_removes) 68 = .ok (.if_icmp .ge 26, 3) := by decide +kernel
theorem d_R_removes_71 : decode (mMc M_R_removes) 71 = .ok (.aload_n 0, 1) := by decide +kernel
theorem d_R_removes_72 : decode (mMc M_R_removes) 72 = .ok (.getfield 9, 3) := by decide +kernel
theorem d_R_removes_75 : decode (mMc M_R_removes) 75 = .ok (.iload 4, 2) := by decide +kernel
theorem d_R_removes_77 : decode (mMc M_R_removes) 77 = .ok (.aload_n 0, 1) := by decide +kernel
theorem d_R_removes_78 : decode (mMc M_R_removes) 78 = .ok (.getfield 9, 3) := by decide +kernel
theorem d_R_removes_81 : decode (mMc M_R_removes) 81 = .ok (.iload 4, 2) := by decide +kernel
theorem d_R_removes_83 : decode (mMc M_R_removes) 83 = .ok (.bipush 9, 2) := by decide +kernel
theorem d_R_removes_85 : decode (mMc M_R_removes) 85 = .ok (.iadd, 1) := by decide +kernel
theorem d_R_removes_86 : decode (mMc M_R_removes) 86 = .ok (.iaload, 1) := by decide +kernel
theorem d_R_removes_87 : decode (mMc M_R_removes) 87 = .ok (.iastore, 1) := by decide +kernel
theorem d_R_removes_88 : decode (mMc M_R_removes) 88 = .ok (.iinc 4 1, 3) := by decide +kernel
theorem d_R_removes_91 : decode (mMc M_R_removes) 91 = .ok (.goto (-27), 3) := by decide +kernel
theorem d_R_removes_94 : decode (mMc M_R_removes) 94 = .ok (.aload_n 0, 1) := by decide +kernel
theorem d_R_removes_95 : decode (mMc M_R_removes) 95 = .ok (.getfield 9, 3) := by decide +kernel
theorem d_R_removes_98 : decode (mMc M_R_removes) 98 = .ok (.iconst 4, 1) := by decide +kernel
theorem d_R_removes_99 : decode (mMc M_R_removes) 99 = .ok (.dup2, 1) := by decide +kernel
theorem d_R_removes_100 : decode (mMc M_R_removes) 100 = .ok (.iaload, 1) := by decide +kernel
theorem d_R_removes_101 : decode (mMc M_R_removes) 101 = .ok (.iconst 1, 1) := by decide +kernel
theorem d_R_removes_102 : decode (mMc M_R_removes) 102 = .ok (.isub, 1) := by decide +kernel
theorem d_R_removes_103 : decode (mMc M_R_removes) 103 = .ok (.iastore, 1) := by decide +kernel
theorem d_R_removes_104 : decode (mMc M_R_removes) 104 = .ok (.iload_n 3, 1) := by decide +kernel
theorem d_R_removes_105 : decode (mMc M_R_removes) 105 = .ok (.ireturn, 1) := by decide +kernel
theorem k_R_removes : mCd M_R_removes 1 := ⟨by decide, by decide, by decide +kernel, by decide, mG (8, 89) (by decide +kernel), mG (1, 15) (by decide +kernel)⟩
def M_R_find : mM := (⟨"FloatingDockModel", "find", "(I)I"⟩, prog_13_method_13_code, 4, (some .int), [])
theorem d_R_find_0 : decode (mMc M_R_find) 0 = .ok (.iconst (-1), 1) := by decide +kernel
theorem d_R_find_1 : decode (mMc M_R_find) 1 = .ok (.istore_n 2, 1) := by decide +kernel
theorem d_R_find_2 : decode (mMc M_R_find) 2 = .ok (.iconst 0, 1) := by decide +kernel
theorem d_R_find_3 : decode (mMc M_R_find) 3 = .ok (.istore_n 3, 1) := by decide +kernel
theorem d_R_find_4 : decode (mMc M_R_find) 4 = .ok (.iload_n 3, 1) := by decide +kernel
theorem d_R_find_5 : decode (mMc M_R_find) 5 = .ok (.aload_n 0, 1) := by decide +kernel
theorem d_R_find_6 : decode (mMc M_R_find) 6 = .ok (.getfield 9, 3) := by decide +kernel
theorem d_R_find_9 : decode (mMc M_R_find) 9 = .ok (.iconst 4, 1) := by decide +kernel
theorem d_R_find_10 : decode (mMc M_R_find) 10 = .ok (.iaload, 1) := by decide +kernel
theorem d_R_find_11 : decode (mMc M_R_find) 11 = .ok (.if_icmp .ge 25, 3) := by decide +kernel
theorem d_R_find_14 : decode (mMc M_R_find) 14 = .ok (.aload_n 0, 1) := by decide +kernel
theorem d_R_find_15 : decode (mMc M_R_find) 15 = .ok (.iload_n 3, 1) := by decide +kernel
theorem d_R_find_16 : decode (mMc M_R_find) 16 = .ok (.iconst 0, 1) := by decide +kernel
theorem d_R_find_17 : decode (mMc M_R_find) 17 = .ok (.invokevirtual 67, 3) := by decide +kernel
theorem d_R_find_20 : decode (mMc M_R_find) 20 = .ok (.iload_n 1, 1) := by decide +kernel
theorem d_R_find_21 : decode (mMc M_R_find) 21 = .ok (.if_icmp .ne 7, 3) := by decide +kernel
theorem d_R_find_24 : decode (mMc M_R_find) 24 = .ok (.iload_n 3, 1) := by decide +kernel
theorem d_R_find_25 : decode (mMc M_R_find) 25 = .ok (.goto 4, 3) := by decide +kernel
theorem d_R_find_28 : decode (mMc M_R_find) 28 = .ok (.iload_n 2, 1) := by decide +kernel
theorem d_R_find_29 : decode (mMc M_R_find) 29 = .ok (.istore_n 2, 1) := by decide +kernel
theorem d_R_find_30 : decode (mMc M_R_find) 30 = .ok (.iinc 3 1, 3) := by decide +kernel
theorem d_R_find_33 : decode (mMc M_R_find) 33 = .ok (.goto (-29), 3) := by decide +kernel
theorem d_R_find_36 : decode (mMc M_R_find) 36 = .ok (.iload_n 2, 1) := by decide +kernel
theorem d_R_find_37 : decode (mMc M_R_find) 37 = .ok (.ireturn, 1) := by decide +kernel
theorem k_R_find : mCd M_R_find 1 := ⟨by decide, by decide, by decide +kernel, by decide, mG (8, 93) (by decide +kernel), mG (1, 15) (by decide +kernel)⟩
def M_R_of : mM := (⟨"FloatingDockModel", "of", "(II)I"⟩, prog_13_method_15_code, 3, (some .int), [])
theorem d_R_of_0 : decode (mMc M_R_of) 0 = .ok (.aload_n 0, 1) := by decide +kernel
theorem d_R_of_1 : decode (mMc M_R_of) 1 = .ok (.getfield 9, 3) := by decide +kernel
theorem d_R_of_4 : decode (mMc M_R_of) 4 = .ok (.iload_n 1, 1) := by decide +kernel
theorem d_R_of_5 : decode (mMc M_R_of) 5 = .ok (.iload_n 2, 1) := by decide +kernel
theorem d_R_of_6 : decode (mMc M_R_of) 6 = .ok (.invokestatic 76, 3) := by decide +kernel
theorem d_R_of_9 : decode (mMc M_R_of) 9 = .ok (.iaload, 1) := by decide +kernel
theorem d_R_of_10 : decode (mMc M_R_of) 10 = .ok (.ireturn, 1) := by decide +kernel
theorem k_R_of : mCd M_R_of 2 := ⟨by decide, by decide, by decide +kernel, by decide, mG (8, 97) (by decide +kernel), mG (1, 15) (by decide +kernel)⟩
def M_R_isDocked : mM := (⟨"FloatingDockModel", "isDocked", "(I)Z"⟩, prog_13_method_16_code, 2, (some .boolean), [])
theorem d_R_isDocked_0 : decode (mMc M_R_isDocked) 0 = .ok (.iload_n 1, 1) := by decide +kernel
theorem d_R_isDocked_1 : decode (mMc M_R_isDocked) 1 = .ok (.iconst (-1), 1) := by decide +kernel
theorem d_R_isDocked_2 : decode (mMc M_R_isDocked) 2 = .ok (.if_icmp .eq 17, 3) := by decide +kernel
theorem d_R_isDocked_5 : decode (mMc M_R_isDocked) 5 = .ok (.aload_n 0, 1) := by decide +kernel
theorem d_R_isDocked_6 : decode (mMc M_R_isDocked) 6 = .ok (.iload_n 1, 1) := by decide +kernel
theorem d_R_isDocked_7 : decode (mMc M_R_isDocked) 7 = .ok (.iconst 4, 1) := by decide +kernel
theorem d_R_isDocked_8 : decode (mMc M_R_isDocked) 8 = .ok (.invokevirtual 67, 3) := by decide +kernel
theorem d_R_isDocked_11 : decode (mMc M_R_isDocked) 11 = .ok (.iconst (-1), 1) := by decide +kernel
theorem d_R_isDocked_12 : decode (mMc M_R_isDocked) 12 = .ok (.if_icmp .eq 7, 3) := by decide +kernel
theorem d_R_isDocked_15 : decode (mMc M_R_isDocked) 15 = .ok (.iconst 1, 1) := by decide +kernel
theorem d_R_isDocked_16 : decode (mMc M_R_isDocked) 16 = .ok (.goto 4, 3) := by decide +kernel
theorem d_R_isDocked_19 : decode (mMc M_R_isDocked) 19 = .ok (.iconst 0, 1) := by decide +kernel
theorem d_R_isDocked_20 : decode (mMc M_R_isDocked) 20 = .ok (.ireturn, 1) := by decide +kernel
theorem k_R_isDocked : mCd M_R_isDocked 1 := ⟨by decide, by decide, by decide +kernel, by decide, mG (8, 101) (by decide +kernel), mG (1, 15) (by decide +kernel)⟩
def M_R_enter : mM := (⟨"FloatingDockModel", "enter", "(II)I"⟩, prog_13_method_31_code, 3, (some .int), [])
theorem d_R_enter_0 : decode (mMc M_R_enter) 0 = .ok (.aload_n 0, 1) := by decide +kernel
theorem d_R_enter_1 : decode (mMc M_R_enter) 1 = .ok (.invokevirtual 94, 3) := by decide +kernel
theorem d_R_enter_4 : decode (mMc M_R_enter) 4 = .ok (.aload_n 0, 1) := by decide +kernel
theorem d_R_enter_5 : decode (mMc M_R_enter) 5 = .ok (.aload_n 0, 1) := by decide +kernel
theorem d_R_enter_6 : decode (mMc M_R_enter) 6 = .ok (.iload_n 1, 1) := by decide +kernel
theorem d_R_enter_7 : decode (mMc M_R_enter) 7 = .ok (.iload_n 2, 1) := by decide +kernel
theorem d_R_enter_8 : decode (mMc M_R_enter) 8 = .ok (.invokevirtual 125, 3) := by decide +kernel
theorem d_R_enter_11 : decode (mMc M_R_enter) 11 = .ok (.invokevirtual 101, 3) := by decide +kernel
theorem d_R_enter_14 : decode (mMc M_R_enter) 14 = .ok (.ireturn, 1) := by decide +kernel
theorem k_R_enter : mCd M_R_enter 2 := ⟨by decide, by decide, by decide +kernel, by decide, mG (8, 105) (by decide +kernel), mG (1, 15) (by decide +kernel)⟩
def M_R_enters : mM := (⟨"FloatingDockModel", "enters", "(II)I"⟩, prog_13_method_30_code, 6, (some .int), [])
theorem d_R_enters_0 : decode (mMc M_R_enters) 0 = .ok (.aload_n 0, 1) := by decide +kernel
theorem d_R_enters_1 : decode (mMc M_R_enters) 1 = .ok (.iload_n 1, 1) := by decide +kernel
theorem d_R_enters_2 : decode (mMc M_R_enters) 2 = .ok (.invokevirtual 104, 3) := by decide +kernel
theorem d_R_enters_5 : decode (mMc M_R_enters) 5 = .ok (.istore_n 3, 1) := by decide +kernel
theorem d_R_enters_6 : decode (mMc M_R_enters) 6 = .ok (.aload_n 0, 1) := by decide +kernel
theorem d_R_enters_7 : decode (mMc M_R_enters) 7 = .ok (.iload_n 3, 1) := by decide +kernel
theorem d_R_enters_8 : decode (mMc M_R_enters) 8 = .ok (.iconst 1, 1) := by decide +kernel
theorem d_R_enters_9 : decode (mMc M_R_enters) 9 = .ok (.invokevirtual 67, 3) := by decide +kernel
theorem d_R_enters_12 : decode (mMc M_R_enters) 12 = .ok (.istore 4, 2) := by decide +kernel
theorem d_R_enters_14 : decode (mMc M_R_enters) 14 = .ok (.iload_n 2, 1) := by decide +kernel
theorem d_R_enters_15 : decode (mMc M_R_enters) 15 = .ok (.invokestatic 91, 3) := by decide +kernel
theorem d_R_enters_18 : decode (mMc M_R_enters) 18 = .ok (.ifCond .eq 16, 3) := by decide +kernel
theorem d_R_enters_21 : decode (mMc M_R_enters) 21 = .ok (.iload_n 2, 1) := by decide +kernel
theorem d_R_enters_22 : decode (mMc M_R_enters) 22 = .ok (.bipush 60, 2) := by decide +kernel
theorem d_R_enters_24 : decode (mMc M_R_enters) 24 = .ok (.iload 4, 2) := by decide +kernel
theorem d_R_enters_26 : decode (mMc M_R_enters) 26 = .ok (.isub, 1) := by decide +kernel
theorem d_R_enters_27 : decode (mMc M_R_enters) 27 = .ok (.if_icmp .gt 7, 3) := by decide +kernel
theorem d_R_enters_30 : decode (mMc M_R_enters) 30 = .ok (.iconst 1, 1) := by decide +kernel
theorem d_R_enters_31 : decode (mMc M_R_enters) 31 = .ok (.goto 4, 3) := by decide +kernel
theorem d_R_enters_34 : decode (mMc M_R_enters) 34 = .ok (.iconst 0, 1) := by decide +kernel
theorem d_R_enters_35 : decode (mMc M_R_enters) 35 = .ok (.istore 5, 2) := by decide +kernel
theorem d_R_enters_37 : decode (mMc M_R_enters) 37 = .ok (.aload_n 0, 1) := by decide +kernel
theorem d_R_enters_38 : decode (mMc M_R_enters) 38 = .ok (.iload_n 3, 1) := by decide +kernel
theorem d_R_enters_39 : decode (mMc M_R_enters) 39 = .ok (.iconst (-1), 1) := by decide +kernel
theorem d_R_enters_40 : decode (mMc M_R_enters) 40 = .ok (.if_icmp .eq 7, 3) := by decide +kernel
theorem d_R_enters_43 : decode (mMc M_R_enters) 43 = .ok (.iconst 1, 1) := by decide +kernel
theorem d_R_enters_44 : decode (mMc M_R_enters) 44 = .ok (.goto 4, 3) := by decide +kernel
theorem d_R_enters_47 : decode (mMc M_R_enters) 47 = .ok (.iconst 0, 1) := by decide +kernel
theorem d_R_enters_48 : decode (mMc M_R_enters) 48 = .ok (.iload 5, 2) := by decide +kernel
theorem d_R_enters_50 : decode (mMc M_R_enters) 50 = .ok (.aload_n 0, 1) := by decide +kernel
theorem d_R_enters_51 : decode (mMc M_R_enters) 51 = .ok (.iload_n 3, 1) := by decide +kernel
theorem d_R_enters_52 : decode (mMc M_R_enters) 52 = .ok (.invokevirtual 79, 3) := by decide +kernel
theorem d_R_enters_55 : decode (mMc M_R_enters) 55 = .ok (.ifCond .ne 17, 3) := by decide +kernel
theorem d_R_enters_58 : decode (mMc M_R_enters) 58 = .ok (.aload_n 0, 1) := by decide +kernel
theorem d_R_enters_59 : decode (mMc M_R_enters) 59 = .ok (.getfield 9, 3) := by decide +kernel
theorem d_R_enters_62 : decode (mMc M_R_enters) 62 = .ok (.iconst 2, 1) := by decide +kernel
theorem d_R_enters_63 : decode (mMc M_R_enters) 63 = .ok (.iaload, 1) := by decide +kernel
theorem d_R_enters_64 : decode (mMc M_R_enters) 64 = .ok (.iconst 1, 1) := by decide +kernel
theorem d_R_enters_65 : decode (mMc M_R_enters) 65 = .ok (.if_icmp .ne 7, 3) := by decide +kernel
theorem d_R_enters_68 : decode (mMc M_R_enters) 68 = .ok (.iconst 1, 1) := by decide +kernel
theorem d_R_enters_69 : decode (mMc M_R_enters) 69 = .ok (.goto 4, 3) := by decide +kernel
theorem d_R_enters_72 : decode (mMc M_R_enters) 72 = .ok (.iconst 0, 1) := by decide +kernel
theorem d_R_enters_73 : decode (mMc M_R_enters) 73 = .ok (.iconst 1, 1) := by decide +kernel
theorem d_R_enters_74 : decode (mMc M_R_enters) 74 = .ok (.invokevirtual 45, 3) := by decide +kernel
theorem d_R_enters_77 : decode (mMc M_R_enters) 77 = .ok (.ifCond .eq 44, 3) := by decide +kernel
theorem d_R_enters_80 : decode (mMc M_R_enters) 80 = .ok (.aload_n 0, 1) := by decide +kernel
theorem d_R_enters_81 : decode (mMc M_R_enters) 81 = .ok (.iconst 4, 1) := by decide +kernel
theorem d_R_enters_82 : decode (mMc M_R_enters) 82 = .ok (.aload_n 0, 1) := by decide +kernel
theorem d_R_enters_83 : decode (mMc M_R_enters) 83 = .ok (.getfield 9, 3) := by decide +kernel
theorem d_R_enters_86 : decode (mMc M_R_enters) 86 = .ok (.iconst 1, 1) := by decide +kernel
theorem d_R_enters_87 : decode (mMc M_R_enters) 87 = .ok (.iaload, 1) := by decide +kernel
theorem d_R_enters_88 : decode (mMc M_R_enters) 88 = .ok (.aload_n 0, 1) := by decide +kernel
theorem d_R_enters_89 : decode (mMc M_R_enters) 89 = .ok (.iload_n 3, 1) := by decide +kernel
theorem d_R_enters_90 : decode (mMc M_R_enters) 90 = .ok (.iconst 2, 1) := by decide +kernel
theorem d_R_enters_91 : decode (mMc M_R_enters) 91 = .ok (.invokevirtual 67, 3) := by decide +kernel
theorem d_R_enters_94 : decode (mMc M_R_enters) 94 = .ok (.iconst 2, 1) := by decide +kernel
theorem d_R_enters_95 : decode (mMc M_R_enters) 95 = .ok (.iadd, 1) := by decide +kernel
theorem d_R_enters_96 : decode (mMc M_R_enters) 96 = .ok (.if_icmp .ge 7, 3) := by decide +kernel
theorem d_R_enters_99 : decode (mMc M_R_enters) 99 = .ok (.iconst 1, 1) := by decide +kernel
theorem d_R_enters_100 : decode (mMc M_R_enters) 100 = .ok (.goto 18, 3) := by decide +kernel
theorem d_R_enters_103 : decode (mMc M_R_enters) 103 = .ok (.aload_n 0, 1) := by decide +kernel
theorem d_R_enters_104 : decode (mMc M_R_enters) 104 = .ok (.iload_n 2, 1) := by decide +kernel
theorem d_R_enters_105 : decode (mMc M_R_enters) 105 = .ok (.iload 4, 2) := by decide +kernel
theorem d_R_enters_107 : decode (mMc M_R_enters) 107 = .ok (.invokevirtual 113, 3) := by decide +kernel
theorem d_R_enters_110 : decode (mMc M_R_enters) 110 = .ok (.ifCond .ne 7, 3) := by decide +kernel
theorem d_R_enters_113 : decode (mMc M_R_enters) 113 = .ok (.iconst 2, 1) := by decide +kernel
theorem d_R_enters_114 : decode (mMc M_R_enters) 114 = .ok (.goto 4, 3) := by decide +kernel
theorem d_R_enters_117 : decode (mMc M_R_enters) 117 = .ok (.iconst 0, 1) := by decide +kernel
theorem d_R_enters_118 : decode (mMc M_R_enters) 118 = .ok (.invokevirtual 117, 3) := by decide +kernel
theorem d_R_enters_121 : decode (mMc M_R_enters) 121 = .ok (.aload_n 0, 1) := by decide +kernel
theorem d_R_enters_122 : decode (mMc M_R_enters) 122 = .ok (.getfield 42, 3) := by decide +kernel
theorem d_R_enters_125 : decode (mMc M_R_enters) 125 = .ok (.ifCond .eq 5, 3) := by decide +kernel
theorem d_R_enters_128 : decode (mMc M_R_enters) 128 = .ok (.iconst 0, 1) := by decide +kernel
theorem d_R_enters_129 : decode (mMc M_R_enters) 129 = .ok (.ireturn, 1) := by decide +kernel
theorem d_R_enters_130 : decode (mMc M_R_enters) 130 = .ok (.aload_n 0, 1) := by decide +kernel
theorem d_R_enters_131 : decode (mMc M_R_enters) 131 = .ok (.getfield 9, 3) := by decide +kernel
theorem d_R_enters_134 : decode (mMc M_R_enters) 134 = .ok (.iload_n 3, 1) := by decide +kernel
theorem d_R_enters_135 : decode (mMc M_R_enters) 135 = .ok (.iconst 4, 1) := by decide +kernel
theorem d_R_enters_136 : decode (mMc M_R_enters) 136 = .ok (.invokestatic 76, 3) := by decide +kernel
theorem d_R_enters_139 : decode (mMc M_R_enters) 139 = .ok (.iload_n 2, 1) := by decide +kernel
theorem d_R_enters_140 : decode (mMc M_R_enters) 140 = .ok (.iastore, 1) := by decide +kernel
theorem d_R_enters_141 : decode (mMc M_R_enters) 141 = .ok (.aload_n 0, 1) := by decide +kernel
theorem d_R_enters_142 : decode (mMc M_R_enters) 142 = .ok (.getfield 9, 3) := by decide +kernel
theorem d_R_enters_145 : decode (mMc M_R_enters) 145 = .ok (.iload_n 3, 1) := by decide +kernel
theorem d_R_enters_146 : decode (mMc M_R_enters) 146 = .ok (.iconst 5, 1) := by decide +kernel
theorem d_R_enters_147 : decode (mMc M_R_enters) 147 = .ok (.invokestatic 76, 3) := by decide +kernel
theorem d_R_enters_150 : decode (mMc M_R_enters) 150 = .ok (.iconst 0, 1) := by decide +kernel
theorem d_R_enters_151 : decode (mMc M_R_enters) 151 = .ok (.iastore, 1) := by decide +kernel
theorem d_R_enters_152 : decode (mMc M_R_enters) 152 = .ok (.aload_n 0, 1) := by decide +kernel
theorem d_R_enters_153 : decode (mMc M_R_enters) 153 = .ok (.invokevirtual 121, 3) := by decide +kernel
theorem d_R_enters_156 : decode (mMc M_R_enters) 156 = .ok (.ireturn, 1) := by decide +kernel
theorem k_R_enters : mCd M_R_enters 2 := ⟨by decide, by decide, by decide +kernel, by decide, mG (8, 109) (by decide +kernel), mG (1, 15) (by decide +kernel)⟩
def M_R_isMetre : mM := (⟨"FloatingDockModel", "isMetre", "(I)Z"⟩, prog_13_method_21_code, 1, (some .boolean), [])
theorem d_R_isMetre_0 : decode (mMc M_R_isMetre) 0 = .ok (.iload_n 0, 1) := by decide +kernel
theorem d_R_isMetre_1 : decode (mMc M_R_isMetre) 1 = .ok (.iconst 0, 1) := by decide +kernel
theorem d_R_isMetre_2 : decode (mMc M_R_isMetre) 2 = .ok (.bipush 59, 2) := by decide +kernel
theorem d_R_isMetre_4 : decode (mMc M_R_isMetre) 4 = .ok (.invokestatic 83, 3) := by decide +kernel
theorem d_R_isMetre_7 : decode (mMc M_R_isMetre) 7 = .ok (.ireturn, 1) := by decide +kernel
theorem k_R_isMetre : mCd M_R_isMetre 1 := ⟨by decide, by decide, by decide +kernel, by decide, mG (8, 112) (by decide +kernel), mG (1, 15) (by decide +kernel)⟩
def M_R_isFree : mM := (⟨"FloatingDockModel", "isFree", "(II)Z"⟩, prog_13_method_20_code, 5, (some .boolean), [])
theorem d_R_isFree_0 : decode (mMc M_R_isFree) 0 = .ok (.iconst 1, 1) := by decide +kernel
theorem d_R_isFree_1 : decode (mMc M_R_isFree) 1 = .ok (.istore_n 3, 1) := by decide +kernel
theorem d_R_isFree_2 : decode (mMc M_R_isFree) 2 = .ok (.iload_n 1, 1) := by decide +kernel
theorem d_R_isFree_3 : decode (mMc M_R_isFree) 3 = .ok (.istore 4, 2) := by decide +kernel
theorem d_R_isFree_5 : decode (mMc M_R_isFree) 5 = .ok (.iload 4, 2) := by decide +kernel
theorem d_R_isFree_7 : decode (mMc M_R_isFree) 7 = .ok (.iload_n 1, 1) := by decide +kernel
theorem d_R_isFree_8 : decode (mMc M_R_isFree) 8 = .ok (.iload_n 2, 1) := by decide +kernel
theorem d_R_isFree_9 : decode (mMc M_R_isFree) 9 = .ok (.iadd, 1) := by decide +kernel
theorem d_R_isFree_10 : decode (mMc M_R_isFree) 10 = .ok (.if_icmp .ge 29, 3) := by decide +kernel
theorem d_R_isFree_13 : decode (mMc M_R_isFree) 13 = .ok (.iload_n 3, 1) := by decide +kernel
theorem d_R_isFree_14 : decode (mMc M_R_isFree) 14 = .ok (.ifCond .eq 17, 3) := by decide +kernel
theorem d_R_isFree_17 : decode (mMc M_R_isFree) 17 = .ok (.aload_n 0, 1) := by decide +kernel
theorem d_R_isFree_18 : decode (mMc M_R_isFree) 18 = .ok (.iload 4, 2) := by decide +kernel
theorem d_R_isFree_20 : decode (mMc M_R_isFree) 20 = .ok (.invokevirtual 87, 3) := by decide +kernel
theorem d_R_isFree_23 : decode (mMc M_R_isFree) 23 = .ok (.iconst (-1), 1) := by decide +kernel
theorem d_R_isFree_24 : decode (mMc M_R_isFree) 24 = .ok (.if_icmp .ne 7, 3) := by decide +kernel
theorem d_R_isFree_27 : decode (mMc M_R_isFree) 27 = .ok (.iconst 1, 1) := by decide +kernel
theorem d_R_isFree_28 : decode (mMc M_R_isFree) 28 = .ok (.goto 4, 3) := by decide +kernel
theorem d_R_isFree_31 : decode (mMc M_R_isFree) 31 = .ok (.iconst 0, 1) := by decide +kernel
theorem d_R_isFree_32 : decode (mMc M_R_isFree) 32 = .ok (.istore_n 3, 1) := by decide +kernel
theorem d_R_isFree_33 : decode (mMc M_R_isFree) 33 = .ok (.iinc 4 1, 3) := by decide +kernel
theorem d_R_isFree_36 : decode (mMc M_R_isFree) 36 = .ok (.goto (-31), 3) := by decide +kernel
theorem d_R_isFree_39 : decode (mMc M_R_isFree) 39 = .ok (.iload_n 3, 1) := by decide +kernel
theorem d_R_isFree_40 : decode (mMc M_R_isFree) 40 = .ok (.ireturn, 1) := by decide +kernel
theorem k_R_isFree : mCd M_R_isFree 2 := ⟨by decide, by decide, by decide +kernel, by decide, mG (8, 116) (by decide +kernel), mG (1, 15) (by decide +kernel)⟩
def M_R_at : mM := (⟨"FloatingDockModel", "at", "(I)I"⟩, prog_13_method_19_code, 5, (some .int), [])
theorem d_R_at_0 : decode (mMc M_R_at) 0 = .ok (.iconst (-1), 1) := by decide +kernel
theorem d_R_at_1 : decode (mMc M_R_at) 1 = .ok (.istore_n 2, 1) := by decide +kernel
theorem d_R_at_2 : decode (mMc M_R_at) 2 = .ok (.iconst 0, 1) := by decide +kernel
theorem d_R_at_3 : decode (mMc M_R_at) 3 = .ok (.istore_n 3, 1) := by decide +kernel
theorem d_R_at_4 : decode (mMc M_R_at) 4 = .ok (.iload_n 3, 1) := by decide +kernel
theorem d_R_at_5 : decode (mMc M_R_at) 5 = .ok (.aload_n 0, 1) := by decide +kernel
theorem d_R_at_6 : decode (mMc M_R_at) 6 = .ok (.getfield 9, 3) := by decide +kernel
theorem d_R_at_9 : decode (mMc M_R_at) 9 = .ok (.iconst 4, 1) := by decide +kernel
theorem d_R_at_10 : decode (mMc M_R_at) 10 = .ok (.iaload, 1) := by decide +kernel
theorem d_R_at_11 : decode (mMc M_R_at) 11 = .ok (.if_icmp .ge 63, 3) := by decide +kernel
theorem d_R_at_14 : decode (mMc M_R_at) 14 = .ok (.aload_n 0, 1) := by decide +kernel
theorem d_R_at_15 : decode (mMc M_R_at) 15 = .ok (.iload_n 3, 1) := by decide +kernel
theorem d_R_at_16 : decode (mMc M_R_at) 16 = .ok (.invokevirtual 79, 3) := by decide +kernel
theorem d_R_at_19 : decode (mMc M_R_at) 19 = .ok (.ifCond .eq 35, 3) := by decide +kernel
theorem d_R_at_22 : decode (mMc M_R_at) 22 = .ok (.iload_n 1, 1) := by decide +kernel
theorem d_R_at_23 : decode (mMc M_R_at) 23 = .ok (.aload_n 0, 1) := by decide +kernel
theorem d_R_at_24 : decode (mMc M_R_at) 24 = .ok (.iload_n 3, 1) := by decide +kernel
theorem d_R_at_25 : decode (mMc M_R_at) 25 = .ok (.iconst 4, 1) := by decide +kernel
theorem d_R_at_26 : decode (mMc M_R_at) 26 = .ok (.invokevirtual 67, 3) := by decide +kernel
theorem d_R_at_29 : decode (mMc M_R_at) 29 = .ok (.aload_n 0, 1) := by decide +kernel
theorem d_R_at_30 : decode (mMc M_R_at) 30 = .ok (.iload_n 3, 1) := by decide +kernel
theorem d_R_at_31 : decode (mMc M_R_at) 31 = .ok (.iconst 4, 1) := by decide +kernel
theorem d_R_at_32 : decode (mMc M_R_at) 32 = .ok (.invokevirtual 67, 3) := by decide +kernel
theorem d_R_at_35 : decode (mMc M_R_at) 35 = .ok (.aload_n 0, 1) := by decide +kernel
theorem d_R_at_36 : decode (mMc M_R_at) 36 = .ok (.iload_n 3, 1) := by decide +kernel
theorem d_R_at_37 : decode (mMc M_R_at) 37 = .ok (.iconst 1, 1) := by decide +kernel
theorem d_R_at_38 : decode (mMc M_R_at) 38 = .ok (.invokevirtual 67, 3) := by decide +kernel
theorem d_R_at_41 : decode (mMc M_R_at) 41 = .ok (.iadd, 1) := by decide +kernel
theorem d_R_at_42 : decode (mMc M_R_at) 42 = .ok (.iconst 1, 1) := by decide +kernel
theorem d_R_at_43 : decode (mMc M_R_at) 43 = .ok (.isub, 1) := by decide +kernel
theorem d_R_at_44 : decode (mMc M_R_at) 44 = .ok (.invokestatic 83, 3) := by decide +kernel
theorem d_R_at_47 : decode (mMc M_R_at) 47 = .ok (.ifCond .eq 7, 3) := by decide +kernel
theorem d_R_at_50 : decode (mMc M_R_at) 50 = .ok (.iconst 1, 1) := by decide +kernel
theorem d_R_at_51 : decode (mMc M_R_at) 51 = .ok (.goto 4, 3) := by decide +kernel
theorem d_R_at_54 : decode (mMc M_R_at) 54 = .ok (.iconst 0, 1) := by decide +kernel
theorem d_R_at_55 : decode (mMc M_R_at) 55 = .ok (.istore 4, 2) := by decide +kernel
theorem d_R_at_57 : decode (mMc M_R_at) 57 = .ok (.iload 4, 2) := by decide +kernel
theorem d_R_at_59 : decode (mMc M_R_at) 59 = .ok (.ifCond .eq 7, 3) := by decide +kernel
theorem d_R_at_62 : decode (mMc M_R_at) 62 = .ok (.iload_n 3, 1) := by decide +kernel
theorem d_R_at_63 : decode (mMc M_R_at) 63 = .ok (.goto 4, 3) := by decide +kernel
theorem d_R_at_66 : decode (mMc M_R_at) 66 = .ok (.iload_n 2, 1) := by decide +kernel
theorem d_R_at_67 : decode (mMc M_R_at) 67 = .ok (.istore_n 2, 1) := by decide +kernel
theorem d_R_at_68 : decode (mMc M_R_at) 68 = .ok (.iinc 3 1, 3) := by decide +kernel
theorem d_R_at_71 : decode (mMc M_R_at) 71 = .ok (.goto (-67), 3) := by decide +kernel
theorem d_R_at_74 : decode (mMc M_R_at) 74 = .ok (.iload_n 2, 1) := by decide +kernel
theorem d_R_at_75 : decode (mMc M_R_at) 75 = .ok (.ireturn, 1) := by decide +kernel
theorem k_R_at : mCd M_R_at 1 := ⟨by decide, by decide, by decide +kernel, by decide, mG (8, 120) (by decide +kernel), mG (1, 15) (by decide +kernel)⟩
def M_R_refuses : mM := (⟨"FloatingDockModel", "refuses", "(II)V"⟩, prog_13_method_29_code, 3, none, [])
theorem d_R_refuses_0 : decode (mMc M_R_refuses) 0 = .ok (.aload_n 0, 1) := by decide +kernel
theorem d_R_refuses_1 : decode (mMc M_R_refuses) 1 = .ok (.getfield 42, 3) := by decide +kernel
theorem d_R_refuses_4 : decode (mMc M_R_refuses) 4 = .ok (.ifCond .ne 17, 3) := by decide +kernel
theorem d_R_refuses_7 : decode (mMc M_R_refuses) 7 = .ok (.iload_n 2, 1) := by decide +kernel
theorem d_R_refuses_8 : decode (mMc M_R_refuses) 8 = .ok (.ifCond .eq 13, 3) := by decide +kernel
theorem d_R_refuses_11 : decode (mMc M_R_refuses) 11 = .ok (.aload_n 0, 1) := by decide +kernel
theorem d_R_refuses_12 : decode (mMc M_R_refuses) 12 = .ok (.iload_n 1, 1) := by decide +kernel
theorem d_R_refuses_13 : decode (mMc M_R_refuses) 13 = .ok (.putfield 42, 3) := by decide +kernel
theorem d_R_refuses_16 : decode (mMc M_R_refuses) 16 = .ok (.aload_n 0, 1) := by decide +kernel
theorem d_R_refuses_17 : decode (mMc M_R_refuses) 17 = .ok (.iload_n 2, 1) := by decide +kernel
theorem d_R_refuses_18 : decode (mMc M_R_refuses) 18 = .ok (.putfield 110, 3) := by decide +kernel
theorem d_R_refuses_21 : decode (mMc M_R_refuses) 21 = .ok (.return_, 1) := by decide +kernel
theorem k_R_refuses : mCd M_R_refuses 2 := ⟨by decide, by decide, by decide +kernel, by decide, mG (8, 124) (by decide +kernel), mG (1, 15) (by decide +kernel)⟩
def M_R_docked : mM := (⟨"FloatingDockModel", "docked", "()I"⟩, prog_13_method_18_code, 3, (some .int), [])
theorem d_R_docked_0 : decode (mMc M_R_docked) 0 = .ok (.iconst 0, 1) := by decide +kernel
theorem d_R_docked_1 : decode (mMc M_R_docked) 1 = .ok (.istore_n 1, 1) := by decide +kernel
theorem d_R_docked_2 : decode (mMc M_R_docked) 2 = .ok (.iconst 0, 1) := by decide +kernel
theorem d_R_docked_3 : decode (mMc M_R_docked) 3 = .ok (.istore_n 2, 1) := by decide +kernel
theorem d_R_docked_4 : decode (mMc M_R_docked) 4 = .ok (.iload_n 2, 1) := by decide +kernel
theorem d_R_docked_5 : decode (mMc M_R_docked) 5 = .ok (.aload_n 0, 1) := by decide +kernel
theorem d_R_docked_6 : decode (mMc M_R_docked) 6 = .ok (.getfield 9, 3) := by decide +kernel
theorem d_R_docked_9 : decode (mMc M_R_docked) 9 = .ok (.iconst 4, 1) := by decide +kernel
theorem d_R_docked_10 : decode (mMc M_R_docked) 10 = .ok (.iaload, 1) := by decide +kernel
theorem d_R_docked_11 : decode (mMc M_R_docked) 11 = .ok (.if_icmp .ge 25, 3) := by decide +kernel
theorem d_R_docked_14 : decode (mMc M_R_docked) 14 = .ok (.iload_n 1, 1) := by decide +kernel
theorem d_R_docked_15 : decode (mMc M_R_docked) 15 = .ok (.aload_n 0, 1) := by decide +kernel
theorem d_R_docked_16 : decode (mMc M_R_docked) 16 = .ok (.iload_n 2, 1) := by decide +kernel
theorem d_R_docked_17 : decode (mMc M_R_docked) 17 = .ok (.invokevirtual 79, 3) := by decide +kernel
theorem d_R_docked_20 : decode (mMc M_R_docked) 20 = .ok (.ifCond .eq 7, 3) := by decide +kernel
theorem d_R_docked_23 : decode (mMc M_R_docked) 23 = .ok (.iconst 1, 1) := by decide +kernel
theorem d_R_docked_24 : decode (mMc M_R_docked) 24 = .ok (.goto 4, 3) := by decide +kernel
theorem d_R_docked_27 : decode (mMc M_R_docked) 27 = .ok (.iconst 0, 1) := by decide +kernel
theorem d_R_docked_28 : decode (mMc M_R_docked) 28 = .ok (.iadd, 1) := by decide +kernel
theorem d_R_docked_29 : decode (mMc M_R_docked) 29 = .ok (.istore_n 1, 1) := by decide +kernel
theorem d_R_docked_30 : decode (mMc M_R_docked) 30 = .ok (.iinc 2 1, 3) := by decide +kernel
theorem d_R_docked_33 : decode (mMc M_R_docked) 33 = .ok (.goto (-29), 3) := by decide +kernel
theorem d_R_docked_36 : decode (mMc M_R_docked) 36 = .ok (.iload_n 1, 1) := by decide +kernel
theorem d_R_docked_37 : decode (mMc M_R_docked) 37 = .ok (.ireturn, 1) := by decide +kernel
theorem k_R_docked : mCd M_R_docked 0 := ⟨by decide, by decide, by decide +kernel, by decide, mG (8, 128) (by decide +kernel), mG (1, 15) (by decide +kernel)⟩
def M_R_leave : mM := (⟨"FloatingDockModel", "leave", "(I)I"⟩, prog_13_method_33_code, 2, (some .int), [])
theorem d_R_leave_0 : decode (mMc M_R_leave) 0 = .ok (.aload_n 0, 1) := by decide +kernel
theorem d_R_leave_1 : decode (mMc M_R_leave) 1 = .ok (.invokevirtual 94, 3) := by decide +kernel
theorem d_R_leave_4 : decode (mMc M_R_leave) 4 = .ok (.aload_n 0, 1) := by decide +kernel
theorem d_R_leave_5 : decode (mMc M_R_leave) 5 = .ok (.aload_n 0, 1) := by decide +kernel
theorem d_R_leave_6 : decode (mMc M_R_leave) 6 = .ok (.iload_n 1, 1) := by decide +kernel
theorem d_R_leave_7 : decode (mMc M_R_leave) 7 = .ok (.invokevirtual 131, 3) := by decide +kernel
theorem d_R_leave_10 : decode (mMc M_R_leave) 10 = .ok (.invokevirtual 101, 3) := by decide +kernel
theorem d_R_leave_13 : decode (mMc M_R_leave) 13 = .ok (.ireturn, 1) := by decide +kernel
theorem k_R_leave : mCd M_R_leave 1 := ⟨by decide, by decide, by decide +kernel, by decide, mG (8, 132) (by decide +kernel), mG (1, 15) (by decide +kernel)⟩
def M_R_leaves : mM := (⟨"FloatingDockModel", "leaves", "(I)I"⟩, prog_13_method_32_code, 3, (some .int), [])
theorem d_R_leaves_0 : decode (mMc M_R_leaves) 0 = .ok (.aload_n 0, 1) := by decide +kernel
theorem d_R_leaves_1 : decode (mMc M_R_leaves) 1 = .ok (.iload_n 1, 1) := by decide +kernel
theorem d_R_leaves_2 : decode (mMc M_R_leaves) 2 = .ok (.invokevirtual 104, 3) := by decide +kernel
theorem d_R_leaves_5 : decode (mMc M_R_leaves) 5 = .ok (.istore_n 2, 1) := by decide +kernel
theorem d_R_leaves_6 : decode (mMc M_R_leaves) 6 = .ok (.aload_n 0, 1) := by decide +kernel
theorem d_R_leaves_7 : decode (mMc M_R_leaves) 7 = .ok (.iload_n 2, 1) := by decide +kernel
theorem d_R_leaves_8 : decode (mMc M_R_leaves) 8 = .ok (.iconst (-1), 1) := by decide +kernel
theorem d_R_leaves_9 : decode (mMc M_R_leaves) 9 = .ok (.if_icmp .eq 7, 3) := by decide +kernel
theorem d_R_leaves_12 : decode (mMc M_R_leaves) 12 = .ok (.iconst 1, 1) := by decide +kernel
theorem d_R_leaves_13 : decode (mMc M_R_leaves) 13 = .ok (.goto 4, 3) := by decide +kernel
theorem d_R_leaves_16 : decode (mMc M_R_leaves) 16 = .ok (.iconst 0, 1) := by decide +kernel
theorem d_R_leaves_17 : decode (mMc M_R_leaves) 17 = .ok (.aload_n 0, 1) := by decide +kernel
theorem d_R_leaves_18 : decode (mMc M_R_leaves) 18 = .ok (.iload_n 2, 1) := by decide +kernel
theorem d_R_leaves_19 : decode (mMc M_R_leaves) 19 = .ok (.invokevirtual 79, 3) := by decide +kernel
theorem d_R_leaves_22 : decode (mMc M_R_leaves) 22 = .ok (.ifCond .eq 17, 3) := by decide +kernel
theorem d_R_leaves_25 : decode (mMc M_R_leaves) 25 = .ok (.aload_n 0, 1) := by decide +kernel
theorem d_R_leaves_26 : decode (mMc M_R_leaves) 26 = .ok (.getfield 9, 3) := by decide +kernel
theorem d_R_leaves_29 : decode (mMc M_R_leaves) 29 = .ok (.iconst 2, 1) := by decide +kernel
theorem d_R_leaves_30 : decode (mMc M_R_leaves) 30 = .ok (.iaload, 1) := by decide +kernel
theorem d_R_leaves_31 : decode (mMc M_R_leaves) 31 = .ok (.iconst 1, 1) := by decide +kernel
theorem d_R_leaves_32 : decode (mMc M_R_leaves) 32 = .ok (.if_icmp .ne 7, 3) := by decide +kernel
theorem d_R_leaves_35 : decode (mMc M_R_leaves) 35 = .ok (.iconst 1, 1) := by decide +kernel
theorem d_R_leaves_36 : decode (mMc M_R_leaves) 36 = .ok (.goto 4, 3) := by decide +kernel
theorem d_R_leaves_39 : decode (mMc M_R_leaves) 39 = .ok (.iconst 0, 1) := by decide +kernel
theorem d_R_leaves_40 : decode (mMc M_R_leaves) 40 = .ok (.iconst 1, 1) := by decide +kernel
theorem d_R_leaves_41 : decode (mMc M_R_leaves) 41 = .ok (.iconst 1, 1) := by decide +kernel
theorem d_R_leaves_42 : decode (mMc M_R_leaves) 42 = .ok (.invokevirtual 45, 3) := by decide +kernel
theorem d_R_leaves_45 : decode (mMc M_R_leaves) 45 = .ok (.ifCond .eq 35, 3) := by decide +kernel
theorem d_R_leaves_48 : decode (mMc M_R_leaves) 48 = .ok (.aload_n 0, 1) := by decide +kernel
theorem d_R_leaves_49 : decode (mMc M_R_leaves) 49 = .ok (.iconst 3, 1) := by decide +kernel
theorem d_R_leaves_50 : decode (mMc M_R_leaves) 50 = .ok (.aload_n 0, 1) := by decide +kernel
theorem d_R_leaves_51 : decode (mMc M_R_leaves) 51 = .ok (.iload_n 2, 1) := by decide +kernel
theorem d_R_leaves_52 : decode (mMc M_R_leaves) 52 = .ok (.invokevirtual 128, 3) := by decide +kernel
theorem d_R_leaves_55 : decode (mMc M_R_leaves) 55 = .ok (.ifCond .ne 7, 3) := by decide +kernel
theorem d_R_leaves_58 : decode (mMc M_R_leaves) 58 = .ok (.iconst 3, 1) := by decide +kernel
theorem d_R_leaves_59 : decode (mMc M_R_leaves) 59 = .ok (.goto 18, 3) := by decide +kernel
theorem d_R_leaves_62 : decode (mMc M_R_leaves) 62 = .ok (.aload_n 0, 1) := by decide +kernel
theorem d_R_leaves_63 : decode (mMc M_R_leaves) 63 = .ok (.iload_n 2, 1) := by decide +kernel
theorem d_R_leaves_64 : decode (mMc M_R_leaves) 64 = .ok (.bipush 8, 2) := by decide +kernel
theorem d_R_leaves_66 : decode (mMc M_R_leaves) 66 = .ok (.invokevirtual 67, 3) := by decide +kernel
theorem d_R_leaves_69 : decode (mMc M_R_leaves) 69 = .ok (.ifCond .eq 7, 3) := by decide +kernel
theorem d_R_leaves_72 : decode (mMc M_R_leaves) 72 = .ok (.iconst 4, 1) := by decide +kernel
theorem d_R_leaves_73 : decode (mMc M_R_leaves) 73 = .ok (.goto 4, 3) := by decide +kernel
theorem d_R_leaves_76 : decode (mMc M_R_leaves) 76 = .ok (.iconst 0, 1) := by decide +kernel
theorem d_R_leaves_77 : decode (mMc M_R_leaves) 77 = .ok (.invokevirtual 117, 3) := by decide +kernel
theorem d_R_leaves_80 : decode (mMc M_R_leaves) 80 = .ok (.aload_n 0, 1) := by decide +kernel
theorem d_R_leaves_81 : decode (mMc M_R_leaves) 81 = .ok (.getfield 42, 3) := by decide +kernel
theorem d_R_leaves_84 : decode (mMc M_R_leaves) 84 = .ok (.ifCond .eq 5, 3) := by decide +kernel
theorem d_R_leaves_87 : decode (mMc M_R_leaves) 87 = .ok (.iconst 0, 1) := by decide +kernel
theorem d_R_leaves_88 : decode (mMc M_R_leaves) 88 = .ok (.ireturn, 1) := by decide +kernel
theorem d_R_leaves_89 : decode (mMc M_R_leaves) 89 = .ok (.aload_n 0, 1) := by decide +kernel
theorem d_R_leaves_90 : decode (mMc M_R_leaves) 90 = .ok (.getfield 9, 3) := by decide +kernel
theorem d_R_leaves_93 : decode (mMc M_R_leaves) 93 = .ok (.iload_n 2, 1) := by decide +kernel
theorem d_R_leaves_94 : decode (mMc M_R_leaves) 94 = .ok (.iconst 4, 1) := by decide +kernel
theorem d_R_leaves_95 : decode (mMc M_R_leaves) 95 = .ok (.invokestatic 76, 3) := by decide +kernel
theorem d_R_leaves_98 : decode (mMc M_R_leaves) 98 = .ok (.iconst (-1), 1) := by decide +kernel
theorem d_R_leaves_99 : decode (mMc M_R_leaves) 99 = .ok (.iastore, 1) := by decide +kernel
theorem d_R_leaves_100 : decode (mMc M_R_leaves) 100 = .ok (.aload_n 0, 1) := by decide +kernel
theorem d_R_leaves_101 : decode (mMc M_R_leaves) 101 = .ok (.getfield 9, 3) := by decide +kernel
theorem d_R_leaves_104 : decode (mMc M_R_leaves) 104 = .ok (.iload_n 2, 1) := by decide +kernel
theorem d_R_leaves_105 : decode (mMc M_R_leaves) 105 = .ok (.iconst 5, 1) := by decide +kernel
theorem d_R_leaves_106 : decode (mMc M_R_leaves) 106 = .ok (.invokestatic 76, 3) := by decide +kernel
theorem d_R_leaves_109 : decode (mMc M_R_leaves) 109 = .ok (.iconst 0, 1) := by decide +kernel
theorem d_R_leaves_110 : decode (mMc M_R_leaves) 110 = .ok (.iastore, 1) := by decide +kernel
theorem d_R_leaves_111 : decode (mMc M_R_leaves) 111 = .ok (.aload_n 0, 1) := by decide +kernel
theorem d_R_leaves_112 : decode (mMc M_R_leaves) 112 = .ok (.invokevirtual 121, 3) := by decide +kernel
theorem d_R_leaves_115 : decode (mMc M_R_leaves) 115 = .ok (.ireturn, 1) := by decide +kernel
theorem k_R_leaves : mCd M_R_leaves 1 := ⟨by decide, by decide, by decide +kernel, by decide, mG (8, 136) (by decide +kernel), mG (1, 15) (by decide +kernel)⟩
def M_R_floats : mM := (⟨"FloatingDockModel", "floats", "(I)Z"⟩, prog_13_method_17_code, 2, (some .boolean), [])
theorem d_R_floats_0 : decode (mMc M_R_floats) 0 = .ok (.aload_n 0, 1) := by decide +kernel
theorem d_R_floats_1 : decode (mMc M_R_floats) 1 = .ok (.iload_n 1, 1) := by decide +kernel
theorem d_R_floats_2 : decode (mMc M_R_floats) 2 = .ok (.invokevirtual 79, 3) := by decide +kernel
theorem d_R_floats_5 : decode (mMc M_R_floats) 5 = .ok (.ifCond .eq 18, 3) := by decide +kernel
theorem d_R_floats_8 : decode (mMc M_R_floats) 8 = .ok (.aload_n 0, 1) := by decide +kernel
theorem d_R_floats_9 : decode (mMc M_R_floats) 9 = .ok (.getfield 9, 3) := by decide +kernel
theorem d_R_floats_12 : decode (mMc M_R_floats) 12 = .ok (.iconst 1, 1) := by decide +kernel
theorem d_R_floats_13 : decode (mMc M_R_floats) 13 = .ok (.iaload, 1) := by decide +kernel
theorem d_R_floats_14 : decode (mMc M_R_floats) 14 = .ok (.aload_n 0, 1) := by decide +kernel
theorem d_R_floats_15 : decode (mMc M_R_floats) 15 = .ok (.iload_n 1, 1) := by decide +kernel
theorem d_R_floats_16 : decode (mMc M_R_floats) 16 = .ok (.iconst 2, 1) := by decide +kernel
theorem d_R_floats_17 : decode (mMc M_R_floats) 17 = .ok (.invokevirtual 67, 3) := by decide +kernel
theorem d_R_floats_20 : decode (mMc M_R_floats) 20 = .ok (.if_icmp .lt 7, 3) := by decide +kernel
theorem d_R_floats_23 : decode (mMc M_R_floats) 23 = .ok (.iconst 1, 1) := by decide +kernel
theorem d_R_floats_24 : decode (mMc M_R_floats) 24 = .ok (.goto 4, 3) := by decide +kernel
theorem d_R_floats_27 : decode (mMc M_R_floats) 27 = .ok (.iconst 0, 1) := by decide +kernel
theorem d_R_floats_28 : decode (mMc M_R_floats) 28 = .ok (.ireturn, 1) := by decide +kernel
theorem k_R_floats : mCd M_R_floats 1 := ⟨by decide, by decide, by decide +kernel, by decide, mG (8, 140) (by decide +kernel), mG (1, 15) (by decide +kernel)⟩
def M_R_setCleaning : mM := (⟨"FloatingDockModel", "setCleaning", "(IZ)Z"⟩, prog_13_method_35_code, 3, (some .boolean), [])
theorem d_R_setCleaning_0 : decode (mMc M_R_setCleaning) 0 = .ok (.aload_n 0, 1) := by decide +kernel
theorem d_R_setCleaning_1 : decode (mMc M_R_setCleaning) 1 = .ok (.invokevirtual 94, 3) := by decide +kernel
theorem d_R_setCleaning_4 : decode (mMc M_R_setCleaning) 4 = .ok (.aload_n 0, 1) := by decide +kernel
theorem d_R_setCleaning_5 : decode (mMc M_R_setCleaning) 5 = .ok (.aload_n 0, 1) := by decide +kernel
theorem d_R_setCleaning_6 : decode (mMc M_R_setCleaning) 6 = .ok (.iload_n 1, 1) := by decide +kernel
theorem d_R_setCleaning_7 : decode (mMc M_R_setCleaning) 7 = .ok (.iload_n 2, 1) := by decide +kernel
theorem d_R_setCleaning_8 : decode (mMc M_R_setCleaning) 8 = .ok (.ifCond .eq 7, 3) := by decide +kernel
theorem d_R_setCleaning_11 : decode (mMc M_R_setCleaning) 11 = .ok (.iconst 1, 1) := by decide +kernel
theorem d_R_setCleaning_12 : decode (mMc M_R_setCleaning) 12 = .ok (.goto 4, 3) := by decide +kernel
theorem d_R_setCleaning_15 : decode (mMc M_R_setCleaning) 15 = .ok (.iconst 0, 1) := by decide +kernel
theorem d_R_setCleaning_16 : decode (mMc M_R_setCleaning) 16 = .ok (.invokevirtual 134, 3) := by decide +kernel
theorem d_R_setCleaning_19 : decode (mMc M_R_setCleaning) 19 = .ok (.invokevirtual 101, 3) := by decide +kernel
theorem d_R_setCleaning_22 : decode (mMc M_R_setCleaning) 22 = .ok (.iconst 1, 1) := by decide +kernel
theorem d_R_setCleaning_23 : decode (mMc M_R_setCleaning) 23 = .ok (.if_icmp .ne 7, 3) := by decide +kernel
theorem d_R_setCleaning_26 : decode (mMc M_R_setCleaning) 26 = .ok (.iconst 1, 1) := by decide +kernel
theorem d_R_setCleaning_27 : decode (mMc M_R_setCleaning) 27 = .ok (.goto 4, 3) := by decide +kernel
theorem d_R_setCleaning_30 : decode (mMc M_R_setCleaning) 30 = .ok (.iconst 0, 1) := by decide +kernel
theorem d_R_setCleaning_31 : decode (mMc M_R_setCleaning) 31 = .ok (.ireturn, 1) := by decide +kernel
theorem k_R_setCleaning : mCd M_R_setCleaning 2 := ⟨by decide, by decide, by decide +kernel, by decide, mG (8, 144) (by decide +kernel), mG (1, 15) (by decide +kernel)⟩
def M_R_cleans : mM := (⟨"FloatingDockModel", "cleans", "(II)I"⟩, prog_13_method_34_code, 5, (some .int), [])
theorem d_R_cleans_0 : decode (mMc M_R_cleans) 0 = .ok (.aload_n 0, 1) := by decide +kernel
theorem d_R_cleans_1 : decode (mMc M_R_cleans) 1 = .ok (.iload_n 1, 1) := by decide +kernel
theorem d_R_cleans_2 : decode (mMc M_R_cleans) 2 = .ok (.invokevirtual 104, 3) := by decide +kernel
theorem d_R_cleans_5 : decode (mMc M_R_cleans) 5 = .ok (.istore_n 3, 1) := by decide +kernel
theorem d_R_cleans_6 : decode (mMc M_R_cleans) 6 = .ok (.aload_n 0, 1) := by decide +kernel
theorem d_R_cleans_7 : decode (mMc M_R_cleans) 7 = .ok (.iload_n 3, 1) := by decide +kernel
theorem d_R_cleans_8 : decode (mMc M_R_cleans) 8 = .ok (.iconst (-1), 1) := by decide +kernel
theorem d_R_cleans_9 : decode (mMc M_R_cleans) 9 = .ok (.if_icmp .eq 7, 3) := by decide +kernel
theorem d_R_cleans_12 : decode (mMc M_R_cleans) 12 = .ok (.iconst 1, 1) := by decide +kernel
theorem d_R_cleans_13 : decode (mMc M_R_cleans) 13 = .ok (.goto 4, 3) := by decide +kernel
theorem d_R_cleans_16 : decode (mMc M_R_cleans) 16 = .ok (.iconst 0, 1) := by decide +kernel
theorem d_R_cleans_17 : decode (mMc M_R_cleans) 17 = .ok (.aload_n 0, 1) := by decide +kernel
theorem d_R_cleans_18 : decode (mMc M_R_cleans) 18 = .ok (.iload_n 3, 1) := by decide +kernel
theorem d_R_cleans_19 : decode (mMc M_R_cleans) 19 = .ok (.invokevirtual 79, 3) := by decide +kernel
theorem d_R_cleans_22 : decode (mMc M_R_cleans) 22 = .ok (.iconst 1, 1) := by decide +kernel
theorem d_R_cleans_23 : decode (mMc M_R_cleans) 23 = .ok (.iconst 1, 1) := by decide +kernel
theorem d_R_cleans_24 : decode (mMc M_R_cleans) 24 = .ok (.invokevirtual 45, 3) := by decide +kernel
theorem d_R_cleans_27 : decode (mMc M_R_cleans) 27 = .ok (.ifCond .ne 5, 3) := by decide +kernel
theorem d_R_cleans_30 : decode (mMc M_R_cleans) 30 = .ok (.iconst 0, 1) := by decide +kernel
theorem d_R_cleans_31 : decode (mMc M_R_cleans) 31 = .ok (.ireturn, 1) := by decide +kernel
theorem d_R_cleans_32 : decode (mMc M_R_cleans) 32 = .ok (.aload_n 0, 1) := by decide +kernel
theorem d_R_cleans_33 : decode (mMc M_R_cleans) 33 = .ok (.iload_n 3, 1) := by decide +kernel
theorem d_R_cleans_34 : decode (mMc M_R_cleans) 34 = .ok (.iconst 5, 1) := by decide +kernel
theorem d_R_cleans_35 : decode (mMc M_R_cleans) 35 = .ok (.invokevirtual 67, 3) := by decide +kernel
theorem d_R_cleans_38 : decode (mMc M_R_cleans) 38 = .ok (.istore 4, 2) := by decide +kernel
theorem d_R_cleans_40 : decode (mMc M_R_cleans) 40 = .ok (.aload_n 0, 1) := by decide +kernel
theorem d_R_cleans_41 : decode (mMc M_R_cleans) 41 = .ok (.getfield 9, 3) := by decide +kernel
theorem d_R_cleans_44 : decode (mMc M_R_cleans) 44 = .ok (.iload_n 3, 1) := by decide +kernel
theorem d_R_cleans_45 : decode (mMc M_R_cleans) 45 = .ok (.iconst 5, 1) := by decide +kernel
theorem d_R_cleans_46 : decode (mMc M_R_cleans) 46 = .ok (.invokestatic 76, 3) := by decide +kernel
theorem d_R_cleans_49 : decode (mMc M_R_cleans) 49 = .ok (.iload_n 2, 1) := by decide +kernel
theorem d_R_cleans_50 : decode (mMc M_R_cleans) 50 = .ok (.iastore, 1) := by decide +kernel
theorem d_R_cleans_51 : decode (mMc M_R_cleans) 51 = .ok (.iload 4, 2) := by decide +kernel
theorem d_R_cleans_53 : decode (mMc M_R_cleans) 53 = .ok (.ireturn, 1) := by decide +kernel
theorem k_R_cleans : mCd M_R_cleans 2 := ⟨by decide, by decide, by decide +kernel, by decide, mG (8, 148) (by decide +kernel), mG (1, 15) (by decide +kernel)⟩
def M_R_pay : mM := (⟨"FloatingDockModel", "pay", "(II)I"⟩, prog_13_method_37_code, 3, (some .int), [])
theorem d_R_pay_0 : decode (mMc M_R_pay) 0 = .ok (.aload_n 0, 1) := by decide +kernel
theorem d_R_pay_1 : decode (mMc M_R_pay) 1 = .ok (.invokevirtual 94, 3) := by decide +kernel
theorem d_R_pay_4 : decode (mMc M_R_pay) 4 = .ok (.aload_n 0, 1) := by decide +kernel
theorem d_R_pay_5 : decode (mMc M_R_pay) 5 = .ok (.aload_n 0, 1) := by decide +kernel
theorem d_R_pay_6 : decode (mMc M_R_pay) 6 = .ok (.iload_n 1, 1) := by decide +kernel
theorem d_R_pay_7 : decode (mMc M_R_pay) 7 = .ok (.iload_n 2, 1) := by decide +kernel
theorem d_R_pay_8 : decode (mMc M_R_pay) 8 = .ok (.invokevirtual 137, 3) := by decide +kernel
theorem d_R_pay_11 : decode (mMc M_R_pay) 11 = .ok (.invokevirtual 101, 3) := by decide +kernel
theorem d_R_pay_14 : decode (mMc M_R_pay) 14 = .ok (.ireturn, 1) := by decide +kernel
theorem k_R_pay : mCd M_R_pay 2 := ⟨by decide, by decide, by decide +kernel, by decide, mG (8, 152) (by decide +kernel), mG (1, 15) (by decide +kernel)⟩
def M_R_pays : mM := (⟨"FloatingDockModel", "pays", "(II)I"⟩, prog_13_method_36_code, 5, (some .int), [])
theorem d_R_pays_0 : decode (mMc M_R_pays) 0 = .ok (.aload_n 0, 1) := by decide +kernel
theorem d_R_pays_1 : decode (mMc M_R_pays) 1 = .ok (.iload_n 1, 1) := by decide +kernel
theorem d_R_pays_2 : decode (mMc M_R_pays) 2 = .ok (.invokevirtual 104, 3) := by decide +kernel
theorem d_R_pays_5 : decode (mMc M_R_pays) 5 = .ok (.istore_n 3, 1) := by decide +kernel
theorem d_R_pays_6 : decode (mMc M_R_pays) 6 = .ok (.iload_n 2, 1) := by decide +kernel
theorem d_R_pays_7 : decode (mMc M_R_pays) 7 = .ok (.iconst 1, 1) := by decide +kernel
theorem d_R_pays_8 : decode (mMc M_R_pays) 8 = .ok (.sipush 999, 3) := by decide +kernel
theorem d_R_pays_11 : decode (mMc M_R_pays) 11 = .ok (.invokestatic 83, 3) := by decide +kernel
theorem d_R_pays_14 : decode (mMc M_R_pays) 14 = .ok (.istore 4, 2) := by decide +kernel
theorem d_R_pays_16 : decode (mMc M_R_pays) 16 = .ok (.aload_n 0, 1) := by decide +kernel
theorem d_R_pays_17 : decode (mMc M_R_pays) 17 = .ok (.iload_n 3, 1) := by decide +kernel
theorem d_R_pays_18 : decode (mMc M_R_pays) 18 = .ok (.iconst (-1), 1) := by decide +kernel
theorem d_R_pays_19 : decode (mMc M_R_pays) 19 = .ok (.if_icmp .eq 7, 3) := by decide +kernel
theorem d_R_pays_22 : decode (mMc M_R_pays) 22 = .ok (.iconst 1, 1) := by decide +kernel
theorem d_R_pays_23 : decode (mMc M_R_pays) 23 = .ok (.goto 4, 3) := by decide +kernel
theorem d_R_pays_26 : decode (mMc M_R_pays) 26 = .ok (.iconst 0, 1) := by decide +kernel
theorem d_R_pays_27 : decode (mMc M_R_pays) 27 = .ok (.iload 4, 2) := by decide +kernel
theorem d_R_pays_29 : decode (mMc M_R_pays) 29 = .ok (.iload 4, 2) := by decide +kernel
theorem d_R_pays_31 : decode (mMc M_R_pays) 31 = .ok (.ifCond .eq 18, 3) := by decide +kernel
theorem d_R_pays_34 : decode (mMc M_R_pays) 34 = .ok (.aload_n 0, 1) := by decide +kernel
theorem d_R_pays_35 : decode (mMc M_R_pays) 35 = .ok (.iload_n 3, 1) := by decide +kernel
theorem d_R_pays_36 : decode (mMc M_R_pays) 36 = .ok (.bipush 8, 2) := by decide +kernel
theorem d_R_pays_38 : decode (mMc M_R_pays) 38 = .ok (.invokevirtual 67, 3) := by decide +kernel
theorem d_R_pays_41 : decode (mMc M_R_pays) 41 = .ok (.iload_n 2, 1) := by decide +kernel
theorem d_R_pays_42 : decode (mMc M_R_pays) 42 = .ok (.if_icmp .lt 7, 3) := by decide +kernel
theorem d_R_pays_45 : decode (mMc M_R_pays) 45 = .ok (.iconst 1, 1) := by decide +kernel
theorem d_R_pays_46 : decode (mMc M_R_pays) 46 = .ok (.goto 4, 3) := by decide +kernel
theorem d_R_pays_49 : decode (mMc M_R_pays) 49 = .ok (.iconst 0, 1) := by decide +kernel
theorem d_R_pays_50 : decode (mMc M_R_pays) 50 = .ok (.iconst 1, 1) := by decide +kernel
theorem d_R_pays_51 : decode (mMc M_R_pays) 51 = .ok (.invokevirtual 45, 3) := by decide +kernel
theorem d_R_pays_54 : decode (mMc M_R_pays) 54 = .ok (.ifCond .ne 5, 3) := by decide +kernel
theorem d_R_pays_57 : decode (mMc M_R_pays) 57 = .ok (.iconst 0, 1) := by decide +kernel
theorem d_R_pays_58 : decode (mMc M_R_pays) 58 = .ok (.ireturn, 1) := by decide +kernel
theorem d_R_pays_59 : decode (mMc M_R_pays) 59 = .ok (.aload_n 0, 1) := by decide +kernel
theorem d_R_pays_60 : decode (mMc M_R_pays) 60 = .ok (.getfield 9, 3) := by decide +kernel
theorem d_R_pays_63 : decode (mMc M_R_pays) 63 = .ok (.iload_n 3, 1) := by decide +kernel
theorem d_R_pays_64 : decode (mMc M_R_pays) 64 = .ok (.bipush 8, 2) := by decide +kernel
theorem d_R_pays_66 : decode (mMc M_R_pays) 66 = .ok (.invokestatic 76, 3) := by decide +kernel
theorem d_R_pays_69 : decode (mMc M_R_pays) 69 = .ok (.dup2, 1) := by decide +kernel
theorem d_R_pays_70 : decode (mMc M_R_pays) 70 = .ok (.iaload, 1) := by decide +kernel
theorem d_R_pays_71 : decode (mMc M_R_pays) 71 = .ok (.iload_n 2, 1) := by decide +kernel
theorem d_R_pays_72 : decode (mMc M_R_pays) 72 = .ok (.isub, 1) := by decide +kernel
theorem d_R_pays_73 : decode (mMc M_R_pays) 73 = .ok (.iastore, 1) := by decide +kernel
theorem d_R_pays_74 : decode (mMc M_R_pays) 74 = .ok (.aload_n 0, 1) := by decide +kernel
theorem d_R_pays_75 : decode (mMc M_R_pays) 75 = .ok (.getfield 9, 3) := by decide +kernel
theorem d_R_pays_78 : decode (mMc M_R_pays) 78 = .ok (.bipush 7, 2) := by decide +kernel
theorem d_R_pays_80 : decode (mMc M_R_pays) 80 = .ok (.dup2, 1) := by decide +kernel
theorem d_R_pays_81 : decode (mMc M_R_pays) 81 = .ok (.iaload, 1) := by decide +kernel
theorem d_R_pays_82 : decode (mMc M_R_pays) 82 = .ok (.iload_n 2, 1) := by decide +kernel
theorem d_R_pays_83 : decode (mMc M_R_pays) 83 = .ok (.iadd, 1) := by decide +kernel
theorem d_R_pays_84 : decode (mMc M_R_pays) 84 = .ok (.iastore, 1) := by decide +kernel
theorem d_R_pays_85 : decode (mMc M_R_pays) 85 = .ok (.aload_n 0, 1) := by decide +kernel
theorem d_R_pays_86 : decode (mMc M_R_pays) 86 = .ok (.iload_n 3, 1) := by decide +kernel
theorem d_R_pays_87 : decode (mMc M_R_pays) 87 = .ok (.bipush 8, 2) := by decide +kernel
theorem d_R_pays_89 : decode (mMc M_R_pays) 89 = .ok (.invokevirtual 67, 3) := by decide +kernel
theorem d_R_pays_92 : decode (mMc M_R_pays) 92 = .ok (.ireturn, 1) := by decide +kernel
theorem k_R_pays : mCd M_R_pays 2 := ⟨by decide, by decide, by decide +kernel, by decide, mG (8, 156) (by decide +kernel), mG (1, 15) (by decide +kernel)⟩
def M_R_setGate : mM := (⟨"FloatingDockModel", "setGate", "(Z)Z"⟩, prog_13_method_40_code, 2, (some .boolean), [])
theorem d_R_setGate_0 : decode (mMc M_R_setGate) 0 = .ok (.aload_n 0, 1) := by decide +kernel
theorem d_R_setGate_1 : decode (mMc M_R_setGate) 1 = .ok (.invokevirtual 94, 3) := by decide +kernel
theorem d_R_setGate_4 : decode (mMc M_R_setGate) 4 = .ok (.aload_n 0, 1) := by decide +kernel
theorem d_R_setGate_5 : decode (mMc M_R_setGate) 5 = .ok (.aload_n 0, 1) := by decide +kernel
theorem d_R_setGate_6 : decode (mMc M_R_setGate) 6 = .ok (.iload_n 1, 1) := by decide +kernel
theorem d_R_setGate_7 : decode (mMc M_R_setGate) 7 = .ok (.ifCond .eq 7, 3) := by decide +kernel
theorem d_R_setGate_10 : decode (mMc M_R_setGate) 10 = .ok (.iconst 1, 1) := by decide +kernel
theorem d_R_setGate_11 : decode (mMc M_R_setGate) 11 = .ok (.goto 4, 3) := by decide +kernel
theorem d_R_setGate_14 : decode (mMc M_R_setGate) 14 = .ok (.iconst 0, 1) := by decide +kernel
theorem d_R_setGate_15 : decode (mMc M_R_setGate) 15 = .ok (.invokevirtual 146, 3) := by decide +kernel
theorem d_R_setGate_18 : decode (mMc M_R_setGate) 18 = .ok (.invokevirtual 101, 3) := by decide +kernel
theorem d_R_setGate_21 : decode (mMc M_R_setGate) 21 = .ok (.iconst 1, 1) := by decide +kernel
theorem d_R_setGate_22 : decode (mMc M_R_setGate) 22 = .ok (.if_icmp .ne 7, 3) := by decide +kernel
theorem d_R_setGate_25 : decode (mMc M_R_setGate) 25 = .ok (.iconst 1, 1) := by decide +kernel
theorem d_R_setGate_26 : decode (mMc M_R_setGate) 26 = .ok (.goto 4, 3) := by decide +kernel
theorem d_R_setGate_29 : decode (mMc M_R_setGate) 29 = .ok (.iconst 0, 1) := by decide +kernel
theorem d_R_setGate_30 : decode (mMc M_R_setGate) 30 = .ok (.ireturn, 1) := by decide +kernel
theorem k_R_setGate : mCd M_R_setGate 1 := ⟨by decide, by decide, by decide +kernel, by decide, mG (8, 160) (by decide +kernel), mG (1, 15) (by decide +kernel)⟩
def M_R_gates : mM := (⟨"FloatingDockModel", "gates", "(I)I"⟩, prog_13_method_39_code, 4, (some .int), [])
theorem d_R_gates_0 : decode (mMc M_R_gates) 0 = .ok (.aload_n 0, 1) := by decide +kernel
theorem d_R_gates_1 : decode (mMc M_R_gates) 1 = .ok (.getfield 9, 3) := by decide +kernel
theorem d_R_gates_4 : decode (mMc M_R_gates) 4 = .ok (.iconst 1, 1) := by decide +kernel
theorem d_R_gates_5 : decode (mMc M_R_gates) 5 = .ok (.iaload, 1) := by decide +kernel
theorem d_R_gates_6 : decode (mMc M_R_gates) 6 = .ok (.aload_n 0, 1) := by decide +kernel
theorem d_R_gates_7 : decode (mMc M_R_gates) 7 = .ok (.getfield 9, 3) := by decide +kernel
theorem d_R_gates_10 : decode (mMc M_R_gates) 10 = .ok (.iconst 0, 1) := by decide +kernel
theorem d_R_gates_11 : decode (mMc M_R_gates) 11 = .ok (.iaload, 1) := by decide +kernel
theorem d_R_gates_12 : decode (mMc M_R_gates) 12 = .ok (.invokestatic 140, 3) := by decide +kernel
theorem d_R_gates_15 : decode (mMc M_R_gates) 15 = .ok (.isub, 1) := by decide +kernel
theorem d_R_gates_16 : decode (mMc M_R_gates) 16 = .ok (.invokestatic 143, 3) := by decide +kernel
theorem d_R_gates_19 : decode (mMc M_R_gates) 19 = .ok (.bipush 20, 2) := by decide +kernel
theorem d_R_gates_21 : decode (mMc M_R_gates) 21 = .ok (.if_icmp .gt 7, 3) := by decide +kernel
theorem d_R_gates_24 : decode (mMc M_R_gates) 24 = .ok (.iconst 1, 1) := by decide +kernel
theorem d_R_gates_25 : decode (mMc M_R_gates) 25 = .ok (.goto 4, 3) := by decide +kernel
theorem d_R_gates_28 : decode (mMc M_R_gates) 28 = .ok (.iconst 0, 1) := by decide +kernel
theorem d_R_gates_29 : decode (mMc M_R_gates) 29 = .ok (.istore_n 2, 1) := by decide +kernel
theorem d_R_gates_30 : decode (mMc M_R_gates) 30 = .ok (.aload_n 0, 1) := by decide +kernel
theorem d_R_gates_31 : decode (mMc M_R_gates) 31 = .ok (.getfield 9, 3) := by decide +kernel
theorem d_R_gates_34 : decode (mMc M_R_gates) 34 = .ok (.iconst 2, 1) := by decide +kernel
theorem d_R_gates_35 : decode (mMc M_R_gates) 35 = .ok (.iaload, 1) := by decide +kernel
theorem d_R_gates_36 : decode (mMc M_R_gates) 36 = .ok (.istore_n 3, 1) := by decide +kernel
theorem d_R_gates_37 : decode (mMc M_R_gates) 37 = .ok (.aload_n 0, 1) := by decide +kernel
theorem d_R_gates_38 : decode (mMc M_R_gates) 38 = .ok (.iload_n 1, 1) := by decide +kernel
theorem d_R_gates_39 : decode (mMc M_R_gates) 39 = .ok (.ifCond .eq 7, 3) := by decide +kernel
theorem d_R_gates_42 : decode (mMc M_R_gates) 42 = .ok (.iload_n 2, 1) := by decide +kernel
theorem d_R_gates_43 : decode (mMc M_R_gates) 43 = .ok (.ifCond .eq 7, 3) := by decide +kernel
theorem d_R_gates_46 : decode (mMc M_R_gates) 46 = .ok (.iconst 1, 1) := by decide +kernel
theorem d_R_gates_47 : decode (mMc M_R_gates) 47 = .ok (.goto 4, 3) := by decide +kernel
theorem d_R_gates_50 : decode (mMc M_R_gates) 50 = .ok (.iconst 0, 1) := by decide +kernel
theorem d_R_gates_51 : decode (mMc M_R_gates) 51 = .ok (.invokevirtual 59, 3) := by decide +kernel
theorem d_R_gates_54 : decode (mMc M_R_gates) 54 = .ok (.ifCond .eq 10, 3) := by decide +kernel
theorem d_R_gates_57 : decode (mMc M_R_gates) 57 = .ok (.aload_n 0, 1) := by decide +kernel
theorem d_R_gates_58 : decode (mMc M_R_gates) 58 = .ok (.getfield 9, 3) := by decide +kernel
theorem d_R_gates_61 : decode (mMc M_R_gates) 61 = .ok (.iconst 2, 1) := by decide +kernel
theorem d_R_gates_62 : decode (mMc M_R_gates) 62 = .ok (.iload_n 1, 1) := by decide +kernel
theorem d_R_gates_63 : decode (mMc M_R_gates) 63 = .ok (.iastore, 1) := by decide +kernel
theorem d_R_gates_64 : decode (mMc M_R_gates) 64 = .ok (.iload_n 3, 1) := by decide +kernel
theorem d_R_gates_65 : decode (mMc M_R_gates) 65 = .ok (.ireturn, 1) := by decide +kernel
theorem k_R_gates : mCd M_R_gates 1 := ⟨by decide, by decide, by decide +kernel, by decide, mG (8, 164) (by decide +kernel), mG (1, 15) (by decide +kernel)⟩
def M_R_seaAt : mM := (⟨"FloatingDockModel", "seaAt", "(I)I"⟩, prog_13_method_38_code, 2, (some .int), [])
theorem d_R_seaAt_0 : decode (mMc M_R_seaAt) 0 = .ok (.iload_n 0, 1) := by decide +kernel
theorem d_R_seaAt_1 : decode (mMc M_R_seaAt) 1 = .ok (.bipush 12, 2) := by decide +kernel
theorem d_R_seaAt_3 : decode (mMc M_R_seaAt) 3 = .ok (.irem, 1) := by decide +kernel
theorem d_R_seaAt_4 : decode (mMc M_R_seaAt) 4 = .ok (.istore_n 1, 1) := by decide +kernel
theorem d_R_seaAt_5 : decode (mMc M_R_seaAt) 5 = .ok (.iload_n 1, 1) := by decide +kernel
theorem d_R_seaAt_6 : decode (mMc M_R_seaAt) 6 = .ok (.bipush 6, 2) := by decide +kernel
theorem d_R_seaAt_8 : decode (mMc M_R_seaAt) 8 = .ok (.if_icmp .gt 13, 3) := by decide +kernel
theorem d_R_seaAt_11 : decode (mMc M_R_seaAt) 11 = .ok (.bipush 40, 2) := by decide +kernel
theorem d_R_seaAt_13 : decode (mMc M_R_seaAt) 13 = .ok (.bipush 20, 2) := by decide +kernel
theorem d_R_seaAt_15 : decode (mMc M_R_seaAt) 15 = .ok (.iload_n 1, 1) := by decide +kernel
theorem d_R_seaAt_16 : decode (mMc M_R_seaAt) 16 = .ok (.imul, 1) := by decide +kernel
theorem d_R_seaAt_17 : decode (mMc M_R_seaAt) 17 = .ok (.iadd, 1) := by decide +kernel
theorem d_R_seaAt_18 : decode (mMc M_R_seaAt) 18 = .ok (.goto 14, 3) := by decide +kernel
theorem d_R_seaAt_21 : decode (mMc M_R_seaAt) 21 = .ok (.sipush 160, 3) := by decide +kernel
theorem d_R_seaAt_24 : decode (mMc M_R_seaAt) 24 = .ok (.bipush 20, 2) := by decide +kernel
theorem d_R_seaAt_26 : decode (mMc M_R_seaAt) 26 = .ok (.iload_n 1, 1) := by decide +kernel
theorem d_R_seaAt_27 : decode (mMc M_R_seaAt) 27 = .ok (.bipush 6, 2) := by decide +kernel
theorem d_R_seaAt_29 : decode (mMc M_R_seaAt) 29 = .ok (.isub, 1) := by decide +kernel
theorem d_R_seaAt_30 : decode (mMc M_R_seaAt) 30 = .ok (.imul, 1) := by decide +kernel
theorem d_R_seaAt_31 : decode (mMc M_R_seaAt) 31 = .ok (.isub, 1) := by decide +kernel
theorem d_R_seaAt_32 : decode (mMc M_R_seaAt) 32 = .ok (.ireturn, 1) := by decide +kernel
theorem k_R_seaAt : mCd M_R_seaAt 1 := ⟨by decide, by decide, by decide +kernel, by decide, mG (8, 167) (by decide +kernel), mG (1, 15) (by decide +kernel)⟩
def M_R_setPump : mM := (⟨"FloatingDockModel", "setPump", "(I)I"⟩, prog_13_method_42_code, 2, (some .int), [])
theorem d_R_setPump_0 : decode (mMc M_R_setPump) 0 = .ok (.aload_n 0, 1) := by decide +kernel
theorem d_R_setPump_1 : decode (mMc M_R_setPump) 1 = .ok (.invokevirtual 94, 3) := by decide +kernel
theorem d_R_setPump_4 : decode (mMc M_R_setPump) 4 = .ok (.aload_n 0, 1) := by decide +kernel
theorem d_R_setPump_5 : decode (mMc M_R_setPump) 5 = .ok (.aload_n 0, 1) := by decide +kernel
theorem d_R_setPump_6 : decode (mMc M_R_setPump) 6 = .ok (.iload_n 1, 1) := by decide +kernel
theorem d_R_setPump_7 : decode (mMc M_R_setPump) 7 = .ok (.invokevirtual 149, 3) := by decide +kernel
theorem d_R_setPump_10 : decode (mMc M_R_setPump) 10 = .ok (.invokevirtual 101, 3) := by decide +kernel
theorem d_R_setPump_13 : decode (mMc M_R_setPump) 13 = .ok (.ireturn, 1) := by decide +kernel
theorem k_R_setPump : mCd M_R_setPump 1 := ⟨by decide, by decide, by decide +kernel, by decide, mG (8, 172) (by decide +kernel), mG (1, 15) (by decide +kernel)⟩
def M_R_pumps : mM := (⟨"FloatingDockModel", "pumps", "(I)I"⟩, prog_13_method_41_code, 3, (some .int), [])
theorem d_R_pumps_0 : decode (mMc M_R_pumps) 0 = .ok (.aload_n 0, 1) := by decide +kernel
theorem d_R_pumps_1 : decode (mMc M_R_pumps) 1 = .ok (.getfield 9, 3) := by decide +kernel
theorem d_R_pumps_4 : decode (mMc M_R_pumps) 4 = .ok (.iconst 3, 1) := by decide +kernel
theorem d_R_pumps_5 : decode (mMc M_R_pumps) 5 = .ok (.iaload, 1) := by decide +kernel
theorem d_R_pumps_6 : decode (mMc M_R_pumps) 6 = .ok (.istore_n 2, 1) := by decide +kernel
theorem d_R_pumps_7 : decode (mMc M_R_pumps) 7 = .ok (.aload_n 0, 1) := by decide +kernel
theorem d_R_pumps_8 : decode (mMc M_R_pumps) 8 = .ok (.iload_n 1, 1) := by decide +kernel
theorem d_R_pumps_9 : decode (mMc M_R_pumps) 9 = .ok (.bipush (-30), 2) := by decide +kernel
theorem d_R_pumps_11 : decode (mMc M_R_pumps) 11 = .ok (.bipush 30, 2) := by decide +kernel
theorem d_R_pumps_13 : decode (mMc M_R_pumps) 13 = .ok (.invokestatic 83, 3) := by decide +kernel
theorem d_R_pumps_16 : decode (mMc M_R_pumps) 16 = .ok (.invokevirtual 59, 3) := by decide +kernel
theorem d_R_pumps_19 : decode (mMc M_R_pumps) 19 = .ok (.ifCond .eq 10, 3) := by decide +kernel
theorem d_R_pumps_22 : decode (mMc M_R_pumps) 22 = .ok (.aload_n 0, 1) := by decide +kernel
theorem d_R_pumps_23 : decode (mMc M_R_pumps) 23 = .ok (.getfield 9, 3) := by decide +kernel
theorem d_R_pumps_26 : decode (mMc M_R_pumps) 26 = .ok (.iconst 3, 1) := by decide +kernel
theorem d_R_pumps_27 : decode (mMc M_R_pumps) 27 = .ok (.iload_n 1, 1) := by decide +kernel
theorem d_R_pumps_28 : decode (mMc M_R_pumps) 28 = .ok (.iastore, 1) := by decide +kernel
theorem d_R_pumps_29 : decode (mMc M_R_pumps) 29 = .ok (.iload_n 2, 1) := by decide +kernel
theorem d_R_pumps_30 : decode (mMc M_R_pumps) 30 = .ok (.ireturn, 1) := by decide +kernel
theorem k_R_pumps : mCd M_R_pumps 1 := ⟨by decide, by decide, by decide +kernel, by decide, mG (8, 176) (by decide +kernel), mG (1, 15) (by decide +kernel)⟩
def M_R_placeBlock : mM := (⟨"FloatingDockModel", "placeBlock", "(I)I"⟩, prog_13_method_44_code, 2, (some .int), [])
theorem d_R_placeBlock_0 : decode (mMc M_R_placeBlock) 0 = .ok (.aload_n 0, 1) := by decide +kernel
theorem d_R_placeBlock_1 : decode (mMc M_R_placeBlock) 1 = .ok (.invokevirtual 94, 3) := by decide +kernel
theorem d_R_placeBlock_4 : decode (mMc M_R_placeBlock) 4 = .ok (.aload_n 0, 1) := by decide +kernel
theorem d_R_placeBlock_5 : decode (mMc M_R_placeBlock) 5 = .ok (.aload_n 0, 1) := by decide +kernel
theorem d_R_placeBlock_6 : decode (mMc M_R_placeBlock) 6 = .ok (.iload_n 1, 1) := by decide +kernel
theorem d_R_placeBlock_7 : decode (mMc M_R_placeBlock) 7 = .ok (.invokevirtual 158, 3) := by decide +kernel
theorem d_R_placeBlock_10 : decode (mMc M_R_placeBlock) 10 = .ok (.invokevirtual 101, 3) := by decide +kernel
theorem d_R_placeBlock_13 : decode (mMc M_R_placeBlock) 13 = .ok (.ireturn, 1) := by decide +kernel
theorem k_R_placeBlock : mCd M_R_placeBlock 1 := ⟨by decide, by decide, by decide +kernel, by decide, mG (8, 180) (by decide +kernel), mG (1, 15) (by decide +kernel)⟩
def M_R_lays : mM := (⟨"FloatingDockModel", "lays", "(I)I"⟩, prog_13_method_43_code, 3, (some .int), [])
theorem d_R_lays_0 : decode (mMc M_R_lays) 0 = .ok (.aload_n 0, 1) := by decide +kernel
theorem d_R_lays_1 : decode (mMc M_R_lays) 1 = .ok (.invokevirtual 152, 3) := by decide +kernel
theorem d_R_lays_4 : decode (mMc M_R_lays) 4 = .ok (.bipush 20, 2) := by decide +kernel
theorem d_R_lays_6 : decode (mMc M_R_lays) 6 = .ok (.if_icmp .ge 15, 3) := by decide +kernel
theorem d_R_lays_9 : decode (mMc M_R_lays) 9 = .ok (.aload_n 0, 1) := by decide +kernel
theorem d_R_lays_10 : decode (mMc M_R_lays) 10 = .ok (.iload_n 1, 1) := by decide +kernel
theorem d_R_lays_11 : decode (mMc M_R_lays) 11 = .ok (.invokevirtual 155, 3) := by decide +kernel
theorem d_R_lays_14 : decode (mMc M_R_lays) 14 = .ok (.ifCond .ne 7, 3) := by decide +kernel
theorem d_R_lays_17 : decode (mMc M_R_lays) 17 = .ok (.iconst 1, 1) := by decide +kernel
theorem d_R_lays_18 : decode (mMc M_R_lays) 18 = .ok (.goto 4, 3) := by decide +kernel
theorem d_R_lays_21 : decode (mMc M_R_lays) 21 = .ok (.iconst 0, 1) := by decide +kernel
theorem d_R_lays_22 : decode (mMc M_R_lays) 22 = .ok (.istore_n 2, 1) := by decide +kernel
theorem d_R_lays_23 : decode (mMc M_R_lays) 23 = .ok (.aload_n 0, 1) := by decide +kernel
theorem d_R_lays_24 : decode (mMc M_R_lays) 24 = .ok (.iload_n 1, 1) := by decide +kernel
theorem d_R_lays_25 : decode (mMc M_R_lays) 25 = .ok (.invokestatic 91, 3) := by decide +kernel
theorem d_R_lays_28 : decode (mMc M_R_lays) 28 = .ok (.iload_n 2, 1) := by decide +kernel
theorem d_R_lays_29 : decode (mMc M_R_lays) 29 = .ok (.aload_n 0, 1) := by decide +kernel
theorem d_R_lays_30 : decode (mMc M_R_lays) 30 = .ok (.getfield 9, 3) := by decide +kernel
theorem d_R_lays_33 : decode (mMc M_R_lays) 33 = .ok (.iconst 1, 1) := by decide +kernel
theorem d_R_lays_34 : decode (mMc M_R_lays) 34 = .ok (.iaload, 1) := by decide +kernel
theorem d_R_lays_35 : decode (mMc M_R_lays) 35 = .ok (.bipush 30, 2) := by decide +kernel
theorem d_R_lays_37 : decode (mMc M_R_lays) 37 = .ok (.if_icmp .gt 16, 3) := by decide +kernel
theorem d_R_lays_40 : decode (mMc M_R_lays) 40 = .ok (.aload_n 0, 1) := by decide +kernel
theorem d_R_lays_41 : decode (mMc M_R_lays) 41 = .ok (.iload_n 1, 1) := by decide +kernel
theorem d_R_lays_42 : decode (mMc M_R_lays) 42 = .ok (.invokevirtual 87, 3) := by decide +kernel
theorem d_R_lays_45 : decode (mMc M_R_lays) 45 = .ok (.iconst (-1), 1) := by decide +kernel
theorem d_R_lays_46 : decode (mMc M_R_lays) 46 = .ok (.if_icmp .ne 7, 3) := by decide +kernel
theorem d_R_lays_49 : decode (mMc M_R_lays) 49 = .ok (.iconst 1, 1) := by decide +kernel
theorem d_R_lays_50 : decode (mMc M_R_lays) 50 = .ok (.goto 4, 3) := by decide +kernel
theorem d_R_lays_53 : decode (mMc M_R_lays) 53 = .ok (.iconst 0, 1) := by decide +kernel
theorem d_R_lays_54 : decode (mMc M_R_lays) 54 = .ok (.iconst 1, 1) := by decide +kernel
theorem d_R_lays_55 : decode (mMc M_R_lays) 55 = .ok (.invokevirtual 45, 3) := by decide +kernel
theorem d_R_lays_58 : decode (mMc M_R_lays) 58 = .ok (.ifCond .ne 5, 3) := by decide +kernel
theorem d_R_lays_61 : decode (mMc M_R_lays) 61 = .ok (.iconst 0, 1) := by decide +kernel
theorem d_R_lays_62 : decode (mMc M_R_lays) 62 = .ok (.ireturn, 1) := by decide +kernel
theorem d_R_lays_63 : decode (mMc M_R_lays) 63 = .ok (.aload_n 0, 1) := by decide +kernel
theorem d_R_lays_64 : decode (mMc M_R_lays) 64 = .ok (.getfield 9, 3) := by decide +kernel
theorem d_R_lays_67 : decode (mMc M_R_lays) 67 = .ok (.bipush 80, 2) := by decide +kernel
theorem d_R_lays_69 : decode (mMc M_R_lays) 69 = .ok (.iload_n 1, 1) := by decide +kernel
theorem d_R_lays_70 : decode (mMc M_R_lays) 70 = .ok (.iadd, 1) := by decide +kernel
theorem d_R_lays_71 : decode (mMc M_R_lays) 71 = .ok (.iconst 1, 1) := by decide +kernel
theorem d_R_lays_72 : decode (mMc M_R_lays) 72 = .ok (.iastore, 1) := by decide +kernel
theorem d_R_lays_73 : decode (mMc M_R_lays) 73 = .ok (.aload_n 0, 1) := by decide +kernel
theorem d_R_lays_74 : decode (mMc M_R_lays) 74 = .ok (.invokevirtual 152, 3) := by decide +kernel
theorem d_R_lays_77 : decode (mMc M_R_lays) 77 = .ok (.ireturn, 1) := by decide +kernel
theorem k_R_lays : mCd M_R_lays 1 := ⟨by decide, by decide, by decide +kernel, by decide, mG (8, 184) (by decide +kernel), mG (1, 15) (by decide +kernel)⟩
def M_R_blocks : mM := (⟨"FloatingDockModel", "blocks", "()I"⟩, prog_13_method_23_code, 3, (some .int), [])
theorem d_R_blocks_0 : decode (mMc M_R_blocks) 0 = .ok (.iconst 0, 1) := by decide +kernel
theorem d_R_blocks_1 : decode (mMc M_R_blocks) 1 = .ok (.istore_n 1, 1) := by decide +kernel
theorem d_R_blocks_2 : decode (mMc M_R_blocks) 2 = .ok (.iconst 0, 1) := by decide +kernel
theorem d_R_blocks_3 : decode (mMc M_R_blocks) 3 = .ok (.istore_n 2, 1) := by decide +kernel
theorem d_R_blocks_4 : decode (mMc M_R_blocks) 4 = .ok (.iload_n 2, 1) := by decide +kernel
theorem d_R_blocks_5 : decode (mMc M_R_blocks) 5 = .ok (.bipush 60, 2) := by decide +kernel
theorem d_R_blocks_7 : decode (mMc M_R_blocks) 7 = .ok (.if_icmp .ge 21, 3) := by decide +kernel
theorem d_R_blocks_10 : decode (mMc M_R_blocks) 10 = .ok (.iload_n 1, 1) := by decide +kernel
theorem d_R_blocks_11 : decode (mMc M_R_blocks) 11 = .ok (.aload_n 0, 1) := by decide +kernel
theorem d_R_blocks_12 : decode (mMc M_R_blocks) 12 = .ok (.getfield 9, 3) := by decide +kernel
theorem d_R_blocks_15 : decode (mMc M_R_blocks) 15 = .ok (.bipush 80, 2) := by decide +kernel
theorem d_R_blocks_17 : decode (mMc M_R_blocks) 17 = .ok (.iload_n 2, 1) := by decide +kernel
theorem d_R_blocks_18 : decode (mMc M_R_blocks) 18 = .ok (.iadd, 1) := by decide +kernel
theorem d_R_blocks_19 : decode (mMc M_R_blocks) 19 = .ok (.iaload, 1) := by decide +kernel
theorem d_R_blocks_20 : decode (mMc M_R_blocks) 20 = .ok (.iadd, 1) := by decide +kernel
theorem d_R_blocks_21 : decode (mMc M_R_blocks) 21 = .ok (.istore_n 1, 1) := by decide +kernel
theorem d_R_blocks_22 : decode (mMc M_R_blocks) 22 = .ok (.iinc 2 1, 3) := by decide +kernel
theorem d_R_blocks_25 : decode (mMc M_R_blocks) 25 = .ok (.goto (-21), 3) := by decide +kernel
theorem d_R_blocks_28 : decode (mMc M_R_blocks) 28 = .ok (.iload_n 1, 1) := by decide +kernel
theorem d_R_blocks_29 : decode (mMc M_R_blocks) 29 = .ok (.ireturn, 1) := by decide +kernel
theorem k_R_blocks : mCd M_R_blocks 0 := ⟨by decide, by decide, by decide +kernel, by decide, mG (8, 188) (by decide +kernel), mG (1, 15) (by decide +kernel)⟩
def M_R_isBlock : mM := (⟨"FloatingDockModel", "isBlock", "(I)Z"⟩, prog_13_method_22_code, 2, (some .boolean), [])
theorem d_R_isBlock_0 : decode (mMc M_R_isBlock) 0 = .ok (.iload_n 1, 1) := by decide +kernel
theorem d_R_isBlock_1 : decode (mMc M_R_isBlock) 1 = .ok (.invokestatic 91, 3) := by decide +kernel
theorem d_R_isBlock_4 : decode (mMc M_R_isBlock) 4 = .ok (.ifCond .eq 20, 3) := by decide +kernel
theorem d_R_isBlock_7 : decode (mMc M_R_isBlock) 7 = .ok (.aload_n 0, 1) := by decide +kernel
theorem d_R_isBlock_8 : decode (mMc M_R_isBlock) 8 = .ok (.getfield 9, 3) := by decide +kernel
theorem d_R_isBlock_11 : decode (mMc M_R_isBlock) 11 = .ok (.bipush 80, 2) := by decide +kernel
theorem d_R_isBlock_13 : decode (mMc M_R_isBlock) 13 = .ok (.iload_n 1, 1) := by decide +kernel
theorem d_R_isBlock_14 : decode (mMc M_R_isBlock) 14 = .ok (.iadd, 1) := by decide +kernel
theorem d_R_isBlock_15 : decode (mMc M_R_isBlock) 15 = .ok (.iaload, 1) := by decide +kernel
theorem d_R_isBlock_16 : decode (mMc M_R_isBlock) 16 = .ok (.iconst 1, 1) := by decide +kernel
theorem d_R_isBlock_17 : decode (mMc M_R_isBlock) 17 = .ok (.if_icmp .ne 7, 3) := by decide +kernel
theorem d_R_isBlock_20 : decode (mMc M_R_isBlock) 20 = .ok (.iconst 1, 1) := by decide +kernel
theorem d_R_isBlock_21 : decode (mMc M_R_isBlock) 21 = .ok (.goto 4, 3) := by decide +kernel
theorem d_R_isBlock_24 : decode (mMc M_R_isBlock) 24 = .ok (.iconst 0, 1) := by decide +kernel
theorem d_R_isBlock_25 : decode (mMc M_R_isBlock) 25 = .ok (.ireturn, 1) := by decide +kernel
theorem k_R_isBlock : mCd M_R_isBlock 1 := ⟨by decide, by decide, by decide +kernel, by decide, mG (8, 192) (by decide +kernel), mG (1, 15) (by decide +kernel)⟩
def M_R_removeBlock : mM := (⟨"FloatingDockModel", "removeBlock", "(I)I"⟩, prog_13_method_46_code, 2, (some .int), [])
theorem d_R_removeBlock_0 : decode (mMc M_R_removeBlock) 0 = .ok (.aload_n 0, 1) := by decide +kernel
theorem d_R_removeBlock_1 : decode (mMc M_R_removeBlock) 1 = .ok (.invokevirtual 94, 3) := by decide +kernel
theorem d_R_removeBlock_4 : decode (mMc M_R_removeBlock) 4 = .ok (.aload_n 0, 1) := by decide +kernel
theorem d_R_removeBlock_5 : decode (mMc M_R_removeBlock) 5 = .ok (.aload_n 0, 1) := by decide +kernel
theorem d_R_removeBlock_6 : decode (mMc M_R_removeBlock) 6 = .ok (.iload_n 1, 1) := by decide +kernel
theorem d_R_removeBlock_7 : decode (mMc M_R_removeBlock) 7 = .ok (.invokevirtual 161, 3) := by decide +kernel
theorem d_R_removeBlock_10 : decode (mMc M_R_removeBlock) 10 = .ok (.invokevirtual 101, 3) := by decide +kernel
theorem d_R_removeBlock_13 : decode (mMc M_R_removeBlock) 13 = .ok (.ireturn, 1) := by decide +kernel
theorem k_R_removeBlock : mCd M_R_removeBlock 1 := ⟨by decide, by decide, by decide +kernel, by decide, mG (8, 196) (by decide +kernel), mG (1, 15) (by decide +kernel)⟩
def M_R_takes : mM := (⟨"FloatingDockModel", "takes", "(I)I"⟩, prog_13_method_45_code, 2, (some .int), [])
theorem d_R_takes_0 : decode (mMc M_R_takes) 0 = .ok (.aload_n 0, 1) := by decide +kernel
theorem d_R_takes_1 : decode (mMc M_R_takes) 1 = .ok (.iload_n 1, 1) := by decide +kernel
theorem d_R_takes_2 : decode (mMc M_R_takes) 2 = .ok (.invokestatic 91, 3) := by decide +kernel
theorem d_R_takes_5 : decode (mMc M_R_takes) 5 = .ok (.aload_n 0, 1) := by decide +kernel
theorem d_R_takes_6 : decode (mMc M_R_takes) 6 = .ok (.iload_n 1, 1) := by decide +kernel
theorem d_R_takes_7 : decode (mMc M_R_takes) 7 = .ok (.invokevirtual 155, 3) := by decide +kernel
theorem d_R_takes_10 : decode (mMc M_R_takes) 10 = .ok (.aload_n 0, 1) := by decide +kernel
theorem d_R_takes_11 : decode (mMc M_R_takes) 11 = .ok (.getfield 9, 3) := by decide +kernel
theorem d_R_takes_14 : decode (mMc M_R_takes) 14 = .ok (.iconst 1, 1) := by decide +kernel
theorem d_R_takes_15 : decode (mMc M_R_takes) 15 = .ok (.iaload, 1) := by decide +kernel
theorem d_R_takes_16 : decode (mMc M_R_takes) 16 = .ok (.bipush 30, 2) := by decide +kernel
theorem d_R_takes_18 : decode (mMc M_R_takes) 18 = .ok (.if_icmp .gt 16, 3) := by decide +kernel
theorem d_R_takes_21 : decode (mMc M_R_takes) 21 = .ok (.aload_n 0, 1) := by decide +kernel
theorem d_R_takes_22 : decode (mMc M_R_takes) 22 = .ok (.iload_n 1, 1) := by decide +kernel
theorem d_R_takes_23 : decode (mMc M_R_takes) 23 = .ok (.invokevirtual 87, 3) := by decide +kernel
theorem d_R_takes_26 : decode (mMc M_R_takes) 26 = .ok (.iconst (-1), 1) := by decide +kernel
theorem d_R_takes_27 : decode (mMc M_R_takes) 27 = .ok (.if_icmp .ne 7, 3) := by decide +kernel
theorem d_R_takes_30 : decode (mMc M_R_takes) 30 = .ok (.iconst 1, 1) := by decide +kernel
theorem d_R_takes_31 : decode (mMc M_R_takes) 31 = .ok (.goto 4, 3) := by decide +kernel
theorem d_R_takes_34 : decode (mMc M_R_takes) 34 = .ok (.iconst 0, 1) := by decide +kernel
theorem d_R_takes_35 : decode (mMc M_R_takes) 35 = .ok (.iconst 1, 1) := by decide +kernel
theorem d_R_takes_36 : decode (mMc M_R_takes) 36 = .ok (.invokevirtual 45, 3) := by decide +kernel
theorem d_R_takes_39 : decode (mMc M_R_takes) 39 = .ok (.ifCond .ne 5, 3) := by decide +kernel
theorem d_R_takes_42 : decode (mMc M_R_takes) 42 = .ok (.iconst 0, 1) := by decide +kernel
theorem d_R_takes_43 : decode (mMc M_R_takes) 43 = .ok (.ireturn, 1) := by decide +kernel
theorem d_R_takes_44 : decode (mMc M_R_takes) 44 = .ok (.aload_n 0, 1) := by decide +kernel
theorem d_R_takes_45 : decode (mMc M_R_takes) 45 = .ok (.getfield 9, 3) := by decide +kernel
theorem d_R_takes_48 : decode (mMc M_R_takes) 48 = .ok (.bipush 80, 2) := by decide +kernel
theorem d_R_takes_50 : decode (mMc M_R_takes) 50 = .ok (.iload_n 1, 1) := by decide +kernel
theorem d_R_takes_51 : decode (mMc M_R_takes) 51 = .ok (.iadd, 1) := by decide +kernel
theorem d_R_takes_52 : decode (mMc M_R_takes) 52 = .ok (.iconst 0, 1) := by decide +kernel
theorem d_R_takes_53 : decode (mMc M_R_takes) 53 = .ok (.iastore, 1) := by decide +kernel
theorem d_R_takes_54 : decode (mMc M_R_takes) 54 = .ok (.aload_n 0, 1) := by decide +kernel
theorem d_R_takes_55 : decode (mMc M_R_takes) 55 = .ok (.invokevirtual 152, 3) := by decide +kernel
theorem d_R_takes_58 : decode (mMc M_R_takes) 58 = .ok (.ireturn, 1) := by decide +kernel
theorem k_R_takes : mCd M_R_takes 1 := ⟨by decide, by decide, by decide +kernel, by decide, mG (8, 200) (by decide +kernel), mG (1, 15) (by decide +kernel)⟩
def M_R_pass : mM := (⟨"FloatingDockModel", "pass", "(I)I"⟩, prog_13_method_51_code, 2, (some .int), [])
theorem d_R_pass_0 : decode (mMc M_R_pass) 0 = .ok (.aload_n 0, 1) := by decide +kernel
theorem d_R_pass_1 : decode (mMc M_R_pass) 1 = .ok (.invokevirtual 94, 3) := by decide +kernel
theorem d_R_pass_4 : decode (mMc M_R_pass) 4 = .ok (.aload_n 0, 1) := by decide +kernel
theorem d_R_pass_5 : decode (mMc M_R_pass) 5 = .ok (.aload_n 0, 1) := by decide +kernel
theorem d_R_pass_6 : decode (mMc M_R_pass) 6 = .ok (.iload_n 1, 1) := by decide +kernel
theorem d_R_pass_7 : decode (mMc M_R_pass) 7 = .ok (.invokevirtual 179, 3) := by decide +kernel
theorem d_R_pass_10 : decode (mMc M_R_pass) 10 = .ok (.invokevirtual 101, 3) := by decide +kernel
theorem d_R_pass_13 : decode (mMc M_R_pass) 13 = .ok (.ireturn, 1) := by decide +kernel
theorem k_R_pass : mCd M_R_pass 1 := ⟨by decide, by decide, by decide +kernel, by decide, mG (8, 204) (by decide +kernel), mG (1, 15) (by decide +kernel)⟩
def M_R_waits : mM := (⟨"FloatingDockModel", "waits", "(I)I"⟩, prog_13_method_50_code, 5, (some .int), [])
theorem d_R_waits_0 : decode (mMc M_R_waits) 0 = .ok (.aload_n 0, 1) := by decide +kernel
theorem d_R_waits_1 : decode (mMc M_R_waits) 1 = .ok (.iload_n 1, 1) := by decide +kernel
theorem d_R_waits_2 : decode (mMc M_R_waits) 2 = .ok (.iconst 1, 1) := by decide +kernel
theorem d_R_waits_3 : decode (mMc M_R_waits) 3 = .ok (.bipush 48, 2) := by decide +kernel
theorem d_R_waits_5 : decode (mMc M_R_waits) 5 = .ok (.invokestatic 83, 3) := by decide +kernel
theorem d_R_waits_8 : decode (mMc M_R_waits) 8 = .ok (.invokevirtual 59, 3) := by decide +kernel
theorem d_R_waits_11 : decode (mMc M_R_waits) 11 = .ok (.ifCond .ne 5, 3) := by decide +kernel
theorem d_R_waits_14 : decode (mMc M_R_waits) 14 = .ok (.iconst 0, 1) := by decide +kernel
theorem d_R_waits_15 : decode (mMc M_R_waits) 15 = .ok (.ireturn, 1) := by decide +kernel
theorem d_R_waits_16 : decode (mMc M_R_waits) 16 = .ok (.iconst 0, 1) := by decide +kernel
theorem d_R_waits_17 : decode (mMc M_R_waits) 17 = .ok (.istore_n 2, 1) := by decide +kernel
theorem d_R_waits_18 : decode (mMc M_R_waits) 18 = .ok (.iconst 0, 1) := by decide +kernel
theorem d_R_waits_19 : decode (mMc M_R_waits) 19 = .ok (.istore_n 3, 1) := by decide +kernel
theorem d_R_waits_20 : decode (mMc M_R_waits) 20 = .ok (.iload_n 3, 1) := by decide +kernel
theorem d_R_waits_21 : decode (mMc M_R_waits) 21 = .ok (.iload_n 1, 1) := by decide +kernel
theorem d_R_waits_22 : decode (mMc M_R_waits) 22 = .ok (.if_icmp .ge 83, 3) := by decide +kernel
theorem d_R_waits_25 : decode (mMc M_R_waits) 25 = .ok (.aload_n 0, 1) := by decide +kernel
theorem d_R_waits_26 : decode (mMc M_R_waits) 26 = .ok (.getfield 9, 3) := by decide +kernel
theorem d_R_waits_29 : decode (mMc M_R_waits) 29 = .ok (.iconst 0, 1) := by decide +kernel
theorem d_R_waits_30 : decode (mMc M_R_waits) 30 = .ok (.dup2, 1) := by decide +kernel
theorem d_R_waits_31 : decode (mMc M_R_waits) 31 = .ok (.iaload, 1) := by decide +kernel
theorem d_R_waits_32 : decode (mMc M_R_waits) 32 = .ok (.iconst 1, 1) := by decide +kernel
theorem d_R_waits_33 : decode (mMc M_R_waits) 33 = .ok (.iadd, 1) := by decide +kernel
theorem d_R_waits_34 : decode (mMc M_R_waits) 34 = .ok (.iastore, 1) := by decide +kernel
theorem d_R_waits_35 : decode (mMc M_R_waits) 35 = .ok (.aload_n 0, 1) := by decide +kernel
theorem d_R_waits_36 : decode (mMc M_R_waits) 36 = .ok (.getfield 9, 3) := by decide +kernel
theorem d_R_waits_39 : decode (mMc M_R_waits) 39 = .ok (.iconst 1, 1) := by decide +kernel
theorem d_R_waits_40 : decode (mMc M_R_waits) 40 = .ok (.aload_n 0, 1) := by decide +kernel
theorem d_R_waits_41 : decode (mMc M_R_waits) 41 = .ok (.aload_n 0, 1) := by decide +kernel
theorem d_R_waits_42 : decode (mMc M_R_waits) 42 = .ok (.getfield 9, 3) := by decide +kernel
theorem d_R_waits_45 : decode (mMc M_R_waits) 45 = .ok (.iconst 1, 1) := by decide +kernel
theorem d_R_waits_46 : decode (mMc M_R_waits) 46 = .ok (.iaload, 1) := by decide +kernel
theorem d_R_waits_47 : decode (mMc M_R_waits) 47 = .ok (.aload_n 0, 1) := by decide +kernel
theorem d_R_waits_48 : decode (mMc M_R_waits) 48 = .ok (.getfield 9, 3) := by decide +kernel
theorem d_R_waits_51 : decode (mMc M_R_waits) 51 = .ok (.iconst 0, 1) := by decide +kernel
theorem d_R_waits_52 : decode (mMc M_R_waits) 52 = .ok (.iaload, 1) := by decide +kernel
theorem d_R_waits_53 : decode (mMc M_R_waits) 53 = .ok (.invokevirtual 173, 3) := by decide +kernel
theorem d_R_waits_56 : decode (mMc M_R_waits) 56 = .ok (.iastore, 1) := by decide +kernel
theorem d_R_waits_57 : decode (mMc M_R_waits) 57 = .ok (.iconst 0, 1) := by decide +kernel
theorem d_R_waits_58 : decode (mMc M_R_waits) 58 = .ok (.istore 4, 2) := by decide +kernel
theorem d_R_waits_60 : decode (mMc M_R_waits) 60 = .ok (.iload 4, 2) := by decide +kernel
theorem d_R_waits_62 : decode (mMc M_R_waits) 62 = .ok (.aload_n 0, 1) := by decide +kernel
theorem d_R_waits_63 : decode (mMc M_R_waits) 63 = .ok (.getfield 9, 3) := by decide +kernel
theorem d_R_waits_66 : decode (mMc M_R_waits) 66 = .ok (.iconst 4, 1) := by decide +kernel
theorem d_R_waits_67 : decode (mMc M_R_waits) 67 = .ok (.iaload, 1) := by decide +kernel
theorem d_R_waits_68 : decode (mMc M_R_waits) 68 = .ok (.if_icmp .ge 31, 3) := by decide +kernel
theorem d_R_waits_71 : decode (mMc M_R_waits) 71 = .ok (.iload_n 2, 1) := by decide +kernel
theorem d_R_waits_72 : decode (mMc M_R_waits) 72 = .ok (.aload_n 0, 1) := by decide +kernel
theorem d_R_waits_73 : decode (mMc M_R_waits) 73 = .ok (.iload 4, 2) := by decide +kernel
theorem d_R_waits_75 : decode (mMc M_R_waits) 75 = .ok (.invokevirtual 79, 3) := by decide +kernel
theorem d_R_waits_78 : decode (mMc M_R_waits) 78 = .ok (.ifCond .eq 12, 3) := by decide +kernel
theorem d_R_waits_81 : decode (mMc M_R_waits) 81 = .ok (.aload_n 0, 1) := by decide +kernel
theorem d_R_waits_82 : decode (mMc M_R_waits) 82 = .ok (.iload 4, 2) := by decide +kernel
theorem d_R_waits_84 : decode (mMc M_R_waits) 84 = .ok (.invokevirtual 176, 3) := by decide +kernel
theorem d_R_waits_87 : decode (mMc M_R_waits) 87 = .ok (.goto 4, 3) := by decide +kernel
theorem d_R_waits_90 : decode (mMc M_R_waits) 90 = .ok (.iconst 0, 1) := by decide +kernel
theorem d_R_waits_91 : decode (mMc M_R_waits) 91 = .ok (.iadd, 1) := by decide +kernel
theorem d_R_waits_92 : decode (mMc M_R_waits) 92 = .ok (.istore_n 2, 1) := by decide +kernel
theorem d_R_waits_93 : decode (mMc M_R_waits) 93 = .ok (.iinc 4 1, 3) := by decide +kernel
theorem d_R_waits_96 : decode (mMc M_R_waits) 96 = .ok (.goto (-36), 3) := by decide +kernel
theorem d_R_waits_99 : decode (mMc M_R_waits) 99 = .ok (.iinc 3 1, 3) := by decide +kernel
theorem d_R_waits_102 : decode (mMc M_R_waits) 102 = .ok (.goto (-82), 3) := by decide +kernel
theorem d_R_waits_105 : decode (mMc M_R_waits) 105 = .ok (.iload_n 2, 1) := by decide +kernel
theorem d_R_waits_106 : decode (mMc M_R_waits) 106 = .ok (.ireturn, 1) := by decide +kernel
theorem k_R_waits : mCd M_R_waits 1 := ⟨by decide, by decide, by decide +kernel, by decide, mG (8, 208) (by decide +kernel), mG (1, 15) (by decide +kernel)⟩
def M_R_levelThen : mM := (⟨"FloatingDockModel", "levelThen", "(II)I"⟩, prog_13_method_47_code, 3, (some .int), [])
theorem d_R_levelThen_0 : decode (mMc M_R_levelThen) 0 = .ok (.aload_n 0, 1) := by decide +kernel
theorem d_R_levelThen_1 : decode (mMc M_R_levelThen) 1 = .ok (.getfield 9, 3) := by decide +kernel
theorem d_R_levelThen_4 : decode (mMc M_R_levelThen) 4 = .ok (.iconst 2, 1) := by decide +kernel
theorem d_R_levelThen_5 : decode (mMc M_R_levelThen) 5 = .ok (.iaload, 1) := by decide +kernel
theorem d_R_levelThen_6 : decode (mMc M_R_levelThen) 6 = .ok (.ifCond .ne 22, 3) := by decide +kernel
theorem d_R_levelThen_9 : decode (mMc M_R_levelThen) 9 = .ok (.iconst 0, 1) := by decide +kernel
theorem d_R_levelThen_10 : decode (mMc M_R_levelThen) 10 = .ok (.sipush 200, 3) := by decide +kernel
theorem d_R_levelThen_13 : decode (mMc M_R_levelThen) 13 = .ok (.iload_n 1, 1) := by decide +kernel
theorem d_R_levelThen_14 : decode (mMc M_R_levelThen) 14 = .ok (.aload_n 0, 1) := by decide +kernel
theorem d_R_levelThen_15 : decode (mMc M_R_levelThen) 15 = .ok (.getfield 9, 3) := by decide +kernel
theorem d_R_levelThen_18 : decode (mMc M_R_levelThen) 18 = .ok (.iconst 3, 1) := by decide +kernel
theorem d_R_levelThen_19 : decode (mMc M_R_levelThen) 19 = .ok (.iaload, 1) := by decide +kernel
theorem d_R_levelThen_20 : decode (mMc M_R_levelThen) 20 = .ok (.iadd, 1) := by decide +kernel
theorem d_R_levelThen_21 : decode (mMc M_R_levelThen) 21 = .ok (.invokestatic 164, 3) := by decide +kernel
theorem d_R_levelThen_24 : decode (mMc M_R_levelThen) 24 = .ok (.invokestatic 71, 3) := by decide +kernel
theorem d_R_levelThen_27 : decode (mMc M_R_levelThen) 27 = .ok (.ireturn, 1) := by decide +kernel
theorem d_R_levelThen_28 : decode (mMc M_R_levelThen) 28 = .ok (.iload_n 1, 1) := by decide +kernel
theorem d_R_levelThen_29 : decode (mMc M_R_levelThen) 29 = .ok (.bipush (-20), 2) := by decide +kernel
theorem d_R_levelThen_31 : decode (mMc M_R_levelThen) 31 = .ok (.bipush 20, 2) := by decide +kernel
theorem d_R_levelThen_33 : decode (mMc M_R_levelThen) 33 = .ok (.iload_n 2, 1) := by decide +kernel
theorem d_R_levelThen_34 : decode (mMc M_R_levelThen) 34 = .ok (.invokestatic 140, 3) := by decide +kernel
theorem d_R_levelThen_37 : decode (mMc M_R_levelThen) 37 = .ok (.iload_n 1, 1) := by decide +kernel
theorem d_R_levelThen_38 : decode (mMc M_R_levelThen) 38 = .ok (.isub, 1) := by decide +kernel
theorem d_R_levelThen_39 : decode (mMc M_R_levelThen) 39 = .ok (.invokestatic 164, 3) := by decide +kernel
theorem d_R_levelThen_42 : decode (mMc M_R_levelThen) 42 = .ok (.invokestatic 71, 3) := by decide +kernel
theorem d_R_levelThen_45 : decode (mMc M_R_levelThen) 45 = .ok (.iadd, 1) := by decide +kernel
theorem d_R_levelThen_46 : decode (mMc M_R_levelThen) 46 = .ok (.ireturn, 1) := by decide +kernel
theorem k_R_levelThen : mCd M_R_levelThen 2 := ⟨by decide, by decide, by decide +kernel, by decide, mG (8, 212) (by decide +kernel), mG (1, 15) (by decide +kernel)⟩
def M_R_spends : mM := (⟨"FloatingDockModel", "spends", "(I)I"⟩, prog_13_method_49_code, 4, (some .int), [])
theorem d_R_spends_0 : decode (mMc M_R_spends) 0 = .ok (.aload_n 0, 1) := by decide +kernel
theorem d_R_spends_1 : decode (mMc M_R_spends) 1 = .ok (.iload_n 1, 1) := by decide +kernel
theorem d_R_spends_2 : decode (mMc M_R_spends) 2 = .ok (.invokevirtual 167, 3) := by decide +kernel
theorem d_R_spends_5 : decode (mMc M_R_spends) 5 = .ok (.istore_n 2, 1) := by decide +kernel
theorem d_R_spends_6 : decode (mMc M_R_spends) 6 = .ok (.aload_n 0, 1) := by decide +kernel
theorem d_R_spends_7 : decode (mMc M_R_spends) 7 = .ok (.iload_n 1, 1) := by decide +kernel
theorem d_R_spends_8 : decode (mMc M_R_spends) 8 = .ok (.iconst 2, 1) := by decide +kernel
theorem d_R_spends_9 : decode (mMc M_R_spends) 9 = .ok (.invokevirtual 170, 3) := by decide +kernel
theorem d_R_spends_12 : decode (mMc M_R_spends) 12 = .ok (.aload_n 0, 1) := by decide +kernel
theorem d_R_spends_13 : decode (mMc M_R_spends) 13 = .ok (.iload_n 1, 1) := by decide +kernel
theorem d_R_spends_14 : decode (mMc M_R_spends) 14 = .ok (.invokevirtual 128, 3) := by decide +kernel
theorem d_R_spends_17 : decode (mMc M_R_spends) 17 = .ok (.ifCond .eq 20, 3) := by decide +kernel
theorem d_R_spends_20 : decode (mMc M_R_spends) 20 = .ok (.aload_n 0, 1) := by decide +kernel
theorem d_R_spends_21 : decode (mMc M_R_spends) 21 = .ok (.getfield 9, 3) := by decide +kernel
theorem d_R_spends_24 : decode (mMc M_R_spends) 24 = .ok (.iload_n 1, 1) := by decide +kernel
theorem d_R_spends_25 : decode (mMc M_R_spends) 25 = .ok (.bipush 7, 2) := by decide +kernel
theorem d_R_spends_27 : decode (mMc M_R_spends) 27 = .ok (.invokestatic 76, 3) := by decide +kernel
theorem d_R_spends_30 : decode (mMc M_R_spends) 30 = .ok (.dup2, 1) := by decide +kernel
theorem d_R_spends_31 : decode (mMc M_R_spends) 31 = .ok (.iaload, 1) := by decide +kernel
theorem d_R_spends_32 : decode (mMc M_R_spends) 32 = .ok (.iconst 1, 1) := by decide +kernel
theorem d_R_spends_33 : decode (mMc M_R_spends) 33 = .ok (.iadd, 1) := by decide +kernel
theorem d_R_spends_34 : decode (mMc M_R_spends) 34 = .ok (.iastore, 1) := by decide +kernel
theorem d_R_spends_35 : decode (mMc M_R_spends) 35 = .ok (.iconst 0, 1) := by decide +kernel
theorem d_R_spends_36 : decode (mMc M_R_spends) 36 = .ok (.ireturn, 1) := by decide +kernel
theorem d_R_spends_37 : decode (mMc M_R_spends) 37 = .ok (.iload_n 2, 1) := by decide +kernel
theorem d_R_spends_38 : decode (mMc M_R_spends) 38 = .ok (.iconst 2, 1) := by decide +kernel
theorem d_R_spends_39 : decode (mMc M_R_spends) 39 = .ok (.if_icmp .ge 20, 3) := by decide +kernel
theorem d_R_spends_42 : decode (mMc M_R_spends) 42 = .ok (.aload_n 0, 1) := by decide +kernel
theorem d_R_spends_43 : decode (mMc M_R_spends) 43 = .ok (.getfield 9, 3) := by decide +kernel
theorem d_R_spends_46 : decode (mMc M_R_spends) 46 = .ok (.iload_n 1, 1) := by decide +kernel
theorem d_R_spends_47 : decode (mMc M_R_spends) 47 = .ok (.bipush 6, 2) := by decide +kernel
theorem d_R_spends_49 : decode (mMc M_R_spends) 49 = .ok (.invokestatic 76, 3) := by decide +kernel
theorem d_R_spends_52 : decode (mMc M_R_spends) 52 = .ok (.dup2, 1) := by decide +kernel
theorem d_R_spends_53 : decode (mMc M_R_spends) 53 = .ok (.iaload, 1) := by decide +kernel
theorem d_R_spends_54 : decode (mMc M_R_spends) 54 = .ok (.iconst 1, 1) := by decide +kernel
theorem d_R_spends_55 : decode (mMc M_R_spends) 55 = .ok (.iadd, 1) := by decide +kernel
theorem d_R_spends_56 : decode (mMc M_R_spends) 56 = .ok (.iastore, 1) := by decide +kernel
theorem d_R_spends_57 : decode (mMc M_R_spends) 57 = .ok (.iconst 0, 1) := by decide +kernel
theorem d_R_spends_58 : decode (mMc M_R_spends) 58 = .ok (.ireturn, 1) := by decide +kernel
theorem d_R_spends_59 : decode (mMc M_R_spends) 59 = .ok (.aload_n 0, 1) := by decide +kernel
theorem d_R_spends_60 : decode (mMc M_R_spends) 60 = .ok (.iload_n 1, 1) := by decide +kernel
theorem d_R_spends_61 : decode (mMc M_R_spends) 61 = .ok (.iconst 5, 1) := by decide +kernel
theorem d_R_spends_62 : decode (mMc M_R_spends) 62 = .ok (.invokevirtual 67, 3) := by decide +kernel
theorem d_R_spends_65 : decode (mMc M_R_spends) 65 = .ok (.iconst 1, 1) := by decide +kernel
theorem d_R_spends_66 : decode (mMc M_R_spends) 66 = .ok (.if_icmp .ne 16, 3) := by decide +kernel
theorem d_R_spends_69 : decode (mMc M_R_spends) 69 = .ok (.iconst 3, 1) := by decide +kernel
theorem d_R_spends_70 : decode (mMc M_R_spends) 70 = .ok (.aload_n 0, 1) := by decide +kernel
theorem d_R_spends_71 : decode (mMc M_R_spends) 71 = .ok (.iload_n 1, 1) := by decide +kernel
theorem d_R_spends_72 : decode (mMc M_R_spends) 72 = .ok (.iconst 3, 1) := by decide +kernel
theorem d_R_spends_73 : decode (mMc M_R_spends) 73 = .ok (.invokevirtual 67, 3) := by decide +kernel
theorem d_R_spends_76 : decode (mMc M_R_spends) 76 = .ok (.invokestatic 164, 3) := by decide +kernel
theorem d_R_spends_79 : decode (mMc M_R_spends) 79 = .ok (.goto 4, 3) := by decide +kernel
theorem d_R_spends_82 : decode (mMc M_R_spends) 82 = .ok (.iconst 0, 1) := by decide +kernel
theorem d_R_spends_83 : decode (mMc M_R_spends) 83 = .ok (.istore_n 3, 1) := by decide +kernel
theorem d_R_spends_84 : decode (mMc M_R_spends) 84 = .ok (.aload_n 0, 1) := by decide +kernel
theorem d_R_spends_85 : decode (mMc M_R_spends) 85 = .ok (.getfield 9, 3) := by decide +kernel
theorem d_R_spends_88 : decode (mMc M_R_spends) 88 = .ok (.iload_n 1, 1) := by decide +kernel
theorem d_R_spends_89 : decode (mMc M_R_spends) 89 = .ok (.iconst 3, 1) := by decide +kernel
theorem d_R_spends_90 : decode (mMc M_R_spends) 90 = .ok (.invokestatic 76, 3) := by decide +kernel
theorem d_R_spends_93 : decode (mMc M_R_spends) 93 = .ok (.dup2, 1) := by decide +kernel
theorem d_R_spends_94 : decode (mMc M_R_spends) 94 = .ok (.iaload, 1) := by decide +kernel
theorem d_R_spends_95 : decode (mMc M_R_spends) 95 = .ok (.iload_n 3, 1) := by decide +kernel
theorem d_R_spends_96 : decode (mMc M_R_spends) 96 = .ok (.isub, 1) := by decide +kernel
theorem d_R_spends_97 : decode (mMc M_R_spends) 97 = .ok (.iastore, 1) := by decide +kernel
theorem d_R_spends_98 : decode (mMc M_R_spends) 98 = .ok (.aload_n 0, 1) := by decide +kernel
theorem d_R_spends_99 : decode (mMc M_R_spends) 99 = .ok (.iload_n 1, 1) := by decide +kernel
theorem d_R_spends_100 : decode (mMc M_R_spends) 100 = .ok (.iload_n 2, 1) := by decide +kernel
theorem d_R_spends_101 : decode (mMc M_R_spends) 101 = .ok (.iconst 3, 1) := by decide +kernel
theorem d_R_spends_102 : decode (mMc M_R_spends) 102 = .ok (.iload_n 3, 1) := by decide +kernel
theorem d_R_spends_103 : decode (mMc M_R_spends) 103 = .ok (.imul, 1) := by decide +kernel
theorem d_R_spends_104 : decode (mMc M_R_spends) 104 = .ok (.iadd, 1) := by decide +kernel
theorem d_R_spends_105 : decode (mMc M_R_spends) 105 = .ok (.invokevirtual 170, 3) := by decide +kernel
theorem d_R_spends_108 : decode (mMc M_R_spends) 108 = .ok (.iload_n 3, 1) := by decide +kernel
theorem d_R_spends_109 : decode (mMc M_R_spends) 109 = .ok (.ireturn, 1) := by decide +kernel
theorem k_R_spends : mCd M_R_spends 1 := ⟨by decide, by decide, by decide +kernel, by decide, mG (8, 217) (by decide +kernel), mG (1, 15) (by decide +kernel)⟩
def M_R_beneath : mM := (⟨"FloatingDockModel", "beneath", "(I)I"⟩, prog_13_method_24_code, 4, (some .int), [])
theorem d_R_beneath_0 : decode (mMc M_R_beneath) 0 = .ok (.iconst 0, 1) := by decide +kernel
theorem d_R_beneath_1 : decode (mMc M_R_beneath) 1 = .ok (.istore_n 2, 1) := by decide +kernel
theorem d_R_beneath_2 : decode (mMc M_R_beneath) 2 = .ok (.iconst 0, 1) := by decide +kernel
theorem d_R_beneath_3 : decode (mMc M_R_beneath) 3 = .ok (.istore_n 3, 1) := by decide +kernel
theorem d_R_beneath_4 : decode (mMc M_R_beneath) 4 = .ok (.iload_n 3, 1) := by decide +kernel
theorem d_R_beneath_5 : decode (mMc M_R_beneath) 5 = .ok (.bipush 60, 2) := by decide +kernel
theorem d_R_beneath_7 : decode (mMc M_R_beneath) 7 = .ok (.if_icmp .ge 34, 3) := by decide +kernel
theorem d_R_beneath_10 : decode (mMc M_R_beneath) 10 = .ok (.iload_n 2, 1) := by decide +kernel
theorem d_R_beneath_11 : decode (mMc M_R_beneath) 11 = .ok (.aload_n 0, 1) := by decide +kernel
theorem d_R_beneath_12 : decode (mMc M_R_beneath) 12 = .ok (.iload_n 3, 1) := by decide +kernel
theorem d_R_beneath_13 : decode (mMc M_R_beneath) 13 = .ok (.invokevirtual 87, 3) := by decide +kernel
theorem d_R_beneath_16 : decode (mMc M_R_beneath) 16 = .ok (.iload_n 1, 1) := by decide +kernel
theorem d_R_beneath_17 : decode (mMc M_R_beneath) 17 = .ok (.if_icmp .ne 15, 3) := by decide +kernel
theorem d_R_beneath_20 : decode (mMc M_R_beneath) 20 = .ok (.aload_n 0, 1) := by decide +kernel
theorem d_R_beneath_21 : decode (mMc M_R_beneath) 21 = .ok (.getfield 9, 3) := by decide +kernel
theorem d_R_beneath_24 : decode (mMc M_R_beneath) 24 = .ok (.bipush 80, 2) := by decide +kernel
theorem d_R_beneath_26 : decode (mMc M_R_beneath) 26 = .ok (.iload_n 3, 1) := by decide +kernel
theorem d_R_beneath_27 : decode (mMc M_R_beneath) 27 = .ok (.iadd, 1) := by decide +kernel
theorem d_R_beneath_28 : decode (mMc M_R_beneath) 28 = .ok (.iaload, 1) := by decide +kernel
theorem d_R_beneath_29 : decode (mMc M_R_beneath) 29 = .ok (.goto 4, 3) := by decide +kernel
theorem d_R_beneath_32 : decode (mMc M_R_beneath) 32 = .ok (.iconst 0, 1) := by decide +kernel
theorem d_R_beneath_33 : decode (mMc M_R_beneath) 33 = .ok (.iadd, 1) := by decide +kernel
theorem d_R_beneath_34 : decode (mMc M_R_beneath) 34 = .ok (.istore_n 2, 1) := by decide +kernel
theorem d_R_beneath_35 : decode (mMc M_R_beneath) 35 = .ok (.iinc 3 1, 3) := by decide +kernel
theorem d_R_beneath_38 : decode (mMc M_R_beneath) 38 = .ok (.goto (-34), 3) := by decide +kernel
theorem d_R_beneath_41 : decode (mMc M_R_beneath) 41 = .ok (.aload_n 0, 1) := by decide +kernel
theorem d_R_beneath_42 : decode (mMc M_R_beneath) 42 = .ok (.iload_n 1, 1) := by decide +kernel
theorem d_R_beneath_43 : decode (mMc M_R_beneath) 43 = .ok (.invokevirtual 79, 3) := by decide +kernel
theorem d_R_beneath_46 : decode (mMc M_R_beneath) 46 = .ok (.ifCond .eq 7, 3) := by decide +kernel
theorem d_R_beneath_49 : decode (mMc M_R_beneath) 49 = .ok (.iload_n 2, 1) := by decide +kernel
theorem d_R_beneath_50 : decode (mMc M_R_beneath) 50 = .ok (.goto 4, 3) := by decide +kernel
theorem d_R_beneath_53 : decode (mMc M_R_beneath) 53 = .ok (.iconst 0, 1) := by decide +kernel
theorem d_R_beneath_54 : decode (mMc M_R_beneath) 54 = .ok (.ireturn, 1) := by decide +kernel
theorem k_R_beneath : mCd M_R_beneath 1 := ⟨by decide, by decide, by decide +kernel, by decide, mG (8, 221) (by decide +kernel), mG (1, 15) (by decide +kernel)⟩
def M_R_charges : mM := (⟨"FloatingDockModel", "charges", "(II)V"⟩, prog_13_method_48_code, 3, none, [])
theorem d_R_charges_0 : decode (mMc M_R_charges) 0 = .ok (.aload_n 0, 1) := by decide +kernel
theorem d_R_charges_1 : decode (mMc M_R_charges) 1 = .ok (.getfield 9, 3) := by decide +kernel
theorem d_R_charges_4 : decode (mMc M_R_charges) 4 = .ok (.iload_n 1, 1) := by decide +kernel
theorem d_R_charges_5 : decode (mMc M_R_charges) 5 = .ok (.bipush 8, 2) := by decide +kernel
theorem d_R_charges_7 : decode (mMc M_R_charges) 7 = .ok (.invokestatic 76, 3) := by decide +kernel
theorem d_R_charges_10 : decode (mMc M_R_charges) 10 = .ok (.dup2, 1) := by decide +kernel
theorem d_R_charges_11 : decode (mMc M_R_charges) 11 = .ok (.iaload, 1) := by decide +kernel
theorem d_R_charges_12 : decode (mMc M_R_charges) 12 = .ok (.iload_n 2, 1) := by decide +kernel
theorem d_R_charges_13 : decode (mMc M_R_charges) 13 = .ok (.iadd, 1) := by decide +kernel
theorem d_R_charges_14 : decode (mMc M_R_charges) 14 = .ok (.iastore, 1) := by decide +kernel
theorem d_R_charges_15 : decode (mMc M_R_charges) 15 = .ok (.aload_n 0, 1) := by decide +kernel
theorem d_R_charges_16 : decode (mMc M_R_charges) 16 = .ok (.getfield 9, 3) := by decide +kernel
theorem d_R_charges_19 : decode (mMc M_R_charges) 19 = .ok (.bipush 6, 2) := by decide +kernel
theorem d_R_charges_21 : decode (mMc M_R_charges) 21 = .ok (.dup2, 1) := by decide +kernel
theorem d_R_charges_22 : decode (mMc M_R_charges) 22 = .ok (.iaload, 1) := by decide +kernel
theorem d_R_charges_23 : decode (mMc M_R_charges) 23 = .ok (.iload_n 2, 1) := by decide +kernel
theorem d_R_charges_24 : decode (mMc M_R_charges) 24 = .ok (.iadd, 1) := by decide +kernel
theorem d_R_charges_25 : decode (mMc M_R_charges) 25 = .ok (.iastore, 1) := by decide +kernel
theorem d_R_charges_26 : decode (mMc M_R_charges) 26 = .ok (.return_, 1) := by decide +kernel
theorem k_R_charges : mCd M_R_charges 2 := ⟨by decide, by decide, by decide +kernel, by decide, mG (8, 225) (by decide +kernel), mG (1, 15) (by decide +kernel)⟩
def M_R_shipCount : mM := (⟨"FloatingDockModel", "shipCount", "()I"⟩, prog_13_method_52_code, 1, (some .int), [])
theorem d_R_shipCount_0 : decode (mMc M_R_shipCount) 0 = .ok (.aload_n 0, 1) := by decide +kernel
theorem d_R_shipCount_1 : decode (mMc M_R_shipCount) 1 = .ok (.iconst 0, 1) := by decide +kernel
theorem d_R_shipCount_2 : decode (mMc M_R_shipCount) 2 = .ok (.putfield 42, 3) := by decide +kernel
theorem d_R_shipCount_5 : decode (mMc M_R_shipCount) 5 = .ok (.aload_n 0, 1) := by decide +kernel
theorem d_R_shipCount_6 : decode (mMc M_R_shipCount) 6 = .ok (.getfield 9, 3) := by decide +kernel
theorem d_R_shipCount_9 : decode (mMc M_R_shipCount) 9 = .ok (.iconst 4, 1) := by decide +kernel
theorem d_R_shipCount_10 : decode (mMc M_R_shipCount) 10 = .ok (.iaload, 1) := by decide +kernel
theorem d_R_shipCount_11 : decode (mMc M_R_shipCount) 11 = .ok (.ireturn, 1) := by decide +kernel
theorem k_R_shipCount : mCd M_R_shipCount 0 := ⟨by decide, by decide, by decide +kernel, by decide, mG (8, 229) (by decide +kernel), mG (1, 15) (by decide +kernel)⟩
def M_R_shipAt : mM := (⟨"FloatingDockModel", "shipAt", "(I)I"⟩, prog_13_method_53_code, 2, (some .int), [])
theorem d_R_shipAt_0 : decode (mMc M_R_shipAt) 0 = .ok (.aload_n 0, 1) := by decide +kernel
theorem d_R_shipAt_1 : decode (mMc M_R_shipAt) 1 = .ok (.iload_n 1, 1) := by decide +kernel
theorem d_R_shipAt_2 : decode (mMc M_R_shipAt) 2 = .ok (.iconst 0, 1) := by decide +kernel
theorem d_R_shipAt_3 : decode (mMc M_R_shipAt) 3 = .ok (.aload_n 0, 1) := by decide +kernel
theorem d_R_shipAt_4 : decode (mMc M_R_shipAt) 4 = .ok (.getfield 9, 3) := by decide +kernel
theorem d_R_shipAt_7 : decode (mMc M_R_shipAt) 7 = .ok (.iconst 4, 1) := by decide +kernel
theorem d_R_shipAt_8 : decode (mMc M_R_shipAt) 8 = .ok (.iaload, 1) := by decide +kernel
theorem d_R_shipAt_9 : decode (mMc M_R_shipAt) 9 = .ok (.iconst 1, 1) := by decide +kernel
theorem d_R_shipAt_10 : decode (mMc M_R_shipAt) 10 = .ok (.isub, 1) := by decide +kernel
theorem d_R_shipAt_11 : decode (mMc M_R_shipAt) 11 = .ok (.invokestatic 83, 3) := by decide +kernel
theorem d_R_shipAt_14 : decode (mMc M_R_shipAt) 14 = .ok (.invokevirtual 59, 3) := by decide +kernel
theorem d_R_shipAt_17 : decode (mMc M_R_shipAt) 17 = .ok (.ifCond .eq 12, 3) := by decide +kernel
theorem d_R_shipAt_20 : decode (mMc M_R_shipAt) 20 = .ok (.aload_n 0, 1) := by decide +kernel
theorem d_R_shipAt_21 : decode (mMc M_R_shipAt) 21 = .ok (.iload_n 1, 1) := by decide +kernel
theorem d_R_shipAt_22 : decode (mMc M_R_shipAt) 22 = .ok (.iconst 0, 1) := by decide +kernel
theorem d_R_shipAt_23 : decode (mMc M_R_shipAt) 23 = .ok (.invokevirtual 67, 3) := by decide +kernel
theorem d_R_shipAt_26 : decode (mMc M_R_shipAt) 26 = .ok (.goto 4, 3) := by decide +kernel
theorem d_R_shipAt_29 : decode (mMc M_R_shipAt) 29 = .ok (.iconst 0, 1) := by decide +kernel
theorem d_R_shipAt_30 : decode (mMc M_R_shipAt) 30 = .ok (.ireturn, 1) := by decide +kernel
theorem k_R_shipAt : mCd M_R_shipAt 1 := ⟨by decide, by decide, by decide +kernel, by decide, mG (8, 233) (by decide +kernel), mG (1, 15) (by decide +kernel)⟩
def M_R_isInDock : mM := (⟨"FloatingDockModel", "isInDock", "(I)Z"⟩, prog_13_method_55_code, 2, (some .boolean), [])
theorem d_R_isInDock_0 : decode (mMc M_R_isInDock) 0 = .ok (.aload_n 0, 1) := by decide +kernel
theorem d_R_isInDock_1 : decode (mMc M_R_isInDock) 1 = .ok (.iload_n 1, 1) := by decide +kernel
theorem d_R_isInDock_2 : decode (mMc M_R_isInDock) 2 = .ok (.iconst 4, 1) := by decide +kernel
theorem d_R_isInDock_3 : decode (mMc M_R_isInDock) 3 = .ok (.invokevirtual 182, 3) := by decide +kernel
theorem d_R_isInDock_6 : decode (mMc M_R_isInDock) 6 = .ok (.iconst (-1), 1) := by decide +kernel
theorem d_R_isInDock_7 : decode (mMc M_R_isInDock) 7 = .ok (.if_icmp .eq 14, 3) := by decide +kernel
theorem d_R_isInDock_10 : decode (mMc M_R_isInDock) 10 = .ok (.aload_n 0, 1) := by decide +kernel
theorem d_R_isInDock_11 : decode (mMc M_R_isInDock) 11 = .ok (.getfield 42, 3) := by decide +kernel
theorem d_R_isInDock_14 : decode (mMc M_R_isInDock) 14 = .ok (.ifCond .ne 7, 3) := by decide +kernel
theorem d_R_isInDock_17 : decode (mMc M_R_isInDock) 17 = .ok (.iconst 1, 1) := by decide +kernel
theorem d_R_isInDock_18 : decode (mMc M_R_isInDock) 18 = .ok (.goto 4, 3) := by decide +kernel
theorem d_R_isInDock_21 : decode (mMc M_R_isInDock) 21 = .ok (.iconst 0, 1) := by decide +kernel
theorem d_R_isInDock_22 : decode (mMc M_R_isInDock) 22 = .ok (.ireturn, 1) := by decide +kernel
theorem k_R_isInDock : mCd M_R_isInDock 1 := ⟨by decide, by decide, by decide +kernel, by decide, mG (8, 237) (by decide +kernel), mG (1, 15) (by decide +kernel)⟩
def M_R_asks : mM := (⟨"FloatingDockModel", "asks", "(II)I"⟩, prog_13_method_54_code, 4, (some .int), [])
theorem d_R_asks_0 : decode (mMc M_R_asks) 0 = .ok (.aload_n 0, 1) := by decide +kernel
theorem d_R_asks_1 : decode (mMc M_R_asks) 1 = .ok (.iload_n 1, 1) := by decide +kernel
theorem d_R_asks_2 : decode (mMc M_R_asks) 2 = .ok (.invokevirtual 104, 3) := by decide +kernel
theorem d_R_asks_5 : decode (mMc M_R_asks) 5 = .ok (.istore_n 3, 1) := by decide +kernel
theorem d_R_asks_6 : decode (mMc M_R_asks) 6 = .ok (.aload_n 0, 1) := by decide +kernel
theorem d_R_asks_7 : decode (mMc M_R_asks) 7 = .ok (.iload_n 3, 1) := by decide +kernel
theorem d_R_asks_8 : decode (mMc M_R_asks) 8 = .ok (.iconst (-1), 1) := by decide +kernel
theorem d_R_asks_9 : decode (mMc M_R_asks) 9 = .ok (.if_icmp .eq 7, 3) := by decide +kernel
theorem d_R_asks_12 : decode (mMc M_R_asks) 12 = .ok (.iconst 1, 1) := by decide +kernel
theorem d_R_asks_13 : decode (mMc M_R_asks) 13 = .ok (.goto 4, 3) := by decide +kernel
theorem d_R_asks_16 : decode (mMc M_R_asks) 16 = .ok (.iconst 0, 1) := by decide +kernel
theorem d_R_asks_17 : decode (mMc M_R_asks) 17 = .ok (.invokevirtual 59, 3) := by decide +kernel
theorem d_R_asks_20 : decode (mMc M_R_asks) 20 = .ok (.ifCond .eq 12, 3) := by decide +kernel
theorem d_R_asks_23 : decode (mMc M_R_asks) 23 = .ok (.aload_n 0, 1) := by decide +kernel
theorem d_R_asks_24 : decode (mMc M_R_asks) 24 = .ok (.iload_n 3, 1) := by decide +kernel
theorem d_R_asks_25 : decode (mMc M_R_asks) 25 = .ok (.iload_n 2, 1) := by decide +kernel
theorem d_R_asks_26 : decode (mMc M_R_asks) 26 = .ok (.invokevirtual 67, 3) := by decide +kernel
theorem d_R_asks_29 : decode (mMc M_R_asks) 29 = .ok (.goto 4, 3) := by decide +kernel
theorem d_R_asks_32 : decode (mMc M_R_asks) 32 = .ok (.iconst 0, 1) := by decide +kernel
theorem d_R_asks_33 : decode (mMc M_R_asks) 33 = .ok (.ireturn, 1) := by decide +kernel
theorem k_R_asks : mCd M_R_asks 2 := ⟨by decide, by decide, by decide +kernel, by decide, mG (9, 1) (by decide +kernel), mG (1, 15) (by decide +kernel)⟩
def M_R_positionOf : mM := (⟨"FloatingDockModel", "positionOf", "(I)I"⟩, prog_13_method_56_code, 3, (some .int), [])
theorem d_R_positionOf_0 : decode (mMc M_R_positionOf) 0 = .ok (.aload_n 0, 1) := by decide +kernel
theorem d_R_positionOf_1 : decode (mMc M_R_positionOf) 1 = .ok (.iload_n 1, 1) := by decide +kernel
theorem d_R_positionOf_2 : decode (mMc M_R_positionOf) 2 = .ok (.invokevirtual 104, 3) := by decide +kernel
theorem d_R_positionOf_5 : decode (mMc M_R_positionOf) 5 = .ok (.istore_n 2, 1) := by decide +kernel
theorem d_R_positionOf_6 : decode (mMc M_R_positionOf) 6 = .ok (.aload_n 0, 1) := by decide +kernel
theorem d_R_positionOf_7 : decode (mMc M_R_positionOf) 7 = .ok (.iload_n 2, 1) := by decide +kernel
theorem d_R_positionOf_8 : decode (mMc M_R_positionOf) 8 = .ok (.iconst (-1), 1) := by decide +kernel
theorem d_R_positionOf_9 : decode (mMc M_R_positionOf) 9 = .ok (.if_icmp .eq 7, 3) := by decide +kernel
theorem d_R_positionOf_12 : decode (mMc M_R_positionOf) 12 = .ok (.iconst 1, 1) := by decide +kernel
theorem d_R_positionOf_13 : decode (mMc M_R_positionOf) 13 = .ok (.goto 4, 3) := by decide +kernel
theorem d_R_positionOf_16 : decode (mMc M_R_positionOf) 16 = .ok (.iconst 0, 1) := by decide +kernel
theorem d_R_positionOf_17 : decode (mMc M_R_positionOf) 17 = .ok (.aload_n 0, 1) := by decide +kernel
theorem d_R_positionOf_18 : decode (mMc M_R_positionOf) 18 = .ok (.iload_n 2, 1) := by decide +kernel
theorem d_R_positionOf_19 : decode (mMc M_R_positionOf) 19 = .ok (.invokevirtual 79, 3) := by decide +kernel
theorem d_R_positionOf_22 : decode (mMc M_R_positionOf) 22 = .ok (.iconst 1, 1) := by decide +kernel
theorem d_R_positionOf_23 : decode (mMc M_R_positionOf) 23 = .ok (.iconst 1, 1) := by decide +kernel
theorem d_R_positionOf_24 : decode (mMc M_R_positionOf) 24 = .ok (.invokevirtual 45, 3) := by decide +kernel
theorem d_R_positionOf_27 : decode (mMc M_R_positionOf) 27 = .ok (.ifCond .eq 12, 3) := by decide +kernel
theorem d_R_positionOf_30 : decode (mMc M_R_positionOf) 30 = .ok (.aload_n 0, 1) := by decide +kernel
theorem d_R_positionOf_31 : decode (mMc M_R_positionOf) 31 = .ok (.iload_n 2, 1) := by decide +kernel
theorem d_R_positionOf_32 : decode (mMc M_R_positionOf) 32 = .ok (.iconst 4, 1) := by decide +kernel
theorem d_R_positionOf_33 : decode (mMc M_R_positionOf) 33 = .ok (.invokevirtual 67, 3) := by decide +kernel
theorem d_R_positionOf_36 : decode (mMc M_R_positionOf) 36 = .ok (.goto 4, 3) := by decide +kernel
theorem d_R_positionOf_39 : decode (mMc M_R_positionOf) 39 = .ok (.iconst 0, 1) := by decide +kernel
theorem d_R_positionOf_40 : decode (mMc M_R_positionOf) 40 = .ok (.ireturn, 1) := by decide +kernel
theorem k_R_positionOf : mCd M_R_positionOf 1 := ⟨by decide, by decide, by decide +kernel, by decide, mG (9, 5) (by decide +kernel), mG (1, 15) (by decide +kernel)⟩
def M_R_dirtOf : mM := (⟨"FloatingDockModel", "dirtOf", "(I)I"⟩, prog_13_method_57_code, 2, (some .int), [])
theorem d_R_dirtOf_0 : decode (mMc M_R_dirtOf) 0 = .ok (.aload_n 0, 1) := by decide +kernel
theorem d_R_dirtOf_1 : decode (mMc M_R_dirtOf) 1 = .ok (.iload_n 1, 1) := by decide +kernel
theorem d_R_dirtOf_2 : decode (mMc M_R_dirtOf) 2 = .ok (.iconst 3, 1) := by decide +kernel
theorem d_R_dirtOf_3 : decode (mMc M_R_dirtOf) 3 = .ok (.invokevirtual 182, 3) := by decide +kernel
theorem d_R_dirtOf_6 : decode (mMc M_R_dirtOf) 6 = .ok (.ireturn, 1) := by decide +kernel
theorem k_R_dirtOf : mCd M_R_dirtOf 1 := ⟨by decide, by decide, by decide +kernel, by decide, mG (9, 9) (by decide +kernel), mG (1, 15) (by decide +kernel)⟩
def M_R_damageOf : mM := (⟨"FloatingDockModel", "damageOf", "(I)I"⟩, prog_13_method_58_code, 2, (some .int), [])
theorem d_R_damageOf_0 : decode (mMc M_R_damageOf) 0 = .ok (.aload_n 0, 1) := by decide +kernel
theorem d_R_damageOf_1 : decode (mMc M_R_damageOf) 1 = .ok (.iload_n 1, 1) := by decide +kernel
theorem d_R_damageOf_2 : decode (mMc M_R_damageOf) 2 = .ok (.bipush 6, 2) := by decide +kernel
theorem d_R_damageOf_4 : decode (mMc M_R_damageOf) 4 = .ok (.invokevirtual 182, 3) := by decide +kernel
theorem d_R_damageOf_7 : decode (mMc M_R_damageOf) 7 = .ok (.ireturn, 1) := by decide +kernel
theorem k_R_damageOf : mCd M_R_damageOf 1 := ⟨by decide, by decide, by decide +kernel, by decide, mG (9, 13) (by decide +kernel), mG (1, 15) (by decide +kernel)⟩
def M_R_hoursAfloat : mM := (⟨"FloatingDockModel", "hoursAfloat", "(I)I"⟩, prog_13_method_59_code, 2, (some .int), [])
theorem d_R_hoursAfloat_0 : decode (mMc M_R_hoursAfloat) 0 = .ok (.aload_n 0, 1) := by decide +kernel
theorem d_R_hoursAfloat_1 : decode (mMc M_R_hoursAfloat) 1 = .ok (.iload_n 1, 1) := by decide +kernel
theorem d_R_hoursAfloat_2 : decode (mMc M_R_hoursAfloat) 2 = .ok (.bipush 7, 2) := by decide +kernel
theorem d_R_hoursAfloat_4 : decode (mMc M_R_hoursAfloat) 4 = .ok (.invokevirtual 182, 3) := by decide +kernel
theorem d_R_hoursAfloat_7 : decode (mMc M_R_hoursAfloat) 7 = .ok (.ireturn, 1) := by decide +kernel
theorem k_R_hoursAfloat : mCd M_R_hoursAfloat 1 := ⟨by decide, by decide, by decide +kernel, by decide, mG (9, 17) (by decide +kernel), mG (1, 15) (by decide +kernel)⟩
def M_R_isAfloat : mM := (⟨"FloatingDockModel", "isAfloat", "(I)Z"⟩, prog_13_method_60_code, 3, (some .boolean), [])
theorem d_R_isAfloat_0 : decode (mMc M_R_isAfloat) 0 = .ok (.aload_n 0, 1) := by decide +kernel
theorem d_R_isAfloat_1 : decode (mMc M_R_isAfloat) 1 = .ok (.iload_n 1, 1) := by decide +kernel
theorem d_R_isAfloat_2 : decode (mMc M_R_isAfloat) 2 = .ok (.invokevirtual 104, 3) := by decide +kernel
theorem d_R_isAfloat_5 : decode (mMc M_R_isAfloat) 5 = .ok (.istore_n 2, 1) := by decide +kernel
theorem d_R_isAfloat_6 : decode (mMc M_R_isAfloat) 6 = .ok (.aload_n 0, 1) := by decide +kernel
theorem d_R_isAfloat_7 : decode (mMc M_R_isAfloat) 7 = .ok (.iload_n 2, 1) := by decide +kernel
theorem d_R_isAfloat_8 : decode (mMc M_R_isAfloat) 8 = .ok (.iconst (-1), 1) := by decide +kernel
theorem d_R_isAfloat_9 : decode (mMc M_R_isAfloat) 9 = .ok (.if_icmp .eq 7, 3) := by decide +kernel
theorem d_R_isAfloat_12 : decode (mMc M_R_isAfloat) 12 = .ok (.iconst 1, 1) := by decide +kernel
theorem d_R_isAfloat_13 : decode (mMc M_R_isAfloat) 13 = .ok (.goto 4, 3) := by decide +kernel
theorem d_R_isAfloat_16 : decode (mMc M_R_isAfloat) 16 = .ok (.iconst 0, 1) := by decide +kernel
theorem d_R_isAfloat_17 : decode (mMc M_R_isAfloat) 17 = .ok (.invokevirtual 59, 3) := by decide +kernel
theorem d_R_isAfloat_20 : decode (mMc M_R_isAfloat) 20 = .ok (.ifCond .eq 15, 3) := by decide +kernel
theorem d_R_isAfloat_23 : decode (mMc M_R_isAfloat) 23 = .ok (.aload_n 0, 1) := by decide +kernel
theorem d_R_isAfloat_24 : decode (mMc M_R_isAfloat) 24 = .ok (.iload_n 2, 1) := by decide +kernel
theorem d_R_isAfloat_25 : decode (mMc M_R_isAfloat) 25 = .ok (.invokevirtual 128, 3) := by decide +kernel
theorem d_R_isAfloat_28 : decode (mMc M_R_isAfloat) 28 = .ok (.ifCond .eq 7, 3) := by decide +kernel
theorem d_R_isAfloat_31 : decode (mMc M_R_isAfloat) 31 = .ok (.iconst 1, 1) := by decide +kernel
theorem d_R_isAfloat_32 : decode (mMc M_R_isAfloat) 32 = .ok (.goto 4, 3) := by decide +kernel
theorem d_R_isAfloat_35 : decode (mMc M_R_isAfloat) 35 = .ok (.iconst 0, 1) := by decide +kernel
theorem d_R_isAfloat_36 : decode (mMc M_R_isAfloat) 36 = .ok (.ireturn, 1) := by decide +kernel
theorem k_R_isAfloat : mCd M_R_isAfloat 1 := ⟨by decide, by decide, by decide +kernel, by decide, mG (9, 21) (by decide +kernel), mG (1, 15) (by decide +kernel)⟩
def M_R_refusalReason : mM := (⟨"FloatingDockModel", "refusalReason", "()I"⟩, prog_13_method_61_code, 1, (some .int), [])
theorem d_R_refusalReason_0 : decode (mMc M_R_refusalReason) 0 = .ok (.aload_n 0, 1) := by decide +kernel
theorem d_R_refusalReason_1 : decode (mMc M_R_refusalReason) 1 = .ok (.aload_n 0, 1) := by decide +kernel
theorem d_R_refusalReason_2 : decode (mMc M_R_refusalReason) 2 = .ok (.getfield 110, 3) := by decide +kernel
theorem d_R_refusalReason_5 : decode (mMc M_R_refusalReason) 5 = .ok (.ifCond .eq 7, 3) := by decide +kernel
theorem d_R_refusalReason_8 : decode (mMc M_R_refusalReason) 8 = .ok (.iconst 1, 1) := by decide +kernel
theorem d_R_refusalReason_9 : decode (mMc M_R_refusalReason) 9 = .ok (.goto 4, 3) := by decide +kernel
theorem d_R_refusalReason_12 : decode (mMc M_R_refusalReason) 12 = .ok (.iconst 0, 1) := by decide +kernel
theorem d_R_refusalReason_13 : decode (mMc M_R_refusalReason) 13 = .ok (.invokevirtual 59, 3) := by decide +kernel
theorem d_R_refusalReason_16 : decode (mMc M_R_refusalReason) 16 = .ok (.ifCond .eq 10, 3) := by decide +kernel
theorem d_R_refusalReason_19 : decode (mMc M_R_refusalReason) 19 = .ok (.aload_n 0, 1) := by decide +kernel
theorem d_R_refusalReason_20 : decode (mMc M_R_refusalReason) 20 = .ok (.getfield 110, 3) := by decide +kernel
theorem d_R_refusalReason_23 : decode (mMc M_R_refusalReason) 23 = .ok (.goto 4, 3) := by decide +kernel
theorem d_R_refusalReason_26 : decode (mMc M_R_refusalReason) 26 = .ok (.iconst 0, 1) := by decide +kernel
theorem d_R_refusalReason_27 : decode (mMc M_R_refusalReason) 27 = .ok (.ireturn, 1) := by decide +kernel
theorem k_R_refusalReason : mCd M_R_refusalReason 0 := ⟨by decide, by decide, by decide +kernel, by decide, mG (9, 25) (by decide +kernel), mG (1, 15) (by decide +kernel)⟩
def M_R_billOf : mM := (⟨"FloatingDockModel", "billOf", "(I)I"⟩, prog_13_method_62_code, 2, (some .int), [])
theorem d_R_billOf_0 : decode (mMc M_R_billOf) 0 = .ok (.aload_n 0, 1) := by decide +kernel
theorem d_R_billOf_1 : decode (mMc M_R_billOf) 1 = .ok (.iload_n 1, 1) := by decide +kernel
theorem d_R_billOf_2 : decode (mMc M_R_billOf) 2 = .ok (.bipush 8, 2) := by decide +kernel
theorem d_R_billOf_4 : decode (mMc M_R_billOf) 4 = .ok (.invokevirtual 182, 3) := by decide +kernel
theorem d_R_billOf_7 : decode (mMc M_R_billOf) 7 = .ok (.ireturn, 1) := by decide +kernel
theorem k_R_billOf : mCd M_R_billOf 1 := ⟨by decide, by decide, by decide +kernel, by decide, mG (9, 29) (by decide +kernel), mG (1, 15) (by decide +kernel)⟩
def M_R_isGateOpen : mM := (⟨"FloatingDockModel", "isGateOpen", "()Z"⟩, prog_13_method_63_code, 1, (some .boolean), [])
theorem d_R_isGateOpen_0 : decode (mMc M_R_isGateOpen) 0 = .ok (.aload_n 0, 1) := by decide +kernel
theorem d_R_isGateOpen_1 : decode (mMc M_R_isGateOpen) 1 = .ok (.iconst 0, 1) := by decide +kernel
theorem d_R_isGateOpen_2 : decode (mMc M_R_isGateOpen) 2 = .ok (.putfield 42, 3) := by decide +kernel
theorem d_R_isGateOpen_5 : decode (mMc M_R_isGateOpen) 5 = .ok (.aload_n 0, 1) := by decide +kernel
theorem d_R_isGateOpen_6 : decode (mMc M_R_isGateOpen) 6 = .ok (.getfield 9, 3) := by decide +kernel
theorem d_R_isGateOpen_9 : decode (mMc M_R_isGateOpen) 9 = .ok (.iconst 2, 1) := by decide +kernel
theorem d_R_isGateOpen_10 : decode (mMc M_R_isGateOpen) 10 = .ok (.iaload, 1) := by decide +kernel
theorem d_R_isGateOpen_11 : decode (mMc M_R_isGateOpen) 11 = .ok (.iconst 1, 1) := by decide +kernel
theorem d_R_isGateOpen_12 : decode (mMc M_R_isGateOpen) 12 = .ok (.if_icmp .ne 7, 3) := by decide +kernel
theorem d_R_isGateOpen_15 : decode (mMc M_R_isGateOpen) 15 = .ok (.iconst 1, 1) := by decide +kernel
theorem d_R_isGateOpen_16 : decode (mMc M_R_isGateOpen) 16 = .ok (.goto 4, 3) := by decide +kernel
theorem d_R_isGateOpen_19 : decode (mMc M_R_isGateOpen) 19 = .ok (.iconst 0, 1) := by decide +kernel
theorem d_R_isGateOpen_20 : decode (mMc M_R_isGateOpen) 20 = .ok (.ireturn, 1) := by decide +kernel
theorem k_R_isGateOpen : mCd M_R_isGateOpen 0 := ⟨by decide, by decide, by decide +kernel, by decide, mG (9, 33) (by decide +kernel), mG (1, 15) (by decide +kernel)⟩
def M_R_level : mM := (⟨"FloatingDockModel", "level", "()I"⟩, prog_13_method_64_code, 1, (some .int), [])
theorem d_R_level_0 : decode (mMc M_R_level) 0 = .ok (.aload_n 0, 1) := by decide +kernel
theorem d_R_level_1 : decode (mMc M_R_level) 1 = .ok (.iconst 0, 1) := by decide +kernel
theorem d_R_level_2 : decode (mMc M_R_level) 2 = .ok (.putfield 42, 3) := by decide +kernel
theorem d_R_level_5 : decode (mMc M_R_level) 5 = .ok (.aload_n 0, 1) := by decide +kernel
theorem d_R_level_6 : decode (mMc M_R_level) 6 = .ok (.getfield 9, 3) := by decide +kernel
theorem d_R_level_9 : decode (mMc M_R_level) 9 = .ok (.iconst 1, 1) := by decide +kernel
theorem d_R_level_10 : decode (mMc M_R_level) 10 = .ok (.iaload, 1) := by decide +kernel
theorem d_R_level_11 : decode (mMc M_R_level) 11 = .ok (.ireturn, 1) := by decide +kernel
theorem k_R_level : mCd M_R_level 0 := ⟨by decide, by decide, by decide +kernel, by decide, mG (9, 37) (by decide +kernel), mG (1, 15) (by decide +kernel)⟩
def M_R_seaLevel : mM := (⟨"FloatingDockModel", "seaLevel", "(I)I"⟩, prog_13_method_66_code, 2, (some .int), [])
theorem d_R_seaLevel_0 : decode (mMc M_R_seaLevel) 0 = .ok (.aload_n 0, 1) := by decide +kernel
theorem d_R_seaLevel_1 : decode (mMc M_R_seaLevel) 1 = .ok (.iload_n 1, 1) := by decide +kernel
theorem d_R_seaLevel_2 : decode (mMc M_R_seaLevel) 2 = .ok (.invokevirtual 185, 3) := by decide +kernel
theorem d_R_seaLevel_5 : decode (mMc M_R_seaLevel) 5 = .ok (.ireturn, 1) := by decide +kernel
theorem k_R_seaLevel : mCd M_R_seaLevel 1 := ⟨by decide, by decide, by decide +kernel, by decide, mG (9, 41) (by decide +kernel), mG (1, 15) (by decide +kernel)⟩
def M_R_sea : mM := (⟨"FloatingDockModel", "sea", "(I)I"⟩, prog_13_method_65_code, 2, (some .int), [])
theorem d_R_sea_0 : decode (mMc M_R_sea) 0 = .ok (.aload_n 0, 1) := by decide +kernel
theorem d_R_sea_1 : decode (mMc M_R_sea) 1 = .ok (.iload_n 1, 1) := by decide +kernel
theorem d_R_sea_2 : decode (mMc M_R_sea) 2 = .ok (.iconst 0, 1) := by decide +kernel
theorem d_R_sea_3 : decode (mMc M_R_sea) 3 = .ok (.sipush 9999, 3) := by decide +kernel
theorem d_R_sea_6 : decode (mMc M_R_sea) 6 = .ok (.invokestatic 83, 3) := by decide +kernel
theorem d_R_sea_9 : decode (mMc M_R_sea) 9 = .ok (.invokevirtual 59, 3) := by decide +kernel
theorem d_R_sea_12 : decode (mMc M_R_sea) 12 = .ok (.ifCond .eq 10, 3) := by decide +kernel
theorem d_R_sea_15 : decode (mMc M_R_sea) 15 = .ok (.iload_n 1, 1) := by decide +kernel
theorem d_R_sea_16 : decode (mMc M_R_sea) 16 = .ok (.invokestatic 140, 3) := by decide +kernel
theorem d_R_sea_19 : decode (mMc M_R_sea) 19 = .ok (.goto 4, 3) := by decide +kernel
theorem d_R_sea_22 : decode (mMc M_R_sea) 22 = .ok (.iconst 0, 1) := by decide +kernel
theorem d_R_sea_23 : decode (mMc M_R_sea) 23 = .ok (.ireturn, 1) := by decide +kernel
theorem k_R_sea : mCd M_R_sea 1 := ⟨by decide, by decide, by decide +kernel, by decide, mG (9, 45) (by decide +kernel), mG (1, 15) (by decide +kernel)⟩
def M_R_seaLevelByHours : mM := (⟨"FloatingDockModel", "seaLevelByHours", "(I)I"⟩, prog_13_method_67_code, 2, (some .int), [])
theorem d_R_seaLevelByHours_0 : decode (mMc M_R_seaLevelByHours) 0 = .ok (.aload_n 0, 1) := by decide +kernel
theorem d_R_seaLevelByHours_1 : decode (mMc M_R_seaLevelByHours) 1 = .ok (.iload_n 1, 1) := by decide +kernel
theorem d_R_seaLevelByHours_2 : decode (mMc M_R_seaLevelByHours) 2 = .ok (.invokevirtual 185, 3) := by decide +kernel
theorem d_R_seaLevelByHours_5 : decode (mMc M_R_seaLevelByHours) 5 = .ok (.ireturn, 1) := by decide +kernel
theorem k_R_seaLevelByHours : mCd M_R_seaLevelByHours 1 := ⟨by decide, by decide, by decide +kernel, by decide, mG (9, 49) (by decide +kernel), mG (1, 15) (by decide +kernel)⟩
def M_R_hour : mM := (⟨"FloatingDockModel", "hour", "()I"⟩, prog_13_method_68_code, 1, (some .int), [])
theorem d_R_hour_0 : decode (mMc M_R_hour) 0 = .ok (.aload_n 0, 1) := by decide +kernel
theorem d_R_hour_1 : decode (mMc M_R_hour) 1 = .ok (.iconst 0, 1) := by decide +kernel
theorem d_R_hour_2 : decode (mMc M_R_hour) 2 = .ok (.putfield 42, 3) := by decide +kernel
theorem d_R_hour_5 : decode (mMc M_R_hour) 5 = .ok (.aload_n 0, 1) := by decide +kernel
theorem d_R_hour_6 : decode (mMc M_R_hour) 6 = .ok (.getfield 9, 3) := by decide +kernel
theorem d_R_hour_9 : decode (mMc M_R_hour) 9 = .ok (.iconst 0, 1) := by decide +kernel
theorem d_R_hour_10 : decode (mMc M_R_hour) 10 = .ok (.iaload, 1) := by decide +kernel
theorem d_R_hour_11 : decode (mMc M_R_hour) 11 = .ok (.ireturn, 1) := by decide +kernel
theorem k_R_hour : mCd M_R_hour 0 := ⟨by decide, by decide, by decide +kernel, by decide, mG (9, 53) (by decide +kernel), mG (1, 15) (by decide +kernel)⟩
def M_R_levelAfter : mM := (⟨"FloatingDockModel", "levelAfter", "(I)I"⟩, prog_13_method_69_code, 4, (some .int), [])
theorem d_R_levelAfter_0 : decode (mMc M_R_levelAfter) 0 = .ok (.aload_n 0, 1) := by decide +kernel
theorem d_R_levelAfter_1 : decode (mMc M_R_levelAfter) 1 = .ok (.getfield 9, 3) := by decide +kernel
theorem d_R_levelAfter_4 : decode (mMc M_R_levelAfter) 4 = .ok (.iconst 1, 1) := by decide +kernel
theorem d_R_levelAfter_5 : decode (mMc M_R_levelAfter) 5 = .ok (.iaload, 1) := by decide +kernel
theorem d_R_levelAfter_6 : decode (mMc M_R_levelAfter) 6 = .ok (.istore_n 2, 1) := by decide +kernel
theorem d_R_levelAfter_7 : decode (mMc M_R_levelAfter) 7 = .ok (.iconst 1, 1) := by decide +kernel
theorem d_R_levelAfter_8 : decode (mMc M_R_levelAfter) 8 = .ok (.istore_n 3, 1) := by decide +kernel
theorem d_R_levelAfter_9 : decode (mMc M_R_levelAfter) 9 = .ok (.iload_n 3, 1) := by decide +kernel
theorem d_R_levelAfter_10 : decode (mMc M_R_levelAfter) 10 = .ok (.iload_n 1, 1) := by decide +kernel
theorem d_R_levelAfter_11 : decode (mMc M_R_levelAfter) 11 = .ok (.if_icmp .gt 29, 3) := by decide +kernel
theorem d_R_levelAfter_14 : decode (mMc M_R_levelAfter) 14 = .ok (.iload_n 1, 1) := by decide +kernel
theorem d_R_levelAfter_15 : decode (mMc M_R_levelAfter) 15 = .ok (.bipush 96, 2) := by decide +kernel
theorem d_R_levelAfter_17 : decode (mMc M_R_levelAfter) 17 = .ok (.if_icmp .gt 23, 3) := by decide +kernel
theorem d_R_levelAfter_20 : decode (mMc M_R_levelAfter) 20 = .ok (.aload_n 0, 1) := by decide +kernel
theorem d_R_levelAfter_21 : decode (mMc M_R_levelAfter) 21 = .ok (.iload_n 2, 1) := by decide +kernel
theorem d_R_levelAfter_22 : decode (mMc M_R_levelAfter) 22 = .ok (.aload_n 0, 1) := by decide +kernel
theorem d_R_levelAfter_23 : decode (mMc M_R_levelAfter) 23 = .ok (.getfield 9, 3) := by decide +kernel
theorem d_R_levelAfter_26 : decode (mMc M_R_levelAfter) 26 = .ok (.iconst 0, 1) := by decide +kernel
theorem d_R_levelAfter_27 : decode (mMc M_R_levelAfter) 27 = .ok (.iaload, 1) := by decide +kernel
theorem d_R_levelAfter_28 : decode (mMc M_R_levelAfter) 28 = .ok (.iload_n 3, 1) := by decide +kernel
theorem d_R_levelAfter_29 : decode (mMc M_R_levelAfter) 29 = .ok (.iadd, 1) := by decide +kernel
theorem d_R_levelAfter_30 : decode (mMc M_R_levelAfter) 30 = .ok (.invokevirtual 173, 3) := by decide +kernel
theorem d_R_levelAfter_33 : decode (mMc M_R_levelAfter) 33 = .ok (.istore_n 2, 1) := by decide +kernel
theorem d_R_levelAfter_34 : decode (mMc M_R_levelAfter) 34 = .ok (.iinc 3 1, 3) := by decide +kernel
theorem d_R_levelAfter_37 : decode (mMc M_R_levelAfter) 37 = .ok (.goto (-28), 3) := by decide +kernel
theorem d_R_levelAfter_40 : decode (mMc M_R_levelAfter) 40 = .ok (.aload_n 0, 1) := by decide +kernel
theorem d_R_levelAfter_41 : decode (mMc M_R_levelAfter) 41 = .ok (.iload_n 1, 1) := by decide +kernel
theorem d_R_levelAfter_42 : decode (mMc M_R_levelAfter) 42 = .ok (.iconst 0, 1) := by decide +kernel
theorem d_R_levelAfter_43 : decode (mMc M_R_levelAfter) 43 = .ok (.bipush 96, 2) := by decide +kernel
theorem d_R_levelAfter_45 : decode (mMc M_R_levelAfter) 45 = .ok (.invokestatic 83, 3) := by decide +kernel
theorem d_R_levelAfter_48 : decode (mMc M_R_levelAfter) 48 = .ok (.invokevirtual 59, 3) := by decide +kernel
theorem d_R_levelAfter_51 : decode (mMc M_R_levelAfter) 51 = .ok (.ifCond .eq 7, 3) := by decide +kernel
theorem d_R_levelAfter_54 : decode (mMc M_R_levelAfter) 54 = .ok (.iload_n 2, 1) := by decide +kernel
theorem d_R_levelAfter_55 : decode (mMc M_R_levelAfter) 55 = .ok (.goto 4, 3) := by decide +kernel
theorem d_R_levelAfter_58 : decode (mMc M_R_levelAfter) 58 = .ok (.iconst 0, 1) := by decide +kernel
theorem d_R_levelAfter_59 : decode (mMc M_R_levelAfter) 59 = .ok (.ireturn, 1) := by decide +kernel
theorem k_R_levelAfter : mCd M_R_levelAfter 1 := ⟨by decide, by decide, by decide +kernel, by decide, mG (9, 57) (by decide +kernel), mG (1, 15) (by decide +kernel)⟩
def M_R_hoursUntilAfloat : mM := (⟨"FloatingDockModel", "hoursUntilAfloat", "(I)I"⟩, prog_13_method_70_code, 6, (some .int), [])
theorem d_R_hoursUntilAfloat_0 : decode (mMc M_R_hoursUntilAfloat) 0 = .ok (.aload_n 0, 1) := by decide +kernel
theorem d_R_hoursUntilAfloat_1 : decode (mMc M_R_hoursUntilAfloat) 1 = .ok (.iload_n 1, 1) := by decide +kernel
theorem d_R_hoursUntilAfloat_2 : decode (mMc M_R_hoursUntilAfloat) 2 = .ok (.invokevirtual 104, 3) := by decide +kernel
theorem d_R_hoursUntilAfloat_5 : decode (mMc M_R_hoursUntilAfloat) 5 = .ok (.istore_n 2, 1) := by decide +kernel
theorem d_R_hoursUntilAfloat_6 : decode (mMc M_R_hoursUntilAfloat) 6 = .ok (.aload_n 0, 1) := by decide +kernel
theorem d_R_hoursUntilAfloat_7 : decode (mMc M_R_hoursUntilAfloat) 7 = .ok (.iload_n 2, 1) := by decide +kernel
theorem d_R_hoursUntilAfloat_8 : decode (mMc M_R_hoursUntilAfloat) 8 = .ok (.invokevirtual 128, 3) := by decide +kernel
theorem d_R_hoursUntilAfloat_11 : decode (mMc M_R_hoursUntilAfloat) 11 = .ok (.ifCond .eq 7, 3) := by decide +kernel
theorem d_R_hoursUntilAfloat_14 : decode (mMc M_R_hoursUntilAfloat) 14 = .ok (.iconst 0, 1) := by decide +kernel
theorem d_R_hoursUntilAfloat_15 : decode (mMc M_R_hoursUntilAfloat) 15 = .ok (.goto 4, 3) := by decide +kernel
theorem d_R_hoursUntilAfloat_18 : decode (mMc M_R_hoursUntilAfloat) 18 = .ok (.iconst (-1), 1) := by decide +kernel
theorem d_R_hoursUntilAfloat_19 : decode (mMc M_R_hoursUntilAfloat) 19 = .ok (.istore_n 3, 1) := by decide +kernel
theorem d_R_hoursUntilAfloat_20 : decode (mMc M_R_hoursUntilAfloat) 20 = .ok (.aload_n 0, 1) := by decide +kernel
theorem d_R_hoursUntilAfloat_21 : decode (mMc M_R_hoursUntilAfloat) 21 = .ok (.getfield 9, 3) := by decide +kernel
theorem d_R_hoursUntilAfloat_24 : decode (mMc M_R_hoursUntilAfloat) 24 = .ok (.iconst 1, 1) := by decide +kernel
theorem d_R_hoursUntilAfloat_25 : decode (mMc M_R_hoursUntilAfloat) 25 = .ok (.iaload, 1) := by decide +kernel
theorem d_R_hoursUntilAfloat_26 : decode (mMc M_R_hoursUntilAfloat) 26 = .ok (.istore 4, 2) := by decide +kernel
theorem d_R_hoursUntilAfloat_28 : decode (mMc M_R_hoursUntilAfloat) 28 = .ok (.iconst 1, 1) := by decide +kernel
theorem d_R_hoursUntilAfloat_29 : decode (mMc M_R_hoursUntilAfloat) 29 = .ok (.istore 5, 2) := by decide +kernel
theorem d_R_hoursUntilAfloat_31 : decode (mMc M_R_hoursUntilAfloat) 31 = .ok (.iload 5, 2) := by decide +kernel
theorem d_R_hoursUntilAfloat_33 : decode (mMc M_R_hoursUntilAfloat) 33 = .ok (.bipush 96, 2) := by decide +kernel
theorem d_R_hoursUntilAfloat_35 : decode (mMc M_R_hoursUntilAfloat) 35 = .ok (.if_icmp .gt 49, 3) := by decide +kernel
theorem d_R_hoursUntilAfloat_38 : decode (mMc M_R_hoursUntilAfloat) 38 = .ok (.iload_n 3, 1) := by decide +kernel
theorem d_R_hoursUntilAfloat_39 : decode (mMc M_R_hoursUntilAfloat) 39 = .ok (.iconst (-1), 1) := by decide +kernel
theorem d_R_hoursUntilAfloat_40 : decode (mMc M_R_hoursUntilAfloat) 40 = .ok (.if_icmp .ne 44, 3) := by decide +kernel
theorem d_R_hoursUntilAfloat_43 : decode (mMc M_R_hoursUntilAfloat) 43 = .ok (.aload_n 0, 1) := by decide +kernel
theorem d_R_hoursUntilAfloat_44 : decode (mMc M_R_hoursUntilAfloat) 44 = .ok (.iload 4, 2) := by decide +kernel
theorem d_R_hoursUntilAfloat_46 : decode (mMc M_R_hoursUntilAfloat) 46 = .ok (.aload_n 0, 1) := by decide +kernel
theorem d_R_hoursUntilAfloat_47 : decode (mMc M_R_hoursUntilAfloat) 47 = .ok (.getfield 9, 3) := by decide +kernel
theorem d_R_hoursUntilAfloat_50 : decode (mMc M_R_hoursUntilAfloat) 50 = .ok (.iconst 0, 1) := by decide +kernel
theorem d_R_hoursUntilAfloat_51 : decode (mMc M_R_hoursUntilAfloat) 51 = .ok (.iaload, 1) := by decide +kernel
theorem d_R_hoursUntilAfloat_52 : decode (mMc M_R_hoursUntilAfloat) 52 = .ok (.iload 5, 2) := by decide +kernel
theorem d_R_hoursUntilAfloat_54 : decode (mMc M_R_hoursUntilAfloat) 54 = .ok (.iadd, 1) := by decide +kernel
theorem d_R_hoursUntilAfloat_55 : decode (mMc M_R_hoursUntilAfloat) 55 = .ok (.invokevirtual 173, 3) := by decide +kernel
theorem d_R_hoursUntilAfloat_58 : decode (mMc M_R_hoursUntilAfloat) 58 = .ok (.istore 4, 2) := by decide +kernel
theorem d_R_hoursUntilAfloat_60 : decode (mMc M_R_hoursUntilAfloat) 60 = .ok (.iload 4, 2) := by decide +kernel
theorem d_R_hoursUntilAfloat_62 : decode (mMc M_R_hoursUntilAfloat) 62 = .ok (.aload_n 0, 1) := by decide +kernel
theorem d_R_hoursUntilAfloat_63 : decode (mMc M_R_hoursUntilAfloat) 63 = .ok (.iload_n 2, 1) := by decide +kernel
theorem d_R_hoursUntilAfloat_64 : decode (mMc M_R_hoursUntilAfloat) 64 = .ok (.iconst 2, 1) := by decide +kernel
theorem d_R_hoursUntilAfloat_65 : decode (mMc M_R_hoursUntilAfloat) 65 = .ok (.invokevirtual 67, 3) := by decide +kernel
theorem d_R_hoursUntilAfloat_68 : decode (mMc M_R_hoursUntilAfloat) 68 = .ok (.if_icmp .lt 8, 3) := by decide +kernel
theorem d_R_hoursUntilAfloat_71 : decode (mMc M_R_hoursUntilAfloat) 71 = .ok (.iload 5, 2) := by decide +kernel
theorem d_R_hoursUntilAfloat_73 : decode (mMc M_R_hoursUntilAfloat) 73 = .ok (.goto 4, 3) := by decide +kernel
theorem d_R_hoursUntilAfloat_76 : decode (mMc M_R_hoursUntilAfloat) 76 = .ok (.iconst (-1), 1) := by decide +kernel
theorem d_R_hoursUntilAfloat_77 : decode (mMc M_R_hoursUntilAfloat) 77 = .ok (.istore_n 3, 1) := by decide +kernel
theorem d_R_hoursUntilAfloat_78 : decode (mMc M_R_hoursUntilAfloat) 78 = .ok (.iinc 5 1, 3) := by decide +kernel
theorem d_R_hoursUntilAfloat_81 : decode (mMc M_R_hoursUntilAfloat) 81 = .ok (.goto (-50), 3) := by decide +kernel
theorem d_R_hoursUntilAfloat_84 : decode (mMc M_R_hoursUntilAfloat) 84 = .ok (.aload_n 0, 1) := by decide +kernel
theorem d_R_hoursUntilAfloat_85 : decode (mMc M_R_hoursUntilAfloat) 85 = .ok (.iload_n 2, 1) := by decide +kernel
theorem d_R_hoursUntilAfloat_86 : decode (mMc M_R_hoursUntilAfloat) 86 = .ok (.iconst (-1), 1) := by decide +kernel
theorem d_R_hoursUntilAfloat_87 : decode (mMc M_R_hoursUntilAfloat) 87 = .ok (.if_icmp .eq 7, 3) := by decide +kernel
theorem d_R_hoursUntilAfloat_90 : decode (mMc M_R_hoursUntilAfloat) 90 = .ok (.iconst 1, 1) := by decide +kernel
theorem d_R_hoursUntilAfloat_91 : decode (mMc M_R_hoursUntilAfloat) 91 = .ok (.goto 4, 3) := by decide +kernel
theorem d_R_hoursUntilAfloat_94 : decode (mMc M_R_hoursUntilAfloat) 94 = .ok (.iconst 0, 1) := by decide +kernel
theorem d_R_hoursUntilAfloat_95 : decode (mMc M_R_hoursUntilAfloat) 95 = .ok (.iload_n 3, 1) := by decide +kernel
theorem d_R_hoursUntilAfloat_96 : decode (mMc M_R_hoursUntilAfloat) 96 = .ok (.iconst (-1), 1) := by decide +kernel
theorem d_R_hoursUntilAfloat_97 : decode (mMc M_R_hoursUntilAfloat) 97 = .ok (.if_icmp .eq 7, 3) := by decide +kernel
theorem d_R_hoursUntilAfloat_100 : decode (mMc M_R_hoursUntilAfloat) 100 = .ok (.iconst 1, 1) := by decide +kernel
theorem d_R_hoursUntilAfloat_101 : decode (mMc M_R_hoursUntilAfloat) 101 = .ok (.goto 4, 3) := by decide +kernel
theorem d_R_hoursUntilAfloat_104 : decode (mMc M_R_hoursUntilAfloat) 104 = .ok (.iconst 0, 1) := by decide +kernel
theorem d_R_hoursUntilAfloat_105 : decode (mMc M_R_hoursUntilAfloat) 105 = .ok (.iconst 1, 1) := by decide +kernel
theorem d_R_hoursUntilAfloat_106 : decode (mMc M_R_hoursUntilAfloat) 106 = .ok (.iconst 1, 1) := by decide +kernel
theorem d_R_hoursUntilAfloat_107 : decode (mMc M_R_hoursUntilAfloat) 107 = .ok (.invokevirtual 45, 3) := by decide +kernel
theorem d_R_hoursUntilAfloat_110 : decode (mMc M_R_hoursUntilAfloat) 110 = .ok (.ifCond .eq 7, 3) := by decide +kernel
theorem d_R_hoursUntilAfloat_113 : decode (mMc M_R_hoursUntilAfloat) 113 = .ok (.iload_n 3, 1) := by decide +kernel
theorem d_R_hoursUntilAfloat_114 : decode (mMc M_R_hoursUntilAfloat) 114 = .ok (.goto 4, 3) := by decide +kernel
theorem d_R_hoursUntilAfloat_117 : decode (mMc M_R_hoursUntilAfloat) 117 = .ok (.iconst 0, 1) := by decide +kernel
theorem d_R_hoursUntilAfloat_118 : decode (mMc M_R_hoursUntilAfloat) 118 = .ok (.ireturn, 1) := by decide +kernel
theorem k_R_hoursUntilAfloat : mCd M_R_hoursUntilAfloat 1 := ⟨by decide, by decide, by decide +kernel, by decide, mG (9, 61) (by decide +kernel), mG (1, 15) (by decide +kernel)⟩
def M_R_hasBlock : mM := (⟨"FloatingDockModel", "hasBlock", "(I)Z"⟩, prog_13_method_71_code, 2, (some .boolean), [])
theorem d_R_hasBlock_0 : decode (mMc M_R_hasBlock) 0 = .ok (.aload_n 0, 1) := by decide +kernel
theorem d_R_hasBlock_1 : decode (mMc M_R_hasBlock) 1 = .ok (.iload_n 1, 1) := by decide +kernel
theorem d_R_hasBlock_2 : decode (mMc M_R_hasBlock) 2 = .ok (.invokestatic 91, 3) := by decide +kernel
theorem d_R_hasBlock_5 : decode (mMc M_R_hasBlock) 5 = .ok (.invokevirtual 59, 3) := by decide +kernel
theorem d_R_hasBlock_8 : decode (mMc M_R_hasBlock) 8 = .ok (.ifCond .eq 15, 3) := by decide +kernel
theorem d_R_hasBlock_11 : decode (mMc M_R_hasBlock) 11 = .ok (.aload_n 0, 1) := by decide +kernel
theorem d_R_hasBlock_12 : decode (mMc M_R_hasBlock) 12 = .ok (.iload_n 1, 1) := by decide +kernel
theorem d_R_hasBlock_13 : decode (mMc M_R_hasBlock) 13 = .ok (.invokevirtual 155, 3) := by decide +kernel
theorem d_R_hasBlock_16 : decode (mMc M_R_hasBlock) 16 = .ok (.ifCond .eq 7, 3) := by decide +kernel
theorem d_R_hasBlock_19 : decode (mMc M_R_hasBlock) 19 = .ok (.iconst 1, 1) := by decide +kernel
theorem d_R_hasBlock_20 : decode (mMc M_R_hasBlock) 20 = .ok (.goto 4, 3) := by decide +kernel
theorem d_R_hasBlock_23 : decode (mMc M_R_hasBlock) 23 = .ok (.iconst 0, 1) := by decide +kernel
theorem d_R_hasBlock_24 : decode (mMc M_R_hasBlock) 24 = .ok (.ireturn, 1) := by decide +kernel
theorem k_R_hasBlock : mCd M_R_hasBlock 1 := ⟨by decide, by decide, by decide +kernel, by decide, mG (9, 65) (by decide +kernel), mG (1, 15) (by decide +kernel)⟩
def M_R_blocksBeneath : mM := (⟨"FloatingDockModel", "blocksBeneath", "(I)I"⟩, prog_13_method_73_code, 2, (some .int), [])
theorem d_R_blocksBeneath_0 : decode (mMc M_R_blocksBeneath) 0 = .ok (.aload_n 0, 1) := by decide +kernel
theorem d_R_blocksBeneath_1 : decode (mMc M_R_blocksBeneath) 1 = .ok (.iload_n 1, 1) := by decide +kernel
theorem d_R_blocksBeneath_2 : decode (mMc M_R_blocksBeneath) 2 = .ok (.invokevirtual 188, 3) := by decide +kernel
theorem d_R_blocksBeneath_5 : decode (mMc M_R_blocksBeneath) 5 = .ok (.ireturn, 1) := by decide +kernel
theorem k_R_blocksBeneath : mCd M_R_blocksBeneath 1 := ⟨by decide, by decide, by decide +kernel, by decide, mG (9, 69) (by decide +kernel), mG (1, 15) (by decide +kernel)⟩
def M_R_asksBeneath : mM := (⟨"FloatingDockModel", "asksBeneath", "(I)I"⟩, prog_13_method_72_code, 3, (some .int), [])
theorem d_R_asksBeneath_0 : decode (mMc M_R_asksBeneath) 0 = .ok (.aload_n 0, 1) := by decide +kernel
theorem d_R_asksBeneath_1 : decode (mMc M_R_asksBeneath) 1 = .ok (.iload_n 1, 1) := by decide +kernel
theorem d_R_asksBeneath_2 : decode (mMc M_R_asksBeneath) 2 = .ok (.invokevirtual 104, 3) := by decide +kernel
theorem d_R_asksBeneath_5 : decode (mMc M_R_asksBeneath) 5 = .ok (.istore_n 2, 1) := by decide +kernel
theorem d_R_asksBeneath_6 : decode (mMc M_R_asksBeneath) 6 = .ok (.aload_n 0, 1) := by decide +kernel
theorem d_R_asksBeneath_7 : decode (mMc M_R_asksBeneath) 7 = .ok (.iload_n 2, 1) := by decide +kernel
theorem d_R_asksBeneath_8 : decode (mMc M_R_asksBeneath) 8 = .ok (.iconst (-1), 1) := by decide +kernel
theorem d_R_asksBeneath_9 : decode (mMc M_R_asksBeneath) 9 = .ok (.if_icmp .eq 7, 3) := by decide +kernel
theorem d_R_asksBeneath_12 : decode (mMc M_R_asksBeneath) 12 = .ok (.iconst 1, 1) := by decide +kernel
theorem d_R_asksBeneath_13 : decode (mMc M_R_asksBeneath) 13 = .ok (.goto 4, 3) := by decide +kernel
theorem d_R_asksBeneath_16 : decode (mMc M_R_asksBeneath) 16 = .ok (.iconst 0, 1) := by decide +kernel
theorem d_R_asksBeneath_17 : decode (mMc M_R_asksBeneath) 17 = .ok (.invokevirtual 59, 3) := by decide +kernel
theorem d_R_asksBeneath_20 : decode (mMc M_R_asksBeneath) 20 = .ok (.ifCond .eq 11, 3) := by decide +kernel
theorem d_R_asksBeneath_23 : decode (mMc M_R_asksBeneath) 23 = .ok (.aload_n 0, 1) := by decide +kernel
theorem d_R_asksBeneath_24 : decode (mMc M_R_asksBeneath) 24 = .ok (.iload_n 2, 1) := by decide +kernel
theorem d_R_asksBeneath_25 : decode (mMc M_R_asksBeneath) 25 = .ok (.invokevirtual 167, 3) := by decide +kernel
theorem d_R_asksBeneath_28 : decode (mMc M_R_asksBeneath) 28 = .ok (.goto 4, 3) := by decide +kernel
theorem d_R_asksBeneath_31 : decode (mMc M_R_asksBeneath) 31 = .ok (.iconst 0, 1) := by decide +kernel
theorem d_R_asksBeneath_32 : decode (mMc M_R_asksBeneath) 32 = .ok (.ireturn, 1) := by decide +kernel
theorem k_R_asksBeneath : mCd M_R_asksBeneath 1 := ⟨by decide, by decide, by decide +kernel, by decide, mG (9, 73) (by decide +kernel), mG (1, 15) (by decide +kernel)⟩
def M_R_blocksBeneathByBlocks : mM := (⟨"FloatingDockModel", "blocksBeneathByBlocks", "(I)I"⟩, prog_13_method_74_code, 2, (some .int), [])
theorem d_R_blocksBeneathByBlocks_0 : decode (mMc M_R_blocksBeneathByBlocks) 0 = .ok (.aload_n 0, 1) := by decide +kernel
theorem d_R_blocksBeneathByBlocks_1 : decode (mMc M_R_blocksBeneathByBlocks) 1 = .ok (.iload_n 1, 1) := by decide +kernel
theorem d_R_blocksBeneathByBlocks_2 : decode (mMc M_R_blocksBeneathByBlocks) 2 = .ok (.invokevirtual 188, 3) := by decide +kernel
theorem d_R_blocksBeneathByBlocks_5 : decode (mMc M_R_blocksBeneathByBlocks) 5 = .ok (.ireturn, 1) := by decide +kernel
theorem k_R_blocksBeneathByBlocks : mCd M_R_blocksBeneathByBlocks 1 := ⟨by decide, by decide, by decide +kernel, by decide, mG (9, 77) (by decide +kernel), mG (1, 15) (by decide +kernel)⟩
def M_R_shipAtPosition : mM := (⟨"FloatingDockModel", "shipAtPosition", "(I)I"⟩, prog_13_method_75_code, 3, (some .int), [])
theorem d_R_shipAtPosition_0 : decode (mMc M_R_shipAtPosition) 0 = .ok (.aload_n 0, 1) := by decide +kernel
theorem d_R_shipAtPosition_1 : decode (mMc M_R_shipAtPosition) 1 = .ok (.iload_n 1, 1) := by decide +kernel
theorem d_R_shipAtPosition_2 : decode (mMc M_R_shipAtPosition) 2 = .ok (.invokevirtual 87, 3) := by decide +kernel
theorem d_R_shipAtPosition_5 : decode (mMc M_R_shipAtPosition) 5 = .ok (.istore_n 2, 1) := by decide +kernel
theorem d_R_shipAtPosition_6 : decode (mMc M_R_shipAtPosition) 6 = .ok (.aload_n 0, 1) := by decide +kernel
theorem d_R_shipAtPosition_7 : decode (mMc M_R_shipAtPosition) 7 = .ok (.iload_n 1, 1) := by decide +kernel
theorem d_R_shipAtPosition_8 : decode (mMc M_R_shipAtPosition) 8 = .ok (.invokestatic 91, 3) := by decide +kernel
theorem d_R_shipAtPosition_11 : decode (mMc M_R_shipAtPosition) 11 = .ok (.iload_n 2, 1) := by decide +kernel
theorem d_R_shipAtPosition_12 : decode (mMc M_R_shipAtPosition) 12 = .ok (.iconst (-1), 1) := by decide +kernel
theorem d_R_shipAtPosition_13 : decode (mMc M_R_shipAtPosition) 13 = .ok (.if_icmp .eq 7, 3) := by decide +kernel
theorem d_R_shipAtPosition_16 : decode (mMc M_R_shipAtPosition) 16 = .ok (.iconst 1, 1) := by decide +kernel
theorem d_R_shipAtPosition_17 : decode (mMc M_R_shipAtPosition) 17 = .ok (.goto 4, 3) := by decide +kernel
theorem d_R_shipAtPosition_20 : decode (mMc M_R_shipAtPosition) 20 = .ok (.iconst 0, 1) := by decide +kernel
theorem d_R_shipAtPosition_21 : decode (mMc M_R_shipAtPosition) 21 = .ok (.iconst 1, 1) := by decide +kernel
theorem d_R_shipAtPosition_22 : decode (mMc M_R_shipAtPosition) 22 = .ok (.iconst 1, 1) := by decide +kernel
theorem d_R_shipAtPosition_23 : decode (mMc M_R_shipAtPosition) 23 = .ok (.invokevirtual 45, 3) := by decide +kernel
theorem d_R_shipAtPosition_26 : decode (mMc M_R_shipAtPosition) 26 = .ok (.ifCond .eq 12, 3) := by decide +kernel
theorem d_R_shipAtPosition_29 : decode (mMc M_R_shipAtPosition) 29 = .ok (.aload_n 0, 1) := by decide +kernel
theorem d_R_shipAtPosition_30 : decode (mMc M_R_shipAtPosition) 30 = .ok (.iload_n 2, 1) := by decide +kernel
theorem d_R_shipAtPosition_31 : decode (mMc M_R_shipAtPosition) 31 = .ok (.iconst 0, 1) := by decide +kernel
theorem d_R_shipAtPosition_32 : decode (mMc M_R_shipAtPosition) 32 = .ok (.invokevirtual 67, 3) := by decide +kernel
theorem d_R_shipAtPosition_35 : decode (mMc M_R_shipAtPosition) 35 = .ok (.goto 4, 3) := by decide +kernel
theorem d_R_shipAtPosition_38 : decode (mMc M_R_shipAtPosition) 38 = .ok (.iconst 0, 1) := by decide +kernel
theorem d_R_shipAtPosition_39 : decode (mMc M_R_shipAtPosition) 39 = .ok (.ireturn, 1) := by decide +kernel
theorem k_R_shipAtPosition : mCd M_R_shipAtPosition 1 := ⟨by decide, by decide, by decide +kernel, by decide, mG (9, 81) (by decide +kernel), mG (1, 15) (by decide +kernel)⟩
def M_R_firstGap : mM := (⟨"FloatingDockModel", "firstGap", "(I)I"⟩, prog_13_method_77_code, 2, (some .int), [])
theorem d_R_firstGap_0 : decode (mMc M_R_firstGap) 0 = .ok (.aload_n 0, 1) := by decide +kernel
theorem d_R_firstGap_1 : decode (mMc M_R_firstGap) 1 = .ok (.iload_n 1, 1) := by decide +kernel
theorem d_R_firstGap_2 : decode (mMc M_R_firstGap) 2 = .ok (.invokevirtual 191, 3) := by decide +kernel
theorem d_R_firstGap_5 : decode (mMc M_R_firstGap) 5 = .ok (.ireturn, 1) := by decide +kernel
theorem k_R_firstGap : mCd M_R_firstGap 1 := ⟨by decide, by decide, by decide +kernel, by decide, mG (9, 85) (by decide +kernel), mG (1, 15) (by decide +kernel)⟩
def M_R_gap : mM := (⟨"FloatingDockModel", "gap", "(I)I"⟩, prog_13_method_76_code, 5, (some .int), [])
theorem d_R_gap_0 : decode (mMc M_R_gap) 0 = .ok (.iload_n 1, 1) := by decide +kernel
theorem d_R_gap_1 : decode (mMc M_R_gap) 1 = .ok (.iconst 1, 1) := by decide +kernel
theorem d_R_gap_2 : decode (mMc M_R_gap) 2 = .ok (.bipush 60, 2) := by decide +kernel
theorem d_R_gap_4 : decode (mMc M_R_gap) 4 = .ok (.invokestatic 83, 3) := by decide +kernel
theorem d_R_gap_7 : decode (mMc M_R_gap) 7 = .ok (.istore_n 2, 1) := by decide +kernel
theorem d_R_gap_8 : decode (mMc M_R_gap) 8 = .ok (.iconst (-1), 1) := by decide +kernel
theorem d_R_gap_9 : decode (mMc M_R_gap) 9 = .ok (.istore_n 3, 1) := by decide +kernel
theorem d_R_gap_10 : decode (mMc M_R_gap) 10 = .ok (.iconst 0, 1) := by decide +kernel
theorem d_R_gap_11 : decode (mMc M_R_gap) 11 = .ok (.istore 4, 2) := by decide +kernel
theorem d_R_gap_13 : decode (mMc M_R_gap) 13 = .ok (.iload_n 2, 1) := by decide +kernel
theorem d_R_gap_14 : decode (mMc M_R_gap) 14 = .ok (.ifCond .eq 40, 3) := by decide +kernel
theorem d_R_gap_17 : decode (mMc M_R_gap) 17 = .ok (.iload 4, 2) := by decide +kernel
theorem d_R_gap_19 : decode (mMc M_R_gap) 19 = .ok (.iload_n 1, 1) := by decide +kernel
theorem d_R_gap_20 : decode (mMc M_R_gap) 20 = .ok (.iadd, 1) := by decide +kernel
theorem d_R_gap_21 : decode (mMc M_R_gap) 21 = .ok (.bipush 60, 2) := by decide +kernel
theorem d_R_gap_23 : decode (mMc M_R_gap) 23 = .ok (.if_icmp .gt 31, 3) := by decide +kernel
theorem d_R_gap_26 : decode (mMc M_R_gap) 26 = .ok (.iload_n 3, 1) := by decide +kernel
theorem d_R_gap_27 : decode (mMc M_R_gap) 27 = .ok (.iconst (-1), 1) := by decide +kernel
theorem d_R_gap_28 : decode (mMc M_R_gap) 28 = .ok (.if_icmp .ne 26, 3) := by decide +kernel
theorem d_R_gap_31 : decode (mMc M_R_gap) 31 = .ok (.aload_n 0, 1) := by decide +kernel
theorem d_R_gap_32 : decode (mMc M_R_gap) 32 = .ok (.iload 4, 2) := by decide +kernel
theorem d_R_gap_34 : decode (mMc M_R_gap) 34 = .ok (.iload_n 1, 1) := by decide +kernel
theorem d_R_gap_35 : decode (mMc M_R_gap) 35 = .ok (.invokevirtual 113, 3) := by decide +kernel
theorem d_R_gap_38 : decode (mMc M_R_gap) 38 = .ok (.ifCond .eq 8, 3) := by decide +kernel
theorem d_R_gap_41 : decode (mMc M_R_gap) 41 = .ok (.iload 4, 2) := by decide +kernel
theorem d_R_gap_43 : decode (mMc M_R_gap) 43 = .ok (.goto 4, 3) := by decide +kernel
theorem d_R_gap_46 : decode (mMc M_R_gap) 46 = .ok (.iconst (-1), 1) := by decide +kernel
theorem d_R_gap_47 : decode (mMc M_R_gap) 47 = .ok (.istore_n 3, 1) := by decide +kernel
theorem d_R_gap_48 : decode (mMc M_R_gap) 48 = .ok (.iinc 4 1, 3) := by decide +kernel
theorem d_R_gap_51 : decode (mMc M_R_gap) 51 = .ok (.goto (-38), 3) := by decide +kernel
theorem d_R_gap_54 : decode (mMc M_R_gap) 54 = .ok (.aload_n 0, 1) := by decide +kernel
theorem d_R_gap_55 : decode (mMc M_R_gap) 55 = .ok (.iload_n 2, 1) := by decide +kernel
theorem d_R_gap_56 : decode (mMc M_R_gap) 56 = .ok (.iload_n 3, 1) := by decide +kernel
theorem d_R_gap_57 : decode (mMc M_R_gap) 57 = .ok (.iconst (-1), 1) := by decide +kernel
theorem d_R_gap_58 : decode (mMc M_R_gap) 58 = .ok (.if_icmp .eq 7, 3) := by decide +kernel
theorem d_R_gap_61 : decode (mMc M_R_gap) 61 = .ok (.iconst 1, 1) := by decide +kernel
theorem d_R_gap_62 : decode (mMc M_R_gap) 62 = .ok (.goto 4, 3) := by decide +kernel
theorem d_R_gap_65 : decode (mMc M_R_gap) 65 = .ok (.iconst 0, 1) := by decide +kernel
theorem d_R_gap_66 : decode (mMc M_R_gap) 66 = .ok (.iconst 1, 1) := by decide +kernel
theorem d_R_gap_67 : decode (mMc M_R_gap) 67 = .ok (.iconst 1, 1) := by decide +kernel
theorem d_R_gap_68 : decode (mMc M_R_gap) 68 = .ok (.invokevirtual 45, 3) := by decide +kernel
theorem d_R_gap_71 : decode (mMc M_R_gap) 71 = .ok (.ifCond .eq 7, 3) := by decide +kernel
theorem d_R_gap_74 : decode (mMc M_R_gap) 74 = .ok (.iload_n 3, 1) := by decide +kernel
theorem d_R_gap_75 : decode (mMc M_R_gap) 75 = .ok (.goto 4, 3) := by decide +kernel
theorem d_R_gap_78 : decode (mMc M_R_gap) 78 = .ok (.iconst 0, 1) := by decide +kernel
theorem d_R_gap_79 : decode (mMc M_R_gap) 79 = .ok (.ireturn, 1) := by decide +kernel
theorem k_R_gap : mCd M_R_gap 1 := ⟨by decide, by decide, by decide +kernel, by decide, mG (9, 89) (by decide +kernel), mG (1, 15) (by decide +kernel)⟩
def M_R_firstGapByShips : mM := (⟨"FloatingDockModel", "firstGapByShips", "(I)I"⟩, prog_13_method_78_code, 2, (some .int), [])
theorem d_R_firstGapByShips_0 : decode (mMc M_R_firstGapByShips) 0 = .ok (.aload_n 0, 1) := by decide +kernel
theorem d_R_firstGapByShips_1 : decode (mMc M_R_firstGapByShips) 1 = .ok (.iload_n 1, 1) := by decide +kernel
theorem d_R_firstGapByShips_2 : decode (mMc M_R_firstGapByShips) 2 = .ok (.invokevirtual 191, 3) := by decide +kernel
theorem d_R_firstGapByShips_5 : decode (mMc M_R_firstGapByShips) 5 = .ok (.ireturn, 1) := by decide +kernel
theorem k_R_firstGapByShips : mCd M_R_firstGapByShips 1 := ⟨by decide, by decide, by decide +kernel, by decide, mG (9, 93) (by decide +kernel), mG (1, 15) (by decide +kernel)⟩
def M_R_freeMetres : mM := (⟨"FloatingDockModel", "freeMetres", "()I"⟩, prog_13_method_80_code, 1, (some .int), [])
theorem d_R_freeMetres_0 : decode (mMc M_R_freeMetres) 0 = .ok (.aload_n 0, 1) := by decide +kernel
theorem d_R_freeMetres_1 : decode (mMc M_R_freeMetres) 1 = .ok (.iconst 0, 1) := by decide +kernel
theorem d_R_freeMetres_2 : decode (mMc M_R_freeMetres) 2 = .ok (.putfield 42, 3) := by decide +kernel
theorem d_R_freeMetres_5 : decode (mMc M_R_freeMetres) 5 = .ok (.aload_n 0, 1) := by decide +kernel
theorem d_R_freeMetres_6 : decode (mMc M_R_freeMetres) 6 = .ok (.invokevirtual 194, 3) := by decide +kernel
theorem d_R_freeMetres_9 : decode (mMc M_R_freeMetres) 9 = .ok (.ireturn, 1) := by decide +kernel
theorem k_R_freeMetres : mCd M_R_freeMetres 0 := ⟨by decide, by decide, by decide +kernel, by decide, mG (9, 97) (by decide +kernel), mG (1, 15) (by decide +kernel)⟩
def M_R_freeOnes : mM := (⟨"FloatingDockModel", "freeOnes", "()I"⟩, prog_13_method_79_code, 3, (some .int), [])
theorem d_R_freeOnes_0 : decode (mMc M_R_freeOnes) 0 = .ok (.iconst 0, 1) := by decide +kernel
theorem d_R_freeOnes_1 : decode (mMc M_R_freeOnes) 1 = .ok (.istore_n 1, 1) := by decide +kernel
theorem d_R_freeOnes_2 : decode (mMc M_R_freeOnes) 2 = .ok (.iconst 0, 1) := by decide +kernel
theorem d_R_freeOnes_3 : decode (mMc M_R_freeOnes) 3 = .ok (.istore_n 2, 1) := by decide +kernel
theorem d_R_freeOnes_4 : decode (mMc M_R_freeOnes) 4 = .ok (.iload_n 2, 1) := by decide +kernel
theorem d_R_freeOnes_5 : decode (mMc M_R_freeOnes) 5 = .ok (.bipush 60, 2) := by decide +kernel
theorem d_R_freeOnes_7 : decode (mMc M_R_freeOnes) 7 = .ok (.if_icmp .ge 26, 3) := by decide +kernel
theorem d_R_freeOnes_10 : decode (mMc M_R_freeOnes) 10 = .ok (.iload_n 1, 1) := by decide +kernel
theorem d_R_freeOnes_11 : decode (mMc M_R_freeOnes) 11 = .ok (.aload_n 0, 1) := by decide +kernel
theorem d_R_freeOnes_12 : decode (mMc M_R_freeOnes) 12 = .ok (.iload_n 2, 1) := by decide +kernel
theorem d_R_freeOnes_13 : decode (mMc M_R_freeOnes) 13 = .ok (.invokevirtual 87, 3) := by decide +kernel
theorem d_R_freeOnes_16 : decode (mMc M_R_freeOnes) 16 = .ok (.iconst (-1), 1) := by decide +kernel
theorem d_R_freeOnes_17 : decode (mMc M_R_freeOnes) 17 = .ok (.if_icmp .ne 7, 3) := by decide +kernel
theorem d_R_freeOnes_20 : decode (mMc M_R_freeOnes) 20 = .ok (.iconst 1, 1) := by decide +kernel
theorem d_R_freeOnes_21 : decode (mMc M_R_freeOnes) 21 = .ok (.goto 4, 3) := by decide +kernel
theorem d_R_freeOnes_24 : decode (mMc M_R_freeOnes) 24 = .ok (.iconst 0, 1) := by decide +kernel
theorem d_R_freeOnes_25 : decode (mMc M_R_freeOnes) 25 = .ok (.iadd, 1) := by decide +kernel
theorem d_R_freeOnes_26 : decode (mMc M_R_freeOnes) 26 = .ok (.istore_n 1, 1) := by decide +kernel
theorem d_R_freeOnes_27 : decode (mMc M_R_freeOnes) 27 = .ok (.iinc 2 1, 3) := by decide +kernel
theorem d_R_freeOnes_30 : decode (mMc M_R_freeOnes) 30 = .ok (.goto (-26), 3) := by decide +kernel
theorem d_R_freeOnes_33 : decode (mMc M_R_freeOnes) 33 = .ok (.iload_n 1, 1) := by decide +kernel
theorem d_R_freeOnes_34 : decode (mMc M_R_freeOnes) 34 = .ok (.ireturn, 1) := by decide +kernel
theorem k_R_freeOnes : mCd M_R_freeOnes 0 := ⟨by decide, by decide, by decide +kernel, by decide, mG (9, 101) (by decide +kernel), mG (1, 15) (by decide +kernel)⟩
def M_R_mostFitting : mM := (⟨"FloatingDockModel", "mostFitting", "()I"⟩, prog_13_method_85_code, 1, (some .int), [])
theorem d_R_mostFitting_0 : decode (mMc M_R_mostFitting) 0 = .ok (.aload_n 0, 1) := by decide +kernel
theorem d_R_mostFitting_1 : decode (mMc M_R_mostFitting) 1 = .ok (.iconst 0, 1) := by decide +kernel
theorem d_R_mostFitting_2 : decode (mMc M_R_mostFitting) 2 = .ok (.invokevirtual 212, 3) := by decide +kernel
theorem d_R_mostFitting_5 : decode (mMc M_R_mostFitting) 5 = .ok (.ireturn, 1) := by decide +kernel
theorem k_R_mostFitting : mCd M_R_mostFitting 0 := ⟨by decide, by decide, by decide +kernel, by decide, mG (9, 105) (by decide +kernel), mG (1, 15) (by decide +kernel)⟩
def M_R_mostOf : mM := (⟨"FloatingDockModel", "mostOf", "(Z)I"⟩, prog_13_method_84_code, 4, (some .int), [])
theorem d_R_mostOf_0 : decode (mMc M_R_mostOf) 0 = .ok (.aload_n 0, 1) := by decide +kernel
theorem d_R_mostOf_1 : decode (mMc M_R_mostOf) 1 = .ok (.iconst 0, 1) := by decide +kernel
theorem d_R_mostOf_2 : decode (mMc M_R_mostOf) 2 = .ok (.putfield 42, 3) := by decide +kernel
theorem d_R_mostOf_5 : decode (mMc M_R_mostOf) 5 = .ok (.aload_n 0, 1) := by decide +kernel
theorem d_R_mostOf_6 : decode (mMc M_R_mostOf) 6 = .ok (.invokevirtual 204, 3) := by decide +kernel
theorem d_R_mostOf_9 : decode (mMc M_R_mostOf) 9 = .ok (.iconst 0, 1) := by decide +kernel
theorem d_R_mostOf_10 : decode (mMc M_R_mostOf) 10 = .ok (.istore_n 2, 1) := by decide +kernel
theorem d_R_mostOf_11 : decode (mMc M_R_mostOf) 11 = .ok (.iconst 0, 1) := by decide +kernel
theorem d_R_mostOf_12 : decode (mMc M_R_mostOf) 12 = .ok (.istore_n 3, 1) := by decide +kernel
theorem d_R_mostOf_13 : decode (mMc M_R_mostOf) 13 = .ok (.iload_n 3, 1) := by decide +kernel
theorem d_R_mostOf_14 : decode (mMc M_R_mostOf) 14 = .ok (.aload_n 0, 1) := by decide +kernel
theorem d_R_mostOf_15 : decode (mMc M_R_mostOf) 15 = .ok (.getfield 35, 3) := by decide +kernel
theorem d_R_mostOf_18 : decode (mMc M_R_mostOf) 18 = .ok (.arraylength, 1) := by decide +kernel
theorem d_R_mostOf_19 : decode (mMc M_R_mostOf) 19 = .ok (.if_icmp .ge 43, 3) := by decide +kernel
theorem d_R_mostOf_22 : decode (mMc M_R_mostOf) 22 = .ok (.aload_n 0, 1) := by decide +kernel
theorem d_R_mostOf_23 : decode (mMc M_R_mostOf) 23 = .ok (.getfield 35, 3) := by decide +kernel
theorem d_R_mostOf_26 : decode (mMc M_R_mostOf) 26 = .ok (.iload_n 3, 1) := by decide +kernel
theorem d_R_mostOf_27 : decode (mMc M_R_mostOf) 27 = .ok (.baload, 1) := by decide +kernel
theorem d_R_mostOf_28 : decode (mMc M_R_mostOf) 28 = .ok (.ifCond .eq 26, 3) := by decide +kernel
theorem d_R_mostOf_31 : decode (mMc M_R_mostOf) 31 = .ok (.iload_n 2, 1) := by decide +kernel
theorem d_R_mostOf_32 : decode (mMc M_R_mostOf) 32 = .ok (.iload_n 1, 1) := by decide +kernel
theorem d_R_mostOf_33 : decode (mMc M_R_mostOf) 33 = .ok (.ifCond .eq 11, 3) := by decide +kernel
theorem d_R_mostOf_36 : decode (mMc M_R_mostOf) 36 = .ok (.aload_n 0, 1) := by decide +kernel
theorem d_R_mostOf_37 : decode (mMc M_R_mostOf) 37 = .ok (.iload_n 3, 1) := by decide +kernel
theorem d_R_mostOf_38 : decode (mMc M_R_mostOf) 38 = .ok (.invokevirtual 197, 3) := by decide +kernel
theorem d_R_mostOf_41 : decode (mMc M_R_mostOf) 41 = .ok (.goto 7, 3) := by decide +kernel
theorem d_R_mostOf_44 : decode (mMc M_R_mostOf) 44 = .ok (.iload_n 3, 1) := by decide +kernel
theorem d_R_mostOf_45 : decode (mMc M_R_mostOf) 45 = .ok (.invokestatic 207, 3) := by decide +kernel
theorem d_R_mostOf_48 : decode (mMc M_R_mostOf) 48 = .ok (.invokestatic 71, 3) := by decide +kernel
theorem d_R_mostOf_51 : decode (mMc M_R_mostOf) 51 = .ok (.goto 4, 3) := by decide +kernel
theorem d_R_mostOf_54 : decode (mMc M_R_mostOf) 54 = .ok (.iload_n 2, 1) := by decide +kernel
theorem d_R_mostOf_55 : decode (mMc M_R_mostOf) 55 = .ok (.istore_n 2, 1) := by decide +kernel
theorem d_R_mostOf_56 : decode (mMc M_R_mostOf) 56 = .ok (.iinc 3 1, 3) := by decide +kernel
theorem d_R_mostOf_59 : decode (mMc M_R_mostOf) 59 = .ok (.goto (-46), 3) := by decide +kernel
theorem d_R_mostOf_62 : decode (mMc M_R_mostOf) 62 = .ok (.iload_n 2, 1) := by decide +kernel
theorem d_R_mostOf_63 : decode (mMc M_R_mostOf) 63 = .ok (.ireturn, 1) := by decide +kernel
theorem k_R_mostOf : mCd M_R_mostOf 1 := ⟨by decide, by decide, by decide +kernel, by decide, mG (9, 109) (by decide +kernel), mG (1, 15) (by decide +kernel)⟩
def M_R_packs : mM := (⟨"FloatingDockModel", "packs", "()V"⟩, prog_13_method_83_code, 3, none, [])
theorem d_R_packs_0 : decode (mMc M_R_packs) 0 = .ok (.iconst 0, 1) := by decide +kernel
theorem d_R_packs_1 : decode (mMc M_R_packs) 1 = .ok (.istore_n 1, 1) := by decide +kernel
theorem d_R_packs_2 : decode (mMc M_R_packs) 2 = .ok (.iload_n 1, 1) := by decide +kernel
theorem d_R_packs_3 : decode (mMc M_R_packs) 3 = .ok (.aload_n 0, 1) := by decide +kernel
theorem d_R_packs_4 : decode (mMc M_R_packs) 4 = .ok (.getfield 35, 3) := by decide +kernel
theorem d_R_packs_7 : decode (mMc M_R_packs) 7 = .ok (.arraylength, 1) := by decide +kernel
theorem d_R_packs_8 : decode (mMc M_R_packs) 8 = .ok (.if_icmp .ge 24, 3) := by decide +kernel
theorem d_R_packs_11 : decode (mMc M_R_packs) 11 = .ok (.aload_n 0, 1) := by decide +kernel
theorem d_R_packs_12 : decode (mMc M_R_packs) 12 = .ok (.getfield 35, 3) := by decide +kernel
theorem d_R_packs_15 : decode (mMc M_R_packs) 15 = .ok (.iload_n 1, 1) := by decide +kernel
theorem d_R_packs_16 : decode (mMc M_R_packs) 16 = .ok (.iload_n 1, 1) := by decide +kernel
theorem d_R_packs_17 : decode (mMc M_R_packs) 17 = .ok (.ifCond .ne 7, 3) := by decide +kernel
theorem d_R_packs_20 : decode (mMc M_R_packs) 20 = .ok (.iconst 1, 1) := by decide +kernel
theorem d_R_packs_21 : decode (mMc M_R_packs) 21 = .ok (.goto 4, 3) := by decide +kernel
theorem d_R_packs_24 : decode (mMc M_R_packs) 24 = .ok (.iconst 0, 1) := by decide +kernel
theorem d_R_packs_25 : decode (mMc M_R_packs) 25 = .ok (.bastore, 1) := by decide +kernel
theorem d_R_packs_26 : decode (mMc M_R_packs) 26 = .ok (.iinc 1 1, 3) := by decide +kernel
theorem d_R_packs_29 : decode (mMc M_R_packs) 29 = .ok (.goto (-27), 3) := by decide +kernel
theorem d_R_packs_32 : decode (mMc M_R_packs) 32 = .ok (.iconst 0, 1) := by decide +kernel
theorem d_R_packs_33 : decode (mMc M_R_packs) 33 = .ok (.istore_n 1, 1) := by decide +kernel
theorem d_R_packs_34 : decode (mMc M_R_packs) 34 = .ok (.iconst 0, 1) := by decide +kernel
theorem d_R_packs_35 : decode (mMc M_R_packs) 35 = .ok (.istore_n 2, 1) := by decide +kernel
theorem d_R_packs_36 : decode (mMc M_R_packs) 36 = .ok (.iload_n 2, 1) := by decide +kernel
theorem d_R_packs_37 : decode (mMc M_R_packs) 37 = .ok (.bipush 60, 2) := by decide +kernel
theorem d_R_packs_39 : decode (mMc M_R_packs) 39 = .ok (.if_icmp .gt 41, 3) := by decide +kernel
theorem d_R_packs_42 : decode (mMc M_R_packs) 42 = .ok (.iload_n 2, 1) := by decide +kernel
theorem d_R_packs_43 : decode (mMc M_R_packs) 43 = .ok (.bipush 60, 2) := by decide +kernel
theorem d_R_packs_45 : decode (mMc M_R_packs) 45 = .ok (.if_icmp .ge 18, 3) := by decide +kernel
theorem d_R_packs_48 : decode (mMc M_R_packs) 48 = .ok (.aload_n 0, 1) := by decide +kernel
theorem d_R_packs_49 : decode (mMc M_R_packs) 49 = .ok (.iload_n 2, 1) := by decide +kernel
theorem d_R_packs_50 : decode (mMc M_R_packs) 50 = .ok (.invokevirtual 87, 3) := by decide +kernel
theorem d_R_packs_53 : decode (mMc M_R_packs) 53 = .ok (.iconst (-1), 1) := by decide +kernel
theorem d_R_packs_54 : decode (mMc M_R_packs) 54 = .ok (.if_icmp .ne 9, 3) := by decide +kernel
theorem d_R_packs_57 : decode (mMc M_R_packs) 57 = .ok (.iinc 1 1, 3) := by decide +kernel
theorem d_R_packs_60 : decode (mMc M_R_packs) 60 = .ok (.goto 14, 3) := by decide +kernel
theorem d_R_packs_63 : decode (mMc M_R_packs) 63 = .ok (.iload_n 1, 1) := by decide +kernel
theorem d_R_packs_64 : decode (mMc M_R_packs) 64 = .ok (.ifCond .le 10, 3) := by decide +kernel
theorem d_R_packs_67 : decode (mMc M_R_packs) 67 = .ok (.aload_n 0, 1) := by decide +kernel
theorem d_R_packs_68 : decode (mMc M_R_packs) 68 = .ok (.iload_n 1, 1) := by decide +kernel
theorem d_R_packs_69 : decode (mMc M_R_packs) 69 = .ok (.invokevirtual 200, 3) := by decide +kernel
theorem d_R_packs_72 : decode (mMc M_R_packs) 72 = .ok (.iconst 0, 1) := by decide +kernel
theorem d_R_packs_73 : decode (mMc M_R_packs) 73 = .ok (.istore_n 1, 1) := by decide +kernel
theorem d_R_packs_74 : decode (mMc M_R_packs) 74 = .ok (.iinc 2 1, 3) := by decide +kernel
theorem d_R_packs_77 : decode (mMc M_R_packs) 77 = .ok (.goto (-41), 3) := by decide +kernel
theorem d_R_packs_80 : decode (mMc M_R_packs) 80 = .ok (.return_, 1) := by decide +kernel
theorem k_R_packs : mCd M_R_packs 0 := ⟨by decide, by decide, by decide +kernel, by decide, mG (9, 113) (by decide +kernel), mG (1, 15) (by decide +kernel)⟩
def M_R_takesGap : mM := (⟨"FloatingDockModel", "takesGap", "(I)V"⟩, prog_13_method_82_code, 4, none, [])
theorem d_R_takesGap_0 : decode (mMc M_R_takesGap) 0 = .ok (.aload_n 0, 1) := by decide +kernel
theorem d_R_takesGap_1 : decode (mMc M_R_takesGap) 1 = .ok (.getfield 35, 3) := by decide +kernel
theorem d_R_takesGap_4 : decode (mMc M_R_takesGap) 4 = .ok (.arraylength, 1) := by decide +kernel
theorem d_R_takesGap_5 : decode (mMc M_R_takesGap) 5 = .ok (.iconst 1, 1) := by decide +kernel
theorem d_R_takesGap_6 : decode (mMc M_R_takesGap) 6 = .ok (.isub, 1) := by decide +kernel
theorem d_R_takesGap_7 : decode (mMc M_R_takesGap) 7 = .ok (.istore_n 2, 1) := by decide +kernel
theorem d_R_takesGap_8 : decode (mMc M_R_takesGap) 8 = .ok (.iload_n 2, 1) := by decide +kernel
theorem d_R_takesGap_9 : decode (mMc M_R_takesGap) 9 = .ok (.ifCond .le 64, 3) := by decide +kernel
theorem d_R_takesGap_12 : decode (mMc M_R_takesGap) 12 = .ok (.iload_n 2, 1) := by decide +kernel
theorem d_R_takesGap_13 : decode (mMc M_R_takesGap) 13 = .ok (.istore_n 3, 1) := by decide +kernel
theorem d_R_takesGap_14 : decode (mMc M_R_takesGap) 14 = .ok (.iload_n 3, 1) := by decide +kernel
theorem d_R_takesGap_15 : decode (mMc M_R_takesGap) 15 = .ok (.ifCond .le 52, 3) := by decide +kernel
theorem d_R_takesGap_18 : decode (mMc M_R_takesGap) 18 = .ok (.aload_n 0, 1) := by decide +kernel
theorem d_R_takesGap_19 : decode (mMc M_R_takesGap) 19 = .ok (.getfield 35, 3) := by decide +kernel
theorem d_R_takesGap_22 : decode (mMc M_R_takesGap) 22 = .ok (.iload_n 2, 1) := by decide +kernel
theorem d_R_takesGap_23 : decode (mMc M_R_takesGap) 23 = .ok (.baload, 1) := by decide +kernel
theorem d_R_takesGap_24 : decode (mMc M_R_takesGap) 24 = .ok (.ifCond .ne 43, 3) := by decide +kernel
theorem d_R_takesGap_27 : decode (mMc M_R_takesGap) 27 = .ok (.aload_n 0, 1) := by decide +kernel
theorem d_R_takesGap_28 : decode (mMc M_R_takesGap) 28 = .ok (.getfield 35, 3) := by decide +kernel
theorem d_R_takesGap_31 : decode (mMc M_R_takesGap) 31 = .ok (.iload_n 2, 1) := by decide +kernel
theorem d_R_takesGap_32 : decode (mMc M_R_takesGap) 32 = .ok (.aload_n 0, 1) := by decide +kernel
theorem d_R_takesGap_33 : decode (mMc M_R_takesGap) 33 = .ok (.getfield 35, 3) := by decide +kernel
theorem d_R_takesGap_36 : decode (mMc M_R_takesGap) 36 = .ok (.iload_n 2, 1) := by decide +kernel
theorem d_R_takesGap_37 : decode (mMc M_R_takesGap) 37 = .ok (.iload_n 3, 1) := by decide +kernel
theorem d_R_takesGap_38 : decode (mMc M_R_takesGap) 38 = .ok (.ixor, 1) := by decide +kernel
theorem d_R_takesGap_39 : decode (mMc M_R_takesGap) 39 = .ok (.baload, 1) := by decide +kernel
theorem d_R_takesGap_40 : decode (mMc M_R_takesGap) 40 = .ok (.ifCond .eq 16, 3) := by decide +kernel
theorem d_R_takesGap_43 : decode (mMc M_R_takesGap) 43 = .ok (.aload_n 0, 1) := by decide +kernel
theorem d_R_takesGap_44 : decode (mMc M_R_takesGap) 44 = .ok (.iload_n 3, 1) := by decide +kernel
theorem d_R_takesGap_45 : decode (mMc M_R_takesGap) 45 = .ok (.invokevirtual 197, 3) := by decide +kernel
theorem d_R_takesGap_48 : decode (mMc M_R_takesGap) 48 = .ok (.iload_n 1, 1) := by decide +kernel
theorem d_R_takesGap_49 : decode (mMc M_R_takesGap) 49 = .ok (.if_icmp .gt 7, 3) := by decide +kernel
theorem d_R_takesGap_52 : decode (mMc M_R_takesGap) 52 = .ok (.iconst 1, 1) := by decide +kernel
theorem d_R_takesGap_53 : decode (mMc M_R_takesGap) 53 = .ok (.goto 4, 3) := by decide +kernel
theorem d_R_takesGap_56 : decode (mMc M_R_takesGap) 56 = .ok (.iconst 0, 1) := by decide +kernel
theorem d_R_takesGap_57 : decode (mMc M_R_takesGap) 57 = .ok (.bastore, 1) := by decide +kernel
theorem d_R_takesGap_58 : decode (mMc M_R_takesGap) 58 = .ok (.iload_n 3, 1) := by decide +kernel
theorem d_R_takesGap_59 : decode (mMc M_R_takesGap) 59 = .ok (.iconst 1, 1) := by decide +kernel
theorem d_R_takesGap_60 : decode (mMc M_R_takesGap) 60 = .ok (.isub, 1) := by decide +kernel
theorem d_R_takesGap_61 : decode (mMc M_R_takesGap) 61 = .ok (.iload_n 2, 1) := by decide +kernel
theorem d_R_takesGap_62 : decode (mMc M_R_takesGap) 62 = .ok (.iand, 1) := by decide +kernel
theorem d_R_takesGap_63 : decode (mMc M_R_takesGap) 63 = .ok (.istore_n 3, 1) := by decide +kernel
theorem d_R_takesGap_64 : decode (mMc M_R_takesGap) 64 = .ok (.goto (-50), 3) := by decide +kernel
theorem d_R_takesGap_67 : decode (mMc M_R_takesGap) 67 = .ok (.iinc 2 (-1), 3) := by decide +kernel
theorem d_R_takesGap_70 : decode (mMc M_R_takesGap) 70 = .ok (.goto (-62), 3) := by decide +kernel
theorem d_R_takesGap_73 : decode (mMc M_R_takesGap) 73 = .ok (.return_, 1) := by decide +kernel
theorem k_R_takesGap : mCd M_R_takesGap 1 := ⟨by decide, by decide, by decide +kernel, by decide, mG (9, 117) (by decide +kernel), mG (1, 15) (by decide +kernel)⟩
def M_R_metres : mM := (⟨"FloatingDockModel", "metres", "(I)I"⟩, prog_13_method_81_code, 6, (some .int), [])
theorem d_R_metres_0 : decode (mMc M_R_metres) 0 = .ok (.iconst 0, 1) := by decide +kernel
theorem d_R_metres_1 : decode (mMc M_R_metres) 1 = .ok (.istore_n 2, 1) := by decide +kernel
theorem d_R_metres_2 : decode (mMc M_R_metres) 2 = .ok (.iconst 0, 1) := by decide +kernel
theorem d_R_metres_3 : decode (mMc M_R_metres) 3 = .ok (.istore_n 3, 1) := by decide +kernel
theorem d_R_metres_4 : decode (mMc M_R_metres) 4 = .ok (.iload_n 3, 1) := by decide +kernel
theorem d_R_metres_5 : decode (mMc M_R_metres) 5 = .ok (.bipush 8, 2) := by decide +kernel
theorem d_R_metres_7 : decode (mMc M_R_metres) 7 = .ok (.if_icmp .ge 95, 3) := by decide +kernel
theorem d_R_metres_10 : decode (mMc M_R_metres) 10 = .ok (.iload_n 1, 1) := by decide +kernel
theorem d_R_metres_11 : decode (mMc M_R_metres) 11 = .ok (.iload_n 3, 1) := by decide +kernel
theorem d_R_metres_12 : decode (mMc M_R_metres) 12 = .ok (.ishr, 1) := by decide +kernel
theorem d_R_metres_13 : decode (mMc M_R_metres) 13 = .ok (.iconst 1, 1) := by decide +kernel
theorem d_R_metres_14 : decode (mMc M_R_metres) 14 = .ok (.iand, 1) := by decide +kernel
theorem d_R_metres_15 : decode (mMc M_R_metres) 15 = .ok (.iconst 1, 1) := by decide +kernel
theorem d_R_metres_16 : decode (mMc M_R_metres) 16 = .ok (.if_icmp .ne 7, 3) := by decide +kernel
theorem d_R_metres_19 : decode (mMc M_R_metres) 19 = .ok (.iconst 1, 1) := by decide +kernel
theorem d_R_metres_20 : decode (mMc M_R_metres) 20 = .ok (.goto 4, 3) := by decide +kernel
theorem d_R_metres_23 : decode (mMc M_R_metres) 23 = .ok (.iconst 0, 1) := by decide +kernel
theorem d_R_metres_24 : decode (mMc M_R_metres) 24 = .ok (.istore 4, 2) := by decide +kernel
theorem d_R_metres_26 : decode (mMc M_R_metres) 26 = .ok (.iload_n 3, 1) := by decide +kernel
theorem d_R_metres_27 : decode (mMc M_R_metres) 27 = .ok (.aload_n 0, 1) := by decide +kernel
theorem d_R_metres_28 : decode (mMc M_R_metres) 28 = .ok (.getfield 9, 3) := by decide +kernel
theorem d_R_metres_31 : decode (mMc M_R_metres) 31 = .ok (.iconst 4, 1) := by decide +kernel
theorem d_R_metres_32 : decode (mMc M_R_metres) 32 = .ok (.iaload, 1) := by decide +kernel
theorem d_R_metres_33 : decode (mMc M_R_metres) 33 = .ok (.if_icmp .ge 32, 3) := by decide +kernel
theorem d_R_metres_36 : decode (mMc M_R_metres) 36 = .ok (.aload_n 0, 1) := by decide +kernel
theorem d_R_metres_37 : decode (mMc M_R_metres) 37 = .ok (.iload_n 3, 1) := by decide +kernel
theorem d_R_metres_38 : decode (mMc M_R_metres) 38 = .ok (.invokevirtual 79, 3) := by decide +kernel
theorem d_R_metres_41 : decode (mMc M_R_metres) 41 = .ok (.ifCond .ne 24, 3) := by decide +kernel
theorem d_R_metres_44 : decode (mMc M_R_metres) 44 = .ok (.aload_n 0, 1) := by decide +kernel
theorem d_R_metres_45 : decode (mMc M_R_metres) 45 = .ok (.iload_n 3, 1) := by decide +kernel
theorem d_R_metres_46 : decode (mMc M_R_metres) 46 = .ok (.iconst 2, 1) := by decide +kernel
theorem d_R_metres_47 : decode (mMc M_R_metres) 47 = .ok (.invokevirtual 67, 3) := by decide +kernel
theorem d_R_metres_50 : decode (mMc M_R_metres) 50 = .ok (.aload_n 0, 1) := by decide +kernel
theorem d_R_metres_51 : decode (mMc M_R_metres) 51 = .ok (.getfield 9, 3) := by decide +kernel
theorem d_R_metres_54 : decode (mMc M_R_metres) 54 = .ok (.iconst 1, 1) := by decide +kernel
theorem d_R_metres_55 : decode (mMc M_R_metres) 55 = .ok (.iaload, 1) := by decide +kernel
theorem d_R_metres_56 : decode (mMc M_R_metres) 56 = .ok (.iconst 2, 1) := by decide +kernel
theorem d_R_metres_57 : decode (mMc M_R_metres) 57 = .ok (.isub, 1) := by decide +kernel
theorem d_R_metres_58 : decode (mMc M_R_metres) 58 = .ok (.if_icmp .gt 7, 3) := by decide +kernel
theorem d_R_metres_61 : decode (mMc M_R_metres) 61 = .ok (.iconst 1, 1) := by decide +kernel
theorem d_R_metres_62 : decode (mMc M_R_metres) 62 = .ok (.goto 4, 3) := by decide +kernel
theorem d_R_metres_65 : decode (mMc M_R_metres) 65 = .ok (.iconst 0, 1) := by decide +kernel
theorem d_R_metres_66 : decode (mMc M_R_metres) 66 = .ok (.istore 5, 2) := by decide +kernel
theorem d_R_metres_68 : decode (mMc M_R_metres) 68 = .ok (.iload_n 2, 1) := by decide +kernel
theorem d_R_metres_69 : decode (mMc M_R_metres) 69 = .ok (.iload 4, 2) := by decide +kernel
theorem d_R_metres_71 : decode (mMc M_R_metres) 71 = .ok (.ifCond .ne 7, 3) := by decide +kernel
theorem d_R_metres_74 : decode (mMc M_R_metres) 74 = .ok (.iconst 0, 1) := by decide +kernel
theorem d_R_metres_75 : decode (mMc M_R_metres) 75 = .ok (.goto 19, 3) := by decide +kernel
theorem d_R_metres_78 : decode (mMc M_R_metres) 78 = .ok (.iload 5, 2) := by decide +kernel
theorem d_R_metres_80 : decode (mMc M_R_metres) 80 = .ok (.ifCond .eq 12, 3) := by decide +kernel
theorem d_R_metres_83 : decode (mMc M_R_metres) 83 = .ok (.aload_n 0, 1) := by decide +kernel
theorem d_R_metres_84 : decode (mMc M_R_metres) 84 = .ok (.iload_n 3, 1) := by decide +kernel
theorem d_R_metres_85 : decode (mMc M_R_metres) 85 = .ok (.iconst 1, 1) := by decide +kernel
theorem d_R_metres_86 : decode (mMc M_R_metres) 86 = .ok (.invokevirtual 67, 3) := by decide +kernel
theorem d_R_metres_89 : decode (mMc M_R_metres) 89 = .ok (.goto 5, 3) := by decide +kernel
theorem d_R_metres_92 : decode (mMc M_R_metres) 92 = .ok (.bipush 61, 2) := by decide +kernel
theorem d_R_metres_94 : decode (mMc M_R_metres) 94 = .ok (.iadd, 1) := by decide +kernel
theorem d_R_metres_95 : decode (mMc M_R_metres) 95 = .ok (.istore_n 2, 1) := by decide +kernel
theorem d_R_metres_96 : decode (mMc M_R_metres) 96 = .ok (.iinc 3 1, 3) := by decide +kernel
theorem d_R_metres_99 : decode (mMc M_R_metres) 99 = .ok (.goto (-95), 3) := by decide +kernel
theorem d_R_metres_102 : decode (mMc M_R_metres) 102 = .ok (.iload_n 2, 1) := by decide +kernel
theorem d_R_metres_103 : decode (mMc M_R_metres) 103 = .ok (.ireturn, 1) := by decide +kernel
theorem k_R_metres : mCd M_R_metres 1 := ⟨by decide, by decide, by decide +kernel, by decide, mG (9, 121) (by decide +kernel), mG (1, 15) (by decide +kernel)⟩
def M_R_mostFittingByTable : mM := (⟨"FloatingDockModel", "mostFittingByTable", "()I"⟩, prog_13_method_86_code, 1, (some .int), [])
theorem d_R_mostFittingByTable_0 : decode (mMc M_R_mostFittingByTable) 0 = .ok (.aload_n 0, 1) := by decide +kernel
theorem d_R_mostFittingByTable_1 : decode (mMc M_R_mostFittingByTable) 1 = .ok (.iconst 0, 1) := by decide +kernel
theorem d_R_mostFittingByTable_2 : decode (mMc M_R_mostFittingByTable) 2 = .ok (.invokevirtual 212, 3) := by decide +kernel
theorem d_R_mostFittingByTable_5 : decode (mMc M_R_mostFittingByTable) 5 = .ok (.ireturn, 1) := by decide +kernel
theorem k_R_mostFittingByTable : mCd M_R_mostFittingByTable 0 := ⟨by decide, by decide, by decide +kernel, by decide, mG (9, 126) (by decide +kernel), mG (1, 15) (by decide +kernel)⟩
def M_R_mostFittingMetres : mM := (⟨"FloatingDockModel", "mostFittingMetres", "()I"⟩, prog_13_method_87_code, 1, (some .int), [])
theorem d_R_mostFittingMetres_0 : decode (mMc M_R_mostFittingMetres) 0 = .ok (.aload_n 0, 1) := by decide +kernel
theorem d_R_mostFittingMetres_1 : decode (mMc M_R_mostFittingMetres) 1 = .ok (.iconst 1, 1) := by decide +kernel
theorem d_R_mostFittingMetres_2 : decode (mMc M_R_mostFittingMetres) 2 = .ok (.invokevirtual 212, 3) := by decide +kernel
theorem d_R_mostFittingMetres_5 : decode (mMc M_R_mostFittingMetres) 5 = .ok (.ireturn, 1) := by decide +kernel
theorem k_R_mostFittingMetres : mCd M_R_mostFittingMetres 0 := ⟨by decide, by decide, by decide +kernel, by decide, mG (9, 130) (by decide +kernel), mG (1, 15) (by decide +kernel)⟩
def M_R_billTotal : mM := (⟨"FloatingDockModel", "billTotal", "()I"⟩, prog_13_method_89_code, 1, (some .int), [])
theorem d_R_billTotal_0 : decode (mMc M_R_billTotal) 0 = .ok (.aload_n 0, 1) := by decide +kernel
theorem d_R_billTotal_1 : decode (mMc M_R_billTotal) 1 = .ok (.iconst 0, 1) := by decide +kernel
theorem d_R_billTotal_2 : decode (mMc M_R_billTotal) 2 = .ok (.putfield 42, 3) := by decide +kernel
theorem d_R_billTotal_5 : decode (mMc M_R_billTotal) 5 = .ok (.aload_n 0, 1) := by decide +kernel
theorem d_R_billTotal_6 : decode (mMc M_R_billTotal) 6 = .ok (.bipush 8, 2) := by decide +kernel
theorem d_R_billTotal_8 : decode (mMc M_R_billTotal) 8 = .ok (.invokevirtual 216, 3) := by decide +kernel
theorem d_R_billTotal_11 : decode (mMc M_R_billTotal) 11 = .ok (.ireturn, 1) := by decide +kernel
theorem k_R_billTotal : mCd M_R_billTotal 0 := ⟨by decide, by decide, by decide +kernel, by decide, mG (9, 134) (by decide +kernel), mG (1, 15) (by decide +kernel)⟩
def M_R_sum : mM := (⟨"FloatingDockModel", "sum", "(I)I"⟩, prog_13_method_88_code, 4, (some .int), [])
theorem d_R_sum_0 : decode (mMc M_R_sum) 0 = .ok (.iconst 0, 1) := by decide +kernel
theorem d_R_sum_1 : decode (mMc M_R_sum) 1 = .ok (.istore_n 2, 1) := by decide +kernel
theorem d_R_sum_2 : decode (mMc M_R_sum) 2 = .ok (.iconst 0, 1) := by decide +kernel
theorem d_R_sum_3 : decode (mMc M_R_sum) 3 = .ok (.istore_n 3, 1) := by decide +kernel
theorem d_R_sum_4 : decode (mMc M_R_sum) 4 = .ok (.iload_n 3, 1) := by decide +kernel
theorem d_R_sum_5 : decode (mMc M_R_sum) 5 = .ok (.aload_n 0, 1) := by decide +kernel
theorem d_R_sum_6 : decode (mMc M_R_sum) 6 = .ok (.getfield 9, 3) := by decide +kernel
theorem d_R_sum_9 : decode (mMc M_R_sum) 9 = .ok (.iconst 4, 1) := by decide +kernel
theorem d_R_sum_10 : decode (mMc M_R_sum) 10 = .ok (.iaload, 1) := by decide +kernel
theorem d_R_sum_11 : decode (mMc M_R_sum) 11 = .ok (.if_icmp .ge 18, 3) := by decide +kernel
theorem d_R_sum_14 : decode (mMc M_R_sum) 14 = .ok (.iload_n 2, 1) := by decide +kernel
theorem d_R_sum_15 : decode (mMc M_R_sum) 15 = .ok (.aload_n 0, 1) := by decide +kernel
theorem d_R_sum_16 : decode (mMc M_R_sum) 16 = .ok (.iload_n 3, 1) := by decide +kernel
theorem d_R_sum_17 : decode (mMc M_R_sum) 17 = .ok (.iload_n 1, 1) := by decide +kernel
theorem d_R_sum_18 : decode (mMc M_R_sum) 18 = .ok (.invokevirtual 67, 3) := by decide +kernel
theorem d_R_sum_21 : decode (mMc M_R_sum) 21 = .ok (.iadd, 1) := by decide +kernel
theorem d_R_sum_22 : decode (mMc M_R_sum) 22 = .ok (.istore_n 2, 1) := by decide +kernel
theorem d_R_sum_23 : decode (mMc M_R_sum) 23 = .ok (.iinc 3 1, 3) := by decide +kernel
theorem d_R_sum_26 : decode (mMc M_R_sum) 26 = .ok (.goto (-22), 3) := by decide +kernel
theorem d_R_sum_29 : decode (mMc M_R_sum) 29 = .ok (.iload_n 2, 1) := by decide +kernel
theorem d_R_sum_30 : decode (mMc M_R_sum) 30 = .ok (.ireturn, 1) := by decide +kernel
theorem k_R_sum : mCd M_R_sum 1 := ⟨by decide, by decide, by decide +kernel, by decide, mG (9, 138) (by decide +kernel), mG (1, 15) (by decide +kernel)⟩
def M_R_billTotalByAccount : mM := (⟨"FloatingDockModel", "billTotalByAccount", "()I"⟩, prog_13_method_90_code, 1, (some .int), [])
theorem d_R_billTotalByAccount_0 : decode (mMc M_R_billTotalByAccount) 0 = .ok (.aload_n 0, 1) := by decide +kernel
theorem d_R_billTotalByAccount_1 : decode (mMc M_R_billTotalByAccount) 1 = .ok (.iconst 0, 1) := by decide +kernel
theorem d_R_billTotalByAccount_2 : decode (mMc M_R_billTotalByAccount) 2 = .ok (.putfield 42, 3) := by decide +kernel
theorem d_R_billTotalByAccount_5 : decode (mMc M_R_billTotalByAccount) 5 = .ok (.aload_n 0, 1) := by decide +kernel
theorem d_R_billTotalByAccount_6 : decode (mMc M_R_billTotalByAccount) 6 = .ok (.getfield 9, 3) := by decide +kernel
theorem d_R_billTotalByAccount_9 : decode (mMc M_R_billTotalByAccount) 9 = .ok (.bipush 6, 2) := by decide +kernel
theorem d_R_billTotalByAccount_11 : decode (mMc M_R_billTotalByAccount) 11 = .ok (.iaload, 1) := by decide +kernel
theorem d_R_billTotalByAccount_12 : decode (mMc M_R_billTotalByAccount) 12 = .ok (.aload_n 0, 1) := by decide +kernel
theorem d_R_billTotalByAccount_13 : decode (mMc M_R_billTotalByAccount) 13 = .ok (.getfield 9, 3) := by decide +kernel
theorem d_R_billTotalByAccount_16 : decode (mMc M_R_billTotalByAccount) 16 = .ok (.bipush 7, 2) := by decide +kernel
theorem d_R_billTotalByAccount_18 : decode (mMc M_R_billTotalByAccount) 18 = .ok (.iaload, 1) := by decide +kernel
theorem d_R_billTotalByAccount_19 : decode (mMc M_R_billTotalByAccount) 19 = .ok (.isub, 1) := by decide +kernel
theorem d_R_billTotalByAccount_20 : decode (mMc M_R_billTotalByAccount) 20 = .ok (.ireturn, 1) := by decide +kernel
theorem k_R_billTotalByAccount : mCd M_R_billTotalByAccount 0 := ⟨by decide, by decide, by decide +kernel, by decide, mG (9, 142) (by decide +kernel), mG (1, 15) (by decide +kernel)⟩
def M_R_paidTotal : mM := (⟨"FloatingDockModel", "paidTotal", "()I"⟩, prog_13_method_91_code, 1, (some .int), [])
theorem d_R_paidTotal_0 : decode (mMc M_R_paidTotal) 0 = .ok (.aload_n 0, 1) := by decide +kernel
theorem d_R_paidTotal_1 : decode (mMc M_R_paidTotal) 1 = .ok (.iconst 0, 1) := by decide +kernel
theorem d_R_paidTotal_2 : decode (mMc M_R_paidTotal) 2 = .ok (.putfield 42, 3) := by decide +kernel
theorem d_R_paidTotal_5 : decode (mMc M_R_paidTotal) 5 = .ok (.aload_n 0, 1) := by decide +kernel
theorem d_R_paidTotal_6 : decode (mMc M_R_paidTotal) 6 = .ok (.getfield 9, 3) := by decide +kernel
theorem d_R_paidTotal_9 : decode (mMc M_R_paidTotal) 9 = .ok (.bipush 7, 2) := by decide +kernel
theorem d_R_paidTotal_11 : decode (mMc M_R_paidTotal) 11 = .ok (.iaload, 1) := by decide +kernel
theorem d_R_paidTotal_12 : decode (mMc M_R_paidTotal) 12 = .ok (.ireturn, 1) := by decide +kernel
theorem k_R_paidTotal : mCd M_R_paidTotal 0 := ⟨by decide, by decide, by decide +kernel, by decide, mG (9, 146) (by decide +kernel), mG (1, 15) (by decide +kernel)⟩
def M_R_shipAtRank : mM := (⟨"FloatingDockModel", "shipAtRank", "(I)I"⟩, prog_13_method_92_code, 8, (some .int), [])
theorem d_R_shipAtRank_0 : decode (mMc M_R_shipAtRank) 0 = .ok (.iconst (-1), 1) := by decide +kernel
theorem d_R_shipAtRank_1 : decode (mMc M_R_shipAtRank) 1 = .ok (.istore_n 2, 1) := by decide +kernel
theorem d_R_shipAtRank_2 : decode (mMc M_R_shipAtRank) 2 = .ok (.iconst 0, 1) := by decide +kernel
theorem d_R_shipAtRank_3 : decode (mMc M_R_shipAtRank) 3 = .ok (.istore_n 3, 1) := by decide +kernel
theorem d_R_shipAtRank_4 : decode (mMc M_R_shipAtRank) 4 = .ok (.iload_n 3, 1) := by decide +kernel
theorem d_R_shipAtRank_5 : decode (mMc M_R_shipAtRank) 5 = .ok (.aload_n 0, 1) := by decide +kernel
theorem d_R_shipAtRank_6 : decode (mMc M_R_shipAtRank) 6 = .ok (.getfield 9, 3) := by decide +kernel
theorem d_R_shipAtRank_9 : decode (mMc M_R_shipAtRank) 9 = .ok (.iconst 4, 1) := by decide +kernel
theorem d_R_shipAtRank_10 : decode (mMc M_R_shipAtRank) 10 = .ok (.iaload, 1) := by decide +kernel
theorem d_R_shipAtRank_11 : decode (mMc M_R_shipAtRank) 11 = .ok (.if_icmp .ge 119, 3) := by decide +kernel
theorem d_R_shipAtRank_14 : decode (mMc M_R_shipAtRank) 14 = .ok (.iconst 0, 1) := by decide +kernel
theorem d_R_shipAtRank_15 : decode (mMc M_R_shipAtRank) 15 = .ok (.istore 4, 2) := by decide +kernel
theorem d_R_shipAtRank_17 : decode (mMc M_R_shipAtRank) 17 = .ok (.iconst 0, 1) := by decide +kernel
theorem d_R_shipAtRank_18 : decode (mMc M_R_shipAtRank) 18 = .ok (.istore 5, 2) := by decide +kernel
theorem d_R_shipAtRank_20 : decode (mMc M_R_shipAtRank) 20 = .ok (.iload 5, 2) := by decide +kernel
theorem d_R_shipAtRank_22 : decode (mMc M_R_shipAtRank) 22 = .ok (.aload_n 0, 1) := by decide +kernel
theorem d_R_shipAtRank_23 : decode (mMc M_R_shipAtRank) 23 = .ok (.getfield 9, 3) := by decide +kernel
theorem d_R_shipAtRank_26 : decode (mMc M_R_shipAtRank) 26 = .ok (.iconst 4, 1) := by decide +kernel
theorem d_R_shipAtRank_27 : decode (mMc M_R_shipAtRank) 27 = .ok (.iaload, 1) := by decide +kernel
theorem d_R_shipAtRank_28 : decode (mMc M_R_shipAtRank) 28 = .ok (.if_icmp .ge 79, 3) := by decide +kernel
theorem d_R_shipAtRank_31 : decode (mMc M_R_shipAtRank) 31 = .ok (.aload_n 0, 1) := by decide +kernel
theorem d_R_shipAtRank_32 : decode (mMc M_R_shipAtRank) 32 = .ok (.iload 5, 2) := by decide +kernel
theorem d_R_shipAtRank_34 : decode (mMc M_R_shipAtRank) 34 = .ok (.bipush 8, 2) := by decide +kernel
theorem d_R_shipAtRank_36 : decode (mMc M_R_shipAtRank) 36 = .ok (.invokevirtual 67, 3) := by decide +kernel
theorem d_R_shipAtRank_39 : decode (mMc M_R_shipAtRank) 39 = .ok (.aload_n 0, 1) := by decide +kernel
theorem d_R_shipAtRank_40 : decode (mMc M_R_shipAtRank) 40 = .ok (.iload_n 3, 1) := by decide +kernel
theorem d_R_shipAtRank_41 : decode (mMc M_R_shipAtRank) 41 = .ok (.bipush 8, 2) := by decide +kernel
theorem d_R_shipAtRank_43 : decode (mMc M_R_shipAtRank) 43 = .ok (.invokevirtual 67, 3) := by decide +kernel
theorem d_R_shipAtRank_46 : decode (mMc M_R_shipAtRank) 46 = .ok (.isub, 1) := by decide +kernel
theorem d_R_shipAtRank_47 : decode (mMc M_R_shipAtRank) 47 = .ok (.istore 6, 2) := by decide +kernel
theorem d_R_shipAtRank_49 : decode (mMc M_R_shipAtRank) 49 = .ok (.aload_n 0, 1) := by decide +kernel
theorem d_R_shipAtRank_50 : decode (mMc M_R_shipAtRank) 50 = .ok (.iload 5, 2) := by decide +kernel
theorem d_R_shipAtRank_52 : decode (mMc M_R_shipAtRank) 52 = .ok (.iconst 3, 1) := by decide +kernel
theorem d_R_shipAtRank_53 : decode (mMc M_R_shipAtRank) 53 = .ok (.invokevirtual 67, 3) := by decide +kernel
theorem d_R_shipAtRank_56 : decode (mMc M_R_shipAtRank) 56 = .ok (.aload_n 0, 1) := by decide +kernel
theorem d_R_shipAtRank_57 : decode (mMc M_R_shipAtRank) 57 = .ok (.iload_n 3, 1) := by decide +kernel
theorem d_R_shipAtRank_58 : decode (mMc M_R_shipAtRank) 58 = .ok (.iconst 3, 1) := by decide +kernel
theorem d_R_shipAtRank_59 : decode (mMc M_R_shipAtRank) 59 = .ok (.invokevirtual 67, 3) := by decide +kernel
theorem d_R_shipAtRank_62 : decode (mMc M_R_shipAtRank) 62 = .ok (.isub, 1) := by decide +kernel
theorem d_R_shipAtRank_63 : decode (mMc M_R_shipAtRank) 63 = .ok (.istore 7, 2) := by decide +kernel
theorem d_R_shipAtRank_65 : decode (mMc M_R_shipAtRank) 65 = .ok (.iload 4, 2) := by decide +kernel
theorem d_R_shipAtRank_67 : decode (mMc M_R_shipAtRank) 67 = .ok (.iload 6, 2) := by decide +kernel
theorem d_R_shipAtRank_69 : decode (mMc M_R_shipAtRank) 69 = .ok (.ifCond .gt 24, 3) := by decide +kernel
theorem d_R_shipAtRank_72 : decode (mMc M_R_shipAtRank) 72 = .ok (.iload 6, 2) := by decide +kernel
theorem d_R_shipAtRank_74 : decode (mMc M_R_shipAtRank) 74 = .ok (.ifCond .ne 23, 3) := by decide +kernel
theorem d_R_shipAtRank_77 : decode (mMc M_R_shipAtRank) 77 = .ok (.iload 7, 2) := by decide +kernel
theorem d_R_shipAtRank_79 : decode (mMc M_R_shipAtRank) 79 = .ok (.ifCond .gt 14, 3) := by decide +kernel
theorem d_R_shipAtRank_82 : decode (mMc M_R_shipAtRank) 82 = .ok (.iload 7, 2) := by decide +kernel
theorem d_R_shipAtRank_84 : decode (mMc M_R_shipAtRank) 84 = .ok (.ifCond .ne 13, 3) := by decide +kernel
theorem d_R_shipAtRank_87 : decode (mMc M_R_shipAtRank) 87 = .ok (.iload 5, 2) := by decide +kernel
theorem d_R_shipAtRank_89 : decode (mMc M_R_shipAtRank) 89 = .ok (.iload_n 3, 1) := by decide +kernel
theorem d_R_shipAtRank_90 : decode (mMc M_R_shipAtRank) 90 = .ok (.if_icmp .ge 7, 3) := by decide +kernel
theorem d_R_shipAtRank_93 : decode (mMc M_R_shipAtRank) 93 = .ok (.iconst 1, 1) := by decide +kernel
theorem d_R_shipAtRank_94 : decode (mMc M_R_shipAtRank) 94 = .ok (.goto 4, 3) := by decide +kernel
theorem d_R_shipAtRank_97 : decode (mMc M_R_shipAtRank) 97 = .ok (.iconst 0, 1) := by decide +kernel
theorem d_R_shipAtRank_98 : decode (mMc M_R_shipAtRank) 98 = .ok (.iadd, 1) := by decide +kernel
theorem d_R_shipAtRank_99 : decode (mMc M_R_shipAtRank) 99 = .ok (.istore 4, 2) := by decide +kernel
theorem d_R_shipAtRank_101 : decode (mMc M_R_shipAtRank) 101 = .ok (.iinc 5 1, 3) := by decide +kernel
theorem d_R_shipAtRank_104 : decode (mMc M_R_shipAtRank) 104 = .ok (.goto (-84), 3) := by decide +kernel
theorem d_R_shipAtRank_107 : decode (mMc M_R_shipAtRank) 107 = .ok (.iload 4, 2) := by decide +kernel
theorem d_R_shipAtRank_109 : decode (mMc M_R_shipAtRank) 109 = .ok (.iload_n 1, 1) := by decide +kernel
theorem d_R_shipAtRank_110 : decode (mMc M_R_shipAtRank) 110 = .ok (.if_icmp .ne 12, 3) := by decide +kernel
theorem d_R_shipAtRank_113 : decode (mMc M_R_shipAtRank) 113 = .ok (.aload_n 0, 1) := by decide +kernel
theorem d_R_shipAtRank_114 : decode (mMc M_R_shipAtRank) 114 = .ok (.iload_n 3, 1) := by decide +kernel
theorem d_R_shipAtRank_115 : decode (mMc M_R_shipAtRank) 115 = .ok (.iconst 0, 1) := by decide +kernel
theorem d_R_shipAtRank_116 : decode (mMc M_R_shipAtRank) 116 = .ok (.invokevirtual 67, 3) := by decide +kernel
theorem d_R_shipAtRank_119 : decode (mMc M_R_shipAtRank) 119 = .ok (.goto 4, 3) := by decide +kernel
theorem d_R_shipAtRank_122 : decode (mMc M_R_shipAtRank) 122 = .ok (.iload_n 2, 1) := by decide +kernel
theorem d_R_shipAtRank_123 : decode (mMc M_R_shipAtRank) 123 = .ok (.istore_n 2, 1) := by decide +kernel
theorem d_R_shipAtRank_124 : decode (mMc M_R_shipAtRank) 124 = .ok (.iinc 3 1, 3) := by decide +kernel
theorem d_R_shipAtRank_127 : decode (mMc M_R_shipAtRank) 127 = .ok (.goto (-123), 3) := by decide +kernel
theorem d_R_shipAtRank_130 : decode (mMc M_R_shipAtRank) 130 = .ok (.aload_n 0, 1) := by decide +kernel
theorem d_R_shipAtRank_131 : decode (mMc M_R_shipAtRank) 131 = .ok (.iload_n 2, 1) := by decide +kernel
theorem d_R_shipAtRank_132 : decode (mMc M_R_shipAtRank) 132 = .ok (.iconst (-1), 1) := by decide +kernel
theorem d_R_shipAtRank_133 : decode (mMc M_R_shipAtRank) 133 = .ok (.if_icmp .eq 7, 3) := by decide +kernel
theorem d_R_shipAtRank_136 : decode (mMc M_R_shipAtRank) 136 = .ok (.iconst 1, 1) := by decide +kernel
theorem d_R_shipAtRank_137 : decode (mMc M_R_shipAtRank) 137 = .ok (.goto 4, 3) := by decide +kernel
theorem d_R_shipAtRank_140 : decode (mMc M_R_shipAtRank) 140 = .ok (.iconst 0, 1) := by decide +kernel
theorem d_R_shipAtRank_141 : decode (mMc M_R_shipAtRank) 141 = .ok (.invokevirtual 59, 3) := by decide +kernel
theorem d_R_shipAtRank_144 : decode (mMc M_R_shipAtRank) 144 = .ok (.ifCond .eq 7, 3) := by decide +kernel
theorem d_R_shipAtRank_147 : decode (mMc M_R_shipAtRank) 147 = .ok (.iload_n 2, 1) := by decide +kernel
theorem d_R_shipAtRank_148 : decode (mMc M_R_shipAtRank) 148 = .ok (.goto 4, 3) := by decide +kernel
theorem d_R_shipAtRank_151 : decode (mMc M_R_shipAtRank) 151 = .ok (.iconst 0, 1) := by decide +kernel
theorem d_R_shipAtRank_152 : decode (mMc M_R_shipAtRank) 152 = .ok (.ireturn, 1) := by decide +kernel
theorem k_R_shipAtRank : mCd M_R_shipAtRank 1 := ⟨by decide, by decide, by decide +kernel, by decide, mG (9, 150) (by decide +kernel), mG (1, 15) (by decide +kernel)⟩
def M_R_meanDirt : mM := (⟨"FloatingDockModel", "meanDirt", "()D"⟩, prog_13_method_93_code, 1, (some .double), [])
theorem d_R_meanDirt_0 : decode (mMc M_R_meanDirt) 0 = .ok (.aload_n 0, 1) := by decide +kernel
theorem d_R_meanDirt_1 : decode (mMc M_R_meanDirt) 1 = .ok (.aload_n 0, 1) := by decide +kernel
theorem d_R_meanDirt_2 : decode (mMc M_R_meanDirt) 2 = .ok (.getfield 9, 3) := by decide +kernel
theorem d_R_meanDirt_5 : decode (mMc M_R_meanDirt) 5 = .ok (.iconst 4, 1) := by decide +kernel
theorem d_R_meanDirt_6 : decode (mMc M_R_meanDirt) 6 = .ok (.iaload, 1) := by decide +kernel
theorem d_R_meanDirt_7 : decode (mMc M_R_meanDirt) 7 = .ok (.ifCond .le 7, 3) := by decide +kernel
theorem d_R_meanDirt_10 : decode (mMc M_R_meanDirt) 10 = .ok (.iconst 1, 1) := by decide +kernel
theorem d_R_meanDirt_11 : decode (mMc M_R_meanDirt) 11 = .ok (.goto 4, 3) := by decide +kernel
theorem d_R_meanDirt_14 : decode (mMc M_R_meanDirt) 14 = .ok (.iconst 0, 1) := by decide +kernel
theorem d_R_meanDirt_15 : decode (mMc M_R_meanDirt) 15 = .ok (.invokevirtual 59, 3) := by decide +kernel
theorem d_R_meanDirt_18 : decode (mMc M_R_meanDirt) 18 = .ok (.ifCond .eq 20, 3) := by decide +kernel
theorem d_R_meanDirt_21 : decode (mMc M_R_meanDirt) 21 = .ok (.aload_n 0, 1) := by decide +kernel
theorem d_R_meanDirt_22 : decode (mMc M_R_meanDirt) 22 = .ok (.iconst 3, 1) := by decide +kernel
theorem d_R_meanDirt_23 : decode (mMc M_R_meanDirt) 23 = .ok (.invokevirtual 216, 3) := by decide +kernel
theorem d_R_meanDirt_26 : decode (mMc M_R_meanDirt) 26 = .ok (.i2d, 1) := by decide +kernel
theorem d_R_meanDirt_27 : decode (mMc M_R_meanDirt) 27 = .ok (.aload_n 0, 1) := by decide +kernel
theorem d_R_meanDirt_28 : decode (mMc M_R_meanDirt) 28 = .ok (.getfield 9, 3) := by decide +kernel
theorem d_R_meanDirt_31 : decode (mMc M_R_meanDirt) 31 = .ok (.iconst 4, 1) := by decide +kernel
theorem d_R_meanDirt_32 : decode (mMc M_R_meanDirt) 32 = .ok (.iaload, 1) := by decide +kernel
theorem d_R_meanDirt_33 : decode (mMc M_R_meanDirt) 33 = .ok (.i2d, 1) := by decide +kernel
theorem d_R_meanDirt_34 : decode (mMc M_R_meanDirt) 34 = .ok (.ddiv, 1) := by decide +kernel
theorem d_R_meanDirt_35 : decode (mMc M_R_meanDirt) 35 = .ok (.goto 4, 3) := by decide +kernel
theorem d_R_meanDirt_38 : decode (mMc M_R_meanDirt) 38 = .ok (.dconst 0, 1) := by decide +kernel
theorem d_R_meanDirt_39 : decode (mMc M_R_meanDirt) 39 = .ok (.dreturn, 1) := by decide +kernel
theorem k_R_meanDirt : mCd M_R_meanDirt 0 := ⟨by decide, by decide, by decide +kernel, by decide, mG (9, 154) (by decide +kernel), mG (1, 15) (by decide +kernel)⟩
def M_R_takenShare : mM := (⟨"FloatingDockModel", "takenShare", "()F"⟩, prog_13_method_94_code, 1, (some .float), [])
theorem d_R_takenShare_0 : decode (mMc M_R_takenShare) 0 = .ok (.aload_n 0, 1) := by decide +kernel
theorem d_R_takenShare_1 : decode (mMc M_R_takenShare) 1 = .ok (.iconst 0, 1) := by decide +kernel
theorem d_R_takenShare_2 : decode (mMc M_R_takenShare) 2 = .ok (.putfield 42, 3) := by decide +kernel
theorem d_R_takenShare_5 : decode (mMc M_R_takenShare) 5 = .ok (.bipush 60, 2) := by decide +kernel
theorem d_R_takenShare_7 : decode (mMc M_R_takenShare) 7 = .ok (.aload_n 0, 1) := by decide +kernel
theorem d_R_takenShare_8 : decode (mMc M_R_takenShare) 8 = .ok (.invokevirtual 194, 3) := by decide +kernel
theorem d_R_takenShare_11 : decode (mMc M_R_takenShare) 11 = .ok (.isub, 1) := by decide +kernel
theorem d_R_takenShare_12 : decode (mMc M_R_takenShare) 12 = .ok (.i2f, 1) := by decide +kernel
theorem d_R_takenShare_13 : decode (mMc M_R_takenShare) 13 = .ok (.ldc 219, 2) := by decide +kernel
theorem d_R_takenShare_15 : decode (mMc M_R_takenShare) 15 = .ok (.fdiv, 1) := by decide +kernel
theorem d_R_takenShare_16 : decode (mMc M_R_takenShare) 16 = .ok (.freturn, 1) := by decide +kernel
theorem k_R_takenShare : mCd M_R_takenShare 0 := ⟨by decide, by decide, by decide +kernel, by decide, mG (9, 158) (by decide +kernel), mG (1, 15) (by decide +kernel)⟩
def M_R_isConsistent : mM := (⟨"FloatingDockModel", "isConsistent", "()Z"⟩, prog_13_method_95_code, 1, (some .boolean), [])
theorem d_R_isConsistent_0 : decode (mMc M_R_isConsistent) 0 = .ok (.aload_n 0, 1) := by decide +kernel
theorem d_R_isConsistent_1 : decode (mMc M_R_isConsistent) 1 = .ok (.iconst 0, 1) := by decide +kernel
theorem d_R_isConsistent_2 : decode (mMc M_R_isConsistent) 2 = .ok (.putfield 42, 3) := by decide +kernel
theorem d_R_isConsistent_5 : decode (mMc M_R_isConsistent) 5 = .ok (.iconst 1, 1) := by decide +kernel
theorem d_R_isConsistent_6 : decode (mMc M_R_isConsistent) 6 = .ok (.ireturn, 1) := by decide +kernel
theorem k_R_isConsistent : mCd M_R_isConsistent 0 := ⟨by decide, by decide, by decide +kernel, by decide, mG (9, 163) (by decide +kernel), mG (1, 15) (by decide +kernel)⟩
def M_R_describeDock : mM := (⟨"FloatingDockModel", "describeDock", "()I"⟩, prog_13_method_98_code, 3, (some .int), [])
theorem d_R_describeDock_0 : decode (mMc M_R_describeDock) 0 = .ok (.aload_n 0, 1) := by decide +kernel
theorem d_R_describeDock_1 : decode (mMc M_R_describeDock) 1 = .ok (.iconst 0, 1) := by decide +kernel
theorem d_R_describeDock_2 : decode (mMc M_R_describeDock) 2 = .ok (.putfield 42, 3) := by decide +kernel
theorem d_R_describeDock_5 : decode (mMc M_R_describeDock) 5 = .ok (.iconst 0, 1) := by decide +kernel
theorem d_R_describeDock_6 : decode (mMc M_R_describeDock) 6 = .ok (.istore_n 1, 1) := by decide +kernel
theorem d_R_describeDock_7 : decode (mMc M_R_describeDock) 7 = .ok (.iload_n 1, 1) := by decide +kernel
theorem d_R_describeDock_8 : decode (mMc M_R_describeDock) 8 = .ok (.bipush 60, 2) := by decide +kernel
theorem d_R_describeDock_10 : decode (mMc M_R_describeDock) 10 = .ok (.if_icmp .ge 56, 3) := by decide +kernel
theorem d_R_describeDock_13 : decode (mMc M_R_describeDock) 13 = .ok (.aload_n 0, 1) := by decide +kernel
theorem d_R_describeDock_14 : decode (mMc M_R_describeDock) 14 = .ok (.iload_n 1, 1) := by decide +kernel
theorem d_R_describeDock_15 : decode (mMc M_R_describeDock) 15 = .ok (.invokevirtual 87, 3) := by decide +kernel
theorem d_R_describeDock_18 : decode (mMc M_R_describeDock) 18 = .ok (.istore_n 2, 1) := by decide +kernel
theorem d_R_describeDock_19 : decode (mMc M_R_describeDock) 19 = .ok (.aload_n 0, 1) := by decide +kernel
theorem d_R_describeDock_20 : decode (mMc M_R_describeDock) 20 = .ok (.getfield 32, 3) := by decide +kernel
theorem d_R_describeDock_23 : decode (mMc M_R_describeDock) 23 = .ok (.iload_n 1, 1) := by decide +kernel
theorem d_R_describeDock_24 : decode (mMc M_R_describeDock) 24 = .ok (.iload_n 2, 1) := by decide +kernel
theorem d_R_describeDock_25 : decode (mMc M_R_describeDock) 25 = .ok (.iconst (-1), 1) := by decide +kernel
theorem d_R_describeDock_26 : decode (mMc M_R_describeDock) 26 = .ok (.if_icmp .eq 18, 3) := by decide +kernel
theorem d_R_describeDock_29 : decode (mMc M_R_describeDock) 29 = .ok (.bipush 48, 2) := by decide +kernel
theorem d_R_describeDock_31 : decode (mMc M_R_describeDock) 31 = .ok (.aload_n 0, 1) := by decide +kernel
theorem d_R_describeDock_32 : decode (mMc M_R_describeDock) 32 = .ok (.iload_n 2, 1) := by decide +kernel
theorem d_R_describeDock_33 : decode (mMc M_R_describeDock) 33 = .ok (.iconst 0, 1) := by decide +kernel
theorem d_R_describeDock_34 : decode (mMc M_R_describeDock) 34 = .ok (.invokevirtual 67, 3) := by decide +kernel
theorem d_R_describeDock_37 : decode (mMc M_R_describeDock) 37 = .ok (.bipush 10, 2) := by decide +kernel
theorem d_R_describeDock_39 : decode (mMc M_R_describeDock) 39 = .ok (.irem, 1) := by decide +kernel
theorem d_R_describeDock_40 : decode (mMc M_R_describeDock) 40 = .ok (.iadd, 1) := by decide +kernel
theorem d_R_describeDock_41 : decode (mMc M_R_describeDock) 41 = .ok (.goto 18, 3) := by decide +kernel
theorem d_R_describeDock_44 : decode (mMc M_R_describeDock) 44 = .ok (.aload_n 0, 1) := by decide +kernel
theorem d_R_describeDock_45 : decode (mMc M_R_describeDock) 45 = .ok (.iload_n 1, 1) := by decide +kernel
theorem d_R_describeDock_46 : decode (mMc M_R_describeDock) 46 = .ok (.invokevirtual 155, 3) := by decide +kernel
theorem d_R_describeDock_49 : decode (mMc M_R_describeDock) 49 = .ok (.ifCond .eq 8, 3) := by decide +kernel
theorem d_R_describeDock_52 : decode (mMc M_R_describeDock) 52 = .ok (.bipush 94, 2) := by decide +kernel
theorem d_R_describeDock_54 : decode (mMc M_R_describeDock) 54 = .ok (.goto 5, 3) := by decide +kernel
theorem d_R_describeDock_57 : decode (mMc M_R_describeDock) 57 = .ok (.bipush 46, 2) := by decide +kernel
theorem d_R_describeDock_59 : decode (mMc M_R_describeDock) 59 = .ok (.iastore, 1) := by decide +kernel
theorem d_R_describeDock_60 : decode (mMc M_R_describeDock) 60 = .ok (.iinc 1 1, 3) := by decide +kernel
theorem d_R_describeDock_63 : decode (mMc M_R_describeDock) 63 = .ok (.goto (-56), 3) := by decide +kernel
theorem d_R_describeDock_66 : decode (mMc M_R_describeDock) 66 = .ok (.aload_n 0, 1) := by decide +kernel
theorem d_R_describeDock_67 : decode (mMc M_R_describeDock) 67 = .ok (.bipush 60, 2) := by decide +kernel
theorem d_R_describeDock_69 : decode (mMc M_R_describeDock) 69 = .ok (.putfield 223, 3) := by decide +kernel
theorem d_R_describeDock_72 : decode (mMc M_R_describeDock) 72 = .ok (.bipush 60, 2) := by decide +kernel
theorem d_R_describeDock_74 : decode (mMc M_R_describeDock) 74 = .ok (.ireturn, 1) := by decide +kernel
theorem k_R_describeDock : mCd M_R_describeDock 0 := ⟨by decide, by decide, by decide +kernel, by decide, mG (9, 167) (by decide +kernel), mG (1, 15) (by decide +kernel)⟩
def M_R_describeBill : mM := (⟨"FloatingDockModel", "describeBill", "(I)I"⟩, prog_13_method_99_code, 4, (some .int), [])
theorem d_R_describeBill_0 : decode (mMc M_R_describeBill) 0 = .ok (.aload_n 0, 1) := by decide +kernel
theorem d_R_describeBill_1 : decode (mMc M_R_describeBill) 1 = .ok (.iload_n 1, 1) := by decide +kernel
theorem d_R_describeBill_2 : decode (mMc M_R_describeBill) 2 = .ok (.invokevirtual 104, 3) := by decide +kernel
theorem d_R_describeBill_5 : decode (mMc M_R_describeBill) 5 = .ok (.istore_n 2, 1) := by decide +kernel
theorem d_R_describeBill_6 : decode (mMc M_R_describeBill) 6 = .ok (.aload_n 0, 1) := by decide +kernel
theorem d_R_describeBill_7 : decode (mMc M_R_describeBill) 7 = .ok (.iload_n 2, 1) := by decide +kernel
theorem d_R_describeBill_8 : decode (mMc M_R_describeBill) 8 = .ok (.iconst (-1), 1) := by decide +kernel
theorem d_R_describeBill_9 : decode (mMc M_R_describeBill) 9 = .ok (.if_icmp .eq 7, 3) := by decide +kernel
theorem d_R_describeBill_12 : decode (mMc M_R_describeBill) 12 = .ok (.iconst 1, 1) := by decide +kernel
theorem d_R_describeBill_13 : decode (mMc M_R_describeBill) 13 = .ok (.goto 4, 3) := by decide +kernel
theorem d_R_describeBill_16 : decode (mMc M_R_describeBill) 16 = .ok (.iconst 0, 1) := by decide +kernel
theorem d_R_describeBill_17 : decode (mMc M_R_describeBill) 17 = .ok (.invokevirtual 59, 3) := by decide +kernel
theorem d_R_describeBill_20 : decode (mMc M_R_describeBill) 20 = .ok (.ifCond .ne 5, 3) := by decide +kernel
theorem d_R_describeBill_23 : decode (mMc M_R_describeBill) 23 = .ok (.iconst 0, 1) := by decide +kernel
theorem d_R_describeBill_24 : decode (mMc M_R_describeBill) 24 = .ok (.ireturn, 1) := by decide +kernel
theorem d_R_describeBill_25 : decode (mMc M_R_describeBill) 25 = .ok (.aload_n 0, 1) := by decide +kernel
theorem d_R_describeBill_26 : decode (mMc M_R_describeBill) 26 = .ok (.aload_n 0, 1) := by decide +kernel
theorem d_R_describeBill_27 : decode (mMc M_R_describeBill) 27 = .ok (.aload_n 0, 1) := by decide +kernel
theorem d_R_describeBill_28 : decode (mMc M_R_describeBill) 28 = .ok (.aload_n 0, 1) := by decide +kernel
theorem d_R_describeBill_29 : decode (mMc M_R_describeBill) 29 = .ok (.iconst 0, 1) := by decide +kernel
theorem d_R_describeBill_30 : decode (mMc M_R_describeBill) 30 = .ok (.bipush 35, 2) := by decide +kernel
theorem d_R_describeBill_32 : decode (mMc M_R_describeBill) 32 = .ok (.invokevirtual 220, 3) := by decide +kernel
theorem d_R_describeBill_35 : decode (mMc M_R_describeBill) 35 = .ok (.iload_n 1, 1) := by decide +kernel
theorem d_R_describeBill_36 : decode (mMc M_R_describeBill) 36 = .ok (.invokevirtual 226, 3) := by decide +kernel
theorem d_R_describeBill_39 : decode (mMc M_R_describeBill) 39 = .ok (.bipush 58, 2) := by decide +kernel
theorem d_R_describeBill_41 : decode (mMc M_R_describeBill) 41 = .ok (.invokevirtual 220, 3) := by decide +kernel
theorem d_R_describeBill_44 : decode (mMc M_R_describeBill) 44 = .ok (.aload_n 0, 1) := by decide +kernel
theorem d_R_describeBill_45 : decode (mMc M_R_describeBill) 45 = .ok (.iload_n 2, 1) := by decide +kernel
theorem d_R_describeBill_46 : decode (mMc M_R_describeBill) 46 = .ok (.bipush 8, 2) := by decide +kernel
theorem d_R_describeBill_48 : decode (mMc M_R_describeBill) 48 = .ok (.invokevirtual 67, 3) := by decide +kernel
theorem d_R_describeBill_51 : decode (mMc M_R_describeBill) 51 = .ok (.invokevirtual 226, 3) := by decide +kernel
theorem d_R_describeBill_54 : decode (mMc M_R_describeBill) 54 = .ok (.istore_n 3, 1) := by decide +kernel
theorem d_R_describeBill_55 : decode (mMc M_R_describeBill) 55 = .ok (.aload_n 0, 1) := by decide +kernel
theorem d_R_describeBill_56 : decode (mMc M_R_describeBill) 56 = .ok (.aload_n 0, 1) := by decide +kernel
theorem d_R_describeBill_57 : decode (mMc M_R_describeBill) 57 = .ok (.iload_n 3, 1) := by decide +kernel
theorem d_R_describeBill_58 : decode (mMc M_R_describeBill) 58 = .ok (.bipush 47, 2) := by decide +kernel
theorem d_R_describeBill_60 : decode (mMc M_R_describeBill) 60 = .ok (.invokevirtual 220, 3) := by decide +kernel
theorem d_R_describeBill_63 : decode (mMc M_R_describeBill) 63 = .ok (.aload_n 0, 1) := by decide +kernel
theorem d_R_describeBill_64 : decode (mMc M_R_describeBill) 64 = .ok (.iload_n 2, 1) := by decide +kernel
theorem d_R_describeBill_65 : decode (mMc M_R_describeBill) 65 = .ok (.iconst 3, 1) := by decide +kernel
theorem d_R_describeBill_66 : decode (mMc M_R_describeBill) 66 = .ok (.invokevirtual 67, 3) := by decide +kernel
theorem d_R_describeBill_69 : decode (mMc M_R_describeBill) 69 = .ok (.invokevirtual 226, 3) := by decide +kernel
theorem d_R_describeBill_72 : decode (mMc M_R_describeBill) 72 = .ok (.istore_n 3, 1) := by decide +kernel
theorem d_R_describeBill_73 : decode (mMc M_R_describeBill) 73 = .ok (.aload_n 0, 1) := by decide +kernel
theorem d_R_describeBill_74 : decode (mMc M_R_describeBill) 74 = .ok (.iload_n 2, 1) := by decide +kernel
theorem d_R_describeBill_75 : decode (mMc M_R_describeBill) 75 = .ok (.bipush 6, 2) := by decide +kernel
theorem d_R_describeBill_77 : decode (mMc M_R_describeBill) 77 = .ok (.invokevirtual 67, 3) := by decide +kernel
theorem d_R_describeBill_80 : decode (mMc M_R_describeBill) 80 = .ok (.ifCond .ne 7, 3) := by decide +kernel
theorem d_R_describeBill_83 : decode (mMc M_R_describeBill) 83 = .ok (.iload_n 3, 1) := by decide +kernel
theorem d_R_describeBill_84 : decode (mMc M_R_describeBill) 84 = .ok (.goto 21, 3) := by decide +kernel
theorem d_R_describeBill_87 : decode (mMc M_R_describeBill) 87 = .ok (.aload_n 0, 1) := by decide +kernel
theorem d_R_describeBill_88 : decode (mMc M_R_describeBill) 88 = .ok (.aload_n 0, 1) := by decide +kernel
theorem d_R_describeBill_89 : decode (mMc M_R_describeBill) 89 = .ok (.iload_n 3, 1) := by decide +kernel
theorem d_R_describeBill_90 : decode (mMc M_R_describeBill) 90 = .ok (.bipush 33, 2) := by decide +kernel
theorem d_R_describeBill_92 : decode (mMc M_R_describeBill) 92 = .ok (.invokevirtual 220, 3) := by decide +kernel
theorem d_R_describeBill_95 : decode (mMc M_R_describeBill) 95 = .ok (.aload_n 0, 1) := by decide +kernel
theorem d_R_describeBill_96 : decode (mMc M_R_describeBill) 96 = .ok (.iload_n 2, 1) := by decide +kernel
theorem d_R_describeBill_97 : decode (mMc M_R_describeBill) 97 = .ok (.bipush 6, 2) := by decide +kernel
theorem d_R_describeBill_99 : decode (mMc M_R_describeBill) 99 = .ok (.invokevirtual 67, 3) := by decide +kernel
theorem d_R_describeBill_102 : decode (mMc M_R_describeBill) 102 = .ok (.invokevirtual 226, 3) := by decide +kernel
theorem d_R_describeBill_105 : decode (mMc M_R_describeBill) 105 = .ok (.istore_n 3, 1) := by decide +kernel
theorem d_R_describeBill_106 : decode (mMc M_R_describeBill) 106 = .ok (.aload_n 0, 1) := by decide +kernel
theorem d_R_describeBill_107 : decode (mMc M_R_describeBill) 107 = .ok (.aload_n 0, 1) := by decide +kernel
theorem d_R_describeBill_108 : decode (mMc M_R_describeBill) 108 = .ok (.iload_n 2, 1) := by decide +kernel
theorem d_R_describeBill_109 : decode (mMc M_R_describeBill) 109 = .ok (.invokevirtual 79, 3) := by decide +kernel
theorem d_R_describeBill_112 : decode (mMc M_R_describeBill) 112 = .ok (.ifCond .eq 26, 3) := by decide +kernel
theorem d_R_describeBill_115 : decode (mMc M_R_describeBill) 115 = .ok (.aload_n 0, 1) := by decide +kernel
theorem d_R_describeBill_116 : decode (mMc M_R_describeBill) 116 = .ok (.iload_n 3, 1) := by decide +kernel
theorem d_R_describeBill_117 : decode (mMc M_R_describeBill) 117 = .ok (.aload_n 0, 1) := by decide +kernel
theorem d_R_describeBill_118 : decode (mMc M_R_describeBill) 118 = .ok (.iload_n 2, 1) := by decide +kernel
theorem d_R_describeBill_119 : decode (mMc M_R_describeBill) 119 = .ok (.invokevirtual 128, 3) := by decide +kernel
theorem d_R_describeBill_122 : decode (mMc M_R_describeBill) 122 = .ok (.ifCond .eq 8, 3) := by decide +kernel
theorem d_R_describeBill_125 : decode (mMc M_R_describeBill) 125 = .ok (.bipush 126, 2) := by decide +kernel
theorem d_R_describeBill_127 : decode (mMc M_R_describeBill) 127 = .ok (.goto 5, 3) := by decide +kernel
theorem d_R_describeBill_130 : decode (mMc M_R_describeBill) 130 = .ok (.bipush 95, 2) := by decide +kernel
theorem d_R_describeBill_132 : decode (mMc M_R_describeBill) 132 = .ok (.invokevirtual 220, 3) := by decide +kernel
theorem d_R_describeBill_135 : decode (mMc M_R_describeBill) 135 = .ok (.goto 4, 3) := by decide +kernel
theorem d_R_describeBill_138 : decode (mMc M_R_describeBill) 138 = .ok (.iload_n 3, 1) := by decide +kernel
theorem d_R_describeBill_139 : decode (mMc M_R_describeBill) 139 = .ok (.putfield 223, 3) := by decide +kernel
theorem d_R_describeBill_142 : decode (mMc M_R_describeBill) 142 = .ok (.aload_n 0, 1) := by decide +kernel
theorem d_R_describeBill_143 : decode (mMc M_R_describeBill) 143 = .ok (.getfield 223, 3) := by decide +kernel
theorem d_R_describeBill_146 : decode (mMc M_R_describeBill) 146 = .ok (.ireturn, 1) := by decide +kernel
theorem k_R_describeBill : mCd M_R_describeBill 1 := ⟨by decide, by decide, by decide +kernel, by decide, mG (9, 171) (by decide +kernel), mG (1, 15) (by decide +kernel)⟩
def M_R_put : mM := (⟨"FloatingDockModel", "put", "(II)I"⟩, prog_13_method_96_code, 3, (some .int), [])
theorem d_R_put_0 : decode (mMc M_R_put) 0 = .ok (.aload_n 0, 1) := by decide +kernel
theorem d_R_put_1 : decode (mMc M_R_put) 1 = .ok (.getfield 32, 3) := by decide +kernel
theorem d_R_put_4 : decode (mMc M_R_put) 4 = .ok (.iload_n 1, 1) := by decide +kernel
theorem d_R_put_5 : decode (mMc M_R_put) 5 = .ok (.iload_n 2, 1) := by decide +kernel
theorem d_R_put_6 : decode (mMc M_R_put) 6 = .ok (.iastore, 1) := by decide +kernel
theorem d_R_put_7 : decode (mMc M_R_put) 7 = .ok (.iload_n 1, 1) := by decide +kernel
theorem d_R_put_8 : decode (mMc M_R_put) 8 = .ok (.iconst 1, 1) := by decide +kernel
theorem d_R_put_9 : decode (mMc M_R_put) 9 = .ok (.iadd, 1) := by decide +kernel
theorem d_R_put_10 : decode (mMc M_R_put) 10 = .ok (.ireturn, 1) := by decide +kernel
theorem k_R_put : mCd M_R_put 2 := ⟨by decide, by decide, by decide +kernel, by decide, mG (9, 175) (by decide +kernel), mG (1, 15) (by decide +kernel)⟩
def M_R_writesNumber : mM := (⟨"FloatingDockModel", "writesNumber", "(II)I"⟩, prog_13_method_97_code, 6, (some .int), [])
theorem d_R_writesNumber_0 : decode (mMc M_R_writesNumber) 0 = .ok (.iload_n 1, 1) := by decide +kernel
theorem d_R_writesNumber_1 : decode (mMc M_R_writesNumber) 1 = .ok (.istore_n 3, 1) := by decide +kernel
theorem d_R_writesNumber_2 : decode (mMc M_R_writesNumber) 2 = .ok (.iconst 1, 1) := by decide +kernel
theorem d_R_writesNumber_3 : decode (mMc M_R_writesNumber) 3 = .ok (.istore 4, 2) := by decide +kernel
theorem d_R_writesNumber_5 : decode (mMc M_R_writesNumber) 5 = .ok (.iload_n 2, 1) := by decide +kernel
theorem d_R_writesNumber_6 : decode (mMc M_R_writesNumber) 6 = .ok (.iload 4, 2) := by decide +kernel
theorem d_R_writesNumber_8 : decode (mMc M_R_writesNumber) 8 = .ok (.idiv, 1) := by decide +kernel
theorem d_R_writesNumber_9 : decode (mMc M_R_writesNumber) 9 = .ok (.bipush 9, 2) := by decide +kernel
theorem d_R_writesNumber_11 : decode (mMc M_R_writesNumber) 11 = .ok (.if_icmp .le 13, 3) := by decide +kernel
theorem d_R_writesNumber_14 : decode (mMc M_R_writesNumber) 14 = .ok (.iload 4, 2) := by decide +kernel
theorem d_R_writesNumber_16 : decode (mMc M_R_writesNumber) 16 = .ok (.bipush 10, 2) := by decide +kernel
theorem d_R_writesNumber_18 : decode (mMc M_R_writesNumber) 18 = .ok (.imul, 1) := by decide +kernel
theorem d_R_writesNumber_19 : decode (mMc M_R_writesNumber) 19 = .ok (.istore 4, 2) := by decide +kernel
theorem d_R_writesNumber_21 : decode (mMc M_R_writesNumber) 21 = .ok (.goto (-16), 3) := by decide +kernel
theorem d_R_writesNumber_24 : decode (mMc M_R_writesNumber) 24 = .ok (.iload 4, 2) := by decide +kernel
theorem d_R_writesNumber_26 : decode (mMc M_R_writesNumber) 26 = .ok (.istore 5, 2) := by decide +kernel
theorem d_R_writesNumber_28 : decode (mMc M_R_writesNumber) 28 = .ok (.iload 5, 2) := by decide +kernel
theorem d_R_writesNumber_30 : decode (mMc M_R_writesNumber) 30 = .ok (.ifCond .le 29, 3) := by decide +kernel
theorem d_R_writesNumber_33 : decode (mMc M_R_writesNumber) 33 = .ok (.aload_n 0, 1) := by decide +kernel
theorem d_R_writesNumber_34 : decode (mMc M_R_writesNumber) 34 = .ok (.iload_n 3, 1) := by decide +kernel
theorem d_R_writesNumber_35 : decode (mMc M_R_writesNumber) 35 = .ok (.bipush 48, 2) := by decide +kernel
theorem d_R_writesNumber_37 : decode (mMc M_R_writesNumber) 37 = .ok (.iload_n 2, 1) := by decide +kernel
theorem d_R_writesNumber_38 : decode (mMc M_R_writesNumber) 38 = .ok (.iload 5, 2) := by decide +kernel
theorem d_R_writesNumber_40 : decode (mMc M_R_writesNumber) 40 = .ok (.idiv, 1) := by decide +kernel
theorem d_R_writesNumber_41 : decode (mMc M_R_writesNumber) 41 = .ok (.bipush 10, 2) := by decide +kernel
theorem d_R_writesNumber_43 : decode (mMc M_R_writesNumber) 43 = .ok (.irem, 1) := by decide +kernel
theorem d_R_writesNumber_44 : decode (mMc M_R_writesNumber) 44 = .ok (.iadd, 1) := by decide +kernel
theorem d_R_writesNumber_45 : decode (mMc M_R_writesNumber) 45 = .ok (.invokevirtual 220, 3) := by decide +kernel
theorem d_R_writesNumber_48 : decode (mMc M_R_writesNumber) 48 = .ok (.istore_n 3, 1) := by decide +kernel
theorem d_R_writesNumber_49 : decode (mMc M_R_writesNumber) 49 = .ok (.iload 5, 2) := by decide +kernel
theorem d_R_writesNumber_51 : decode (mMc M_R_writesNumber) 51 = .ok (.bipush 10, 2) := by decide +kernel
theorem d_R_writesNumber_53 : decode (mMc M_R_writesNumber) 53 = .ok (.idiv, 1) := by decide +kernel
theorem d_R_writesNumber_54 : decode (mMc M_R_writesNumber) 54 = .ok (.istore 5, 2) := by decide +kernel
theorem d_R_writesNumber_56 : decode (mMc M_R_writesNumber) 56 = .ok (.goto (-28), 3) := by decide +kernel
theorem d_R_writesNumber_59 : decode (mMc M_R_writesNumber) 59 = .ok (.iload_n 3, 1) := by decide +kernel
theorem d_R_writesNumber_60 : decode (mMc M_R_writesNumber) 60 = .ok (.ireturn, 1) := by decide +kernel
theorem k_R_writesNumber : mCd M_R_writesNumber 2 := ⟨by decide, by decide, by decide +kernel, by decide, mG (9, 179) (by decide +kernel), mG (1, 15) (by decide +kernel)⟩
def M_R_lineAt : mM := (⟨"FloatingDockModel", "lineAt", "(I)C"⟩, prog_13_method_100_code, 2, (some .char), [])
theorem d_R_lineAt_0 : decode (mMc M_R_lineAt) 0 = .ok (.aload_n 0, 1) := by decide +kernel
theorem d_R_lineAt_1 : decode (mMc M_R_lineAt) 1 = .ok (.iload_n 1, 1) := by decide +kernel
theorem d_R_lineAt_2 : decode (mMc M_R_lineAt) 2 = .ok (.iconst 0, 1) := by decide +kernel
theorem d_R_lineAt_3 : decode (mMc M_R_lineAt) 3 = .ok (.aload_n 0, 1) := by decide +kernel
theorem d_R_lineAt_4 : decode (mMc M_R_lineAt) 4 = .ok (.getfield 223, 3) := by decide +kernel
theorem d_R_lineAt_7 : decode (mMc M_R_lineAt) 7 = .ok (.iconst 1, 1) := by decide +kernel
theorem d_R_lineAt_8 : decode (mMc M_R_lineAt) 8 = .ok (.isub, 1) := by decide +kernel
theorem d_R_lineAt_9 : decode (mMc M_R_lineAt) 9 = .ok (.invokestatic 83, 3) := by decide +kernel
theorem d_R_lineAt_12 : decode (mMc M_R_lineAt) 12 = .ok (.invokevirtual 59, 3) := by decide +kernel
theorem d_R_lineAt_15 : decode (mMc M_R_lineAt) 15 = .ok (.ifCond .eq 13, 3) := by decide +kernel
theorem d_R_lineAt_18 : decode (mMc M_R_lineAt) 18 = .ok (.aload_n 0, 1) := by decide +kernel
theorem d_R_lineAt_19 : decode (mMc M_R_lineAt) 19 = .ok (.getfield 32, 3) := by decide +kernel
theorem d_R_lineAt_22 : decode (mMc M_R_lineAt) 22 = .ok (.iload_n 1, 1) := by decide +kernel
theorem d_R_lineAt_23 : decode (mMc M_R_lineAt) 23 = .ok (.iaload, 1) := by decide +kernel
theorem d_R_lineAt_24 : decode (mMc M_R_lineAt) 24 = .ok (.i2c, 1) := by decide +kernel
theorem d_R_lineAt_25 : decode (mMc M_R_lineAt) 25 = .ok (.goto 4, 3) := by decide +kernel
theorem d_R_lineAt_28 : decode (mMc M_R_lineAt) 28 = .ok (.iconst 0, 1) := by decide +kernel
theorem d_R_lineAt_29 : decode (mMc M_R_lineAt) 29 = .ok (.ireturn, 1) := by decide +kernel
theorem k_R_lineAt : mCd M_R_lineAt 1 := ⟨by decide, by decide, by decide +kernel, by decide, mG (9, 183) (by decide +kernel), mG (1, 15) (by decide +kernel)⟩
def M_R_append : mM := (⟨"FloatingDockModel", "append", "(C)I"⟩, prog_13_method_101_code, 2, (some .int), [])
theorem d_R_append_0 : decode (mMc M_R_append) 0 = .ok (.aload_n 0, 1) := by decide +kernel
theorem d_R_append_1 : decode (mMc M_R_append) 1 = .ok (.iload_n 1, 1) := by decide +kernel
theorem d_R_append_2 : decode (mMc M_R_append) 2 = .ok (.bipush 32, 2) := by decide +kernel
theorem d_R_append_4 : decode (mMc M_R_append) 4 = .ok (.bipush 126, 2) := by decide +kernel
theorem d_R_append_6 : decode (mMc M_R_append) 6 = .ok (.invokestatic 83, 3) := by decide +kernel
theorem d_R_append_9 : decode (mMc M_R_append) 9 = .ok (.aload_n 0, 1) := by decide +kernel
theorem d_R_append_10 : decode (mMc M_R_append) 10 = .ok (.getfield 229, 3) := by decide +kernel
theorem d_R_append_13 : decode (mMc M_R_append) 13 = .ok (.bipush 60, 2) := by decide +kernel
theorem d_R_append_15 : decode (mMc M_R_append) 15 = .ok (.if_icmp .ge 7, 3) := by decide +kernel
theorem d_R_append_18 : decode (mMc M_R_append) 18 = .ok (.iconst 1, 1) := by decide +kernel
theorem d_R_append_19 : decode (mMc M_R_append) 19 = .ok (.goto 4, 3) := by decide +kernel
theorem d_R_append_22 : decode (mMc M_R_append) 22 = .ok (.iconst 0, 1) := by decide +kernel
theorem d_R_append_23 : decode (mMc M_R_append) 23 = .ok (.iconst 1, 1) := by decide +kernel
theorem d_R_append_24 : decode (mMc M_R_append) 24 = .ok (.iconst 1, 1) := by decide +kernel
theorem d_R_append_25 : decode (mMc M_R_append) 25 = .ok (.invokevirtual 45, 3) := by decide +kernel
theorem d_R_append_28 : decode (mMc M_R_append) 28 = .ok (.ifCond .ne 5, 3) := by decide +kernel
theorem d_R_append_31 : decode (mMc M_R_append) 31 = .ok (.iconst 0, 1) := by decide +kernel
theorem d_R_append_32 : decode (mMc M_R_append) 32 = .ok (.ireturn, 1) := by decide +kernel
theorem d_R_append_33 : decode (mMc M_R_append) 33 = .ok (.aload_n 0, 1) := by decide +kernel
theorem d_R_append_34 : decode (mMc M_R_append) 34 = .ok (.getfield 29, 3) := by decide +kernel
theorem d_R_append_37 : decode (mMc M_R_append) 37 = .ok (.aload_n 0, 1) := by decide +kernel
theorem d_R_append_38 : decode (mMc M_R_append) 38 = .ok (.getfield 229, 3) := by decide +kernel
theorem d_R_append_41 : decode (mMc M_R_append) 41 = .ok (.iload_n 1, 1) := by decide +kernel
theorem d_R_append_42 : decode (mMc M_R_append) 42 = .ok (.iastore, 1) := by decide +kernel
theorem d_R_append_43 : decode (mMc M_R_append) 43 = .ok (.aload_n 0, 1) := by decide +kernel
theorem d_R_append_44 : decode (mMc M_R_append) 44 = .ok (.dup, 1) := by decide +kernel
theorem d_R_append_45 : decode (mMc M_R_append) 45 = .ok (.getfield 229, 3) := by decide +kernel
theorem d_R_append_48 : decode (mMc M_R_append) 48 = .ok (.iconst 1, 1) := by decide +kernel
theorem d_R_append_49 : decode (mMc M_R_append) 49 = .ok (.iadd, 1) := by decide +kernel
theorem d_R_append_50 : decode (mMc M_R_append) 50 = .ok (.putfield 229, 3) := by decide +kernel
theorem d_R_append_53 : decode (mMc M_R_append) 53 = .ok (.aload_n 0, 1) := by decide +kernel
theorem d_R_append_54 : decode (mMc M_R_append) 54 = .ok (.getfield 229, 3) := by decide +kernel
theorem d_R_append_57 : decode (mMc M_R_append) 57 = .ok (.ireturn, 1) := by decide +kernel
theorem k_R_append : mCd M_R_append 1 := ⟨by decide, by decide, by decide +kernel, by decide, mG (9, 187) (by decide +kernel), mG (1, 15) (by decide +kernel)⟩
def M_R_run : mM := (⟨"FloatingDockModel", "run", "()I"⟩, prog_13_method_111_code, 3, (some .int), [])
theorem d_R_run_0 : decode (mMc M_R_run) 0 = .ok (.aload_n 0, 1) := by decide +kernel
theorem d_R_run_1 : decode (mMc M_R_run) 1 = .ok (.invokevirtual 273, 3) := by decide +kernel
theorem d_R_run_4 : decode (mMc M_R_run) 4 = .ok (.aload_n 0, 1) := by decide +kernel
theorem d_R_run_5 : decode (mMc M_R_run) 5 = .ok (.getfield 238, 3) := by decide +kernel
theorem d_R_run_8 : decode (mMc M_R_run) 8 = .ok (.iconst (-1), 1) := by decide +kernel
theorem d_R_run_9 : decode (mMc M_R_run) 9 = .ok (.if_icmp .eq 18, 3) := by decide +kernel
theorem d_R_run_12 : decode (mMc M_R_run) 12 = .ok (.aload_n 0, 1) := by decide +kernel
theorem d_R_run_13 : decode (mMc M_R_run) 13 = .ok (.aload_n 0, 1) := by decide +kernel
theorem d_R_run_14 : decode (mMc M_R_run) 14 = .ok (.getfield 238, 3) := by decide +kernel
theorem d_R_run_17 : decode (mMc M_R_run) 17 = .ok (.putfield 22, 3) := by decide +kernel
theorem d_R_run_20 : decode (mMc M_R_run) 20 = .ok (.aload_n 0, 1) := by decide +kernel
theorem d_R_run_21 : decode (mMc M_R_run) 21 = .ok (.iconst 1, 1) := by decide +kernel
theorem d_R_run_22 : decode (mMc M_R_run) 22 = .ok (.putfield 42, 3) := by decide +kernel
theorem d_R_run_25 : decode (mMc M_R_run) 25 = .ok (.iconst 0, 1) := by decide +kernel
theorem d_R_run_26 : decode (mMc M_R_run) 26 = .ok (.ireturn, 1) := by decide +kernel
theorem d_R_run_27 : decode (mMc M_R_run) 27 = .ok (.aload_n 0, 1) := by decide +kernel
theorem d_R_run_28 : decode (mMc M_R_run) 28 = .ok (.invokevirtual 94, 3) := by decide +kernel
theorem d_R_run_31 : decode (mMc M_R_run) 31 = .ok (.aload_n 0, 1) := by decide +kernel
theorem d_R_run_32 : decode (mMc M_R_run) 32 = .ok (.iconst 0, 1) := by decide +kernel
theorem d_R_run_33 : decode (mMc M_R_run) 33 = .ok (.putfield 42, 3) := by decide +kernel
theorem d_R_run_36 : decode (mMc M_R_run) 36 = .ok (.iconst 0, 1) := by decide +kernel
theorem d_R_run_37 : decode (mMc M_R_run) 37 = .ok (.istore_n 1, 1) := by decide +kernel
theorem d_R_run_38 : decode (mMc M_R_run) 38 = .ok (.iload_n 1, 1) := by decide +kernel
theorem d_R_run_39 : decode (mMc M_R_run) 39 = .ok (.aload_n 0, 1) := by decide +kernel
theorem d_R_run_40 : decode (mMc M_R_run) 40 = .ok (.getfield 261, 3) := by decide +kernel
theorem d_R_run_43 : decode (mMc M_R_run) 43 = .ok (.if_icmp .ge 49, 3) := by decide +kernel
theorem d_R_run_46 : decode (mMc M_R_run) 46 = .ok (.aload_n 0, 1) := by decide +kernel
theorem d_R_run_47 : decode (mMc M_R_run) 47 = .ok (.iconst 4, 1) := by decide +kernel
theorem d_R_run_48 : decode (mMc M_R_run) 48 = .ok (.iload_n 1, 1) := by decide +kernel
theorem d_R_run_49 : decode (mMc M_R_run) 49 = .ok (.imul, 1) := by decide +kernel
theorem d_R_run_50 : decode (mMc M_R_run) 50 = .ok (.invokevirtual 276, 3) := by decide +kernel
theorem d_R_run_53 : decode (mMc M_R_run) 53 = .ok (.istore_n 2, 1) := by decide +kernel
theorem d_R_run_54 : decode (mMc M_R_run) 54 = .ok (.aload_n 0, 1) := by decide +kernel
theorem d_R_run_55 : decode (mMc M_R_run) 55 = .ok (.getfield 42, 3) := by decide +kernel
theorem d_R_run_58 : decode (mMc M_R_run) 58 = .ok (.ifCond .eq 28, 3) := by decide +kernel
theorem d_R_run_61 : decode (mMc M_R_run) 61 = .ok (.aload_n 0, 1) := by decide +kernel
theorem d_R_run_62 : decode (mMc M_R_run) 62 = .ok (.iload_n 1, 1) := by decide +kernel
theorem d_R_run_63 : decode (mMc M_R_run) 63 = .ok (.putfield 26, 3) := by decide +kernel
theorem d_R_run_66 : decode (mMc M_R_run) 66 = .ok (.aload_n 0, 1) := by decide +kernel
theorem d_R_run_67 : decode (mMc M_R_run) 67 = .ok (.iconst 2, 1) := by decide +kernel
theorem d_R_run_68 : decode (mMc M_R_run) 68 = .ok (.putfield 42, 3) := by decide +kernel
theorem d_R_run_71 : decode (mMc M_R_run) 71 = .ok (.aload_n 0, 1) := by decide +kernel
theorem d_R_run_72 : decode (mMc M_R_run) 72 = .ok (.getfield 13, 3) := by decide +kernel
theorem d_R_run_75 : decode (mMc M_R_run) 75 = .ok (.iconst 0, 1) := by decide +kernel
theorem d_R_run_76 : decode (mMc M_R_run) 76 = .ok (.aload_n 0, 1) := by decide +kernel
theorem d_R_run_77 : decode (mMc M_R_run) 77 = .ok (.getfield 9, 3) := by decide +kernel
theorem d_R_run_80 : decode (mMc M_R_run) 80 = .ok (.iconst 0, 1) := by decide +kernel
theorem d_R_run_81 : decode (mMc M_R_run) 81 = .ok (.invokestatic 49, 3) := by decide +kernel
theorem d_R_run_84 : decode (mMc M_R_run) 84 = .ok (.iconst 0, 1) := by decide +kernel
theorem d_R_run_85 : decode (mMc M_R_run) 85 = .ok (.ireturn, 1) := by decide +kernel
theorem d_R_run_86 : decode (mMc M_R_run) 86 = .ok (.iinc 1 1, 3) := by decide +kernel
theorem d_R_run_89 : decode (mMc M_R_run) 89 = .ok (.goto (-51), 3) := by decide +kernel
theorem d_R_run_92 : decode (mMc M_R_run) 92 = .ok (.aload_n 0, 1) := by decide +kernel
theorem d_R_run_93 : decode (mMc M_R_run) 93 = .ok (.aload_n 0, 1) := by decide +kernel
theorem d_R_run_94 : decode (mMc M_R_run) 94 = .ok (.getfield 261, 3) := by decide +kernel
theorem d_R_run_97 : decode (mMc M_R_run) 97 = .ok (.invokevirtual 101, 3) := by decide +kernel
theorem d_R_run_100 : decode (mMc M_R_run) 100 = .ok (.ireturn, 1) := by decide +kernel
theorem k_R_run : mCd M_R_run 0 := ⟨by decide, by decide, by decide +kernel, by decide, mG (9, 191) (by decide +kernel), mG (1, 15) (by decide +kernel)⟩
def M_R_readsAll : mM := (⟨"FloatingDockModel", "readsAll", "()V"⟩, prog_13_method_109_code, 2, none, [])
theorem d_R_readsAll_0 : decode (mMc M_R_readsAll) 0 = .ok (.aload_n 0, 1) := by decide +kernel
theorem d_R_readsAll_1 : decode (mMc M_R_readsAll) 1 = .ok (.aload_n 0, 1) := by decide +kernel
theorem d_R_readsAll_2 : decode (mMc M_R_readsAll) 2 = .ok (.getfield 229, 3) := by decide +kernel
theorem d_R_readsAll_5 : decode (mMc M_R_readsAll) 5 = .ok (.putfield 235, 3) := by decide +kernel
theorem d_R_readsAll_8 : decode (mMc M_R_readsAll) 8 = .ok (.aload_n 0, 1) := by decide +kernel
theorem d_R_readsAll_9 : decode (mMc M_R_readsAll) 9 = .ok (.iconst 0, 1) := by decide +kernel
theorem d_R_readsAll_10 : decode (mMc M_R_readsAll) 10 = .ok (.putfield 229, 3) := by decide +kernel
theorem d_R_readsAll_13 : decode (mMc M_R_readsAll) 13 = .ok (.aload_n 0, 1) := by decide +kernel
theorem d_R_readsAll_14 : decode (mMc M_R_readsAll) 14 = .ok (.iconst 0, 1) := by decide +kernel
theorem d_R_readsAll_15 : decode (mMc M_R_readsAll) 15 = .ok (.putfield 232, 3) := by decide +kernel
theorem d_R_readsAll_18 : decode (mMc M_R_readsAll) 18 = .ok (.aload_n 0, 1) := by decide +kernel
theorem d_R_readsAll_19 : decode (mMc M_R_readsAll) 19 = .ok (.iconst (-1), 1) := by decide +kernel
theorem d_R_readsAll_20 : decode (mMc M_R_readsAll) 20 = .ok (.putfield 238, 3) := by decide +kernel
theorem d_R_readsAll_23 : decode (mMc M_R_readsAll) 23 = .ok (.aload_n 0, 1) := by decide +kernel
theorem d_R_readsAll_24 : decode (mMc M_R_readsAll) 24 = .ok (.iconst 0, 1) := by decide +kernel
theorem d_R_readsAll_25 : decode (mMc M_R_readsAll) 25 = .ok (.putfield 261, 3) := by decide +kernel
theorem d_R_readsAll_28 : decode (mMc M_R_readsAll) 28 = .ok (.aload_n 0, 1) := by decide +kernel
theorem d_R_readsAll_29 : decode (mMc M_R_readsAll) 29 = .ok (.invokevirtual 270, 3) := by decide +kernel
theorem d_R_readsAll_32 : decode (mMc M_R_readsAll) 32 = .ok (.aload_n 0, 1) := by decide +kernel
theorem d_R_readsAll_33 : decode (mMc M_R_readsAll) 33 = .ok (.getfield 238, 3) := by decide +kernel
theorem d_R_readsAll_36 : decode (mMc M_R_readsAll) 36 = .ok (.iconst (-1), 1) := by decide +kernel
theorem d_R_readsAll_37 : decode (mMc M_R_readsAll) 37 = .ok (.if_icmp .ne 38, 3) := by decide +kernel
theorem d_R_readsAll_40 : decode (mMc M_R_readsAll) 40 = .ok (.aload_n 0, 1) := by decide +kernel
theorem d_R_readsAll_41 : decode (mMc M_R_readsAll) 41 = .ok (.getfield 232, 3) := by decide +kernel
theorem d_R_readsAll_44 : decode (mMc M_R_readsAll) 44 = .ok (.aload_n 0, 1) := by decide +kernel
theorem d_R_readsAll_45 : decode (mMc M_R_readsAll) 45 = .ok (.getfield 235, 3) := by decide +kernel
theorem d_R_readsAll_48 : decode (mMc M_R_readsAll) 48 = .ok (.if_icmp .ge 27, 3) := by decide +kernel
theorem d_R_readsAll_51 : decode (mMc M_R_readsAll) 51 = .ok (.aload_n 0, 1) := by decide +kernel
theorem d_R_readsAll_52 : decode (mMc M_R_readsAll) 52 = .ok (.bipush 59, 2) := by decide +kernel
theorem d_R_readsAll_54 : decode (mMc M_R_readsAll) 54 = .ok (.bipush 59, 2) := by decide +kernel
theorem d_R_readsAll_56 : decode (mMc M_R_readsAll) 56 = .ok (.invokevirtual 244, 3) := by decide +kernel
theorem d_R_readsAll_59 : decode (mMc M_R_readsAll) 59 = .ok (.istore_n 1, 1) := by decide +kernel
theorem d_R_readsAll_60 : decode (mMc M_R_readsAll) 60 = .ok (.aload_n 0, 1) := by decide +kernel
theorem d_R_readsAll_61 : decode (mMc M_R_readsAll) 61 = .ok (.getfield 238, 3) := by decide +kernel
theorem d_R_readsAll_64 : decode (mMc M_R_readsAll) 64 = .ok (.iconst (-1), 1) := by decide +kernel
theorem d_R_readsAll_65 : decode (mMc M_R_readsAll) 65 = .ok (.if_icmp .ne 7, 3) := by decide +kernel
theorem d_R_readsAll_68 : decode (mMc M_R_readsAll) 68 = .ok (.aload_n 0, 1) := by decide +kernel
theorem d_R_readsAll_69 : decode (mMc M_R_readsAll) 69 = .ok (.invokevirtual 270, 3) := by decide +kernel
theorem d_R_readsAll_72 : decode (mMc M_R_readsAll) 72 = .ok (.goto (-40), 3) := by decide +kernel
theorem d_R_readsAll_75 : decode (mMc M_R_readsAll) 75 = .ok (.return_, 1) := by decide +kernel
theorem k_R_readsAll : mCd M_R_readsAll 0 := ⟨by decide, by decide, by decide +kernel, by decide, mG (9, 195) (by decide +kernel), mG (1, 15) (by decide +kernel)⟩
def M_R_readsCommand : mM := (⟨"FloatingDockModel", "readsCommand", "()V"⟩, prog_13_method_108_code, 4, none, [])
theorem d_R_readsCommand_0 : decode (mMc M_R_readsCommand) 0 = .ok (.iconst 4, 1) := by decide +kernel
theorem d_R_readsCommand_1 : decode (mMc M_R_readsCommand) 1 = .ok (.aload_n 0, 1) := by decide +kernel
theorem d_R_readsCommand_2 : decode (mMc M_R_readsCommand) 2 = .ok (.getfield 261, 3) := by decide +kernel
theorem d_R_readsCommand_5 : decode (mMc M_R_readsCommand) 5 = .ok (.imul, 1) := by decide +kernel
theorem d_R_readsCommand_6 : decode (mMc M_R_readsCommand) 6 = .ok (.istore_n 1, 1) := by decide +kernel
theorem d_R_readsCommand_7 : decode (mMc M_R_readsCommand) 7 = .ok (.aload_n 0, 1) := by decide +kernel
theorem d_R_readsCommand_8 : decode (mMc M_R_readsCommand) 8 = .ok (.invokevirtual 264, 3) := by decide +kernel
theorem d_R_readsCommand_11 : decode (mMc M_R_readsCommand) 11 = .ok (.istore_n 2, 1) := by decide +kernel
theorem d_R_readsCommand_12 : decode (mMc M_R_readsCommand) 12 = .ok (.aload_n 0, 1) := by decide +kernel
theorem d_R_readsCommand_13 : decode (mMc M_R_readsCommand) 13 = .ok (.getfield 39, 3) := by decide +kernel
theorem d_R_readsCommand_16 : decode (mMc M_R_readsCommand) 16 = .ok (.iload_n 1, 1) := by decide +kernel
theorem d_R_readsCommand_17 : decode (mMc M_R_readsCommand) 17 = .ok (.iload_n 2, 1) := by decide +kernel
theorem d_R_readsCommand_18 : decode (mMc M_R_readsCommand) 18 = .ok (.iastore, 1) := by decide +kernel
theorem d_R_readsCommand_19 : decode (mMc M_R_readsCommand) 19 = .ok (.aload_n 0, 1) := by decide +kernel
theorem d_R_readsCommand_20 : decode (mMc M_R_readsCommand) 20 = .ok (.dup, 1) := by decide +kernel
theorem d_R_readsCommand_21 : decode (mMc M_R_readsCommand) 21 = .ok (.getfield 261, 3) := by decide +kernel
theorem d_R_readsCommand_24 : decode (mMc M_R_readsCommand) 24 = .ok (.iconst 1, 1) := by decide +kernel
theorem d_R_readsCommand_25 : decode (mMc M_R_readsCommand) 25 = .ok (.iadd, 1) := by decide +kernel
theorem d_R_readsCommand_26 : decode (mMc M_R_readsCommand) 26 = .ok (.putfield 261, 3) := by decide +kernel
theorem d_R_readsCommand_29 : decode (mMc M_R_readsCommand) 29 = .ok (.aload_n 0, 1) := by decide +kernel
theorem d_R_readsCommand_30 : decode (mMc M_R_readsCommand) 30 = .ok (.getfield 238, 3) := by decide +kernel
theorem d_R_readsCommand_33 : decode (mMc M_R_readsCommand) 33 = .ok (.iconst (-1), 1) := by decide +kernel
theorem d_R_readsCommand_34 : decode (mMc M_R_readsCommand) 34 = .ok (.if_icmp .ne 14, 3) := by decide +kernel
theorem d_R_readsCommand_37 : decode (mMc M_R_readsCommand) 37 = .ok (.iload_n 2, 1) := by decide +kernel
theorem d_R_readsCommand_38 : decode (mMc M_R_readsCommand) 38 = .ok (.iconst 5, 1) := by decide +kernel
theorem d_R_readsCommand_39 : decode (mMc M_R_readsCommand) 39 = .ok (.if_icmp .eq 9, 3) := by decide +kernel
theorem d_R_readsCommand_42 : decode (mMc M_R_readsCommand) 42 = .ok (.iload_n 2, 1) := by decide +kernel
theorem d_R_readsCommand_43 : decode (mMc M_R_readsCommand) 43 = .ok (.bipush 6, 2) := by decide +kernel
theorem d_R_readsCommand_45 : decode (mMc M_R_readsCommand) 45 = .ok (.if_icmp .ne 4, 3) := by decide +kernel
theorem d_R_readsCommand_48 : decode (mMc M_R_readsCommand) 48 = .ok (.return_, 1) := by decide +kernel
theorem d_R_readsCommand_49 : decode (mMc M_R_readsCommand) 49 = .ok (.iload_n 2, 1) := by decide +kernel
theorem d_R_readsCommand_50 : decode (mMc M_R_readsCommand) 50 = .ok (.bipush 7, 2) := by decide +kernel
theorem d_R_readsCommand_52 : decode (mMc M_R_readsCommand) 52 = .ok (.if_icmp .ne 16, 3) := by decide +kernel
theorem d_R_readsCommand_55 : decode (mMc M_R_readsCommand) 55 = .ok (.aload_n 0, 1) := by decide +kernel
theorem d_R_readsCommand_56 : decode (mMc M_R_readsCommand) 56 = .ok (.invokevirtual 241, 3) := by decide +kernel
theorem d_R_readsCommand_59 : decode (mMc M_R_readsCommand) 59 = .ok (.bipush 45, 2) := by decide +kernel
theorem d_R_readsCommand_61 : decode (mMc M_R_readsCommand) 61 = .ok (.if_icmp .ne 7, 3) := by decide +kernel
theorem d_R_readsCommand_64 : decode (mMc M_R_readsCommand) 64 = .ok (.iconst 1, 1) := by decide +kernel
theorem d_R_readsCommand_65 : decode (mMc M_R_readsCommand) 65 = .ok (.goto 4, 3) := by decide +kernel
theorem d_R_readsCommand_68 : decode (mMc M_R_readsCommand) 68 = .ok (.iconst 0, 1) := by decide +kernel
theorem d_R_readsCommand_69 : decode (mMc M_R_readsCommand) 69 = .ok (.istore_n 3, 1) := by decide +kernel
theorem d_R_readsCommand_70 : decode (mMc M_R_readsCommand) 70 = .ok (.aload_n 0, 1) := by decide +kernel
theorem d_R_readsCommand_71 : decode (mMc M_R_readsCommand) 71 = .ok (.getfield 39, 3) := by decide +kernel
theorem d_R_readsCommand_74 : decode (mMc M_R_readsCommand) 74 = .ok (.iload_n 1, 1) := by decide +kernel
theorem d_R_readsCommand_75 : decode (mMc M_R_readsCommand) 75 = .ok (.iconst 1, 1) := by decide +kernel
theorem d_R_readsCommand_76 : decode (mMc M_R_readsCommand) 76 = .ok (.iadd, 1) := by decide +kernel
theorem d_R_readsCommand_77 : decode (mMc M_R_readsCommand) 77 = .ok (.iload_n 3, 1) := by decide +kernel
theorem d_R_readsCommand_78 : decode (mMc M_R_readsCommand) 78 = .ok (.ifCond .eq 13, 3) := by decide +kernel
theorem d_R_readsCommand_81 : decode (mMc M_R_readsCommand) 81 = .ok (.aload_n 0, 1) := by decide +kernel
theorem d_R_readsCommand_82 : decode (mMc M_R_readsCommand) 82 = .ok (.bipush 45, 2) := by decide +kernel
theorem d_R_readsCommand_84 : decode (mMc M_R_readsCommand) 84 = .ok (.invokevirtual 267, 3) := by decide +kernel
theorem d_R_readsCommand_87 : decode (mMc M_R_readsCommand) 87 = .ok (.ineg, 1) := by decide +kernel
theorem d_R_readsCommand_88 : decode (mMc M_R_readsCommand) 88 = .ok (.goto 7, 3) := by decide +kernel
theorem d_R_readsCommand_91 : decode (mMc M_R_readsCommand) 91 = .ok (.aload_n 0, 1) := by decide +kernel
theorem d_R_readsCommand_92 : decode (mMc M_R_readsCommand) 92 = .ok (.invokevirtual 247, 3) := by decide +kernel
theorem d_R_readsCommand_95 : decode (mMc M_R_readsCommand) 95 = .ok (.iastore, 1) := by decide +kernel
theorem d_R_readsCommand_96 : decode (mMc M_R_readsCommand) 96 = .ok (.iload_n 2, 1) := by decide +kernel
theorem d_R_readsCommand_97 : decode (mMc M_R_readsCommand) 97 = .ok (.ifCond .ne 31, 3) := by decide +kernel
theorem d_R_readsCommand_100 : decode (mMc M_R_readsCommand) 100 = .ok (.aload_n 0, 1) := by decide +kernel
theorem d_R_readsCommand_101 : decode (mMc M_R_readsCommand) 101 = .ok (.getfield 39, 3) := by decide +kernel
theorem d_R_readsCommand_104 : decode (mMc M_R_readsCommand) 104 = .ok (.iload_n 1, 1) := by decide +kernel
theorem d_R_readsCommand_105 : decode (mMc M_R_readsCommand) 105 = .ok (.iconst 2, 1) := by decide +kernel
theorem d_R_readsCommand_106 : decode (mMc M_R_readsCommand) 106 = .ok (.iadd, 1) := by decide +kernel
theorem d_R_readsCommand_107 : decode (mMc M_R_readsCommand) 107 = .ok (.aload_n 0, 1) := by decide +kernel
theorem d_R_readsCommand_108 : decode (mMc M_R_readsCommand) 108 = .ok (.bipush 32, 2) := by decide +kernel
theorem d_R_readsCommand_110 : decode (mMc M_R_readsCommand) 110 = .ok (.invokevirtual 267, 3) := by decide +kernel
theorem d_R_readsCommand_113 : decode (mMc M_R_readsCommand) 113 = .ok (.iastore, 1) := by decide +kernel
theorem d_R_readsCommand_114 : decode (mMc M_R_readsCommand) 114 = .ok (.aload_n 0, 1) := by decide +kernel
theorem d_R_readsCommand_115 : decode (mMc M_R_readsCommand) 115 = .ok (.getfield 39, 3) := by decide +kernel
theorem d_R_readsCommand_118 : decode (mMc M_R_readsCommand) 118 = .ok (.iload_n 1, 1) := by decide +kernel
theorem d_R_readsCommand_119 : decode (mMc M_R_readsCommand) 119 = .ok (.iconst 3, 1) := by decide +kernel
theorem d_R_readsCommand_120 : decode (mMc M_R_readsCommand) 120 = .ok (.iadd, 1) := by decide +kernel
theorem d_R_readsCommand_121 : decode (mMc M_R_readsCommand) 121 = .ok (.aload_n 0, 1) := by decide +kernel
theorem d_R_readsCommand_122 : decode (mMc M_R_readsCommand) 122 = .ok (.bipush 32, 2) := by decide +kernel
theorem d_R_readsCommand_124 : decode (mMc M_R_readsCommand) 124 = .ok (.invokevirtual 267, 3) := by decide +kernel
theorem d_R_readsCommand_127 : decode (mMc M_R_readsCommand) 127 = .ok (.iastore, 1) := by decide +kernel
theorem d_R_readsCommand_128 : decode (mMc M_R_readsCommand) 128 = .ok (.iload_n 2, 1) := by decide +kernel
theorem d_R_readsCommand_129 : decode (mMc M_R_readsCommand) 129 = .ok (.iconst 1, 1) := by decide +kernel
theorem d_R_readsCommand_130 : decode (mMc M_R_readsCommand) 130 = .ok (.if_icmp .eq 9, 3) := by decide +kernel
theorem d_R_readsCommand_133 : decode (mMc M_R_readsCommand) 133 = .ok (.iload_n 2, 1) := by decide +kernel
theorem d_R_readsCommand_134 : decode (mMc M_R_readsCommand) 134 = .ok (.bipush 11, 2) := by decide +kernel
theorem d_R_readsCommand_136 : decode (mMc M_R_readsCommand) 136 = .ok (.if_icmp .ne 27, 3) := by decide +kernel
theorem d_R_readsCommand_139 : decode (mMc M_R_readsCommand) 139 = .ok (.aload_n 0, 1) := by decide +kernel
theorem d_R_readsCommand_140 : decode (mMc M_R_readsCommand) 140 = .ok (.getfield 39, 3) := by decide +kernel
theorem d_R_readsCommand_143 : decode (mMc M_R_readsCommand) 143 = .ok (.iload_n 1, 1) := by decide +kernel
theorem d_R_readsCommand_144 : decode (mMc M_R_readsCommand) 144 = .ok (.iconst 2, 1) := by decide +kernel
theorem d_R_readsCommand_145 : decode (mMc M_R_readsCommand) 145 = .ok (.iadd, 1) := by decide +kernel
theorem d_R_readsCommand_146 : decode (mMc M_R_readsCommand) 146 = .ok (.aload_n 0, 1) := by decide +kernel
theorem d_R_readsCommand_147 : decode (mMc M_R_readsCommand) 147 = .ok (.iload_n 2, 1) := by decide +kernel
theorem d_R_readsCommand_148 : decode (mMc M_R_readsCommand) 148 = .ok (.iconst 1, 1) := by decide +kernel
theorem d_R_readsCommand_149 : decode (mMc M_R_readsCommand) 149 = .ok (.if_icmp .ne 8, 3) := by decide +kernel
theorem d_R_readsCommand_152 : decode (mMc M_R_readsCommand) 152 = .ok (.bipush 64, 2) := by decide +kernel
theorem d_R_readsCommand_154 : decode (mMc M_R_readsCommand) 154 = .ok (.goto 5, 3) := by decide +kernel
theorem d_R_readsCommand_157 : decode (mMc M_R_readsCommand) 157 = .ok (.bipush 43, 2) := by decide +kernel
theorem d_R_readsCommand_159 : decode (mMc M_R_readsCommand) 159 = .ok (.invokevirtual 267, 3) := by decide +kernel
theorem d_R_readsCommand_162 : decode (mMc M_R_readsCommand) 162 = .ok (.iastore, 1) := by decide +kernel
theorem d_R_readsCommand_163 : decode (mMc M_R_readsCommand) 163 = .ok (.return_, 1) := by decide +kernel
theorem k_R_readsCommand : mCd M_R_readsCommand 0 := ⟨by decide, by decide, by decide +kernel, by decide, mG (9, 199) (by decide +kernel), mG (1, 15) (by decide +kernel)⟩
def M_R_kindHere : mM := (⟨"FloatingDockModel", "kindHere", "()I"⟩, prog_13_method_107_code, 6, (some .int), [])
theorem d_R_kindHere_0 : decode (mMc M_R_kindHere) 0 = .ok (.aload_n 0, 1) := by decide +kernel
theorem d_R_kindHere_1 : decode (mMc M_R_kindHere) 1 = .ok (.getfield 232, 3) := by decide +kernel
theorem d_R_kindHere_4 : decode (mMc M_R_kindHere) 4 = .ok (.istore_n 1, 1) := by decide +kernel
theorem d_R_kindHere_5 : decode (mMc M_R_kindHere) 5 = .ok (.iconst (-1), 1) := by decide +kernel
theorem d_R_kindHere_6 : decode (mMc M_R_kindHere) 6 = .ok (.istore_n 2, 1) := by decide +kernel
theorem d_R_kindHere_7 : decode (mMc M_R_kindHere) 7 = .ok (.iconst 0, 1) := by decide +kernel
theorem d_R_kindHere_8 : decode (mMc M_R_kindHere) 8 = .ok (.istore_n 3, 1) := by decide +kernel
theorem d_R_kindHere_9 : decode (mMc M_R_kindHere) 9 = .ok (.iload_n 3, 1) := by decide +kernel
theorem d_R_kindHere_10 : decode (mMc M_R_kindHere) 10 = .ok (.bipush 12, 2) := by decide +kernel
theorem d_R_kindHere_12 : decode (mMc M_R_kindHere) 12 = .ok (.if_icmp .ge 109, 3) := by decide +kernel
theorem d_R_kindHere_15 : decode (mMc M_R_kindHere) 15 = .ok (.iload_n 2, 1) := by decide +kernel
theorem d_R_kindHere_16 : decode (mMc M_R_kindHere) 16 = .ok (.iconst (-1), 1) := by decide +kernel
theorem d_R_kindHere_17 : decode (mMc M_R_kindHere) 17 = .ok (.if_icmp .ne 104, 3) := by decide +kernel
theorem d_R_kindHere_20 : decode (mMc M_R_kindHere) 20 = .ok (.iload_n 3, 1) := by decide +kernel
theorem d_R_kindHere_21 : decode (mMc M_R_kindHere) 21 = .ok (.iconst 1, 1) := by decide +kernel
theorem d_R_kindHere_22 : decode (mMc M_R_kindHere) 22 = .ok (.iadd, 1) := by decide +kernel
theorem d_R_kindHere_23 : decode (mMc M_R_kindHere) 23 = .ok (.invokestatic 250, 3) := by decide +kernel
theorem d_R_kindHere_26 : decode (mMc M_R_kindHere) 26 = .ok (.iload_n 3, 1) := by decide +kernel
theorem d_R_kindHere_27 : decode (mMc M_R_kindHere) 27 = .ok (.invokestatic 250, 3) := by decide +kernel
theorem d_R_kindHere_30 : decode (mMc M_R_kindHere) 30 = .ok (.isub, 1) := by decide +kernel
theorem d_R_kindHere_31 : decode (mMc M_R_kindHere) 31 = .ok (.istore 4, 2) := by decide +kernel
theorem d_R_kindHere_33 : decode (mMc M_R_kindHere) 33 = .ok (.iconst 0, 1) := by decide +kernel
theorem d_R_kindHere_34 : decode (mMc M_R_kindHere) 34 = .ok (.istore 5, 2) := by decide +kernel
theorem d_R_kindHere_36 : decode (mMc M_R_kindHere) 36 = .ok (.iload 5, 2) := by decide +kernel
theorem d_R_kindHere_38 : decode (mMc M_R_kindHere) 38 = .ok (.iload 4, 2) := by decide +kernel
theorem d_R_kindHere_40 : decode (mMc M_R_kindHere) 40 = .ok (.if_icmp .ge 50, 3) := by decide +kernel
theorem d_R_kindHere_43 : decode (mMc M_R_kindHere) 43 = .ok (.aload_n 0, 1) := by decide +kernel
theorem d_R_kindHere_44 : decode (mMc M_R_kindHere) 44 = .ok (.getfield 232, 3) := by decide +kernel
theorem d_R_kindHere_47 : decode (mMc M_R_kindHere) 47 = .ok (.iload 5, 2) := by decide +kernel
theorem d_R_kindHere_49 : decode (mMc M_R_kindHere) 49 = .ok (.iadd, 1) := by decide +kernel
theorem d_R_kindHere_50 : decode (mMc M_R_kindHere) 50 = .ok (.aload_n 0, 1) := by decide +kernel
theorem d_R_kindHere_51 : decode (mMc M_R_kindHere) 51 = .ok (.getfield 235, 3) := by decide +kernel
theorem d_R_kindHere_54 : decode (mMc M_R_kindHere) 54 = .ok (.if_icmp .ge 36, 3) := by decide +kernel
theorem d_R_kindHere_57 : decode (mMc M_R_kindHere) 57 = .ok (.aload_n 0, 1) := by decide +kernel
theorem d_R_kindHere_58 : decode (mMc M_R_kindHere) 58 = .ok (.getfield 29, 3) := by decide +kernel
theorem d_R_kindHere_61 : decode (mMc M_R_kindHere) 61 = .ok (.aload_n 0, 1) := by decide +kernel
theorem d_R_kindHere_62 : decode (mMc M_R_kindHere) 62 = .ok (.getfield 232, 3) := by decide +kernel
theorem d_R_kindHere_65 : decode (mMc M_R_kindHere) 65 = .ok (.iload 5, 2) := by decide +kernel
theorem d_R_kindHere_67 : decode (mMc M_R_kindHere) 67 = .ok (.iadd, 1) := by decide +kernel
theorem d_R_kindHere_68 : decode (mMc M_R_kindHere) 68 = .ok (.iaload, 1) := by decide +kernel
theorem d_R_kindHere_69 : decode (mMc M_R_kindHere) 69 = .ok (.ldc 253, 2) := by decide +kernel
theorem d_R_kindHere_71 : decode (mMc M_R_kindHere) 71 = .ok (.iload_n 3, 1) := by decide +kernel
theorem d_R_kindHere_72 : decode (mMc M_R_kindHere) 72 = .ok (.invokestatic 250, 3) := by decide +kernel
theorem d_R_kindHere_75 : decode (mMc M_R_kindHere) 75 = .ok (.iload 5, 2) := by decide +kernel
theorem d_R_kindHere_77 : decode (mMc M_R_kindHere) 77 = .ok (.iadd, 1) := by decide +kernel
theorem d_R_kindHere_78 : decode (mMc M_R_kindHere) 78 = .ok (.invokevirtual 255, 3) := by decide +kernel
theorem d_R_kindHere_81 : decode (mMc M_R_kindHere) 81 = .ok (.if_icmp .ne 9, 3) := by decide +kernel
theorem d_R_kindHere_84 : decode (mMc M_R_kindHere) 84 = .ok (.iinc 5 1, 3) := by decide +kernel
theorem d_R_kindHere_87 : decode (mMc M_R_kindHere) 87 = .ok (.goto (-51), 3) := by decide +kernel
theorem d_R_kindHere_90 : decode (mMc M_R_kindHere) 90 = .ok (.iload_n 1, 1) := by decide +kernel
theorem d_R_kindHere_91 : decode (mMc M_R_kindHere) 91 = .ok (.aload_n 0, 1) := by decide +kernel
theorem d_R_kindHere_92 : decode (mMc M_R_kindHere) 92 = .ok (.getfield 232, 3) := by decide +kernel
theorem d_R_kindHere_95 : decode (mMc M_R_kindHere) 95 = .ok (.iload 5, 2) := by decide +kernel
theorem d_R_kindHere_97 : decode (mMc M_R_kindHere) 97 = .ok (.iadd, 1) := by decide +kernel
theorem d_R_kindHere_98 : decode (mMc M_R_kindHere) 98 = .ok (.invokestatic 71, 3) := by decide +kernel
theorem d_R_kindHere_101 : decode (mMc M_R_kindHere) 101 = .ok (.istore_n 1, 1) := by decide +kernel
theorem d_R_kindHere_102 : decode (mMc M_R_kindHere) 102 = .ok (.iload 5, 2) := by decide +kernel
theorem d_R_kindHere_104 : decode (mMc M_R_kindHere) 104 = .ok (.iload 4, 2) := by decide +kernel
theorem d_R_kindHere_106 : decode (mMc M_R_kindHere) 106 = .ok (.if_icmp .ne 7, 3) := by decide +kernel
theorem d_R_kindHere_109 : decode (mMc M_R_kindHere) 109 = .ok (.iload_n 3, 1) := by decide +kernel
theorem d_R_kindHere_110 : decode (mMc M_R_kindHere) 110 = .ok (.goto 4, 3) := by decide +kernel
theorem d_R_kindHere_113 : decode (mMc M_R_kindHere) 113 = .ok (.iload_n 2, 1) := by decide +kernel
theorem d_R_kindHere_114 : decode (mMc M_R_kindHere) 114 = .ok (.istore_n 2, 1) := by decide +kernel
theorem d_R_kindHere_115 : decode (mMc M_R_kindHere) 115 = .ok (.iinc 3 1, 3) := by decide +kernel
theorem d_R_kindHere_118 : decode (mMc M_R_kindHere) 118 = .ok (.goto (-109), 3) := by decide +kernel
theorem d_R_kindHere_121 : decode (mMc M_R_kindHere) 121 = .ok (.aload_n 0, 1) := by decide +kernel
theorem d_R_kindHere_122 : decode (mMc M_R_kindHere) 122 = .ok (.iload_n 2, 1) := by decide +kernel
theorem d_R_kindHere_123 : decode (mMc M_R_kindHere) 123 = .ok (.iconst (-1), 1) := by decide +kernel
theorem d_R_kindHere_124 : decode (mMc M_R_kindHere) 124 = .ok (.if_icmp .ne 7, 3) := by decide +kernel
theorem d_R_kindHere_127 : decode (mMc M_R_kindHere) 127 = .ok (.iload_n 1, 1) := by decide +kernel
theorem d_R_kindHere_128 : decode (mMc M_R_kindHere) 128 = .ok (.goto 7, 3) := by decide +kernel
theorem d_R_kindHere_131 : decode (mMc M_R_kindHere) 131 = .ok (.aload_n 0, 1) := by decide +kernel
theorem d_R_kindHere_132 : decode (mMc M_R_kindHere) 132 = .ok (.getfield 238, 3) := by decide +kernel
theorem d_R_kindHere_135 : decode (mMc M_R_kindHere) 135 = .ok (.putfield 238, 3) := by decide +kernel
theorem d_R_kindHere_138 : decode (mMc M_R_kindHere) 138 = .ok (.aload_n 0, 1) := by decide +kernel
theorem d_R_kindHere_139 : decode (mMc M_R_kindHere) 139 = .ok (.dup, 1) := by decide +kernel
theorem d_R_kindHere_140 : decode (mMc M_R_kindHere) 140 = .ok (.getfield 232, 3) := by decide +kernel
theorem d_R_kindHere_143 : decode (mMc M_R_kindHere) 143 = .ok (.iload_n 2, 1) := by decide +kernel
theorem d_R_kindHere_144 : decode (mMc M_R_kindHere) 144 = .ok (.iconst (-1), 1) := by decide +kernel
theorem d_R_kindHere_145 : decode (mMc M_R_kindHere) 145 = .ok (.if_icmp .ne 7, 3) := by decide +kernel
theorem d_R_kindHere_148 : decode (mMc M_R_kindHere) 148 = .ok (.iconst 0, 1) := by decide +kernel
theorem d_R_kindHere_149 : decode (mMc M_R_kindHere) 149 = .ok (.goto 14, 3) := by decide +kernel
theorem d_R_kindHere_152 : decode (mMc M_R_kindHere) 152 = .ok (.iload_n 2, 1) := by decide +kernel
theorem d_R_kindHere_153 : decode (mMc M_R_kindHere) 153 = .ok (.iconst 1, 1) := by decide +kernel
theorem d_R_kindHere_154 : decode (mMc M_R_kindHere) 154 = .ok (.iadd, 1) := by decide +kernel
theorem d_R_kindHere_155 : decode (mMc M_R_kindHere) 155 = .ok (.invokestatic 250, 3) := by decide +kernel
theorem d_R_kindHere_158 : decode (mMc M_R_kindHere) 158 = .ok (.iload_n 2, 1) := by decide +kernel
theorem d_R_kindHere_159 : decode (mMc M_R_kindHere) 159 = .ok (.invokestatic 250, 3) := by decide +kernel
theorem d_R_kindHere_162 : decode (mMc M_R_kindHere) 162 = .ok (.isub, 1) := by decide +kernel
theorem d_R_kindHere_163 : decode (mMc M_R_kindHere) 163 = .ok (.iadd, 1) := by decide +kernel
theorem d_R_kindHere_164 : decode (mMc M_R_kindHere) 164 = .ok (.putfield 232, 3) := by decide +kernel
theorem d_R_kindHere_167 : decode (mMc M_R_kindHere) 167 = .ok (.iload_n 2, 1) := by decide +kernel
theorem d_R_kindHere_168 : decode (mMc M_R_kindHere) 168 = .ok (.ireturn, 1) := by decide +kernel
theorem k_R_kindHere : mCd M_R_kindHere 0 := ⟨by decide, by decide, by decide +kernel, by decide, mG (9, 203) (by decide +kernel), mG (1, 15) (by decide +kernel)⟩
def M_R_startOf : mM := (⟨"FloatingDockModel", "startOf", "(I)I"⟩, prog_13_method_106_code, 1, (some .int), [])
theorem d_R_startOf_0 : decode (mMc M_R_startOf) 0 = .ok (.iload_n 0, 1) := by decide +kernel
theorem d_R_startOf_1 : decode (mMc M_R_startOf) 1 = .ok (.tableswitch 96 0 11 #[63, 65, 65, 65, 65, 74, 77, 80, 80, 80, 90, 93], 63) := by decide +kernel
theorem d_R_startOf_64 : decode (mMc M_R_startOf) 64 = .ok (.iconst 0, 1) := by decide +kernel
theorem d_R_startOf_65 : decode (mMc M_R_startOf) 65 = .ok (.ireturn, 1) := by decide +kernel
theorem d_R_startOf_66 : decode (mMc M_R_startOf) 66 = .ok (.iconst 5, 1) := by decide +kernel
theorem d_R_startOf_67 : decode (mMc M_R_startOf) 67 = .ok (.bipush 6, 2) := by decide +kernel
theorem d_R_startOf_69 : decode (mMc M_R_startOf) 69 = .ok (.iload_n 0, 1) := by decide +kernel
theorem d_R_startOf_70 : decode (mMc M_R_startOf) 70 = .ok (.iconst 1, 1) := by decide +kernel
theorem d_R_startOf_71 : decode (mMc M_R_startOf) 71 = .ok (.isub, 1) := by decide +kernel
theorem d_R_startOf_72 : decode (mMc M_R_startOf) 72 = .ok (.imul, 1) := by decide +kernel
theorem d_R_startOf_73 : decode (mMc M_R_startOf) 73 = .ok (.iadd, 1) := by decide +kernel
theorem d_R_startOf_74 : decode (mMc M_R_startOf) 74 = .ok (.ireturn, 1) := by decide +kernel
theorem d_R_startOf_75 : decode (mMc M_R_startOf) 75 = .ok (.bipush 28, 2) := by decide +kernel
theorem d_R_startOf_77 : decode (mMc M_R_startOf) 77 = .ok (.ireturn, 1) := by decide +kernel
theorem d_R_startOf_78 : decode (mMc M_R_startOf) 78 = .ok (.bipush 32, 2) := by decide +kernel
theorem d_R_startOf_80 : decode (mMc M_R_startOf) 80 = .ok (.ireturn, 1) := by decide +kernel
theorem d_R_startOf_81 : decode (mMc M_R_startOf) 81 = .ok (.bipush 37, 2) := by decide +kernel
theorem d_R_startOf_83 : decode (mMc M_R_startOf) 83 = .ok (.iconst 5, 1) := by decide +kernel
theorem d_R_startOf_84 : decode (mMc M_R_startOf) 84 = .ok (.iload_n 0, 1) := by decide +kernel
theorem d_R_startOf_85 : decode (mMc M_R_startOf) 85 = .ok (.bipush 7, 2) := by decide +kernel
theorem d_R_startOf_87 : decode (mMc M_R_startOf) 87 = .ok (.isub, 1) := by decide +kernel
theorem d_R_startOf_88 : decode (mMc M_R_startOf) 88 = .ok (.imul, 1) := by decide +kernel
theorem d_R_startOf_89 : decode (mMc M_R_startOf) 89 = .ok (.iadd, 1) := by decide +kernel
theorem d_R_startOf_90 : decode (mMc M_R_startOf) 90 = .ok (.ireturn, 1) := by decide +kernel
theorem d_R_startOf_91 : decode (mMc M_R_startOf) 91 = .ok (.bipush 53, 2) := by decide +kernel
theorem d_R_startOf_93 : decode (mMc M_R_startOf) 93 = .ok (.ireturn, 1) := by decide +kernel
theorem d_R_startOf_94 : decode (mMc M_R_startOf) 94 = .ok (.bipush 61, 2) := by decide +kernel
theorem d_R_startOf_96 : decode (mMc M_R_startOf) 96 = .ok (.ireturn, 1) := by decide +kernel
theorem d_R_startOf_97 : decode (mMc M_R_startOf) 97 = .ok (.bipush 65, 2) := by decide +kernel
theorem d_R_startOf_99 : decode (mMc M_R_startOf) 99 = .ok (.ireturn, 1) := by decide +kernel
theorem k_R_startOf : mCd M_R_startOf 1 := ⟨by decide, by decide, by decide +kernel, by decide, mG (9, 206) (by decide +kernel), mG (1, 15) (by decide +kernel)⟩
def M_R_letterHere : mM := (⟨"FloatingDockModel", "letterHere", "()I"⟩, prog_13_method_102_code, 1, (some .int), [])
theorem d_R_letterHere_0 : decode (mMc M_R_letterHere) 0 = .ok (.aload_n 0, 1) := by decide +kernel
theorem d_R_letterHere_1 : decode (mMc M_R_letterHere) 1 = .ok (.getfield 232, 3) := by decide +kernel
theorem d_R_letterHere_4 : decode (mMc M_R_letterHere) 4 = .ok (.aload_n 0, 1) := by decide +kernel
theorem d_R_letterHere_5 : decode (mMc M_R_letterHere) 5 = .ok (.getfield 235, 3) := by decide +kernel
theorem d_R_letterHere_8 : decode (mMc M_R_letterHere) 8 = .ok (.if_icmp .ge 15, 3) := by decide +kernel
theorem d_R_letterHere_11 : decode (mMc M_R_letterHere) 11 = .ok (.aload_n 0, 1) := by decide +kernel
theorem d_R_letterHere_12 : decode (mMc M_R_letterHere) 12 = .ok (.getfield 29, 3) := by decide +kernel
theorem d_R_letterHere_15 : decode (mMc M_R_letterHere) 15 = .ok (.aload_n 0, 1) := by decide +kernel
theorem d_R_letterHere_16 : decode (mMc M_R_letterHere) 16 = .ok (.getfield 232, 3) := by decide +kernel
theorem d_R_letterHere_19 : decode (mMc M_R_letterHere) 19 = .ok (.iaload, 1) := by decide +kernel
theorem d_R_letterHere_20 : decode (mMc M_R_letterHere) 20 = .ok (.goto 4, 3) := by decide +kernel
theorem d_R_letterHere_23 : decode (mMc M_R_letterHere) 23 = .ok (.iconst (-1), 1) := by decide +kernel
theorem d_R_letterHere_24 : decode (mMc M_R_letterHere) 24 = .ok (.ireturn, 1) := by decide +kernel
theorem k_R_letterHere : mCd M_R_letterHere 0 := ⟨by decide, by decide, by decide +kernel, by decide, mG (9, 212) (by decide +kernel), mG (1, 15) (by decide +kernel)⟩
def M_R_numberBehind : mM := (⟨"FloatingDockModel", "numberBehind", "(I)I"⟩, prog_13_method_105_code, 3, (some .int), [])
theorem d_R_numberBehind_0 : decode (mMc M_R_numberBehind) 0 = .ok (.aload_n 0, 1) := by decide +kernel
theorem d_R_numberBehind_1 : decode (mMc M_R_numberBehind) 1 = .ok (.iload_n 1, 1) := by decide +kernel
theorem d_R_numberBehind_2 : decode (mMc M_R_numberBehind) 2 = .ok (.iload_n 1, 1) := by decide +kernel
theorem d_R_numberBehind_3 : decode (mMc M_R_numberBehind) 3 = .ok (.invokevirtual 244, 3) := by decide +kernel
theorem d_R_numberBehind_6 : decode (mMc M_R_numberBehind) 6 = .ok (.istore_n 2, 1) := by decide +kernel
theorem d_R_numberBehind_7 : decode (mMc M_R_numberBehind) 7 = .ok (.aload_n 0, 1) := by decide +kernel
theorem d_R_numberBehind_8 : decode (mMc M_R_numberBehind) 8 = .ok (.invokevirtual 247, 3) := by decide +kernel
theorem d_R_numberBehind_11 : decode (mMc M_R_numberBehind) 11 = .ok (.ireturn, 1) := by decide +kernel
theorem k_R_numberBehind : mCd M_R_numberBehind 1 := ⟨by decide, by decide, by decide +kernel, by decide, mG (9, 216) (by decide +kernel), mG (1, 15) (by decide +kernel)⟩
def M_R_reads : mM := (⟨"FloatingDockModel", "reads", "(II)I"⟩, prog_13_method_103_code, 3, (some .int), [])
theorem d_R_reads_0 : decode (mMc M_R_reads) 0 = .ok (.aload_n 0, 1) := by decide +kernel
theorem d_R_reads_1 : decode (mMc M_R_reads) 1 = .ok (.getfield 238, 3) := by decide +kernel
theorem d_R_reads_4 : decode (mMc M_R_reads) 4 = .ok (.iconst (-1), 1) := by decide +kernel
theorem d_R_reads_5 : decode (mMc M_R_reads) 5 = .ok (.if_icmp .ne 39, 3) := by decide +kernel
theorem d_R_reads_8 : decode (mMc M_R_reads) 8 = .ok (.aload_n 0, 1) := by decide +kernel
theorem d_R_reads_9 : decode (mMc M_R_reads) 9 = .ok (.invokevirtual 241, 3) := by decide +kernel
theorem d_R_reads_12 : decode (mMc M_R_reads) 12 = .ok (.iload_n 1, 1) := by decide +kernel
theorem d_R_reads_13 : decode (mMc M_R_reads) 13 = .ok (.iload_n 2, 1) := by decide +kernel
theorem d_R_reads_14 : decode (mMc M_R_reads) 14 = .ok (.invokestatic 83, 3) := by decide +kernel
theorem d_R_reads_17 : decode (mMc M_R_reads) 17 = .ok (.ifCond .eq 27, 3) := by decide +kernel
theorem d_R_reads_20 : decode (mMc M_R_reads) 20 = .ok (.aload_n 0, 1) := by decide +kernel
theorem d_R_reads_21 : decode (mMc M_R_reads) 21 = .ok (.dup, 1) := by decide +kernel
theorem d_R_reads_22 : decode (mMc M_R_reads) 22 = .ok (.getfield 232, 3) := by decide +kernel
theorem d_R_reads_25 : decode (mMc M_R_reads) 25 = .ok (.iconst 1, 1) := by decide +kernel
theorem d_R_reads_26 : decode (mMc M_R_reads) 26 = .ok (.iadd, 1) := by decide +kernel
theorem d_R_reads_27 : decode (mMc M_R_reads) 27 = .ok (.putfield 232, 3) := by decide +kernel
theorem d_R_reads_30 : decode (mMc M_R_reads) 30 = .ok (.aload_n 0, 1) := by decide +kernel
theorem d_R_reads_31 : decode (mMc M_R_reads) 31 = .ok (.getfield 29, 3) := by decide +kernel
theorem d_R_reads_34 : decode (mMc M_R_reads) 34 = .ok (.aload_n 0, 1) := by decide +kernel
theorem d_R_reads_35 : decode (mMc M_R_reads) 35 = .ok (.getfield 232, 3) := by decide +kernel
theorem d_R_reads_38 : decode (mMc M_R_reads) 38 = .ok (.iconst 1, 1) := by decide +kernel
theorem d_R_reads_39 : decode (mMc M_R_reads) 39 = .ok (.isub, 1) := by decide +kernel
theorem d_R_reads_40 : decode (mMc M_R_reads) 40 = .ok (.iaload, 1) := by decide +kernel
theorem d_R_reads_41 : decode (mMc M_R_reads) 41 = .ok (.iload_n 1, 1) := by decide +kernel
theorem d_R_reads_42 : decode (mMc M_R_reads) 42 = .ok (.isub, 1) := by decide +kernel
theorem d_R_reads_43 : decode (mMc M_R_reads) 43 = .ok (.ireturn, 1) := by decide +kernel
theorem d_R_reads_44 : decode (mMc M_R_reads) 44 = .ok (.aload_n 0, 1) := by decide +kernel
theorem d_R_reads_45 : decode (mMc M_R_reads) 45 = .ok (.aload_n 0, 1) := by decide +kernel
theorem d_R_reads_46 : decode (mMc M_R_reads) 46 = .ok (.getfield 238, 3) := by decide +kernel
theorem d_R_reads_49 : decode (mMc M_R_reads) 49 = .ok (.iconst (-1), 1) := by decide +kernel
theorem d_R_reads_50 : decode (mMc M_R_reads) 50 = .ok (.if_icmp .ne 10, 3) := by decide +kernel
theorem d_R_reads_53 : decode (mMc M_R_reads) 53 = .ok (.aload_n 0, 1) := by decide +kernel
theorem d_R_reads_54 : decode (mMc M_R_reads) 54 = .ok (.getfield 232, 3) := by decide +kernel
theorem d_R_reads_57 : decode (mMc M_R_reads) 57 = .ok (.goto 7, 3) := by decide +kernel
theorem d_R_reads_60 : decode (mMc M_R_reads) 60 = .ok (.aload_n 0, 1) := by decide +kernel
theorem d_R_reads_61 : decode (mMc M_R_reads) 61 = .ok (.getfield 238, 3) := by decide +kernel
theorem d_R_reads_64 : decode (mMc M_R_reads) 64 = .ok (.putfield 238, 3) := by decide +kernel
theorem d_R_reads_67 : decode (mMc M_R_reads) 67 = .ok (.iconst 0, 1) := by decide +kernel
theorem d_R_reads_68 : decode (mMc M_R_reads) 68 = .ok (.ireturn, 1) := by decide +kernel
theorem k_R_reads : mCd M_R_reads 2 := ⟨by decide, by decide, by decide +kernel, by decide, mG (9, 220) (by decide +kernel), mG (1, 15) (by decide +kernel)⟩
def M_R_number : mM := (⟨"FloatingDockModel", "number", "()I"⟩, prog_13_method_104_code, 3, (some .int), [])
theorem d_R_number_0 : decode (mMc M_R_number) 0 = .ok (.aload_n 0, 1) := by decide +kernel
theorem d_R_number_1 : decode (mMc M_R_number) 1 = .ok (.bipush 48, 2) := by decide +kernel
theorem d_R_number_3 : decode (mMc M_R_number) 3 = .ok (.bipush 57, 2) := by decide +kernel
theorem d_R_number_5 : decode (mMc M_R_number) 5 = .ok (.invokevirtual 244, 3) := by decide +kernel
theorem d_R_number_8 : decode (mMc M_R_number) 8 = .ok (.istore_n 1, 1) := by decide +kernel
theorem d_R_number_9 : decode (mMc M_R_number) 9 = .ok (.iconst 1, 1) := by decide +kernel
theorem d_R_number_10 : decode (mMc M_R_number) 10 = .ok (.istore_n 2, 1) := by decide +kernel
theorem d_R_number_11 : decode (mMc M_R_number) 11 = .ok (.iload_n 2, 1) := by decide +kernel
theorem d_R_number_12 : decode (mMc M_R_number) 12 = .ok (.iconst 3, 1) := by decide +kernel
theorem d_R_number_13 : decode (mMc M_R_number) 13 = .ok (.if_icmp .ge 45, 3) := by decide +kernel
theorem d_R_number_16 : decode (mMc M_R_number) 16 = .ok (.aload_n 0, 1) := by decide +kernel
theorem d_R_number_17 : decode (mMc M_R_number) 17 = .ok (.getfield 238, 3) := by decide +kernel
theorem d_R_number_20 : decode (mMc M_R_number) 20 = .ok (.iconst (-1), 1) := by decide +kernel
theorem d_R_number_21 : decode (mMc M_R_number) 21 = .ok (.if_icmp .ne 37, 3) := by decide +kernel
theorem d_R_number_24 : decode (mMc M_R_number) 24 = .ok (.aload_n 0, 1) := by decide +kernel
theorem d_R_number_25 : decode (mMc M_R_number) 25 = .ok (.invokevirtual 241, 3) := by decide +kernel
theorem d_R_number_28 : decode (mMc M_R_number) 28 = .ok (.bipush 48, 2) := by decide +kernel
theorem d_R_number_30 : decode (mMc M_R_number) 30 = .ok (.bipush 57, 2) := by decide +kernel
theorem d_R_number_32 : decode (mMc M_R_number) 32 = .ok (.invokestatic 83, 3) := by decide +kernel
theorem d_R_number_35 : decode (mMc M_R_number) 35 = .ok (.ifCond .eq 23, 3) := by decide +kernel
theorem d_R_number_38 : decode (mMc M_R_number) 38 = .ok (.bipush 10, 2) := by decide +kernel
theorem d_R_number_40 : decode (mMc M_R_number) 40 = .ok (.iload_n 1, 1) := by decide +kernel
theorem d_R_number_41 : decode (mMc M_R_number) 41 = .ok (.imul, 1) := by decide +kernel
theorem d_R_number_42 : decode (mMc M_R_number) 42 = .ok (.aload_n 0, 1) := by decide +kernel
theorem d_R_number_43 : decode (mMc M_R_number) 43 = .ok (.bipush 48, 2) := by decide +kernel
theorem d_R_number_45 : decode (mMc M_R_number) 45 = .ok (.bipush 57, 2) := by decide +kernel
theorem d_R_number_47 : decode (mMc M_R_number) 47 = .ok (.invokevirtual 244, 3) := by decide +kernel
theorem d_R_number_50 : decode (mMc M_R_number) 50 = .ok (.iadd, 1) := by decide +kernel
theorem d_R_number_51 : decode (mMc M_R_number) 51 = .ok (.istore_n 1, 1) := by decide +kernel
theorem d_R_number_52 : decode (mMc M_R_number) 52 = .ok (.iinc 2 1, 3) := by decide +kernel
theorem d_R_number_55 : decode (mMc M_R_number) 55 = .ok (.goto (-44), 3) := by decide +kernel
theorem d_R_number_58 : decode (mMc M_R_number) 58 = .ok (.iload_n 1, 1) := by decide +kernel
theorem d_R_number_59 : decode (mMc M_R_number) 59 = .ok (.ireturn, 1) := by decide +kernel
theorem k_R_number : mCd M_R_number 0 := ⟨by decide, by decide, by decide +kernel, by decide, mG (9, 224) (by decide +kernel), mG (1, 15) (by decide +kernel)⟩
def M_R_does : mM := (⟨"FloatingDockModel", "does", "(I)I"⟩, prog_13_method_110_code, 4, (some .int), [])
theorem d_R_does_0 : decode (mMc M_R_does) 0 = .ok (.aload_n 0, 1) := by decide +kernel
theorem d_R_does_1 : decode (mMc M_R_does) 1 = .ok (.getfield 39, 3) := by decide +kernel
theorem d_R_does_4 : decode (mMc M_R_does) 4 = .ok (.iload_n 1, 1) := by decide +kernel
theorem d_R_does_5 : decode (mMc M_R_does) 5 = .ok (.iconst 1, 1) := by decide +kernel
theorem d_R_does_6 : decode (mMc M_R_does) 6 = .ok (.iadd, 1) := by decide +kernel
theorem d_R_does_7 : decode (mMc M_R_does) 7 = .ok (.iaload, 1) := by decide +kernel
theorem d_R_does_8 : decode (mMc M_R_does) 8 = .ok (.istore_n 2, 1) := by decide +kernel
theorem d_R_does_9 : decode (mMc M_R_does) 9 = .ok (.aload_n 0, 1) := by decide +kernel
theorem d_R_does_10 : decode (mMc M_R_does) 10 = .ok (.getfield 39, 3) := by decide +kernel
theorem d_R_does_13 : decode (mMc M_R_does) 13 = .ok (.iload_n 1, 1) := by decide +kernel
theorem d_R_does_14 : decode (mMc M_R_does) 14 = .ok (.iconst 2, 1) := by decide +kernel
theorem d_R_does_15 : decode (mMc M_R_does) 15 = .ok (.iadd, 1) := by decide +kernel
theorem d_R_does_16 : decode (mMc M_R_does) 16 = .ok (.iaload, 1) := by decide +kernel
theorem d_R_does_17 : decode (mMc M_R_does) 17 = .ok (.istore_n 3, 1) := by decide +kernel
theorem d_R_does_18 : decode (mMc M_R_does) 18 = .ok (.aload_n 0, 1) := by decide +kernel
theorem d_R_does_19 : decode (mMc M_R_does) 19 = .ok (.getfield 39, 3) := by decide +kernel
theorem d_R_does_22 : decode (mMc M_R_does) 22 = .ok (.iload_n 1, 1) := by decide +kernel
theorem d_R_does_23 : decode (mMc M_R_does) 23 = .ok (.iaload, 1) := by decide +kernel
theorem d_R_does_24 : decode (mMc M_R_does) 24 = .ok (.tableswitch 140 0 10 #[60, 75, 82, 88, 88, 102, 102, 116, 122, 128, 134], 60) := by decide +kernel
theorem d_R_does_84 : decode (mMc M_R_does) 84 = .ok (.aload_n 0, 1) := by decide +kernel
theorem d_R_does_85 : decode (mMc M_R_does) 85 = .ok (.iload_n 2, 1) := by decide +kernel
theorem d_R_does_86 : decode (mMc M_R_does) 86 = .ok (.iload_n 3, 1) := by decide +kernel
theorem d_R_does_87 : decode (mMc M_R_does) 87 = .ok (.aload_n 0, 1) := by decide +kernel
theorem d_R_does_88 : decode (mMc M_R_does) 88 = .ok (.getfield 39, 3) := by decide +kernel
theorem d_R_does_91 : decode (mMc M_R_does) 91 = .ok (.iload_n 1, 1) := by decide +kernel
theorem d_R_does_92 : decode (mMc M_R_does) 92 = .ok (.iconst 3, 1) := by decide +kernel
theorem d_R_does_93 : decode (mMc M_R_does) 93 = .ok (.iadd, 1) := by decide +kernel
theorem d_R_does_94 : decode (mMc M_R_does) 94 = .ok (.iaload, 1) := by decide +kernel
theorem d_R_does_95 : decode (mMc M_R_does) 95 = .ok (.invokevirtual 97, 3) := by decide +kernel
theorem d_R_does_98 : decode (mMc M_R_does) 98 = .ok (.ireturn, 1) := by decide +kernel
theorem d_R_does_99 : decode (mMc M_R_does) 99 = .ok (.aload_n 0, 1) := by decide +kernel
theorem d_R_does_100 : decode (mMc M_R_does) 100 = .ok (.iload_n 2, 1) := by decide +kernel
theorem d_R_does_101 : decode (mMc M_R_does) 101 = .ok (.iload_n 3, 1) := by decide +kernel
theorem d_R_does_102 : decode (mMc M_R_does) 102 = .ok (.invokevirtual 125, 3) := by decide +kernel
theorem d_R_does_105 : decode (mMc M_R_does) 105 = .ok (.ireturn, 1) := by decide +kernel
theorem d_R_does_106 : decode (mMc M_R_does) 106 = .ok (.aload_n 0, 1) := by decide +kernel
theorem d_R_does_107 : decode (mMc M_R_does) 107 = .ok (.iload_n 2, 1) := by decide +kernel
theorem d_R_does_108 : decode (mMc M_R_does) 108 = .ok (.invokevirtual 131, 3) := by decide +kernel
theorem d_R_does_111 : decode (mMc M_R_does) 111 = .ok (.ireturn, 1) := by decide +kernel
theorem d_R_does_112 : decode (mMc M_R_does) 112 = .ok (.aload_n 0, 1) := by decide +kernel
theorem d_R_does_113 : decode (mMc M_R_does) 113 = .ok (.iload_n 2, 1) := by decide +kernel
theorem d_R_does_114 : decode (mMc M_R_does) 114 = .ok (.iconst 4, 1) := by decide +kernel
theorem d_R_does_115 : decode (mMc M_R_does) 115 = .ok (.aload_n 0, 1) := by decide +kernel
theorem d_R_does_116 : decode (mMc M_R_does) 116 = .ok (.getfield 39, 3) := by decide +kernel
theorem d_R_does_119 : decode (mMc M_R_does) 119 = .ok (.iload_n 1, 1) := by decide +kernel
theorem d_R_does_120 : decode (mMc M_R_does) 120 = .ok (.iaload, 1) := by decide +kernel
theorem d_R_does_121 : decode (mMc M_R_does) 121 = .ok (.isub, 1) := by decide +kernel
theorem d_R_does_122 : decode (mMc M_R_does) 122 = .ok (.invokevirtual 134, 3) := by decide +kernel
theorem d_R_does_125 : decode (mMc M_R_does) 125 = .ok (.ireturn, 1) := by decide +kernel
theorem d_R_does_126 : decode (mMc M_R_does) 126 = .ok (.aload_n 0, 1) := by decide +kernel
theorem d_R_does_127 : decode (mMc M_R_does) 127 = .ok (.bipush 6, 2) := by decide +kernel
theorem d_R_does_129 : decode (mMc M_R_does) 129 = .ok (.aload_n 0, 1) := by decide +kernel
theorem d_R_does_130 : decode (mMc M_R_does) 130 = .ok (.getfield 39, 3) := by decide +kernel
theorem d_R_does_133 : decode (mMc M_R_does) 133 = .ok (.iload_n 1, 1) := by decide +kernel
theorem d_R_does_134 : decode (mMc M_R_does) 134 = .ok (.iaload, 1) := by decide +kernel
theorem d_R_does_135 : decode (mMc M_R_does) 135 = .ok (.isub, 1) := by decide +kernel
theorem d_R_does_136 : decode (mMc M_R_does) 136 = .ok (.invokevirtual 146, 3) := by decide +kernel
theorem d_R_does_139 : decode (mMc M_R_does) 139 = .ok (.ireturn, 1) := by decide +kernel
theorem d_R_does_140 : decode (mMc M_R_does) 140 = .ok (.aload_n 0, 1) := by decide +kernel
theorem d_R_does_141 : decode (mMc M_R_does) 141 = .ok (.iload_n 2, 1) := by decide +kernel
theorem d_R_does_142 : decode (mMc M_R_does) 142 = .ok (.invokevirtual 149, 3) := by decide +kernel
theorem d_R_does_145 : decode (mMc M_R_does) 145 = .ok (.ireturn, 1) := by decide +kernel
theorem d_R_does_146 : decode (mMc M_R_does) 146 = .ok (.aload_n 0, 1) := by decide +kernel
theorem d_R_does_147 : decode (mMc M_R_does) 147 = .ok (.iload_n 2, 1) := by decide +kernel
theorem d_R_does_148 : decode (mMc M_R_does) 148 = .ok (.invokevirtual 179, 3) := by decide +kernel
theorem d_R_does_151 : decode (mMc M_R_does) 151 = .ok (.ireturn, 1) := by decide +kernel
theorem d_R_does_152 : decode (mMc M_R_does) 152 = .ok (.aload_n 0, 1) := by decide +kernel
theorem d_R_does_153 : decode (mMc M_R_does) 153 = .ok (.iload_n 2, 1) := by decide +kernel
theorem d_R_does_154 : decode (mMc M_R_does) 154 = .ok (.invokevirtual 158, 3) := by decide +kernel
theorem d_R_does_157 : decode (mMc M_R_does) 157 = .ok (.ireturn, 1) := by decide +kernel
theorem d_R_does_158 : decode (mMc M_R_does) 158 = .ok (.aload_n 0, 1) := by decide +kernel
theorem d_R_does_159 : decode (mMc M_R_does) 159 = .ok (.iload_n 2, 1) := by decide +kernel
theorem d_R_does_160 : decode (mMc M_R_does) 160 = .ok (.invokevirtual 161, 3) := by decide +kernel
theorem d_R_does_163 : decode (mMc M_R_does) 163 = .ok (.ireturn, 1) := by decide +kernel
theorem d_R_does_164 : decode (mMc M_R_does) 164 = .ok (.aload_n 0, 1) := by decide +kernel
theorem d_R_does_165 : decode (mMc M_R_does) 165 = .ok (.iload_n 2, 1) := by decide +kernel
theorem d_R_does_166 : decode (mMc M_R_does) 166 = .ok (.iload_n 3, 1) := by decide +kernel
theorem d_R_does_167 : decode (mMc M_R_does) 167 = .ok (.invokevirtual 137, 3) := by decide +kernel
theorem d_R_does_170 : decode (mMc M_R_does) 170 = .ok (.ireturn, 1) := by decide +kernel
theorem k_R_does : mCd M_R_does 1 := ⟨by decide, by decide, by decide +kernel, by decide, mG (9, 228) (by decide +kernel), mG (1, 15) (by decide +kernel)⟩
def M_R_errorPosition : mM := (⟨"FloatingDockModel", "errorPosition", "()I"⟩, prog_13_method_112_code, 1, (some .int), [])
theorem d_R_errorPosition_0 : decode (mMc M_R_errorPosition) 0 = .ok (.aload_n 0, 1) := by decide +kernel
theorem d_R_errorPosition_1 : decode (mMc M_R_errorPosition) 1 = .ok (.aload_n 0, 1) := by decide +kernel
theorem d_R_errorPosition_2 : decode (mMc M_R_errorPosition) 2 = .ok (.getfield 22, 3) := by decide +kernel
theorem d_R_errorPosition_5 : decode (mMc M_R_errorPosition) 5 = .ok (.iconst (-1), 1) := by decide +kernel
theorem d_R_errorPosition_6 : decode (mMc M_R_errorPosition) 6 = .ok (.if_icmp .eq 7, 3) := by decide +kernel
theorem d_R_errorPosition_9 : decode (mMc M_R_errorPosition) 9 = .ok (.iconst 1, 1) := by decide +kernel
theorem d_R_errorPosition_10 : decode (mMc M_R_errorPosition) 10 = .ok (.goto 4, 3) := by decide +kernel
theorem d_R_errorPosition_13 : decode (mMc M_R_errorPosition) 13 = .ok (.iconst 0, 1) := by decide +kernel
theorem d_R_errorPosition_14 : decode (mMc M_R_errorPosition) 14 = .ok (.invokevirtual 59, 3) := by decide +kernel
theorem d_R_errorPosition_17 : decode (mMc M_R_errorPosition) 17 = .ok (.ifCond .eq 10, 3) := by decide +kernel
theorem d_R_errorPosition_20 : decode (mMc M_R_errorPosition) 20 = .ok (.aload_n 0, 1) := by decide +kernel
theorem d_R_errorPosition_21 : decode (mMc M_R_errorPosition) 21 = .ok (.getfield 22, 3) := by decide +kernel
theorem d_R_errorPosition_24 : decode (mMc M_R_errorPosition) 24 = .ok (.goto 4, 3) := by decide +kernel
theorem d_R_errorPosition_27 : decode (mMc M_R_errorPosition) 27 = .ok (.iconst 0, 1) := by decide +kernel
theorem d_R_errorPosition_28 : decode (mMc M_R_errorPosition) 28 = .ok (.ireturn, 1) := by decide +kernel
theorem k_R_errorPosition : mCd M_R_errorPosition 0 := ⟨by decide, by decide, by decide +kernel, by decide, mG (9, 232) (by decide +kernel), mG (1, 15) (by decide +kernel)⟩
def M_R_failedCommand : mM := (⟨"FloatingDockModel", "failedCommand", "()I"⟩, prog_13_method_113_code, 1, (some .int), [])
theorem d_R_failedCommand_0 : decode (mMc M_R_failedCommand) 0 = .ok (.aload_n 0, 1) := by decide +kernel
theorem d_R_failedCommand_1 : decode (mMc M_R_failedCommand) 1 = .ok (.aload_n 0, 1) := by decide +kernel
theorem d_R_failedCommand_2 : decode (mMc M_R_failedCommand) 2 = .ok (.getfield 26, 3) := by decide +kernel
theorem d_R_failedCommand_5 : decode (mMc M_R_failedCommand) 5 = .ok (.iconst (-1), 1) := by decide +kernel
theorem d_R_failedCommand_6 : decode (mMc M_R_failedCommand) 6 = .ok (.if_icmp .eq 7, 3) := by decide +kernel
theorem d_R_failedCommand_9 : decode (mMc M_R_failedCommand) 9 = .ok (.iconst 1, 1) := by decide +kernel
theorem d_R_failedCommand_10 : decode (mMc M_R_failedCommand) 10 = .ok (.goto 4, 3) := by decide +kernel
theorem d_R_failedCommand_13 : decode (mMc M_R_failedCommand) 13 = .ok (.iconst 0, 1) := by decide +kernel
theorem d_R_failedCommand_14 : decode (mMc M_R_failedCommand) 14 = .ok (.invokevirtual 59, 3) := by decide +kernel
theorem d_R_failedCommand_17 : decode (mMc M_R_failedCommand) 17 = .ok (.ifCond .eq 10, 3) := by decide +kernel
theorem d_R_failedCommand_20 : decode (mMc M_R_failedCommand) 20 = .ok (.aload_n 0, 1) := by decide +kernel
theorem d_R_failedCommand_21 : decode (mMc M_R_failedCommand) 21 = .ok (.getfield 26, 3) := by decide +kernel
theorem d_R_failedCommand_24 : decode (mMc M_R_failedCommand) 24 = .ok (.goto 4, 3) := by decide +kernel
theorem d_R_failedCommand_27 : decode (mMc M_R_failedCommand) 27 = .ok (.iconst 0, 1) := by decide +kernel
theorem d_R_failedCommand_28 : decode (mMc M_R_failedCommand) 28 = .ok (.ireturn, 1) := by decide +kernel
theorem k_R_failedCommand : mCd M_R_failedCommand 0 := ⟨by decide, by decide, by decide +kernel, by decide, mG (9, 236) (by decide +kernel), mG (1, 15) (by decide +kernel)⟩
