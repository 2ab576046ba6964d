/-! methods, instructions, what a caller asks -/
def M_W_pick : mM := (⟨"FloatingDockLaw", "pick", "([III)I"⟩, method_3_code, 3, (some .int), [])
theorem d_W_pick_0 : decode (mMc M_W_pick) 0 = .ok (.aload_n 0, 1) := by decide +kernel
theorem d_W_pick_1 : decode (mMc M_W_pick) 1 = .ok (.iload_n 1, 1) := by decide +kernel
theorem d_W_pick_2 : decode (mMc M_W_pick) 2 = .ok (.invokestatic 9, 3) := by decide +kernel
theorem d_W_pick_5 : decode (mMc M_W_pick) 5 = .ok (.bipush 8, 2) := by decide +kernel
theorem d_W_pick_7 : decode (mMc M_W_pick) 7 = .ok (.iushr, 1) := by decide +kernel
theorem d_W_pick_8 : decode (mMc M_W_pick) 8 = .ok (.iload_n 2, 1) := by decide +kernel
theorem d_W_pick_9 : decode (mMc M_W_pick) 9 = .ok (.irem, 1) := by decide +kernel
theorem d_W_pick_10 : decode (mMc M_W_pick) 10 = .ok (.ireturn, 1) := by decide +kernel
theorem k_W_pick : mCd M_W_pick 3 := ⟨by decide, by decide, by decide +kernel, by decide, mG (2, 86) (by decide +kernel), mG (1, 0) (by decide +kernel)⟩
def M_W_cell : mM := (⟨"FloatingDockLaw", "cell", "([II)I"⟩, method_2_code, 3, (some .int), [])
theorem d_W_cell_0 : decode (mMc M_W_cell) 0 = .ok (.ldc 7, 2) := by decide +kernel
theorem d_W_cell_2 : decode (mMc M_W_cell) 2 = .ok (.iload_n 1, 1) := by decide +kernel
theorem d_W_cell_3 : decode (mMc M_W_cell) 3 = .ok (.aload_n 0, 1) := by decide +kernel
theorem d_W_cell_4 : decode (mMc M_W_cell) 4 = .ok (.arraylength, 1) := by decide +kernel
theorem d_W_cell_5 : decode (mMc M_W_cell) 5 = .ok (.if_icmp .ge 9, 3) := by decide +kernel
theorem d_W_cell_8 : decode (mMc M_W_cell) 8 = .ok (.aload_n 0, 1) := by decide +kernel
theorem d_W_cell_9 : decode (mMc M_W_cell) 9 = .ok (.iload_n 1, 1) := by decide +kernel
theorem d_W_cell_10 : decode (mMc M_W_cell) 10 = .ok (.iaload, 1) := by decide +kernel
theorem d_W_cell_11 : decode (mMc M_W_cell) 11 = .ok (.goto 4, 3) := by decide +kernel
theorem d_W_cell_14 : decode (mMc M_W_cell) 14 = .ok (.iconst 0, 1) := by decide +kernel
theorem d_W_cell_15 : decode (mMc M_W_cell) 15 = .ok (.sipush 1009, 3) := by decide +kernel
theorem d_W_cell_18 : decode (mMc M_W_cell) 18 = .ok (.iload_n 1, 1) := by decide +kernel
theorem d_W_cell_19 : decode (mMc M_W_cell) 19 = .ok (.imul, 1) := by decide +kernel
theorem d_W_cell_20 : decode (mMc M_W_cell) 20 = .ok (.iadd, 1) := by decide +kernel
theorem d_W_cell_21 : decode (mMc M_W_cell) 21 = .ok (.imul, 1) := by decide +kernel
theorem d_W_cell_22 : decode (mMc M_W_cell) 22 = .ok (.sipush 12345, 3) := by decide +kernel
theorem d_W_cell_25 : decode (mMc M_W_cell) 25 = .ok (.iadd, 1) := by decide +kernel
theorem d_W_cell_26 : decode (mMc M_W_cell) 26 = .ok (.istore_n 2, 1) := by decide +kernel
theorem d_W_cell_27 : decode (mMc M_W_cell) 27 = .ok (.iload_n 2, 1) := by decide +kernel
theorem d_W_cell_28 : decode (mMc M_W_cell) 28 = .ok (.iload_n 2, 1) := by decide +kernel
theorem d_W_cell_29 : decode (mMc M_W_cell) 29 = .ok (.bipush 13, 2) := by decide +kernel
theorem d_W_cell_31 : decode (mMc M_W_cell) 31 = .ok (.iushr, 1) := by decide +kernel
theorem d_W_cell_32 : decode (mMc M_W_cell) 32 = .ok (.ixor, 1) := by decide +kernel
theorem d_W_cell_33 : decode (mMc M_W_cell) 33 = .ok (.ldc 8, 2) := by decide +kernel
theorem d_W_cell_35 : decode (mMc M_W_cell) 35 = .ok (.imul, 1) := by decide +kernel
theorem d_W_cell_36 : decode (mMc M_W_cell) 36 = .ok (.istore_n 2, 1) := by decide +kernel
theorem d_W_cell_37 : decode (mMc M_W_cell) 37 = .ok (.iload_n 2, 1) := by decide +kernel
theorem d_W_cell_38 : decode (mMc M_W_cell) 38 = .ok (.iload_n 2, 1) := by decide +kernel
theorem d_W_cell_39 : decode (mMc M_W_cell) 39 = .ok (.bipush 16, 2) := by decide +kernel
theorem d_W_cell_41 : decode (mMc M_W_cell) 41 = .ok (.iushr, 1) := by decide +kernel
theorem d_W_cell_42 : decode (mMc M_W_cell) 42 = .ok (.ixor, 1) := by decide +kernel
theorem d_W_cell_43 : decode (mMc M_W_cell) 43 = .ok (.ireturn, 1) := by decide +kernel
theorem k_W_cell : mCd M_W_cell 2 := ⟨by decide, by decide, by decide +kernel, by decide, mG (2, 89) (by decide +kernel), mG (1, 0) (by decide +kernel)⟩
def M_W_lay : mM := (⟨"FloatingDockLaw", "lay", "(LFloatingDock;[I)V"⟩, method_9_code, 4, none, [])
theorem d_W_lay_0 : decode (mMc M_W_lay) 0 = .ok (.aload_n 0, 1) := by decide +kernel
theorem d_W_lay_1 : decode (mMc M_W_lay) 1 = .ok (.iconst 5, 1) := by decide +kernel
theorem d_W_lay_2 : decode (mMc M_W_lay) 2 = .ok (.iconst 0, 1) := by decide +kernel
theorem d_W_lay_3 : decode (mMc M_W_lay) 3 = .ok (.iconst 0, 1) := by decide +kernel
theorem d_W_lay_4 : decode (mMc M_W_lay) 4 = .ok (.iconst 0, 1) := by decide +kernel
theorem d_W_lay_5 : decode (mMc M_W_lay) 5 = .ok (.invokestatic 124, 3) := by decide +kernel
theorem d_W_lay_8 : decode (mMc M_W_lay) 8 = .ok (.aload_n 0, 1) := by decide +kernel
theorem d_W_lay_9 : decode (mMc M_W_lay) 9 = .ok (.bipush 6, 2) := by decide +kernel
theorem d_W_lay_11 : decode (mMc M_W_lay) 11 = .ok (.bipush (-30), 2) := by decide +kernel
theorem d_W_lay_13 : decode (mMc M_W_lay) 13 = .ok (.iconst 0, 1) := by decide +kernel
theorem d_W_lay_14 : decode (mMc M_W_lay) 14 = .ok (.iconst 0, 1) := by decide +kernel
theorem d_W_lay_15 : decode (mMc M_W_lay) 15 = .ok (.invokestatic 124, 3) := by decide +kernel
theorem d_W_lay_18 : decode (mMc M_W_lay) 18 = .ok (.iadd, 1) := by decide +kernel
theorem d_W_lay_19 : decode (mMc M_W_lay) 19 = .ok (.aload_n 0, 1) := by decide +kernel
theorem d_W_lay_20 : decode (mMc M_W_lay) 20 = .ok (.bipush 7, 2) := by decide +kernel
theorem d_W_lay_22 : decode (mMc M_W_lay) 22 = .ok (.iconst 4, 1) := by decide +kernel
theorem d_W_lay_23 : decode (mMc M_W_lay) 23 = .ok (.iconst 0, 1) := by decide +kernel
theorem d_W_lay_24 : decode (mMc M_W_lay) 24 = .ok (.iconst 0, 1) := by decide +kernel
theorem d_W_lay_25 : decode (mMc M_W_lay) 25 = .ok (.invokestatic 124, 3) := by decide +kernel
theorem d_W_lay_28 : decode (mMc M_W_lay) 28 = .ok (.iadd, 1) := by decide +kernel
theorem d_W_lay_29 : decode (mMc M_W_lay) 29 = .ok (.istore_n 2, 1) := by decide +kernel
theorem d_W_lay_30 : decode (mMc M_W_lay) 30 = .ok (.iconst 0, 1) := by decide +kernel
theorem d_W_lay_31 : decode (mMc M_W_lay) 31 = .ok (.istore_n 3, 1) := by decide +kernel
theorem d_W_lay_32 : decode (mMc M_W_lay) 32 = .ok (.iload_n 3, 1) := by decide +kernel
theorem d_W_lay_33 : decode (mMc M_W_lay) 33 = .ok (.aload_n 1, 1) := by decide +kernel
theorem d_W_lay_34 : decode (mMc M_W_lay) 34 = .ok (.iconst 0, 1) := by decide +kernel
theorem d_W_lay_35 : decode (mMc M_W_lay) 35 = .ok (.bipush 24, 2) := by decide +kernel
theorem d_W_lay_37 : decode (mMc M_W_lay) 37 = .ok (.invokestatic 127, 3) := by decide +kernel
theorem d_W_lay_40 : decode (mMc M_W_lay) 40 = .ok (.if_icmp .ge 30, 3) := by decide +kernel
theorem d_W_lay_43 : decode (mMc M_W_lay) 43 = .ok (.iload_n 2, 1) := by decide +kernel
theorem d_W_lay_44 : decode (mMc M_W_lay) 44 = .ok (.aload_n 0, 1) := by decide +kernel
theorem d_W_lay_45 : decode (mMc M_W_lay) 45 = .ok (.bipush 8, 2) := by decide +kernel
theorem d_W_lay_47 : decode (mMc M_W_lay) 47 = .ok (.aload_n 1, 1) := by decide +kernel
theorem d_W_lay_48 : decode (mMc M_W_lay) 48 = .ok (.bipush 11, 2) := by decide +kernel
theorem d_W_lay_50 : decode (mMc M_W_lay) 50 = .ok (.iload_n 3, 1) := by decide +kernel
theorem d_W_lay_51 : decode (mMc M_W_lay) 51 = .ok (.iadd, 1) := by decide +kernel
theorem d_W_lay_52 : decode (mMc M_W_lay) 52 = .ok (.bipush 60, 2) := by decide +kernel
theorem d_W_lay_54 : decode (mMc M_W_lay) 54 = .ok (.invokestatic 127, 3) := by decide +kernel
theorem d_W_lay_57 : decode (mMc M_W_lay) 57 = .ok (.iconst 0, 1) := by decide +kernel
theorem d_W_lay_58 : decode (mMc M_W_lay) 58 = .ok (.iconst 0, 1) := by decide +kernel
theorem d_W_lay_59 : decode (mMc M_W_lay) 59 = .ok (.invokestatic 124, 3) := by decide +kernel
theorem d_W_lay_62 : decode (mMc M_W_lay) 62 = .ok (.iadd, 1) := by decide +kernel
theorem d_W_lay_63 : decode (mMc M_W_lay) 63 = .ok (.istore_n 2, 1) := by decide +kernel
theorem d_W_lay_64 : decode (mMc M_W_lay) 64 = .ok (.iinc 3 1, 3) := by decide +kernel
theorem d_W_lay_67 : decode (mMc M_W_lay) 67 = .ok (.goto (-35), 3) := by decide +kernel
theorem d_W_lay_70 : decode (mMc M_W_lay) 70 = .ok (.iload_n 2, 1) := by decide +kernel
theorem d_W_lay_71 : decode (mMc M_W_lay) 71 = .ok (.aload_n 0, 1) := by decide +kernel
theorem d_W_lay_72 : decode (mMc M_W_lay) 72 = .ok (.bipush 6, 2) := by decide +kernel
theorem d_W_lay_74 : decode (mMc M_W_lay) 74 = .ok (.bipush 20, 2) := by decide +kernel
theorem d_W_lay_76 : decode (mMc M_W_lay) 76 = .ok (.aload_n 1, 1) := by decide +kernel
theorem d_W_lay_77 : decode (mMc M_W_lay) 77 = .ok (.iconst 1, 1) := by decide +kernel
theorem d_W_lay_78 : decode (mMc M_W_lay) 78 = .ok (.bipush 11, 2) := by decide +kernel
theorem d_W_lay_80 : decode (mMc M_W_lay) 80 = .ok (.invokestatic 127, 3) := by decide +kernel
theorem d_W_lay_83 : decode (mMc M_W_lay) 83 = .ok (.iadd, 1) := by decide +kernel
theorem d_W_lay_84 : decode (mMc M_W_lay) 84 = .ok (.iconst 0, 1) := by decide +kernel
theorem d_W_lay_85 : decode (mMc M_W_lay) 85 = .ok (.iconst 0, 1) := by decide +kernel
theorem d_W_lay_86 : decode (mMc M_W_lay) 86 = .ok (.invokestatic 124, 3) := by decide +kernel
theorem d_W_lay_89 : decode (mMc M_W_lay) 89 = .ok (.aload_n 0, 1) := by decide +kernel
theorem d_W_lay_90 : decode (mMc M_W_lay) 90 = .ok (.bipush 7, 2) := by decide +kernel
theorem d_W_lay_92 : decode (mMc M_W_lay) 92 = .ok (.iconst 5, 1) := by decide +kernel
theorem d_W_lay_93 : decode (mMc M_W_lay) 93 = .ok (.aload_n 1, 1) := by decide +kernel
theorem d_W_lay_94 : decode (mMc M_W_lay) 94 = .ok (.iconst 2, 1) := by decide +kernel
theorem d_W_lay_95 : decode (mMc M_W_lay) 95 = .ok (.iconst 3, 1) := by decide +kernel
theorem d_W_lay_96 : decode (mMc M_W_lay) 96 = .ok (.invokestatic 127, 3) := by decide +kernel
theorem d_W_lay_99 : decode (mMc M_W_lay) 99 = .ok (.iadd, 1) := by decide +kernel
theorem d_W_lay_100 : decode (mMc M_W_lay) 100 = .ok (.iconst 0, 1) := by decide +kernel
theorem d_W_lay_101 : decode (mMc M_W_lay) 101 = .ok (.iconst 0, 1) := by decide +kernel
theorem d_W_lay_102 : decode (mMc M_W_lay) 102 = .ok (.invokestatic 124, 3) := by decide +kernel
theorem d_W_lay_105 : decode (mMc M_W_lay) 105 = .ok (.iadd, 1) := by decide +kernel
theorem d_W_lay_106 : decode (mMc M_W_lay) 106 = .ok (.aload_n 0, 1) := by decide +kernel
theorem d_W_lay_107 : decode (mMc M_W_lay) 107 = .ok (.bipush 6, 2) := by decide +kernel
theorem d_W_lay_109 : decode (mMc M_W_lay) 109 = .ok (.iconst 0, 1) := by decide +kernel
theorem d_W_lay_110 : decode (mMc M_W_lay) 110 = .ok (.iconst 0, 1) := by decide +kernel
theorem d_W_lay_111 : decode (mMc M_W_lay) 111 = .ok (.iconst 0, 1) := by decide +kernel
theorem d_W_lay_112 : decode (mMc M_W_lay) 112 = .ok (.invokestatic 124, 3) := by decide +kernel
theorem d_W_lay_115 : decode (mMc M_W_lay) 115 = .ok (.iadd, 1) := by decide +kernel
theorem d_W_lay_116 : decode (mMc M_W_lay) 116 = .ok (.iadd, 1) := by decide +kernel
theorem d_W_lay_117 : decode (mMc M_W_lay) 117 = .ok (.istore_n 2, 1) := by decide +kernel
theorem d_W_lay_118 : decode (mMc M_W_lay) 118 = .ok (.iconst 0, 1) := by decide +kernel
theorem d_W_lay_119 : decode (mMc M_W_lay) 119 = .ok (.istore_n 3, 1) := by decide +kernel
theorem d_W_lay_120 : decode (mMc M_W_lay) 120 = .ok (.iload_n 3, 1) := by decide +kernel
theorem d_W_lay_121 : decode (mMc M_W_lay) 121 = .ok (.bipush 12, 2) := by decide +kernel
theorem d_W_lay_123 : decode (mMc M_W_lay) 123 = .ok (.if_icmp .ge 37, 3) := by decide +kernel
theorem d_W_lay_126 : decode (mMc M_W_lay) 126 = .ok (.aload_n 0, 1) := by decide +kernel
theorem d_W_lay_127 : decode (mMc M_W_lay) 127 = .ok (.invokevirtual 131, 3) := by decide +kernel
theorem d_W_lay_130 : decode (mMc M_W_lay) 130 = .ok (.ifCond .ne 30, 3) := by decide +kernel
theorem d_W_lay_133 : decode (mMc M_W_lay) 133 = .ok (.iload_n 2, 1) := by decide +kernel
theorem d_W_lay_134 : decode (mMc M_W_lay) 134 = .ok (.aload_n 0, 1) := by decide +kernel
theorem d_W_lay_135 : decode (mMc M_W_lay) 135 = .ok (.iconst 5, 1) := by decide +kernel
theorem d_W_lay_136 : decode (mMc M_W_lay) 136 = .ok (.iconst 1, 1) := by decide +kernel
theorem d_W_lay_137 : decode (mMc M_W_lay) 137 = .ok (.iconst 0, 1) := by decide +kernel
theorem d_W_lay_138 : decode (mMc M_W_lay) 138 = .ok (.iconst 0, 1) := by decide +kernel
theorem d_W_lay_139 : decode (mMc M_W_lay) 139 = .ok (.invokestatic 124, 3) := by decide +kernel
theorem d_W_lay_142 : decode (mMc M_W_lay) 142 = .ok (.aload_n 0, 1) := by decide +kernel
theorem d_W_lay_143 : decode (mMc M_W_lay) 143 = .ok (.bipush 7, 2) := by decide +kernel
theorem d_W_lay_145 : decode (mMc M_W_lay) 145 = .ok (.iconst 1, 1) := by decide +kernel
theorem d_W_lay_146 : decode (mMc M_W_lay) 146 = .ok (.iconst 0, 1) := by decide +kernel
theorem d_W_lay_147 : decode (mMc M_W_lay) 147 = .ok (.iconst 0, 1) := by decide +kernel
theorem d_W_lay_148 : decode (mMc M_W_lay) 148 = .ok (.invokestatic 124, 3) := by decide +kernel
theorem d_W_lay_151 : decode (mMc M_W_lay) 151 = .ok (.iadd, 1) := by decide +kernel
theorem d_W_lay_152 : decode (mMc M_W_lay) 152 = .ok (.iadd, 1) := by decide +kernel
theorem d_W_lay_153 : decode (mMc M_W_lay) 153 = .ok (.istore_n 2, 1) := by decide +kernel
theorem d_W_lay_154 : decode (mMc M_W_lay) 154 = .ok (.iinc 3 1, 3) := by decide +kernel
theorem d_W_lay_157 : decode (mMc M_W_lay) 157 = .ok (.goto (-37), 3) := by decide +kernel
theorem d_W_lay_160 : decode (mMc M_W_lay) 160 = .ok (.iconst 0, 1) := by decide +kernel
theorem d_W_lay_161 : decode (mMc M_W_lay) 161 = .ok (.istore_n 3, 1) := by decide +kernel
theorem d_W_lay_162 : decode (mMc M_W_lay) 162 = .ok (.iload_n 3, 1) := by decide +kernel
theorem d_W_lay_163 : decode (mMc M_W_lay) 163 = .ok (.iconst 1, 1) := by decide +kernel
theorem d_W_lay_164 : decode (mMc M_W_lay) 164 = .ok (.aload_n 1, 1) := by decide +kernel
theorem d_W_lay_165 : decode (mMc M_W_lay) 165 = .ok (.iconst 3, 1) := by decide +kernel
theorem d_W_lay_166 : decode (mMc M_W_lay) 166 = .ok (.bipush 8, 2) := by decide +kernel
theorem d_W_lay_168 : decode (mMc M_W_lay) 168 = .ok (.invokestatic 127, 3) := by decide +kernel
theorem d_W_lay_171 : decode (mMc M_W_lay) 171 = .ok (.iadd, 1) := by decide +kernel
theorem d_W_lay_172 : decode (mMc M_W_lay) 172 = .ok (.if_icmp .ge 107, 3) := by decide +kernel
theorem d_W_lay_175 : decode (mMc M_W_lay) 175 = .ok (.iload_n 2, 1) := by decide +kernel
theorem d_W_lay_176 : decode (mMc M_W_lay) 176 = .ok (.aload_n 0, 1) := by decide +kernel
theorem d_W_lay_177 : decode (mMc M_W_lay) 177 = .ok (.iconst 0, 1) := by decide +kernel
theorem d_W_lay_178 : decode (mMc M_W_lay) 178 = .ok (.iconst 5, 1) := by decide +kernel
theorem d_W_lay_179 : decode (mMc M_W_lay) 179 = .ok (.aload_n 1, 1) := by decide +kernel
theorem d_W_lay_180 : decode (mMc M_W_lay) 180 = .ok (.bipush 41, 2) := by decide +kernel
theorem d_W_lay_182 : decode (mMc M_W_lay) 182 = .ok (.iload_n 3, 1) := by decide +kernel
theorem d_W_lay_183 : decode (mMc M_W_lay) 183 = .ok (.iadd, 1) := by decide +kernel
theorem d_W_lay_184 : decode (mMc M_W_lay) 184 = .ok (.aload_n 1, 1) := by decide +kernel
theorem d_W_lay_185 : decode (mMc M_W_lay) 185 = .ok (.bipush 51, 2) := by decide +kernel
theorem d_W_lay_187 : decode (mMc M_W_lay) 187 = .ok (.iload_n 3, 1) := by decide +kernel
theorem d_W_lay_188 : decode (mMc M_W_lay) 188 = .ok (.iadd, 1) := by decide +kernel
theorem d_W_lay_189 : decode (mMc M_W_lay) 189 = .ok (.iconst 2, 1) := by decide +kernel
theorem d_W_lay_190 : decode (mMc M_W_lay) 190 = .ok (.invokestatic 127, 3) := by decide +kernel
theorem d_W_lay_193 : decode (mMc M_W_lay) 193 = .ok (.ifCond .ne 8, 3) := by decide +kernel
theorem d_W_lay_196 : decode (mMc M_W_lay) 196 = .ok (.bipush 8, 2) := by decide +kernel
theorem d_W_lay_198 : decode (mMc M_W_lay) 198 = .ok (.goto 5, 3) := by decide +kernel
theorem d_W_lay_201 : decode (mMc M_W_lay) 201 = .ok (.bipush 26, 2) := by decide +kernel
theorem d_W_lay_203 : decode (mMc M_W_lay) 203 = .ok (.invokestatic 127, 3) := by decide +kernel
theorem d_W_lay_206 : decode (mMc M_W_lay) 206 = .ok (.iadd, 1) := by decide +kernel
theorem d_W_lay_207 : decode (mMc M_W_lay) 207 = .ok (.iconst 5, 1) := by decide +kernel
theorem d_W_lay_208 : decode (mMc M_W_lay) 208 = .ok (.aload_n 1, 1) := by decide +kernel
theorem d_W_lay_209 : decode (mMc M_W_lay) 209 = .ok (.bipush 61, 2) := by decide +kernel
theorem d_W_lay_211 : decode (mMc M_W_lay) 211 = .ok (.iload_n 3, 1) := by decide +kernel
theorem d_W_lay_212 : decode (mMc M_W_lay) 212 = .ok (.iadd, 1) := by decide +kernel
theorem d_W_lay_213 : decode (mMc M_W_lay) 213 = .ok (.bipush 76, 2) := by decide +kernel
theorem d_W_lay_215 : decode (mMc M_W_lay) 215 = .ok (.invokestatic 127, 3) := by decide +kernel
theorem d_W_lay_218 : decode (mMc M_W_lay) 218 = .ok (.iadd, 1) := by decide +kernel
theorem d_W_lay_219 : decode (mMc M_W_lay) 219 = .ok (.aload_n 1, 1) := by decide +kernel
theorem d_W_lay_220 : decode (mMc M_W_lay) 220 = .ok (.bipush 71, 2) := by decide +kernel
theorem d_W_lay_222 : decode (mMc M_W_lay) 222 = .ok (.iload_n 3, 1) := by decide +kernel
theorem d_W_lay_223 : decode (mMc M_W_lay) 223 = .ok (.iadd, 1) := by decide +kernel
theorem d_W_lay_224 : decode (mMc M_W_lay) 224 = .ok (.bipush 100, 2) := by decide +kernel
theorem d_W_lay_226 : decode (mMc M_W_lay) 226 = .ok (.invokestatic 127, 3) := by decide +kernel
theorem d_W_lay_229 : decode (mMc M_W_lay) 229 = .ok (.invokestatic 124, 3) := by decide +kernel
theorem d_W_lay_232 : decode (mMc M_W_lay) 232 = .ok (.iadd, 1) := by decide +kernel
theorem d_W_lay_233 : decode (mMc M_W_lay) 233 = .ok (.istore_n 2, 1) := by decide +kernel
theorem d_W_lay_234 : decode (mMc M_W_lay) 234 = .ok (.iload_n 2, 1) := by decide +kernel
theorem d_W_lay_235 : decode (mMc M_W_lay) 235 = .ok (.aload_n 0, 1) := by decide +kernel
theorem d_W_lay_236 : decode (mMc M_W_lay) 236 = .ok (.iconst 2, 1) := by decide +kernel
theorem d_W_lay_237 : decode (mMc M_W_lay) 237 = .ok (.iload_n 3, 1) := by decide +kernel
theorem d_W_lay_238 : decode (mMc M_W_lay) 238 = .ok (.aload_n 1, 1) := by decide +kernel
theorem d_W_lay_239 : decode (mMc M_W_lay) 239 = .ok (.bipush 81, 2) := by decide +kernel
theorem d_W_lay_241 : decode (mMc M_W_lay) 241 = .ok (.iload_n 3, 1) := by decide +kernel
theorem d_W_lay_242 : decode (mMc M_W_lay) 242 = .ok (.iadd, 1) := by decide +kernel
theorem d_W_lay_243 : decode (mMc M_W_lay) 243 = .ok (.bipush 56, 2) := by decide +kernel
theorem d_W_lay_245 : decode (mMc M_W_lay) 245 = .ok (.invokestatic 127, 3) := by decide +kernel
theorem d_W_lay_248 : decode (mMc M_W_lay) 248 = .ok (.iconst 0, 1) := by decide +kernel
theorem d_W_lay_249 : decode (mMc M_W_lay) 249 = .ok (.invokestatic 124, 3) := by decide +kernel
theorem d_W_lay_252 : decode (mMc M_W_lay) 252 = .ok (.aload_n 1, 1) := by decide +kernel
theorem d_W_lay_253 : decode (mMc M_W_lay) 253 = .ok (.bipush 91, 2) := by decide +kernel
theorem d_W_lay_255 : decode (mMc M_W_lay) 255 = .ok (.iload_n 3, 1) := by decide +kernel
theorem d_W_lay_256 : decode (mMc M_W_lay) 256 = .ok (.iadd, 1) := by decide +kernel
theorem d_W_lay_257 : decode (mMc M_W_lay) 257 = .ok (.iconst 2, 1) := by decide +kernel
theorem d_W_lay_258 : decode (mMc M_W_lay) 258 = .ok (.invokestatic 127, 3) := by decide +kernel
theorem d_W_lay_261 : decode (mMc M_W_lay) 261 = .ok (.aload_n 0, 1) := by decide +kernel
theorem d_W_lay_262 : decode (mMc M_W_lay) 262 = .ok (.iconst 4, 1) := by decide +kernel
theorem d_W_lay_263 : decode (mMc M_W_lay) 263 = .ok (.iload_n 3, 1) := by decide +kernel
theorem d_W_lay_264 : decode (mMc M_W_lay) 264 = .ok (.iconst 1, 1) := by decide +kernel
theorem d_W_lay_265 : decode (mMc M_W_lay) 265 = .ok (.iconst 0, 1) := by decide +kernel
theorem d_W_lay_266 : decode (mMc M_W_lay) 266 = .ok (.invokestatic 124, 3) := by decide +kernel
theorem d_W_lay_269 : decode (mMc M_W_lay) 269 = .ok (.imul, 1) := by decide +kernel
theorem d_W_lay_270 : decode (mMc M_W_lay) 270 = .ok (.iadd, 1) := by decide +kernel
theorem d_W_lay_271 : decode (mMc M_W_lay) 271 = .ok (.iadd, 1) := by decide +kernel
theorem d_W_lay_272 : decode (mMc M_W_lay) 272 = .ok (.istore_n 2, 1) := by decide +kernel
theorem d_W_lay_273 : decode (mMc M_W_lay) 273 = .ok (.iinc 3 1, 3) := by decide +kernel
theorem d_W_lay_276 : decode (mMc M_W_lay) 276 = .ok (.goto (-114), 3) := by decide +kernel
theorem d_W_lay_279 : decode (mMc M_W_lay) 279 = .ok (.iload_n 2, 1) := by decide +kernel
theorem d_W_lay_280 : decode (mMc M_W_lay) 280 = .ok (.aload_n 1, 1) := by decide +kernel
theorem d_W_lay_281 : decode (mMc M_W_lay) 281 = .ok (.iconst 4, 1) := by decide +kernel
theorem d_W_lay_282 : decode (mMc M_W_lay) 282 = .ok (.iconst 3, 1) := by decide +kernel
theorem d_W_lay_283 : decode (mMc M_W_lay) 283 = .ok (.invokestatic 127, 3) := by decide +kernel
theorem d_W_lay_286 : decode (mMc M_W_lay) 286 = .ok (.ifCond .ne 7, 3) := by decide +kernel
theorem d_W_lay_289 : decode (mMc M_W_lay) 289 = .ok (.iconst 0, 1) := by decide +kernel
theorem d_W_lay_290 : decode (mMc M_W_lay) 290 = .ok (.goto 40, 3) := by decide +kernel
theorem d_W_lay_293 : decode (mMc M_W_lay) 293 = .ok (.aload_n 0, 1) := by decide +kernel
theorem d_W_lay_294 : decode (mMc M_W_lay) 294 = .ok (.iconst 5, 1) := by decide +kernel
theorem d_W_lay_295 : decode (mMc M_W_lay) 295 = .ok (.iconst 0, 1) := by decide +kernel
theorem d_W_lay_296 : decode (mMc M_W_lay) 296 = .ok (.iconst 0, 1) := by decide +kernel
theorem d_W_lay_297 : decode (mMc M_W_lay) 297 = .ok (.iconst 0, 1) := by decide +kernel
theorem d_W_lay_298 : decode (mMc M_W_lay) 298 = .ok (.invokestatic 124, 3) := by decide +kernel
theorem d_W_lay_301 : decode (mMc M_W_lay) 301 = .ok (.aload_n 0, 1) := by decide +kernel
theorem d_W_lay_302 : decode (mMc M_W_lay) 302 = .ok (.bipush 6, 2) := by decide +kernel
theorem d_W_lay_304 : decode (mMc M_W_lay) 304 = .ok (.bipush (-20), 2) := by decide +kernel
theorem d_W_lay_306 : decode (mMc M_W_lay) 306 = .ok (.iconst 0, 1) := by decide +kernel
theorem d_W_lay_307 : decode (mMc M_W_lay) 307 = .ok (.iconst 0, 1) := by decide +kernel
theorem d_W_lay_308 : decode (mMc M_W_lay) 308 = .ok (.invokestatic 124, 3) := by decide +kernel
theorem d_W_lay_311 : decode (mMc M_W_lay) 311 = .ok (.iadd, 1) := by decide +kernel
theorem d_W_lay_312 : decode (mMc M_W_lay) 312 = .ok (.aload_n 0, 1) := by decide +kernel
theorem d_W_lay_313 : decode (mMc M_W_lay) 313 = .ok (.bipush 7, 2) := by decide +kernel
theorem d_W_lay_315 : decode (mMc M_W_lay) 315 = .ok (.iconst 1, 1) := by decide +kernel
theorem d_W_lay_316 : decode (mMc M_W_lay) 316 = .ok (.aload_n 1, 1) := by decide +kernel
theorem d_W_lay_317 : decode (mMc M_W_lay) 317 = .ok (.iconst 5, 1) := by decide +kernel
theorem d_W_lay_318 : decode (mMc M_W_lay) 318 = .ok (.bipush 8, 2) := by decide +kernel
theorem d_W_lay_320 : decode (mMc M_W_lay) 320 = .ok (.invokestatic 127, 3) := by decide +kernel
theorem d_W_lay_323 : decode (mMc M_W_lay) 323 = .ok (.iadd, 1) := by decide +kernel
theorem d_W_lay_324 : decode (mMc M_W_lay) 324 = .ok (.iconst 0, 1) := by decide +kernel
theorem d_W_lay_325 : decode (mMc M_W_lay) 325 = .ok (.iconst 0, 1) := by decide +kernel
theorem d_W_lay_326 : decode (mMc M_W_lay) 326 = .ok (.invokestatic 124, 3) := by decide +kernel
theorem d_W_lay_329 : decode (mMc M_W_lay) 329 = .ok (.iadd, 1) := by decide +kernel
theorem d_W_lay_330 : decode (mMc M_W_lay) 330 = .ok (.iadd, 1) := by decide +kernel
theorem d_W_lay_331 : decode (mMc M_W_lay) 331 = .ok (.istore_n 2, 1) := by decide +kernel
theorem d_W_lay_332 : decode (mMc M_W_lay) 332 = .ok (.return_, 1) := by decide +kernel
theorem k_W_lay : mCd M_W_lay 2 := ⟨by decide, by decide, by decide +kernel, by decide, mG (2, 94) (by decide +kernel), mG (1, 0) (by decide +kernel)⟩
def M_W_deed : mM := (⟨"FloatingDockLaw", "deed", "(LFloatingDock;IIII)I"⟩, method_6_code, 6, (some .int), [(0, 9, 10, 67), (0, 9, 16, 69), (0, 9, 22, 71), (0, 9, 28, 73)])
theorem d_W_deed_0 : decode (mMc M_W_deed) 0 = .ok (.aload_n 0, 1) := by decide +kernel
theorem d_W_deed_1 : decode (mMc M_W_deed) 1 = .ok (.iload_n 1, 1) := by decide +kernel
theorem d_W_deed_2 : decode (mMc M_W_deed) 2 = .ok (.iload_n 2, 1) := by decide +kernel
theorem d_W_deed_3 : decode (mMc M_W_deed) 3 = .ok (.iload_n 3, 1) := by decide +kernel
theorem d_W_deed_4 : decode (mMc M_W_deed) 4 = .ok (.iload 4, 2) := by decide +kernel
theorem d_W_deed_6 : decode (mMc M_W_deed) 6 = .ok (.invokestatic 63, 3) := by decide +kernel
theorem d_W_deed_9 : decode (mMc M_W_deed) 9 = .ok (.ireturn, 1) := by decide +kernel
theorem d_W_deed_10 : decode (mMc M_W_deed) 10 = .ok (.astore 5, 2) := by decide +kernel
theorem d_W_deed_12 : decode (mMc M_W_deed) 12 = .ok (.sipush (-2003), 3) := by decide +kernel
theorem d_W_deed_15 : decode (mMc M_W_deed) 15 = .ok (.ireturn, 1) := by decide +kernel
theorem d_W_deed_16 : decode (mMc M_W_deed) 16 = .ok (.astore 5, 2) := by decide +kernel
theorem d_W_deed_18 : decode (mMc M_W_deed) 18 = .ok (.sipush (-2005), 3) := by decide +kernel
theorem d_W_deed_21 : decode (mMc M_W_deed) 21 = .ok (.ireturn, 1) := by decide +kernel
theorem d_W_deed_22 : decode (mMc M_W_deed) 22 = .ok (.astore 5, 2) := by decide +kernel
theorem d_W_deed_24 : decode (mMc M_W_deed) 24 = .ok (.sipush (-2001), 3) := by decide +kernel
theorem d_W_deed_27 : decode (mMc M_W_deed) 27 = .ok (.ireturn, 1) := by decide +kernel
theorem d_W_deed_28 : decode (mMc M_W_deed) 28 = .ok (.astore 5, 2) := by decide +kernel
theorem d_W_deed_30 : decode (mMc M_W_deed) 30 = .ok (.sipush (-2004), 3) := by decide +kernel
theorem d_W_deed_33 : decode (mMc M_W_deed) 33 = .ok (.ireturn, 1) := by decide +kernel
theorem k_W_deed : mCd M_W_deed 5 := ⟨by decide, by decide, by decide +kernel, by decide, mG (2, 97) (by decide +kernel), mG (1, 0) (by decide +kernel)⟩
def M_W_plain : mM := (⟨"FloatingDockLaw", "plain", "(LFloatingDock;IIII)I"⟩, method_5_code, 5, (some .int), [])
theorem d_W_plain_0 : decode (mMc M_W_plain) 0 = .ok (.iload_n 1, 1) := by decide +kernel
theorem d_W_plain_1 : decode (mMc M_W_plain) 1 = .ok (.tableswitch 158 0 10 #[59, 68, 74, 81, 87, 106, 124, 133, 139, 145, 151], 59) := by decide +kernel
theorem d_W_plain_60 : decode (mMc M_W_plain) 60 = .ok (.aload_n 0, 1) := by decide +kernel
theorem d_W_plain_61 : decode (mMc M_W_plain) 61 = .ok (.iload_n 2, 1) := by decide +kernel
theorem d_W_plain_62 : decode (mMc M_W_plain) 62 = .ok (.iload_n 3, 1) := by decide +kernel
theorem d_W_plain_63 : decode (mMc M_W_plain) 63 = .ok (.iload 4, 2) := by decide +kernel
theorem d_W_plain_65 : decode (mMc M_W_plain) 65 = .ok (.invokevirtual 15, 3) := by decide +kernel
theorem d_W_plain_68 : decode (mMc M_W_plain) 68 = .ok (.ireturn, 1) := by decide +kernel
theorem d_W_plain_69 : decode (mMc M_W_plain) 69 = .ok (.aload_n 0, 1) := by decide +kernel
theorem d_W_plain_70 : decode (mMc M_W_plain) 70 = .ok (.iload_n 2, 1) := by decide +kernel
theorem d_W_plain_71 : decode (mMc M_W_plain) 71 = .ok (.invokevirtual 21, 3) := by decide +kernel
theorem d_W_plain_74 : decode (mMc M_W_plain) 74 = .ok (.ireturn, 1) := by decide +kernel
theorem d_W_plain_75 : decode (mMc M_W_plain) 75 = .ok (.aload_n 0, 1) := by decide +kernel
theorem d_W_plain_76 : decode (mMc M_W_plain) 76 = .ok (.iload_n 2, 1) := by decide +kernel
theorem d_W_plain_77 : decode (mMc M_W_plain) 77 = .ok (.iload_n 3, 1) := by decide +kernel
theorem d_W_plain_78 : decode (mMc M_W_plain) 78 = .ok (.invokevirtual 25, 3) := by decide +kernel
theorem d_W_plain_81 : decode (mMc M_W_plain) 81 = .ok (.ireturn, 1) := by decide +kernel
theorem d_W_plain_82 : decode (mMc M_W_plain) 82 = .ok (.aload_n 0, 1) := by decide +kernel
theorem d_W_plain_83 : decode (mMc M_W_plain) 83 = .ok (.iload_n 2, 1) := by decide +kernel
theorem d_W_plain_84 : decode (mMc M_W_plain) 84 = .ok (.invokevirtual 29, 3) := by decide +kernel
theorem d_W_plain_87 : decode (mMc M_W_plain) 87 = .ok (.ireturn, 1) := by decide +kernel
theorem d_W_plain_88 : decode (mMc M_W_plain) 88 = .ok (.aload_n 0, 1) := by decide +kernel
theorem d_W_plain_89 : decode (mMc M_W_plain) 89 = .ok (.iload_n 2, 1) := by decide +kernel
theorem d_W_plain_90 : decode (mMc M_W_plain) 90 = .ok (.iload_n 3, 1) := by decide +kernel
theorem d_W_plain_91 : decode (mMc M_W_plain) 91 = .ok (.iconst 1, 1) := by decide +kernel
theorem d_W_plain_92 : decode (mMc M_W_plain) 92 = .ok (.if_icmp .ne 7, 3) := by decide +kernel
theorem d_W_plain_95 : decode (mMc M_W_plain) 95 = .ok (.iconst 1, 1) := by decide +kernel
theorem d_W_plain_96 : decode (mMc M_W_plain) 96 = .ok (.goto 4, 3) := by decide +kernel
theorem d_W_plain_99 : decode (mMc M_W_plain) 99 = .ok (.iconst 0, 1) := by decide +kernel
theorem d_W_plain_100 : decode (mMc M_W_plain) 100 = .ok (.invokevirtual 32, 3) := by decide +kernel
theorem d_W_plain_103 : decode (mMc M_W_plain) 103 = .ok (.invokestatic 36, 3) := by decide +kernel
theorem d_W_plain_106 : decode (mMc M_W_plain) 106 = .ok (.ireturn, 1) := by decide +kernel
theorem d_W_plain_107 : decode (mMc M_W_plain) 107 = .ok (.aload_n 0, 1) := by decide +kernel
theorem d_W_plain_108 : decode (mMc M_W_plain) 108 = .ok (.iload_n 2, 1) := by decide +kernel
theorem d_W_plain_109 : decode (mMc M_W_plain) 109 = .ok (.iconst 1, 1) := by decide +kernel
theorem d_W_plain_110 : decode (mMc M_W_plain) 110 = .ok (.if_icmp .ne 7, 3) := by decide +kernel
theorem d_W_plain_113 : decode (mMc M_W_plain) 113 = .ok (.iconst 1, 1) := by decide +kernel
theorem d_W_plain_114 : decode (mMc M_W_plain) 114 = .ok (.goto 4, 3) := by decide +kernel
theorem d_W_plain_117 : decode (mMc M_W_plain) 117 = .ok (.iconst 0, 1) := by decide +kernel
theorem d_W_plain_118 : decode (mMc M_W_plain) 118 = .ok (.invokevirtual 40, 3) := by decide +kernel
theorem d_W_plain_121 : decode (mMc M_W_plain) 121 = .ok (.invokestatic 36, 3) := by decide +kernel
theorem d_W_plain_124 : decode (mMc M_W_plain) 124 = .ok (.ireturn, 1) := by decide +kernel
theorem d_W_plain_125 : decode (mMc M_W_plain) 125 = .ok (.aload_n 0, 1) := by decide +kernel
theorem d_W_plain_126 : decode (mMc M_W_plain) 126 = .ok (.iload_n 2, 1) := by decide +kernel
theorem d_W_plain_127 : decode (mMc M_W_plain) 127 = .ok (.invokevirtual 44, 3) := by decide +kernel
theorem d_W_plain_130 : decode (mMc M_W_plain) 130 = .ok (.bipush 100, 2) := by decide +kernel
theorem d_W_plain_132 : decode (mMc M_W_plain) 132 = .ok (.iadd, 1) := by decide +kernel
theorem d_W_plain_133 : decode (mMc M_W_plain) 133 = .ok (.ireturn, 1) := by decide +kernel
theorem d_W_plain_134 : decode (mMc M_W_plain) 134 = .ok (.aload_n 0, 1) := by decide +kernel
theorem d_W_plain_135 : decode (mMc M_W_plain) 135 = .ok (.iload_n 2, 1) := by decide +kernel
theorem d_W_plain_136 : decode (mMc M_W_plain) 136 = .ok (.invokevirtual 47, 3) := by decide +kernel
theorem d_W_plain_139 : decode (mMc M_W_plain) 139 = .ok (.ireturn, 1) := by decide +kernel
theorem d_W_plain_140 : decode (mMc M_W_plain) 140 = .ok (.aload_n 0, 1) := by decide +kernel
theorem d_W_plain_141 : decode (mMc M_W_plain) 141 = .ok (.iload_n 2, 1) := by decide +kernel
theorem d_W_plain_142 : decode (mMc M_W_plain) 142 = .ok (.invokevirtual 50, 3) := by decide +kernel
theorem d_W_plain_145 : decode (mMc M_W_plain) 145 = .ok (.ireturn, 1) := by decide +kernel
theorem d_W_plain_146 : decode (mMc M_W_plain) 146 = .ok (.aload_n 0, 1) := by decide +kernel
theorem d_W_plain_147 : decode (mMc M_W_plain) 147 = .ok (.iload_n 2, 1) := by decide +kernel
theorem d_W_plain_148 : decode (mMc M_W_plain) 148 = .ok (.invokevirtual 53, 3) := by decide +kernel
theorem d_W_plain_151 : decode (mMc M_W_plain) 151 = .ok (.ireturn, 1) := by decide +kernel
theorem d_W_plain_152 : decode (mMc M_W_plain) 152 = .ok (.aload_n 0, 1) := by decide +kernel
theorem d_W_plain_153 : decode (mMc M_W_plain) 153 = .ok (.iload_n 2, 1) := by decide +kernel
theorem d_W_plain_154 : decode (mMc M_W_plain) 154 = .ok (.iload_n 3, 1) := by decide +kernel
theorem d_W_plain_155 : decode (mMc M_W_plain) 155 = .ok (.invokevirtual 56, 3) := by decide +kernel
theorem d_W_plain_158 : decode (mMc M_W_plain) 158 = .ok (.ireturn, 1) := by decide +kernel
theorem d_W_plain_159 : decode (mMc M_W_plain) 159 = .ok (.aload_n 0, 1) := by decide +kernel
theorem d_W_plain_160 : decode (mMc M_W_plain) 160 = .ok (.invokevirtual 59, 3) := by decide +kernel
theorem d_W_plain_163 : decode (mMc M_W_plain) 163 = .ok (.ireturn, 1) := by decide +kernel
theorem k_W_plain : mCd M_W_plain 5 := ⟨by decide, by decide, by decide +kernel, by decide, mG (2, 104) (by decide +kernel), mG (1, 0) (by decide +kernel)⟩
def M_W_told : mM := (⟨"FloatingDockLaw", "told", "(Z)I"⟩, method_4_code, 1, (some .int), [])
theorem d_W_told_0 : decode (mMc M_W_told) 0 = .ok (.iload_n 0, 1) := by decide +kernel
theorem d_W_told_1 : decode (mMc M_W_told) 1 = .ok (.ifCond .eq 7, 3) := by decide +kernel
theorem d_W_told_4 : decode (mMc M_W_told) 4 = .ok (.iconst 1, 1) := by decide +kernel
theorem d_W_told_5 : decode (mMc M_W_told) 5 = .ok (.goto 4, 3) := by decide +kernel
theorem d_W_told_8 : decode (mMc M_W_told) 8 = .ok (.iconst 0, 1) := by decide +kernel
theorem d_W_told_9 : decode (mMc M_W_told) 9 = .ok (.ireturn, 1) := by decide +kernel
theorem k_W_told : mCd M_W_told 1 := ⟨by decide, by decide, by decide +kernel, by decide, mG (3, 138) (by decide +kernel), mG (1, 0) (by decide +kernel)⟩
def M_W_ship : mM := (⟨"FloatingDockLaw", "ship", "(LFloatingDock;I)I"⟩, method_10_code, 2, (some .int), [])
theorem d_W_ship_0 : decode (mMc M_W_ship) 0 = .ok (.aload_n 0, 1) := by decide +kernel
theorem d_W_ship_1 : decode (mMc M_W_ship) 1 = .ok (.invokevirtual 135, 3) := by decide +kernel
theorem d_W_ship_4 : decode (mMc M_W_ship) 4 = .ok (.ifCond .ne 7, 3) := by decide +kernel
theorem d_W_ship_7 : decode (mMc M_W_ship) 7 = .ok (.iconst (-1), 1) := by decide +kernel
theorem d_W_ship_8 : decode (mMc M_W_ship) 8 = .ok (.goto 13, 3) := by decide +kernel
theorem d_W_ship_11 : decode (mMc M_W_ship) 11 = .ok (.aload_n 0, 1) := by decide +kernel
theorem d_W_ship_12 : decode (mMc M_W_ship) 12 = .ok (.iload_n 1, 1) := by decide +kernel
theorem d_W_ship_13 : decode (mMc M_W_ship) 13 = .ok (.aload_n 0, 1) := by decide +kernel
theorem d_W_ship_14 : decode (mMc M_W_ship) 14 = .ok (.invokevirtual 135, 3) := by decide +kernel
theorem d_W_ship_17 : decode (mMc M_W_ship) 17 = .ok (.irem, 1) := by decide +kernel
theorem d_W_ship_18 : decode (mMc M_W_ship) 18 = .ok (.invokevirtual 75, 3) := by decide +kernel
theorem d_W_ship_21 : decode (mMc M_W_ship) 21 = .ok (.ireturn, 1) := by decide +kernel
theorem k_W_ship : mCd M_W_ship 2 := ⟨by decide, by decide, by decide +kernel, by decide, mG (5, 170) (by decide +kernel), mG (1, 0) (by decide +kernel)⟩
def M_W_any : mM := (⟨"FloatingDockLaw", "any", "(LFloatingDock;[II)I"⟩, method_11_code, 5, (some .int), [])
theorem d_W_any_0 : decode (mMc M_W_any) 0 = .ok (.aload_n 0, 1) := by decide +kernel
theorem d_W_any_1 : decode (mMc M_W_any) 1 = .ok (.aload_n 1, 1) := by decide +kernel
theorem d_W_any_2 : decode (mMc M_W_any) 2 = .ok (.iload_n 2, 1) := by decide +kernel
theorem d_W_any_3 : decode (mMc M_W_any) 3 = .ok (.iconst 1, 1) := by decide +kernel
theorem d_W_any_4 : decode (mMc M_W_any) 4 = .ok (.iadd, 1) := by decide +kernel
theorem d_W_any_5 : decode (mMc M_W_any) 5 = .ok (.bipush 8, 2) := by decide +kernel
theorem d_W_any_7 : decode (mMc M_W_any) 7 = .ok (.invokestatic 127, 3) := by decide +kernel
theorem d_W_any_10 : decode (mMc M_W_any) 10 = .ok (.invokestatic 138, 3) := by decide +kernel
theorem d_W_any_13 : decode (mMc M_W_any) 13 = .ok (.istore_n 3, 1) := by decide +kernel
theorem d_W_any_14 : decode (mMc M_W_any) 14 = .ok (.aload_n 1, 1) := by decide +kernel
theorem d_W_any_15 : decode (mMc M_W_any) 15 = .ok (.iload_n 2, 1) := by decide +kernel
theorem d_W_any_16 : decode (mMc M_W_any) 16 = .ok (.iconst 2, 1) := by decide +kernel
theorem d_W_any_17 : decode (mMc M_W_any) 17 = .ok (.iadd, 1) := by decide +kernel
theorem d_W_any_18 : decode (mMc M_W_any) 18 = .ok (.bipush 60, 2) := by decide +kernel
theorem d_W_any_20 : decode (mMc M_W_any) 20 = .ok (.invokestatic 127, 3) := by decide +kernel
theorem d_W_any_23 : decode (mMc M_W_any) 23 = .ok (.istore 4, 2) := by decide +kernel
theorem d_W_any_25 : decode (mMc M_W_any) 25 = .ok (.aload_n 1, 1) := by decide +kernel
theorem d_W_any_26 : decode (mMc M_W_any) 26 = .ok (.iload_n 2, 1) := by decide +kernel
theorem d_W_any_27 : decode (mMc M_W_any) 27 = .ok (.bipush 24, 2) := by decide +kernel
theorem d_W_any_29 : decode (mMc M_W_any) 29 = .ok (.invokestatic 127, 3) := by decide +kernel
theorem d_W_any_32 : decode (mMc M_W_any) 32 = .ok (.tableswitch 271 0 17 #[88, 125, 134, 134, 134, 144, 144, 153, 153, 177, 177, 193, 193, 214, 214, 225, 236, 236], 88) := by decide +kernel
theorem d_W_any_120 : decode (mMc M_W_any) 120 = .ok (.aload_n 0, 1) := by decide +kernel
theorem d_W_any_121 : decode (mMc M_W_any) 121 = .ok (.iconst 0, 1) := by decide +kernel
theorem d_W_any_122 : decode (mMc M_W_any) 122 = .ok (.iconst 5, 1) := by decide +kernel
theorem d_W_any_123 : decode (mMc M_W_any) 123 = .ok (.aload_n 1, 1) := by decide +kernel
theorem d_W_any_124 : decode (mMc M_W_any) 124 = .ok (.iload_n 2, 1) := by decide +kernel
theorem d_W_any_125 : decode (mMc M_W_any) 125 = .ok (.iconst 2, 1) := by decide +kernel
theorem d_W_any_126 : decode (mMc M_W_any) 126 = .ok (.iadd, 1) := by decide +kernel
theorem d_W_any_127 : decode (mMc M_W_any) 127 = .ok (.bipush 26, 2) := by decide +kernel
theorem d_W_any_129 : decode (mMc M_W_any) 129 = .ok (.invokestatic 127, 3) := by decide +kernel
theorem d_W_any_132 : decode (mMc M_W_any) 132 = .ok (.iadd, 1) := by decide +kernel
theorem d_W_any_133 : decode (mMc M_W_any) 133 = .ok (.iconst 5, 1) := by decide +kernel
theorem d_W_any_134 : decode (mMc M_W_any) 134 = .ok (.aload_n 1, 1) := by decide +kernel
theorem d_W_any_135 : decode (mMc M_W_any) 135 = .ok (.iload_n 2, 1) := by decide +kernel
theorem d_W_any_136 : decode (mMc M_W_any) 136 = .ok (.iconst 3, 1) := by decide +kernel
theorem d_W_any_137 : decode (mMc M_W_any) 137 = .ok (.iadd, 1) := by decide +kernel
theorem d_W_any_138 : decode (mMc M_W_any) 138 = .ok (.bipush 76, 2) := by decide +kernel
theorem d_W_any_140 : decode (mMc M_W_any) 140 = .ok (.invokestatic 127, 3) := by decide +kernel
theorem d_W_any_143 : decode (mMc M_W_any) 143 = .ok (.iadd, 1) := by decide +kernel
theorem d_W_any_144 : decode (mMc M_W_any) 144 = .ok (.aload_n 1, 1) := by decide +kernel
theorem d_W_any_145 : decode (mMc M_W_any) 145 = .ok (.iload_n 2, 1) := by decide +kernel
theorem d_W_any_146 : decode (mMc M_W_any) 146 = .ok (.iconst 4, 1) := by decide +kernel
theorem d_W_any_147 : decode (mMc M_W_any) 147 = .ok (.iadd, 1) := by decide +kernel
theorem d_W_any_148 : decode (mMc M_W_any) 148 = .ok (.bipush 100, 2) := by decide +kernel
theorem d_W_any_150 : decode (mMc M_W_any) 150 = .ok (.invokestatic 127, 3) := by decide +kernel
theorem d_W_any_153 : decode (mMc M_W_any) 153 = .ok (.invokestatic 124, 3) := by decide +kernel
theorem d_W_any_156 : decode (mMc M_W_any) 156 = .ok (.ireturn, 1) := by decide +kernel
theorem d_W_any_157 : decode (mMc M_W_any) 157 = .ok (.aload_n 0, 1) := by decide +kernel
theorem d_W_any_158 : decode (mMc M_W_any) 158 = .ok (.iconst 1, 1) := by decide +kernel
theorem d_W_any_159 : decode (mMc M_W_any) 159 = .ok (.iload_n 3, 1) := by decide +kernel
theorem d_W_any_160 : decode (mMc M_W_any) 160 = .ok (.iconst 0, 1) := by decide +kernel
theorem d_W_any_161 : decode (mMc M_W_any) 161 = .ok (.iconst 0, 1) := by decide +kernel
theorem d_W_any_162 : decode (mMc M_W_any) 162 = .ok (.invokestatic 124, 3) := by decide +kernel
theorem d_W_any_165 : decode (mMc M_W_any) 165 = .ok (.ireturn, 1) := by decide +kernel
theorem d_W_any_166 : decode (mMc M_W_any) 166 = .ok (.aload_n 0, 1) := by decide +kernel
theorem d_W_any_167 : decode (mMc M_W_any) 167 = .ok (.iconst 2, 1) := by decide +kernel
theorem d_W_any_168 : decode (mMc M_W_any) 168 = .ok (.iload_n 3, 1) := by decide +kernel
theorem d_W_any_169 : decode (mMc M_W_any) 169 = .ok (.iload 4, 2) := by decide +kernel
theorem d_W_any_171 : decode (mMc M_W_any) 171 = .ok (.iconst 0, 1) := by decide +kernel
theorem d_W_any_172 : decode (mMc M_W_any) 172 = .ok (.invokestatic 124, 3) := by decide +kernel
theorem d_W_any_175 : decode (mMc M_W_any) 175 = .ok (.ireturn, 1) := by decide +kernel
theorem d_W_any_176 : decode (mMc M_W_any) 176 = .ok (.aload_n 0, 1) := by decide +kernel
theorem d_W_any_177 : decode (mMc M_W_any) 177 = .ok (.iconst 3, 1) := by decide +kernel
theorem d_W_any_178 : decode (mMc M_W_any) 178 = .ok (.iload_n 3, 1) := by decide +kernel
theorem d_W_any_179 : decode (mMc M_W_any) 179 = .ok (.iconst 0, 1) := by decide +kernel
theorem d_W_any_180 : decode (mMc M_W_any) 180 = .ok (.iconst 0, 1) := by decide +kernel
theorem d_W_any_181 : decode (mMc M_W_any) 181 = .ok (.invokestatic 124, 3) := by decide +kernel
theorem d_W_any_184 : decode (mMc M_W_any) 184 = .ok (.ireturn, 1) := by decide +kernel
theorem d_W_any_185 : decode (mMc M_W_any) 185 = .ok (.aload_n 0, 1) := by decide +kernel
theorem d_W_any_186 : decode (mMc M_W_any) 186 = .ok (.iconst 4, 1) := by decide +kernel
theorem d_W_any_187 : decode (mMc M_W_any) 187 = .ok (.iload_n 3, 1) := by decide +kernel
theorem d_W_any_188 : decode (mMc M_W_any) 188 = .ok (.aload_n 1, 1) := by decide +kernel
theorem d_W_any_189 : decode (mMc M_W_any) 189 = .ok (.iload_n 2, 1) := by decide +kernel
theorem d_W_any_190 : decode (mMc M_W_any) 190 = .ok (.iconst 2, 1) := by decide +kernel
theorem d_W_any_191 : decode (mMc M_W_any) 191 = .ok (.iadd, 1) := by decide +kernel
theorem d_W_any_192 : decode (mMc M_W_any) 192 = .ok (.iconst 4, 1) := by decide +kernel
theorem d_W_any_193 : decode (mMc M_W_any) 193 = .ok (.invokestatic 127, 3) := by decide +kernel
theorem d_W_any_196 : decode (mMc M_W_any) 196 = .ok (.ifCond .ne 7, 3) := by decide +kernel
theorem d_W_any_199 : decode (mMc M_W_any) 199 = .ok (.iconst 0, 1) := by decide +kernel
theorem d_W_any_200 : decode (mMc M_W_any) 200 = .ok (.goto 4, 3) := by decide +kernel
theorem d_W_any_203 : decode (mMc M_W_any) 203 = .ok (.iconst 1, 1) := by decide +kernel
theorem d_W_any_204 : decode (mMc M_W_any) 204 = .ok (.iconst 0, 1) := by decide +kernel
theorem d_W_any_205 : decode (mMc M_W_any) 205 = .ok (.invokestatic 124, 3) := by decide +kernel
theorem d_W_any_208 : decode (mMc M_W_any) 208 = .ok (.ireturn, 1) := by decide +kernel
theorem d_W_any_209 : decode (mMc M_W_any) 209 = .ok (.aload_n 0, 1) := by decide +kernel
theorem d_W_any_210 : decode (mMc M_W_any) 210 = .ok (.iconst 5, 1) := by decide +kernel
theorem d_W_any_211 : decode (mMc M_W_any) 211 = .ok (.aload_n 1, 1) := by decide +kernel
theorem d_W_any_212 : decode (mMc M_W_any) 212 = .ok (.iload_n 2, 1) := by decide +kernel
theorem d_W_any_213 : decode (mMc M_W_any) 213 = .ok (.iconst 2, 1) := by decide +kernel
theorem d_W_any_214 : decode (mMc M_W_any) 214 = .ok (.iadd, 1) := by decide +kernel
theorem d_W_any_215 : decode (mMc M_W_any) 215 = .ok (.iconst 2, 1) := by decide +kernel
theorem d_W_any_216 : decode (mMc M_W_any) 216 = .ok (.invokestatic 127, 3) := by decide +kernel
theorem d_W_any_219 : decode (mMc M_W_any) 219 = .ok (.iconst 0, 1) := by decide +kernel
theorem d_W_any_220 : decode (mMc M_W_any) 220 = .ok (.iconst 0, 1) := by decide +kernel
theorem d_W_any_221 : decode (mMc M_W_any) 221 = .ok (.invokestatic 124, 3) := by decide +kernel
theorem d_W_any_224 : decode (mMc M_W_any) 224 = .ok (.ireturn, 1) := by decide +kernel
theorem d_W_any_225 : decode (mMc M_W_any) 225 = .ok (.aload_n 0, 1) := by decide +kernel
theorem d_W_any_226 : decode (mMc M_W_any) 226 = .ok (.bipush 6, 2) := by decide +kernel
theorem d_W_any_228 : decode (mMc M_W_any) 228 = .ok (.aload_n 1, 1) := by decide +kernel
theorem d_W_any_229 : decode (mMc M_W_any) 229 = .ok (.iload_n 2, 1) := by decide +kernel
theorem d_W_any_230 : decode (mMc M_W_any) 230 = .ok (.iconst 2, 1) := by decide +kernel
theorem d_W_any_231 : decode (mMc M_W_any) 231 = .ok (.iadd, 1) := by decide +kernel
theorem d_W_any_232 : decode (mMc M_W_any) 232 = .ok (.bipush 61, 2) := by decide +kernel
theorem d_W_any_234 : decode (mMc M_W_any) 234 = .ok (.invokestatic 127, 3) := by decide +kernel
theorem d_W_any_237 : decode (mMc M_W_any) 237 = .ok (.bipush 30, 2) := by decide +kernel
theorem d_W_any_239 : decode (mMc M_W_any) 239 = .ok (.isub, 1) := by decide +kernel
theorem d_W_any_240 : decode (mMc M_W_any) 240 = .ok (.iconst 0, 1) := by decide +kernel
theorem d_W_any_241 : decode (mMc M_W_any) 241 = .ok (.iconst 0, 1) := by decide +kernel
theorem d_W_any_242 : decode (mMc M_W_any) 242 = .ok (.invokestatic 124, 3) := by decide +kernel
theorem d_W_any_245 : decode (mMc M_W_any) 245 = .ok (.ireturn, 1) := by decide +kernel
theorem d_W_any_246 : decode (mMc M_W_any) 246 = .ok (.aload_n 0, 1) := by decide +kernel
theorem d_W_any_247 : decode (mMc M_W_any) 247 = .ok (.bipush 8, 2) := by decide +kernel
theorem d_W_any_249 : decode (mMc M_W_any) 249 = .ok (.iload 4, 2) := by decide +kernel
theorem d_W_any_251 : decode (mMc M_W_any) 251 = .ok (.iconst 0, 1) := by decide +kernel
theorem d_W_any_252 : decode (mMc M_W_any) 252 = .ok (.iconst 0, 1) := by decide +kernel
theorem d_W_any_253 : decode (mMc M_W_any) 253 = .ok (.invokestatic 124, 3) := by decide +kernel
theorem d_W_any_256 : decode (mMc M_W_any) 256 = .ok (.ireturn, 1) := by decide +kernel
theorem d_W_any_257 : decode (mMc M_W_any) 257 = .ok (.aload_n 0, 1) := by decide +kernel
theorem d_W_any_258 : decode (mMc M_W_any) 258 = .ok (.bipush 9, 2) := by decide +kernel
theorem d_W_any_260 : decode (mMc M_W_any) 260 = .ok (.iload 4, 2) := by decide +kernel
theorem d_W_any_262 : decode (mMc M_W_any) 262 = .ok (.iconst 0, 1) := by decide +kernel
theorem d_W_any_263 : decode (mMc M_W_any) 263 = .ok (.iconst 0, 1) := by decide +kernel
theorem d_W_any_264 : decode (mMc M_W_any) 264 = .ok (.invokestatic 124, 3) := by decide +kernel
theorem d_W_any_267 : decode (mMc M_W_any) 267 = .ok (.ireturn, 1) := by decide +kernel
theorem d_W_any_268 : decode (mMc M_W_any) 268 = .ok (.aload_n 0, 1) := by decide +kernel
theorem d_W_any_269 : decode (mMc M_W_any) 269 = .ok (.bipush 10, 2) := by decide +kernel
theorem d_W_any_271 : decode (mMc M_W_any) 271 = .ok (.iload_n 3, 1) := by decide +kernel
theorem d_W_any_272 : decode (mMc M_W_any) 272 = .ok (.iconst 1, 1) := by decide +kernel
theorem d_W_any_273 : decode (mMc M_W_any) 273 = .ok (.aload_n 1, 1) := by decide +kernel
theorem d_W_any_274 : decode (mMc M_W_any) 274 = .ok (.iload_n 2, 1) := by decide +kernel
theorem d_W_any_275 : decode (mMc M_W_any) 275 = .ok (.iconst 2, 1) := by decide +kernel
theorem d_W_any_276 : decode (mMc M_W_any) 276 = .ok (.iadd, 1) := by decide +kernel
theorem d_W_any_277 : decode (mMc M_W_any) 277 = .ok (.iload_n 3, 1) := by decide +kernel
theorem d_W_any_278 : decode (mMc M_W_any) 278 = .ok (.ifCond .ge 7, 3) := by decide +kernel
theorem d_W_any_281 : decode (mMc M_W_any) 281 = .ok (.iconst 1, 1) := by decide +kernel
theorem d_W_any_282 : decode (mMc M_W_any) 282 = .ok (.goto 12, 3) := by decide +kernel
theorem d_W_any_285 : decode (mMc M_W_any) 285 = .ok (.iconst 1, 1) := by decide +kernel
theorem d_W_any_286 : decode (mMc M_W_any) 286 = .ok (.aload_n 0, 1) := by decide +kernel
theorem d_W_any_287 : decode (mMc M_W_any) 287 = .ok (.iload_n 3, 1) := by decide +kernel
theorem d_W_any_288 : decode (mMc M_W_any) 288 = .ok (.invokevirtual 142, 3) := by decide +kernel
theorem d_W_any_291 : decode (mMc M_W_any) 291 = .ok (.invokestatic 145, 3) := by decide +kernel
theorem d_W_any_294 : decode (mMc M_W_any) 294 = .ok (.invokestatic 127, 3) := by decide +kernel
theorem d_W_any_297 : decode (mMc M_W_any) 297 = .ok (.iadd, 1) := by decide +kernel
theorem d_W_any_298 : decode (mMc M_W_any) 298 = .ok (.iconst 0, 1) := by decide +kernel
theorem d_W_any_299 : decode (mMc M_W_any) 299 = .ok (.invokestatic 124, 3) := by decide +kernel
theorem d_W_any_302 : decode (mMc M_W_any) 302 = .ok (.ireturn, 1) := by decide +kernel
theorem d_W_any_303 : decode (mMc M_W_any) 303 = .ok (.aload_n 0, 1) := by decide +kernel
theorem d_W_any_304 : decode (mMc M_W_any) 304 = .ok (.bipush 7, 2) := by decide +kernel
theorem d_W_any_306 : decode (mMc M_W_any) 306 = .ok (.iconst 1, 1) := by decide +kernel
theorem d_W_any_307 : decode (mMc M_W_any) 307 = .ok (.aload_n 1, 1) := by decide +kernel
theorem d_W_any_308 : decode (mMc M_W_any) 308 = .ok (.iload_n 2, 1) := by decide +kernel
theorem d_W_any_309 : decode (mMc M_W_any) 309 = .ok (.iconst 2, 1) := by decide +kernel
theorem d_W_any_310 : decode (mMc M_W_any) 310 = .ok (.iadd, 1) := by decide +kernel
theorem d_W_any_311 : decode (mMc M_W_any) 311 = .ok (.aload_n 1, 1) := by decide +kernel
theorem d_W_any_312 : decode (mMc M_W_any) 312 = .ok (.iload_n 2, 1) := by decide +kernel
theorem d_W_any_313 : decode (mMc M_W_any) 313 = .ok (.iconst 3, 1) := by decide +kernel
theorem d_W_any_314 : decode (mMc M_W_any) 314 = .ok (.iadd, 1) := by decide +kernel
theorem d_W_any_315 : decode (mMc M_W_any) 315 = .ok (.iconst 3, 1) := by decide +kernel
theorem d_W_any_316 : decode (mMc M_W_any) 316 = .ok (.invokestatic 127, 3) := by decide +kernel
theorem d_W_any_319 : decode (mMc M_W_any) 319 = .ok (.ifCond .ne 8, 3) := by decide +kernel
theorem d_W_any_322 : decode (mMc M_W_any) 322 = .ok (.bipush 24, 2) := by decide +kernel
theorem d_W_any_324 : decode (mMc M_W_any) 324 = .ok (.goto 4, 3) := by decide +kernel
theorem d_W_any_327 : decode (mMc M_W_any) 327 = .ok (.iconst 3, 1) := by decide +kernel
theorem d_W_any_328 : decode (mMc M_W_any) 328 = .ok (.invokestatic 127, 3) := by decide +kernel
theorem d_W_any_331 : decode (mMc M_W_any) 331 = .ok (.iadd, 1) := by decide +kernel
theorem d_W_any_332 : decode (mMc M_W_any) 332 = .ok (.iconst 0, 1) := by decide +kernel
theorem d_W_any_333 : decode (mMc M_W_any) 333 = .ok (.iconst 0, 1) := by decide +kernel
theorem d_W_any_334 : decode (mMc M_W_any) 334 = .ok (.invokestatic 124, 3) := by decide +kernel
theorem d_W_any_337 : decode (mMc M_W_any) 337 = .ok (.ireturn, 1) := by decide +kernel
theorem k_W_any : mCd M_W_any 3 := ⟨by decide, by decide, by decide +kernel, by decide, mG (5, 194) (by decide +kernel), mG (1, 0) (by decide +kernel)⟩
def M_W_arePositionsRight : mM := (⟨"FloatingDockLaw", "arePositionsRight", "(LFloatingDock;)Z"⟩, method_14_code, 9, (some .boolean), [])
theorem d_W_arePositionsRight_0 : decode (mMc M_W_arePositionsRight) 0 = .ok (.iconst 0, 1) := by decide +kernel
theorem d_W_arePositionsRight_1 : decode (mMc M_W_arePositionsRight) 1 = .ok (.istore_n 1, 1) := by decide +kernel
theorem d_W_arePositionsRight_2 : decode (mMc M_W_arePositionsRight) 2 = .ok (.aload_n 0, 1) := by decide +kernel
theorem d_W_arePositionsRight_3 : decode (mMc M_W_arePositionsRight) 3 = .ok (.invokevirtual 135, 3) := by decide +kernel
theorem d_W_arePositionsRight_6 : decode (mMc M_W_arePositionsRight) 6 = .ok (.newarray .int, 2) := by decide +kernel
theorem d_W_arePositionsRight_8 : decode (mMc M_W_arePositionsRight) 8 = .ok (.astore_n 2, 1) := by decide +kernel
theorem d_W_arePositionsRight_9 : decode (mMc M_W_arePositionsRight) 9 = .ok (.ldc 183, 2) := by decide +kernel
theorem d_W_arePositionsRight_11 : decode (mMc M_W_arePositionsRight) 11 = .ok (.astore_n 3, 1) := by decide +kernel
theorem d_W_arePositionsRight_12 : decode (mMc M_W_arePositionsRight) 12 = .ok (.aload_n 0, 1) := by decide +kernel
theorem d_W_arePositionsRight_13 : decode (mMc M_W_arePositionsRight) 13 = .ok (.bipush 6, 2) := by decide +kernel
theorem d_W_arePositionsRight_15 : decode (mMc M_W_arePositionsRight) 15 = .ok (.bipush 60, 2) := by decide +kernel
theorem d_W_arePositionsRight_17 : decode (mMc M_W_arePositionsRight) 17 = .ok (.invokestatic 162, 3) := by decide +kernel
theorem d_W_arePositionsRight_20 : decode (mMc M_W_arePositionsRight) 20 = .ok (.sipush (-2003), 3) := by decide +kernel
theorem d_W_arePositionsRight_23 : decode (mMc M_W_arePositionsRight) 23 = .ok (.if_icmp .ne 61, 3) := by decide +kernel
theorem d_W_arePositionsRight_26 : decode (mMc M_W_arePositionsRight) 26 = .ok (.aload_n 0, 1) := by decide +kernel
theorem d_W_arePositionsRight_27 : decode (mMc M_W_arePositionsRight) 27 = .ok (.bipush 7, 2) := by decide +kernel
theorem d_W_arePositionsRight_29 : decode (mMc M_W_arePositionsRight) 29 = .ok (.iconst (-1), 1) := by decide +kernel
theorem d_W_arePositionsRight_30 : decode (mMc M_W_arePositionsRight) 30 = .ok (.invokestatic 162, 3) := by decide +kernel
theorem d_W_arePositionsRight_33 : decode (mMc M_W_arePositionsRight) 33 = .ok (.sipush (-2003), 3) := by decide +kernel
theorem d_W_arePositionsRight_36 : decode (mMc M_W_arePositionsRight) 36 = .ok (.if_icmp .ne 48, 3) := by decide +kernel
theorem d_W_arePositionsRight_39 : decode (mMc M_W_arePositionsRight) 39 = .ok (.aload_n 0, 1) := by decide +kernel
theorem d_W_arePositionsRight_40 : decode (mMc M_W_arePositionsRight) 40 = .ok (.bipush 8, 2) := by decide +kernel
theorem d_W_arePositionsRight_42 : decode (mMc M_W_arePositionsRight) 42 = .ok (.iconst 0, 1) := by decide +kernel
theorem d_W_arePositionsRight_43 : decode (mMc M_W_arePositionsRight) 43 = .ok (.invokestatic 162, 3) := by decide +kernel
theorem d_W_arePositionsRight_46 : decode (mMc M_W_arePositionsRight) 46 = .ok (.sipush (-2003), 3) := by decide +kernel
theorem d_W_arePositionsRight_49 : decode (mMc M_W_arePositionsRight) 49 = .ok (.if_icmp .ne 35, 3) := by decide +kernel
theorem d_W_arePositionsRight_52 : decode (mMc M_W_arePositionsRight) 52 = .ok (.aload_n 0, 1) := by decide +kernel
theorem d_W_arePositionsRight_53 : decode (mMc M_W_arePositionsRight) 53 = .ok (.bipush 8, 2) := by decide +kernel
theorem d_W_arePositionsRight_55 : decode (mMc M_W_arePositionsRight) 55 = .ok (.bipush 61, 2) := by decide +kernel
theorem d_W_arePositionsRight_57 : decode (mMc M_W_arePositionsRight) 57 = .ok (.invokestatic 162, 3) := by decide +kernel
theorem d_W_arePositionsRight_60 : decode (mMc M_W_arePositionsRight) 60 = .ok (.sipush (-2003), 3) := by decide +kernel
theorem d_W_arePositionsRight_63 : decode (mMc M_W_arePositionsRight) 63 = .ok (.if_icmp .ne 21, 3) := by decide +kernel
theorem d_W_arePositionsRight_66 : decode (mMc M_W_arePositionsRight) 66 = .ok (.aload_n 0, 1) := by decide +kernel
theorem d_W_arePositionsRight_67 : decode (mMc M_W_arePositionsRight) 67 = .ok (.bipush 9, 2) := by decide +kernel
theorem d_W_arePositionsRight_69 : decode (mMc M_W_arePositionsRight) 69 = .ok (.bipush 61, 2) := by decide +kernel
theorem d_W_arePositionsRight_71 : decode (mMc M_W_arePositionsRight) 71 = .ok (.invokestatic 162, 3) := by decide +kernel
theorem d_W_arePositionsRight_74 : decode (mMc M_W_arePositionsRight) 74 = .ok (.sipush (-2003), 3) := by decide +kernel
theorem d_W_arePositionsRight_77 : decode (mMc M_W_arePositionsRight) 77 = .ok (.if_icmp .ne 7, 3) := by decide +kernel
theorem d_W_arePositionsRight_80 : decode (mMc M_W_arePositionsRight) 80 = .ok (.iconst 1, 1) := by decide +kernel
theorem d_W_arePositionsRight_81 : decode (mMc M_W_arePositionsRight) 81 = .ok (.goto 4, 3) := by decide +kernel
theorem d_W_arePositionsRight_84 : decode (mMc M_W_arePositionsRight) 84 = .ok (.iconst 0, 1) := by decide +kernel
theorem d_W_arePositionsRight_85 : decode (mMc M_W_arePositionsRight) 85 = .ok (.istore 4, 2) := by decide +kernel
theorem d_W_arePositionsRight_87 : decode (mMc M_W_arePositionsRight) 87 = .ok (.iconst 0, 1) := by decide +kernel
theorem d_W_arePositionsRight_88 : decode (mMc M_W_arePositionsRight) 88 = .ok (.istore 5, 2) := by decide +kernel
theorem d_W_arePositionsRight_90 : decode (mMc M_W_arePositionsRight) 90 = .ok (.iload 5, 2) := by decide +kernel
theorem d_W_arePositionsRight_92 : decode (mMc M_W_arePositionsRight) 92 = .ok (.bipush 60, 2) := by decide +kernel
theorem d_W_arePositionsRight_94 : decode (mMc M_W_arePositionsRight) 94 = .ok (.if_icmp .ge 156, 3) := by decide +kernel
theorem d_W_arePositionsRight_97 : decode (mMc M_W_arePositionsRight) 97 = .ok (.aload_n 0, 1) := by decide +kernel
theorem d_W_arePositionsRight_98 : decode (mMc M_W_arePositionsRight) 98 = .ok (.bipush 7, 2) := by decide +kernel
theorem d_W_arePositionsRight_100 : decode (mMc M_W_arePositionsRight) 100 = .ok (.iload 5, 2) := by decide +kernel
theorem d_W_arePositionsRight_102 : decode (mMc M_W_arePositionsRight) 102 = .ok (.invokestatic 162, 3) := by decide +kernel
theorem d_W_arePositionsRight_105 : decode (mMc M_W_arePositionsRight) 105 = .ok (.istore 6, 2) := by decide +kernel
theorem d_W_arePositionsRight_107 : decode (mMc M_W_arePositionsRight) 107 = .ok (.iload_n 1, 1) := by decide +kernel
theorem d_W_arePositionsRight_108 : decode (mMc M_W_arePositionsRight) 108 = .ok (.iload 6, 2) := by decide +kernel
theorem d_W_arePositionsRight_110 : decode (mMc M_W_arePositionsRight) 110 = .ok (.sipush (-2004), 3) := by decide +kernel
theorem d_W_arePositionsRight_113 : decode (mMc M_W_arePositionsRight) 113 = .ok (.if_icmp .ne 7, 3) := by decide +kernel
theorem d_W_arePositionsRight_116 : decode (mMc M_W_arePositionsRight) 116 = .ok (.iconst 1, 1) := by decide +kernel
theorem d_W_arePositionsRight_117 : decode (mMc M_W_arePositionsRight) 117 = .ok (.goto 4, 3) := by decide +kernel
theorem d_W_arePositionsRight_120 : decode (mMc M_W_arePositionsRight) 120 = .ok (.iconst 0, 1) := by decide +kernel
theorem d_W_arePositionsRight_121 : decode (mMc M_W_arePositionsRight) 121 = .ok (.invokestatic 36, 3) := by decide +kernel
theorem d_W_arePositionsRight_124 : decode (mMc M_W_arePositionsRight) 124 = .ok (.iadd, 1) := by decide +kernel
theorem d_W_arePositionsRight_125 : decode (mMc M_W_arePositionsRight) 125 = .ok (.istore_n 1, 1) := by decide +kernel
theorem d_W_arePositionsRight_126 : decode (mMc M_W_arePositionsRight) 126 = .ok (.new 185, 3) := by decide +kernel
theorem d_W_arePositionsRight_129 : decode (mMc M_W_arePositionsRight) 129 = .ok (.dup, 1) := by decide +kernel
theorem d_W_arePositionsRight_130 : decode (mMc M_W_arePositionsRight) 130 = .ok (.invokespecial 187, 3) := by decide +kernel
theorem d_W_arePositionsRight_133 : decode (mMc M_W_arePositionsRight) 133 = .ok (.aload_n 3, 1) := by decide +kernel
theorem d_W_arePositionsRight_134 : decode (mMc M_W_arePositionsRight) 134 = .ok (.invokevirtual 188, 3) := by decide +kernel
theorem d_W_arePositionsRight_137 : decode (mMc M_W_arePositionsRight) 137 = .ok (.iload 6, 2) := by decide +kernel
theorem d_W_arePositionsRight_139 : decode (mMc M_W_arePositionsRight) 139 = .ok (.ifCond .lt 29, 3) := by decide +kernel
theorem d_W_arePositionsRight_142 : decode (mMc M_W_arePositionsRight) 142 = .ok (.new 185, 3) := by decide +kernel
theorem d_W_arePositionsRight_145 : decode (mMc M_W_arePositionsRight) 145 = .ok (.dup, 1) := by decide +kernel
theorem d_W_arePositionsRight_146 : decode (mMc M_W_arePositionsRight) 146 = .ok (.invokespecial 187, 3) := by decide +kernel
theorem d_W_arePositionsRight_149 : decode (mMc M_W_arePositionsRight) 149 = .ok (.ldc 183, 2) := by decide +kernel
theorem d_W_arePositionsRight_151 : decode (mMc M_W_arePositionsRight) 151 = .ok (.invokevirtual 188, 3) := by decide +kernel
theorem d_W_arePositionsRight_154 : decode (mMc M_W_arePositionsRight) 154 = .ok (.iload 6, 2) := by decide +kernel
theorem d_W_arePositionsRight_156 : decode (mMc M_W_arePositionsRight) 156 = .ok (.bipush 10, 2) := by decide +kernel
theorem d_W_arePositionsRight_158 : decode (mMc M_W_arePositionsRight) 158 = .ok (.irem, 1) := by decide +kernel
theorem d_W_arePositionsRight_159 : decode (mMc M_W_arePositionsRight) 159 = .ok (.invokevirtual 192, 3) := by decide +kernel
theorem d_W_arePositionsRight_162 : decode (mMc M_W_arePositionsRight) 162 = .ok (.invokevirtual 195, 3) := by decide +kernel
theorem d_W_arePositionsRight_165 : decode (mMc M_W_arePositionsRight) 165 = .ok (.goto 19, 3) := by decide +kernel
theorem d_W_arePositionsRight_168 : decode (mMc M_W_arePositionsRight) 168 = .ok (.aload_n 0, 1) := by decide +kernel
theorem d_W_arePositionsRight_169 : decode (mMc M_W_arePositionsRight) 169 = .ok (.iload 5, 2) := by decide +kernel
theorem d_W_arePositionsRight_171 : decode (mMc M_W_arePositionsRight) 171 = .ok (.invokevirtual 93, 3) := by decide +kernel
theorem d_W_arePositionsRight_174 : decode (mMc M_W_arePositionsRight) 174 = .ok (.ifCond .eq 8, 3) := by decide +kernel
theorem d_W_arePositionsRight_177 : decode (mMc M_W_arePositionsRight) 177 = .ok (.ldc 199, 2) := by decide +kernel
theorem d_W_arePositionsRight_179 : decode (mMc M_W_arePositionsRight) 179 = .ok (.goto 5, 3) := by decide +kernel
theorem d_W_arePositionsRight_182 : decode (mMc M_W_arePositionsRight) 182 = .ok (.ldc 201, 2) := by decide +kernel
theorem d_W_arePositionsRight_184 : decode (mMc M_W_arePositionsRight) 184 = .ok (.invokevirtual 188, 3) := by decide +kernel
theorem d_W_arePositionsRight_187 : decode (mMc M_W_arePositionsRight) 187 = .ok (.invokevirtual 195, 3) := by decide +kernel
theorem d_W_arePositionsRight_190 : decode (mMc M_W_arePositionsRight) 190 = .ok (.astore_n 3, 1) := by decide +kernel
theorem d_W_arePositionsRight_191 : decode (mMc M_W_arePositionsRight) 191 = .ok (.iconst 0, 1) := by decide +kernel
theorem d_W_arePositionsRight_192 : decode (mMc M_W_arePositionsRight) 192 = .ok (.istore 7, 2) := by decide +kernel
theorem d_W_arePositionsRight_194 : decode (mMc M_W_arePositionsRight) 194 = .ok (.iload 7, 2) := by decide +kernel
theorem d_W_arePositionsRight_196 : decode (mMc M_W_arePositionsRight) 196 = .ok (.aload_n 0, 1) := by decide +kernel
theorem d_W_arePositionsRight_197 : decode (mMc M_W_arePositionsRight) 197 = .ok (.invokevirtual 135, 3) := by decide +kernel
theorem d_W_arePositionsRight_200 : decode (mMc M_W_arePositionsRight) 200 = .ok (.if_icmp .ge 44, 3) := by decide +kernel
theorem d_W_arePositionsRight_203 : decode (mMc M_W_arePositionsRight) 203 = .ok (.aload_n 2, 1) := by decide +kernel
theorem d_W_arePositionsRight_204 : decode (mMc M_W_arePositionsRight) 204 = .ok (.iload 7, 2) := by decide +kernel
theorem d_W_arePositionsRight_206 : decode (mMc M_W_arePositionsRight) 206 = .ok (.dup2, 1) := by decide +kernel
theorem d_W_arePositionsRight_207 : decode (mMc M_W_arePositionsRight) 207 = .ok (.iaload, 1) := by decide +kernel
theorem d_W_arePositionsRight_208 : decode (mMc M_W_arePositionsRight) 208 = .ok (.aload_n 0, 1) := by decide +kernel
theorem d_W_arePositionsRight_209 : decode (mMc M_W_arePositionsRight) 209 = .ok (.iload 5, 2) := by decide +kernel
theorem d_W_arePositionsRight_211 : decode (mMc M_W_arePositionsRight) 211 = .ok (.invokevirtual 93, 3) := by decide +kernel
theorem d_W_arePositionsRight_214 : decode (mMc M_W_arePositionsRight) 214 = .ok (.ifCond .eq 18, 3) := by decide +kernel
theorem d_W_arePositionsRight_217 : decode (mMc M_W_arePositionsRight) 217 = .ok (.aload_n 0, 1) := by decide +kernel
theorem d_W_arePositionsRight_218 : decode (mMc M_W_arePositionsRight) 218 = .ok (.iload 7, 2) := by decide +kernel
theorem d_W_arePositionsRight_220 : decode (mMc M_W_arePositionsRight) 220 = .ok (.invokevirtual 75, 3) := by decide +kernel
theorem d_W_arePositionsRight_223 : decode (mMc M_W_arePositionsRight) 223 = .ok (.iload 6, 2) := by decide +kernel
theorem d_W_arePositionsRight_225 : decode (mMc M_W_arePositionsRight) 225 = .ok (.if_icmp .ne 7, 3) := by decide +kernel
theorem d_W_arePositionsRight_228 : decode (mMc M_W_arePositionsRight) 228 = .ok (.iconst 1, 1) := by decide +kernel
theorem d_W_arePositionsRight_229 : decode (mMc M_W_arePositionsRight) 229 = .ok (.goto 4, 3) := by decide +kernel
theorem d_W_arePositionsRight_232 : decode (mMc M_W_arePositionsRight) 232 = .ok (.iconst 0, 1) := by decide +kernel
theorem d_W_arePositionsRight_233 : decode (mMc M_W_arePositionsRight) 233 = .ok (.invokestatic 36, 3) := by decide +kernel
theorem d_W_arePositionsRight_236 : decode (mMc M_W_arePositionsRight) 236 = .ok (.iadd, 1) := by decide +kernel
theorem d_W_arePositionsRight_237 : decode (mMc M_W_arePositionsRight) 237 = .ok (.iastore, 1) := by decide +kernel
theorem d_W_arePositionsRight_238 : decode (mMc M_W_arePositionsRight) 238 = .ok (.iinc 7 1, 3) := by decide +kernel
theorem d_W_arePositionsRight_241 : decode (mMc M_W_arePositionsRight) 241 = .ok (.goto (-47), 3) := by decide +kernel
theorem d_W_arePositionsRight_244 : decode (mMc M_W_arePositionsRight) 244 = .ok (.iinc 5 1, 3) := by decide +kernel
theorem d_W_arePositionsRight_247 : decode (mMc M_W_arePositionsRight) 247 = .ok (.goto (-157), 3) := by decide +kernel
theorem d_W_arePositionsRight_250 : decode (mMc M_W_arePositionsRight) 250 = .ok (.iconst 0, 1) := by decide +kernel
theorem d_W_arePositionsRight_251 : decode (mMc M_W_arePositionsRight) 251 = .ok (.istore 5, 2) := by decide +kernel
theorem d_W_arePositionsRight_253 : decode (mMc M_W_arePositionsRight) 253 = .ok (.iload 5, 2) := by decide +kernel
theorem d_W_arePositionsRight_255 : decode (mMc M_W_arePositionsRight) 255 = .ok (.aload_n 0, 1) := by decide +kernel
theorem d_W_arePositionsRight_256 : decode (mMc M_W_arePositionsRight) 256 = .ok (.invokevirtual 135, 3) := by decide +kernel
theorem d_W_arePositionsRight_259 : decode (mMc M_W_arePositionsRight) 259 = .ok (.if_icmp .ge 55, 3) := by decide +kernel
theorem d_W_arePositionsRight_262 : decode (mMc M_W_arePositionsRight) 262 = .ok (.aload_n 0, 1) := by decide +kernel
theorem d_W_arePositionsRight_263 : decode (mMc M_W_arePositionsRight) 263 = .ok (.iload 5, 2) := by decide +kernel
theorem d_W_arePositionsRight_265 : decode (mMc M_W_arePositionsRight) 265 = .ok (.invokevirtual 75, 3) := by decide +kernel
theorem d_W_arePositionsRight_268 : decode (mMc M_W_arePositionsRight) 268 = .ok (.istore 6, 2) := by decide +kernel
theorem d_W_arePositionsRight_270 : decode (mMc M_W_arePositionsRight) 270 = .ok (.iload 4, 2) := by decide +kernel
theorem d_W_arePositionsRight_272 : decode (mMc M_W_arePositionsRight) 272 = .ok (.ifCond .eq 33, 3) := by decide +kernel
theorem d_W_arePositionsRight_275 : decode (mMc M_W_arePositionsRight) 275 = .ok (.aload_n 0, 1) := by decide +kernel
theorem d_W_arePositionsRight_276 : decode (mMc M_W_arePositionsRight) 276 = .ok (.iload 6, 2) := by decide +kernel
theorem d_W_arePositionsRight_278 : decode (mMc M_W_arePositionsRight) 278 = .ok (.invokevirtual 203, 3) := by decide +kernel
theorem d_W_arePositionsRight_281 : decode (mMc M_W_arePositionsRight) 281 = .ok (.aload_n 2, 1) := by decide +kernel
theorem d_W_arePositionsRight_282 : decode (mMc M_W_arePositionsRight) 282 = .ok (.iload 5, 2) := by decide +kernel
theorem d_W_arePositionsRight_284 : decode (mMc M_W_arePositionsRight) 284 = .ok (.iaload, 1) := by decide +kernel
theorem d_W_arePositionsRight_285 : decode (mMc M_W_arePositionsRight) 285 = .ok (.if_icmp .ne 20, 3) := by decide +kernel
theorem d_W_arePositionsRight_288 : decode (mMc M_W_arePositionsRight) 288 = .ok (.aload_n 0, 1) := by decide +kernel
theorem d_W_arePositionsRight_289 : decode (mMc M_W_arePositionsRight) 289 = .ok (.iload 6, 2) := by decide +kernel
theorem d_W_arePositionsRight_291 : decode (mMc M_W_arePositionsRight) 291 = .ok (.invokevirtual 206, 3) := by decide +kernel
theorem d_W_arePositionsRight_294 : decode (mMc M_W_arePositionsRight) 294 = .ok (.aload_n 2, 1) := by decide +kernel
theorem d_W_arePositionsRight_295 : decode (mMc M_W_arePositionsRight) 295 = .ok (.iload 5, 2) := by decide +kernel
theorem d_W_arePositionsRight_297 : decode (mMc M_W_arePositionsRight) 297 = .ok (.iaload, 1) := by decide +kernel
theorem d_W_arePositionsRight_298 : decode (mMc M_W_arePositionsRight) 298 = .ok (.if_icmp .ne 7, 3) := by decide +kernel
theorem d_W_arePositionsRight_301 : decode (mMc M_W_arePositionsRight) 301 = .ok (.iconst 1, 1) := by decide +kernel
theorem d_W_arePositionsRight_302 : decode (mMc M_W_arePositionsRight) 302 = .ok (.goto 4, 3) := by decide +kernel
theorem d_W_arePositionsRight_305 : decode (mMc M_W_arePositionsRight) 305 = .ok (.iconst 0, 1) := by decide +kernel
theorem d_W_arePositionsRight_306 : decode (mMc M_W_arePositionsRight) 306 = .ok (.istore 4, 2) := by decide +kernel
theorem d_W_arePositionsRight_308 : decode (mMc M_W_arePositionsRight) 308 = .ok (.iinc 5 1, 3) := by decide +kernel
theorem d_W_arePositionsRight_311 : decode (mMc M_W_arePositionsRight) 311 = .ok (.goto (-58), 3) := by decide +kernel
theorem d_W_arePositionsRight_314 : decode (mMc M_W_arePositionsRight) 314 = .ok (.iconst 1, 1) := by decide +kernel
theorem d_W_arePositionsRight_315 : decode (mMc M_W_arePositionsRight) 315 = .ok (.istore 5, 2) := by decide +kernel
theorem d_W_arePositionsRight_317 : decode (mMc M_W_arePositionsRight) 317 = .ok (.iload 5, 2) := by decide +kernel
theorem d_W_arePositionsRight_319 : decode (mMc M_W_arePositionsRight) 319 = .ok (.bipush 61, 2) := by decide +kernel
theorem d_W_arePositionsRight_321 : decode (mMc M_W_arePositionsRight) 321 = .ok (.if_icmp .ge 122, 3) := by decide +kernel
theorem d_W_arePositionsRight_324 : decode (mMc M_W_arePositionsRight) 324 = .ok (.sipush (-2004), 3) := by decide +kernel
theorem d_W_arePositionsRight_327 : decode (mMc M_W_arePositionsRight) 327 = .ok (.istore 6, 2) := by decide +kernel
theorem d_W_arePositionsRight_329 : decode (mMc M_W_arePositionsRight) 329 = .ok (.iconst 0, 1) := by decide +kernel
theorem d_W_arePositionsRight_330 : decode (mMc M_W_arePositionsRight) 330 = .ok (.istore 7, 2) := by decide +kernel
theorem d_W_arePositionsRight_332 : decode (mMc M_W_arePositionsRight) 332 = .ok (.iconst 0, 1) := by decide +kernel
theorem d_W_arePositionsRight_333 : decode (mMc M_W_arePositionsRight) 333 = .ok (.istore 8, 2) := by decide +kernel
theorem d_W_arePositionsRight_335 : decode (mMc M_W_arePositionsRight) 335 = .ok (.iload 8, 2) := by decide +kernel
theorem d_W_arePositionsRight_337 : decode (mMc M_W_arePositionsRight) 337 = .ok (.bipush 60, 2) := by decide +kernel
theorem d_W_arePositionsRight_339 : decode (mMc M_W_arePositionsRight) 339 = .ok (.if_icmp .ge 60, 3) := by decide +kernel
theorem d_W_arePositionsRight_342 : decode (mMc M_W_arePositionsRight) 342 = .ok (.iload 6, 2) := by decide +kernel
theorem d_W_arePositionsRight_344 : decode (mMc M_W_arePositionsRight) 344 = .ok (.ifCond .ge 55, 3) := by decide +kernel
theorem d_W_arePositionsRight_347 : decode (mMc M_W_arePositionsRight) 347 = .ok (.aload_n 0, 1) := by decide +kernel
theorem d_W_arePositionsRight_348 : decode (mMc M_W_arePositionsRight) 348 = .ok (.bipush 7, 2) := by decide +kernel
theorem d_W_arePositionsRight_350 : decode (mMc M_W_arePositionsRight) 350 = .ok (.iload 8, 2) := by decide +kernel
theorem d_W_arePositionsRight_352 : decode (mMc M_W_arePositionsRight) 352 = .ok (.invokestatic 162, 3) := by decide +kernel
theorem d_W_arePositionsRight_355 : decode (mMc M_W_arePositionsRight) 355 = .ok (.sipush (-2004), 3) := by decide +kernel
theorem d_W_arePositionsRight_358 : decode (mMc M_W_arePositionsRight) 358 = .ok (.if_icmp .ne 10, 3) := by decide +kernel
theorem d_W_arePositionsRight_361 : decode (mMc M_W_arePositionsRight) 361 = .ok (.iload 7, 2) := by decide +kernel
theorem d_W_arePositionsRight_363 : decode (mMc M_W_arePositionsRight) 363 = .ok (.iconst 1, 1) := by decide +kernel
theorem d_W_arePositionsRight_364 : decode (mMc M_W_arePositionsRight) 364 = .ok (.iadd, 1) := by decide +kernel
theorem d_W_arePositionsRight_365 : decode (mMc M_W_arePositionsRight) 365 = .ok (.goto 4, 3) := by decide +kernel
theorem d_W_arePositionsRight_368 : decode (mMc M_W_arePositionsRight) 368 = .ok (.iconst 0, 1) := by decide +kernel
theorem d_W_arePositionsRight_369 : decode (mMc M_W_arePositionsRight) 369 = .ok (.istore 7, 2) := by decide +kernel
theorem d_W_arePositionsRight_371 : decode (mMc M_W_arePositionsRight) 371 = .ok (.iload 7, 2) := by decide +kernel
theorem d_W_arePositionsRight_373 : decode (mMc M_W_arePositionsRight) 373 = .ok (.iload 5, 2) := by decide +kernel
theorem d_W_arePositionsRight_375 : decode (mMc M_W_arePositionsRight) 375 = .ok (.if_icmp .ne 13, 3) := by decide +kernel
theorem d_W_arePositionsRight_378 : decode (mMc M_W_arePositionsRight) 378 = .ok (.iload 8, 2) := by decide +kernel
theorem d_W_arePositionsRight_380 : decode (mMc M_W_arePositionsRight) 380 = .ok (.iload 5, 2) := by decide +kernel
theorem d_W_arePositionsRight_382 : decode (mMc M_W_arePositionsRight) 382 = .ok (.isub, 1) := by decide +kernel
theorem d_W_arePositionsRight_383 : decode (mMc M_W_arePositionsRight) 383 = .ok (.iconst 1, 1) := by decide +kernel
theorem d_W_arePositionsRight_384 : decode (mMc M_W_arePositionsRight) 384 = .ok (.iadd, 1) := by decide +kernel
theorem d_W_arePositionsRight_385 : decode (mMc M_W_arePositionsRight) 385 = .ok (.goto 6, 3) := by decide +kernel
theorem d_W_arePositionsRight_388 : decode (mMc M_W_arePositionsRight) 388 = .ok (.sipush (-2004), 3) := by decide +kernel
theorem d_W_arePositionsRight_391 : decode (mMc M_W_arePositionsRight) 391 = .ok (.istore 6, 2) := by decide +kernel
theorem d_W_arePositionsRight_393 : decode (mMc M_W_arePositionsRight) 393 = .ok (.iinc 8 1, 3) := by decide +kernel
theorem d_W_arePositionsRight_396 : decode (mMc M_W_arePositionsRight) 396 = .ok (.goto (-61), 3) := by decide +kernel
theorem d_W_arePositionsRight_399 : decode (mMc M_W_arePositionsRight) 399 = .ok (.iload 4, 2) := by decide +kernel
theorem d_W_arePositionsRight_401 : decode (mMc M_W_arePositionsRight) 401 = .ok (.ifCond .eq 33, 3) := by decide +kernel
theorem d_W_arePositionsRight_404 : decode (mMc M_W_arePositionsRight) 404 = .ok (.aload_n 0, 1) := by decide +kernel
theorem d_W_arePositionsRight_405 : decode (mMc M_W_arePositionsRight) 405 = .ok (.bipush 8, 2) := by decide +kernel
theorem d_W_arePositionsRight_407 : decode (mMc M_W_arePositionsRight) 407 = .ok (.iload 5, 2) := by decide +kernel
theorem d_W_arePositionsRight_409 : decode (mMc M_W_arePositionsRight) 409 = .ok (.invokestatic 162, 3) := by decide +kernel
theorem d_W_arePositionsRight_412 : decode (mMc M_W_arePositionsRight) 412 = .ok (.iload 6, 2) := by decide +kernel
theorem d_W_arePositionsRight_414 : decode (mMc M_W_arePositionsRight) 414 = .ok (.if_icmp .ne 20, 3) := by decide +kernel
theorem d_W_arePositionsRight_417 : decode (mMc M_W_arePositionsRight) 417 = .ok (.aload_n 0, 1) := by decide +kernel
theorem d_W_arePositionsRight_418 : decode (mMc M_W_arePositionsRight) 418 = .ok (.bipush 9, 2) := by decide +kernel
theorem d_W_arePositionsRight_420 : decode (mMc M_W_arePositionsRight) 420 = .ok (.iload 5, 2) := by decide +kernel
theorem d_W_arePositionsRight_422 : decode (mMc M_W_arePositionsRight) 422 = .ok (.invokestatic 162, 3) := by decide +kernel
theorem d_W_arePositionsRight_425 : decode (mMc M_W_arePositionsRight) 425 = .ok (.iload 6, 2) := by decide +kernel
theorem d_W_arePositionsRight_427 : decode (mMc M_W_arePositionsRight) 427 = .ok (.if_icmp .ne 7, 3) := by decide +kernel
theorem d_W_arePositionsRight_430 : decode (mMc M_W_arePositionsRight) 430 = .ok (.iconst 1, 1) := by decide +kernel
theorem d_W_arePositionsRight_431 : decode (mMc M_W_arePositionsRight) 431 = .ok (.goto 4, 3) := by decide +kernel
theorem d_W_arePositionsRight_434 : decode (mMc M_W_arePositionsRight) 434 = .ok (.iconst 0, 1) := by decide +kernel
theorem d_W_arePositionsRight_435 : decode (mMc M_W_arePositionsRight) 435 = .ok (.istore 4, 2) := by decide +kernel
theorem d_W_arePositionsRight_437 : decode (mMc M_W_arePositionsRight) 437 = .ok (.iinc 5 1, 3) := by decide +kernel
theorem d_W_arePositionsRight_440 : decode (mMc M_W_arePositionsRight) 440 = .ok (.goto (-123), 3) := by decide +kernel
theorem d_W_arePositionsRight_443 : decode (mMc M_W_arePositionsRight) 443 = .ok (.iload 4, 2) := by decide +kernel
theorem d_W_arePositionsRight_445 : decode (mMc M_W_arePositionsRight) 445 = .ok (.ifCond .eq 43, 3) := by decide +kernel
theorem d_W_arePositionsRight_448 : decode (mMc M_W_arePositionsRight) 448 = .ok (.aload_n 0, 1) := by decide +kernel
theorem d_W_arePositionsRight_449 : decode (mMc M_W_arePositionsRight) 449 = .ok (.invokevirtual 209, 3) := by decide +kernel
theorem d_W_arePositionsRight_452 : decode (mMc M_W_arePositionsRight) 452 = .ok (.iload_n 1, 1) := by decide +kernel
theorem d_W_arePositionsRight_453 : decode (mMc M_W_arePositionsRight) 453 = .ok (.if_icmp .ne 35, 3) := by decide +kernel
theorem d_W_arePositionsRight_456 : decode (mMc M_W_arePositionsRight) 456 = .ok (.aload_n 0, 1) := by decide +kernel
theorem d_W_arePositionsRight_457 : decode (mMc M_W_arePositionsRight) 457 = .ok (.invokevirtual 212, 3) := by decide +kernel
theorem d_W_arePositionsRight_460 : decode (mMc M_W_arePositionsRight) 460 = .ok (.bipush 60, 2) := by decide +kernel
theorem d_W_arePositionsRight_462 : decode (mMc M_W_arePositionsRight) 462 = .ok (.iload_n 1, 1) := by decide +kernel
theorem d_W_arePositionsRight_463 : decode (mMc M_W_arePositionsRight) 463 = .ok (.isub, 1) := by decide +kernel
theorem d_W_arePositionsRight_464 : decode (mMc M_W_arePositionsRight) 464 = .ok (.i2f, 1) := by decide +kernel
theorem d_W_arePositionsRight_465 : decode (mMc M_W_arePositionsRight) 465 = .ok (.ldc 216, 2) := by decide +kernel
theorem d_W_arePositionsRight_467 : decode (mMc M_W_arePositionsRight) 467 = .ok (.fdiv, 1) := by decide +kernel
theorem d_W_arePositionsRight_468 : decode (mMc M_W_arePositionsRight) 468 = .ok (.fcmp .l, 1) := by decide +kernel
theorem d_W_arePositionsRight_469 : decode (mMc M_W_arePositionsRight) 469 = .ok (.ifCond .ne 19, 3) := by decide +kernel
theorem d_W_arePositionsRight_472 : decode (mMc M_W_arePositionsRight) 472 = .ok (.aload_n 0, 1) := by decide +kernel
theorem d_W_arePositionsRight_473 : decode (mMc M_W_arePositionsRight) 473 = .ok (.aload_n 0, 1) := by decide +kernel
theorem d_W_arePositionsRight_474 : decode (mMc M_W_arePositionsRight) 474 = .ok (.invokevirtual 217, 3) := by decide +kernel
theorem d_W_arePositionsRight_477 : decode (mMc M_W_arePositionsRight) 477 = .ok (.aload_n 3, 1) := by decide +kernel
theorem d_W_arePositionsRight_478 : decode (mMc M_W_arePositionsRight) 478 = .ok (.invokestatic 220, 3) := by decide +kernel
theorem d_W_arePositionsRight_481 : decode (mMc M_W_arePositionsRight) 481 = .ok (.ifCond .eq 7, 3) := by decide +kernel
theorem d_W_arePositionsRight_484 : decode (mMc M_W_arePositionsRight) 484 = .ok (.iconst 1, 1) := by decide +kernel
theorem d_W_arePositionsRight_485 : decode (mMc M_W_arePositionsRight) 485 = .ok (.goto 4, 3) := by decide +kernel
theorem d_W_arePositionsRight_488 : decode (mMc M_W_arePositionsRight) 488 = .ok (.iconst 0, 1) := by decide +kernel
theorem d_W_arePositionsRight_489 : decode (mMc M_W_arePositionsRight) 489 = .ok (.ireturn, 1) := by decide +kernel
theorem k_W_arePositionsRight : mCd M_W_arePositionsRight 1 := ⟨by decide, by decide, by decide +kernel, by decide, mG (5, 203) (by decide +kernel), mG (1, 0) (by decide +kernel)⟩
def M_W_ask : mM := (⟨"FloatingDockLaw", "ask", "(LFloatingDock;II)I"⟩, method_8_code, 4, (some .int), [(0, 6, 7, 122), (0, 6, 12, 67), (0, 6, 17, 69), (0, 6, 22, 73)])
theorem d_W_ask_0 : decode (mMc M_W_ask) 0 = .ok (.aload_n 0, 1) := by decide +kernel
theorem d_W_ask_1 : decode (mMc M_W_ask) 1 = .ok (.iload_n 1, 1) := by decide +kernel
theorem d_W_ask_2 : decode (mMc M_W_ask) 2 = .ok (.iload_n 2, 1) := by decide +kernel
theorem d_W_ask_3 : decode (mMc M_W_ask) 3 = .ok (.invokestatic 118, 3) := by decide +kernel
theorem d_W_ask_6 : decode (mMc M_W_ask) 6 = .ok (.ireturn, 1) := by decide +kernel
theorem d_W_ask_7 : decode (mMc M_W_ask) 7 = .ok (.astore_n 3, 1) := by decide +kernel
theorem d_W_ask_8 : decode (mMc M_W_ask) 8 = .ok (.sipush (-2002), 3) := by decide +kernel
theorem d_W_ask_11 : decode (mMc M_W_ask) 11 = .ok (.ireturn, 1) := by decide +kernel
theorem d_W_ask_12 : decode (mMc M_W_ask) 12 = .ok (.astore_n 3, 1) := by decide +kernel
theorem d_W_ask_13 : decode (mMc M_W_ask) 13 = .ok (.sipush (-2003), 3) := by decide +kernel
theorem d_W_ask_16 : decode (mMc M_W_ask) 16 = .ok (.ireturn, 1) := by decide +kernel
theorem d_W_ask_17 : decode (mMc M_W_ask) 17 = .ok (.astore_n 3, 1) := by decide +kernel
theorem d_W_ask_18 : decode (mMc M_W_ask) 18 = .ok (.sipush (-2005), 3) := by decide +kernel
theorem d_W_ask_21 : decode (mMc M_W_ask) 21 = .ok (.ireturn, 1) := by decide +kernel
theorem d_W_ask_22 : decode (mMc M_W_ask) 22 = .ok (.astore_n 3, 1) := by decide +kernel
theorem d_W_ask_23 : decode (mMc M_W_ask) 23 = .ok (.sipush (-2004), 3) := by decide +kernel
theorem d_W_ask_26 : decode (mMc M_W_ask) 26 = .ok (.ireturn, 1) := by decide +kernel
theorem k_W_ask : mCd M_W_ask 3 := ⟨by decide, by decide, by decide +kernel, by decide, mG (5, 207) (by decide +kernel), mG (1, 0) (by decide +kernel)⟩
def M_W_asked : mM := (⟨"FloatingDockLaw", "asked", "(LFloatingDock;II)I"⟩, method_7_code, 3, (some .int), [])
theorem d_W_asked_0 : decode (mMc M_W_asked) 0 = .ok (.iload_n 1, 1) := by decide +kernel
theorem d_W_asked_1 : decode (mMc M_W_asked) 1 = .ok (.tableswitch 145 0 12 #[67, 73, 79, 84, 90, 96, 102, 111, 117, 123, 129, 135, 140], 67) := by decide +kernel
theorem d_W_asked_68 : decode (mMc M_W_asked) 68 = .ok (.aload_n 0, 1) := by decide +kernel
theorem d_W_asked_69 : decode (mMc M_W_asked) 69 = .ok (.iload_n 2, 1) := by decide +kernel
theorem d_W_asked_70 : decode (mMc M_W_asked) 70 = .ok (.invokevirtual 75, 3) := by decide +kernel
theorem d_W_asked_73 : decode (mMc M_W_asked) 73 = .ok (.ireturn, 1) := by decide +kernel
theorem d_W_asked_74 : decode (mMc M_W_asked) 74 = .ok (.aload_n 0, 1) := by decide +kernel
theorem d_W_asked_75 : decode (mMc M_W_asked) 75 = .ok (.iload_n 2, 1) := by decide +kernel
theorem d_W_asked_76 : decode (mMc M_W_asked) 76 = .ok (.invokevirtual 78, 3) := by decide +kernel
theorem d_W_asked_79 : decode (mMc M_W_asked) 79 = .ok (.ireturn, 1) := by decide +kernel
theorem d_W_asked_80 : decode (mMc M_W_asked) 80 = .ok (.aload_n 0, 1) := by decide +kernel
theorem d_W_asked_81 : decode (mMc M_W_asked) 81 = .ok (.invokevirtual 81, 3) := by decide +kernel
theorem d_W_asked_84 : decode (mMc M_W_asked) 84 = .ok (.ireturn, 1) := by decide +kernel
theorem d_W_asked_85 : decode (mMc M_W_asked) 85 = .ok (.aload_n 0, 1) := by decide +kernel
theorem d_W_asked_86 : decode (mMc M_W_asked) 86 = .ok (.iload_n 2, 1) := by decide +kernel
theorem d_W_asked_87 : decode (mMc M_W_asked) 87 = .ok (.invokevirtual 84, 3) := by decide +kernel
theorem d_W_asked_90 : decode (mMc M_W_asked) 90 = .ok (.ireturn, 1) := by decide +kernel
theorem d_W_asked_91 : decode (mMc M_W_asked) 91 = .ok (.aload_n 0, 1) := by decide +kernel
theorem d_W_asked_92 : decode (mMc M_W_asked) 92 = .ok (.iload_n 2, 1) := by decide +kernel
theorem d_W_asked_93 : decode (mMc M_W_asked) 93 = .ok (.invokevirtual 87, 3) := by decide +kernel
theorem d_W_asked_96 : decode (mMc M_W_asked) 96 = .ok (.ireturn, 1) := by decide +kernel
theorem d_W_asked_97 : decode (mMc M_W_asked) 97 = .ok (.aload_n 0, 1) := by decide +kernel
theorem d_W_asked_98 : decode (mMc M_W_asked) 98 = .ok (.iload_n 2, 1) := by decide +kernel
theorem d_W_asked_99 : decode (mMc M_W_asked) 99 = .ok (.invokevirtual 90, 3) := by decide +kernel
theorem d_W_asked_102 : decode (mMc M_W_asked) 102 = .ok (.ireturn, 1) := by decide +kernel
theorem d_W_asked_103 : decode (mMc M_W_asked) 103 = .ok (.aload_n 0, 1) := by decide +kernel
theorem d_W_asked_104 : decode (mMc M_W_asked) 104 = .ok (.iload_n 2, 1) := by decide +kernel
theorem d_W_asked_105 : decode (mMc M_W_asked) 105 = .ok (.invokevirtual 93, 3) := by decide +kernel
theorem d_W_asked_108 : decode (mMc M_W_asked) 108 = .ok (.invokestatic 36, 3) := by decide +kernel
theorem d_W_asked_111 : decode (mMc M_W_asked) 111 = .ok (.ireturn, 1) := by decide +kernel
theorem d_W_asked_112 : decode (mMc M_W_asked) 112 = .ok (.aload_n 0, 1) := by decide +kernel
theorem d_W_asked_113 : decode (mMc M_W_asked) 113 = .ok (.iload_n 2, 1) := by decide +kernel
theorem d_W_asked_114 : decode (mMc M_W_asked) 114 = .ok (.invokevirtual 97, 3) := by decide +kernel
theorem d_W_asked_117 : decode (mMc M_W_asked) 117 = .ok (.ireturn, 1) := by decide +kernel
theorem d_W_asked_118 : decode (mMc M_W_asked) 118 = .ok (.aload_n 0, 1) := by decide +kernel
theorem d_W_asked_119 : decode (mMc M_W_asked) 119 = .ok (.iload_n 2, 1) := by decide +kernel
theorem d_W_asked_120 : decode (mMc M_W_asked) 120 = .ok (.invokevirtual 100, 3) := by decide +kernel
theorem d_W_asked_123 : decode (mMc M_W_asked) 123 = .ok (.ireturn, 1) := by decide +kernel
theorem d_W_asked_124 : decode (mMc M_W_asked) 124 = .ok (.aload_n 0, 1) := by decide +kernel
theorem d_W_asked_125 : decode (mMc M_W_asked) 125 = .ok (.iload_n 2, 1) := by decide +kernel
theorem d_W_asked_126 : decode (mMc M_W_asked) 126 = .ok (.invokevirtual 103, 3) := by decide +kernel
theorem d_W_asked_129 : decode (mMc M_W_asked) 129 = .ok (.ireturn, 1) := by decide +kernel
theorem d_W_asked_130 : decode (mMc M_W_asked) 130 = .ok (.aload_n 0, 1) := by decide +kernel
theorem d_W_asked_131 : decode (mMc M_W_asked) 131 = .ok (.iload_n 2, 1) := by decide +kernel
theorem d_W_asked_132 : decode (mMc M_W_asked) 132 = .ok (.invokevirtual 106, 3) := by decide +kernel
theorem d_W_asked_135 : decode (mMc M_W_asked) 135 = .ok (.ireturn, 1) := by decide +kernel
theorem d_W_asked_136 : decode (mMc M_W_asked) 136 = .ok (.aload_n 0, 1) := by decide +kernel
theorem d_W_asked_137 : decode (mMc M_W_asked) 137 = .ok (.invokevirtual 109, 3) := by decide +kernel
theorem d_W_asked_140 : decode (mMc M_W_asked) 140 = .ok (.ireturn, 1) := by decide +kernel
theorem d_W_asked_141 : decode (mMc M_W_asked) 141 = .ok (.aload_n 0, 1) := by decide +kernel
theorem d_W_asked_142 : decode (mMc M_W_asked) 142 = .ok (.invokevirtual 112, 3) := by decide +kernel
theorem d_W_asked_145 : decode (mMc M_W_asked) 145 = .ok (.ireturn, 1) := by decide +kernel
theorem d_W_asked_146 : decode (mMc M_W_asked) 146 = .ok (.aload_n 0, 1) := by decide +kernel
theorem d_W_asked_147 : decode (mMc M_W_asked) 147 = .ok (.iload_n 2, 1) := by decide +kernel
theorem d_W_asked_148 : decode (mMc M_W_asked) 148 = .ok (.invokevirtual 115, 3) := by decide +kernel
theorem d_W_asked_151 : decode (mMc M_W_asked) 151 = .ok (.ireturn, 1) := by decide +kernel
theorem k_W_asked : mCd M_W_asked 3 := ⟨by decide, by decide, by decide +kernel, by decide, mG (5, 213) (by decide +kernel), mG (1, 0) (by decide +kernel)⟩
def M_W_isLine : mM := (⟨"FloatingDockLaw", "isLine", "(LFloatingDock;ILjava/lang/String;)Z"⟩, method_13_code, 5, (some .boolean), [])
theorem d_W_isLine_0 : decode (mMc M_W_isLine) 0 = .ok (.iload_n 1, 1) := by decide +kernel
theorem d_W_isLine_1 : decode (mMc M_W_isLine) 1 = .ok (.aload_n 2, 1) := by decide +kernel
theorem d_W_isLine_2 : decode (mMc M_W_isLine) 2 = .ok (.invokevirtual 171, 3) := by decide +kernel
theorem d_W_isLine_5 : decode (mMc M_W_isLine) 5 = .ok (.if_icmp .ne 7, 3) := by decide +kernel
theorem d_W_isLine_8 : decode (mMc M_W_isLine) 8 = .ok (.iconst 1, 1) := by decide +kernel
theorem d_W_isLine_9 : decode (mMc M_W_isLine) 9 = .ok (.goto 4, 3) := by decide +kernel
theorem d_W_isLine_12 : decode (mMc M_W_isLine) 12 = .ok (.iconst 0, 1) := by decide +kernel
theorem d_W_isLine_13 : decode (mMc M_W_isLine) 13 = .ok (.istore_n 3, 1) := by decide +kernel
theorem d_W_isLine_14 : decode (mMc M_W_isLine) 14 = .ok (.iconst 0, 1) := by decide +kernel
theorem d_W_isLine_15 : decode (mMc M_W_isLine) 15 = .ok (.istore 4, 2) := by decide +kernel
theorem d_W_isLine_17 : decode (mMc M_W_isLine) 17 = .ok (.iload 4, 2) := by decide +kernel
theorem d_W_isLine_19 : decode (mMc M_W_isLine) 19 = .ok (.aload_n 2, 1) := by decide +kernel
theorem d_W_isLine_20 : decode (mMc M_W_isLine) 20 = .ok (.invokevirtual 171, 3) := by decide +kernel
theorem d_W_isLine_23 : decode (mMc M_W_isLine) 23 = .ok (.if_icmp .ge 34, 3) := by decide +kernel
theorem d_W_isLine_26 : decode (mMc M_W_isLine) 26 = .ok (.iload_n 3, 1) := by decide +kernel
theorem d_W_isLine_27 : decode (mMc M_W_isLine) 27 = .ok (.ifCond .eq 30, 3) := by decide +kernel
theorem d_W_isLine_30 : decode (mMc M_W_isLine) 30 = .ok (.aload_n 0, 1) := by decide +kernel
theorem d_W_isLine_31 : decode (mMc M_W_isLine) 31 = .ok (.iload 4, 2) := by decide +kernel
theorem d_W_isLine_33 : decode (mMc M_W_isLine) 33 = .ok (.invokevirtual 176, 3) := by decide +kernel
theorem d_W_isLine_36 : decode (mMc M_W_isLine) 36 = .ok (.aload_n 2, 1) := by decide +kernel
theorem d_W_isLine_37 : decode (mMc M_W_isLine) 37 = .ok (.iload 4, 2) := by decide +kernel
theorem d_W_isLine_39 : decode (mMc M_W_isLine) 39 = .ok (.invokevirtual 180, 3) := by decide +kernel
theorem d_W_isLine_42 : decode (mMc M_W_isLine) 42 = .ok (.if_icmp .ne 7, 3) := by decide +kernel
theorem d_W_isLine_45 : decode (mMc M_W_isLine) 45 = .ok (.iconst 1, 1) := by decide +kernel
theorem d_W_isLine_46 : decode (mMc M_W_isLine) 46 = .ok (.goto 4, 3) := by decide +kernel
theorem d_W_isLine_49 : decode (mMc M_W_isLine) 49 = .ok (.iconst 0, 1) := by decide +kernel
theorem d_W_isLine_50 : decode (mMc M_W_isLine) 50 = .ok (.istore_n 3, 1) := by decide +kernel
theorem d_W_isLine_51 : decode (mMc M_W_isLine) 51 = .ok (.iinc 4 1, 3) := by decide +kernel
theorem d_W_isLine_54 : decode (mMc M_W_isLine) 54 = .ok (.goto (-37), 3) := by decide +kernel
theorem d_W_isLine_57 : decode (mMc M_W_isLine) 57 = .ok (.iload_n 3, 1) := by decide +kernel
theorem d_W_isLine_58 : decode (mMc M_W_isLine) 58 = .ok (.ireturn, 1) := by decide +kernel
theorem k_W_isLine : mCd M_W_isLine 3 := ⟨by decide, by decide, by decide +kernel, by decide, mG (6, 147) (by decide +kernel), mG (1, 0) (by decide +kernel)⟩
def M_W_areShipsRight : mM := (⟨"FloatingDockLaw", "areShipsRight", "(LFloatingDock;)Z"⟩, method_15_code, 10, (some .boolean), [])
theorem d_W_areShipsRight_0 : decode (mMc M_W_areShipsRight) 0 = .ok (.aload_n 0, 1) := by decide +kernel
theorem d_W_areShipsRight_1 : decode (mMc M_W_areShipsRight) 1 = .ok (.invokevirtual 135, 3) := by decide +kernel
theorem d_W_areShipsRight_4 : decode (mMc M_W_areShipsRight) 4 = .ok (.istore_n 1, 1) := by decide +kernel
theorem d_W_areShipsRight_5 : decode (mMc M_W_areShipsRight) 5 = .ok (.iconst 0, 1) := by decide +kernel
theorem d_W_areShipsRight_6 : decode (mMc M_W_areShipsRight) 6 = .ok (.istore_n 2, 1) := by decide +kernel
theorem d_W_areShipsRight_7 : decode (mMc M_W_areShipsRight) 7 = .ok (.iconst 0, 1) := by decide +kernel
theorem d_W_areShipsRight_8 : decode (mMc M_W_areShipsRight) 8 = .ok (.istore_n 3, 1) := by decide +kernel
theorem d_W_areShipsRight_9 : decode (mMc M_W_areShipsRight) 9 = .ok (.iload_n 1, 1) := by decide +kernel
theorem d_W_areShipsRight_10 : decode (mMc M_W_areShipsRight) 10 = .ok (.bipush 8, 2) := by decide +kernel
theorem d_W_areShipsRight_12 : decode (mMc M_W_areShipsRight) 12 = .ok (.if_icmp .gt 82, 3) := by decide +kernel
theorem d_W_areShipsRight_15 : decode (mMc M_W_areShipsRight) 15 = .ok (.aload_n 0, 1) := by decide +kernel
theorem d_W_areShipsRight_16 : decode (mMc M_W_areShipsRight) 16 = .ok (.iconst 0, 1) := by decide +kernel
theorem d_W_areShipsRight_17 : decode (mMc M_W_areShipsRight) 17 = .ok (.iload_n 1, 1) := by decide +kernel
theorem d_W_areShipsRight_18 : decode (mMc M_W_areShipsRight) 18 = .ok (.invokestatic 162, 3) := by decide +kernel
theorem d_W_areShipsRight_21 : decode (mMc M_W_areShipsRight) 21 = .ok (.sipush (-2002), 3) := by decide +kernel
theorem d_W_areShipsRight_24 : decode (mMc M_W_areShipsRight) 24 = .ok (.if_icmp .ne 70, 3) := by decide +kernel
theorem d_W_areShipsRight_27 : decode (mMc M_W_areShipsRight) 27 = .ok (.aload_n 0, 1) := by decide +kernel
theorem d_W_areShipsRight_28 : decode (mMc M_W_areShipsRight) 28 = .ok (.iconst 0, 1) := by decide +kernel
theorem d_W_areShipsRight_29 : decode (mMc M_W_areShipsRight) 29 = .ok (.iconst (-1), 1) := by decide +kernel
theorem d_W_areShipsRight_30 : decode (mMc M_W_areShipsRight) 30 = .ok (.invokestatic 162, 3) := by decide +kernel
theorem d_W_areShipsRight_33 : decode (mMc M_W_areShipsRight) 33 = .ok (.sipush (-2002), 3) := by decide +kernel
theorem d_W_areShipsRight_36 : decode (mMc M_W_areShipsRight) 36 = .ok (.if_icmp .ne 58, 3) := by decide +kernel
theorem d_W_areShipsRight_39 : decode (mMc M_W_areShipsRight) 39 = .ok (.aload_n 0, 1) := by decide +kernel
theorem d_W_areShipsRight_40 : decode (mMc M_W_areShipsRight) 40 = .ok (.bipush 10, 2) := by decide +kernel
theorem d_W_areShipsRight_42 : decode (mMc M_W_areShipsRight) 42 = .ok (.iload_n 1, 1) := by decide +kernel
theorem d_W_areShipsRight_43 : decode (mMc M_W_areShipsRight) 43 = .ok (.invokestatic 162, 3) := by decide +kernel
theorem d_W_areShipsRight_46 : decode (mMc M_W_areShipsRight) 46 = .ok (.sipush (-2002), 3) := by decide +kernel
theorem d_W_areShipsRight_49 : decode (mMc M_W_areShipsRight) 49 = .ok (.if_icmp .ne 45, 3) := by decide +kernel
theorem d_W_areShipsRight_52 : decode (mMc M_W_areShipsRight) 52 = .ok (.aload_n 0, 1) := by decide +kernel
theorem d_W_areShipsRight_53 : decode (mMc M_W_areShipsRight) 53 = .ok (.bipush 10, 2) := by decide +kernel
theorem d_W_areShipsRight_55 : decode (mMc M_W_areShipsRight) 55 = .ok (.iconst (-1), 1) := by decide +kernel
theorem d_W_areShipsRight_56 : decode (mMc M_W_areShipsRight) 56 = .ok (.invokestatic 162, 3) := by decide +kernel
theorem d_W_areShipsRight_59 : decode (mMc M_W_areShipsRight) 59 = .ok (.sipush (-2002), 3) := by decide +kernel
theorem d_W_areShipsRight_62 : decode (mMc M_W_areShipsRight) 62 = .ok (.if_icmp .ne 32, 3) := by decide +kernel
theorem d_W_areShipsRight_65 : decode (mMc M_W_areShipsRight) 65 = .ok (.aload_n 0, 1) := by decide +kernel
theorem d_W_areShipsRight_66 : decode (mMc M_W_areShipsRight) 66 = .ok (.bipush 13, 2) := by decide +kernel
theorem d_W_areShipsRight_68 : decode (mMc M_W_areShipsRight) 68 = .ok (.iconst (-1), 1) := by decide +kernel
theorem d_W_areShipsRight_69 : decode (mMc M_W_areShipsRight) 69 = .ok (.invokestatic 162, 3) := by decide +kernel
theorem d_W_areShipsRight_72 : decode (mMc M_W_areShipsRight) 72 = .ok (.sipush (-2004), 3) := by decide +kernel
theorem d_W_areShipsRight_75 : decode (mMc M_W_areShipsRight) 75 = .ok (.if_icmp .ne 19, 3) := by decide +kernel
theorem d_W_areShipsRight_78 : decode (mMc M_W_areShipsRight) 78 = .ok (.aload_n 0, 1) := by decide +kernel
theorem d_W_areShipsRight_79 : decode (mMc M_W_areShipsRight) 79 = .ok (.iconst 5, 1) := by decide +kernel
theorem d_W_areShipsRight_80 : decode (mMc M_W_areShipsRight) 80 = .ok (.iconst (-1), 1) := by decide +kernel
theorem d_W_areShipsRight_81 : decode (mMc M_W_areShipsRight) 81 = .ok (.invokestatic 162, 3) := by decide +kernel
theorem d_W_areShipsRight_84 : decode (mMc M_W_areShipsRight) 84 = .ok (.sipush (-2004), 3) := by decide +kernel
theorem d_W_areShipsRight_87 : decode (mMc M_W_areShipsRight) 87 = .ok (.if_icmp .ne 7, 3) := by decide +kernel
theorem d_W_areShipsRight_90 : decode (mMc M_W_areShipsRight) 90 = .ok (.iconst 1, 1) := by decide +kernel
theorem d_W_areShipsRight_91 : decode (mMc M_W_areShipsRight) 91 = .ok (.goto 4, 3) := by decide +kernel
theorem d_W_areShipsRight_94 : decode (mMc M_W_areShipsRight) 94 = .ok (.iconst 0, 1) := by decide +kernel
theorem d_W_areShipsRight_95 : decode (mMc M_W_areShipsRight) 95 = .ok (.istore 4, 2) := by decide +kernel
theorem d_W_areShipsRight_97 : decode (mMc M_W_areShipsRight) 97 = .ok (.iconst 0, 1) := by decide +kernel
theorem d_W_areShipsRight_98 : decode (mMc M_W_areShipsRight) 98 = .ok (.istore 5, 2) := by decide +kernel
theorem d_W_areShipsRight_100 : decode (mMc M_W_areShipsRight) 100 = .ok (.iload 5, 2) := by decide +kernel
theorem d_W_areShipsRight_102 : decode (mMc M_W_areShipsRight) 102 = .ok (.iload_n 1, 1) := by decide +kernel
theorem d_W_areShipsRight_103 : decode (mMc M_W_areShipsRight) 103 = .ok (.if_icmp .ge 271, 3) := by decide +kernel
theorem d_W_areShipsRight_106 : decode (mMc M_W_areShipsRight) 106 = .ok (.aload_n 0, 1) := by decide +kernel
theorem d_W_areShipsRight_107 : decode (mMc M_W_areShipsRight) 107 = .ok (.iload 5, 2) := by decide +kernel
theorem d_W_areShipsRight_109 : decode (mMc M_W_areShipsRight) 109 = .ok (.invokevirtual 75, 3) := by decide +kernel
theorem d_W_areShipsRight_112 : decode (mMc M_W_areShipsRight) 112 = .ok (.istore 6, 2) := by decide +kernel
theorem d_W_areShipsRight_114 : decode (mMc M_W_areShipsRight) 114 = .ok (.aload_n 0, 1) := by decide +kernel
theorem d_W_areShipsRight_115 : decode (mMc M_W_areShipsRight) 115 = .ok (.iconst 1, 1) := by decide +kernel
theorem d_W_areShipsRight_116 : decode (mMc M_W_areShipsRight) 116 = .ok (.iload 6, 2) := by decide +kernel
theorem d_W_areShipsRight_118 : decode (mMc M_W_areShipsRight) 118 = .ok (.invokestatic 162, 3) := by decide +kernel
theorem d_W_areShipsRight_121 : decode (mMc M_W_areShipsRight) 121 = .ok (.istore 7, 2) := by decide +kernel
theorem d_W_areShipsRight_123 : decode (mMc M_W_areShipsRight) 123 = .ok (.iload_n 2, 1) := by decide +kernel
theorem d_W_areShipsRight_124 : decode (mMc M_W_areShipsRight) 124 = .ok (.aload_n 0, 1) := by decide +kernel
theorem d_W_areShipsRight_125 : decode (mMc M_W_areShipsRight) 125 = .ok (.iload 6, 2) := by decide +kernel
theorem d_W_areShipsRight_127 : decode (mMc M_W_areShipsRight) 127 = .ok (.invokevirtual 142, 3) := by decide +kernel
theorem d_W_areShipsRight_130 : decode (mMc M_W_areShipsRight) 130 = .ok (.iadd, 1) := by decide +kernel
theorem d_W_areShipsRight_131 : decode (mMc M_W_areShipsRight) 131 = .ok (.istore_n 2, 1) := by decide +kernel
theorem d_W_areShipsRight_132 : decode (mMc M_W_areShipsRight) 132 = .ok (.iload_n 3, 1) := by decide +kernel
theorem d_W_areShipsRight_133 : decode (mMc M_W_areShipsRight) 133 = .ok (.aload_n 0, 1) := by decide +kernel
theorem d_W_areShipsRight_134 : decode (mMc M_W_areShipsRight) 134 = .ok (.iload 6, 2) := by decide +kernel
theorem d_W_areShipsRight_136 : decode (mMc M_W_areShipsRight) 136 = .ok (.invokevirtual 115, 3) := by decide +kernel
theorem d_W_areShipsRight_139 : decode (mMc M_W_areShipsRight) 139 = .ok (.iadd, 1) := by decide +kernel
theorem d_W_areShipsRight_140 : decode (mMc M_W_areShipsRight) 140 = .ok (.istore_n 3, 1) := by decide +kernel
theorem d_W_areShipsRight_141 : decode (mMc M_W_areShipsRight) 141 = .ok (.iload 7, 2) := by decide +kernel
theorem d_W_areShipsRight_143 : decode (mMc M_W_areShipsRight) 143 = .ok (.sipush (-2005), 3) := by decide +kernel
theorem d_W_areShipsRight_146 : decode (mMc M_W_areShipsRight) 146 = .ok (.if_icmp .ne 8, 3) := by decide +kernel
theorem d_W_areShipsRight_149 : decode (mMc M_W_areShipsRight) 149 = .ok (.ldc 183, 2) := by decide +kernel
theorem d_W_areShipsRight_151 : decode (mMc M_W_areShipsRight) 151 = .ok (.goto 19, 3) := by decide +kernel
theorem d_W_areShipsRight_154 : decode (mMc M_W_areShipsRight) 154 = .ok (.aload_n 0, 1) := by decide +kernel
theorem d_W_areShipsRight_155 : decode (mMc M_W_areShipsRight) 155 = .ok (.iload 6, 2) := by decide +kernel
theorem d_W_areShipsRight_157 : decode (mMc M_W_areShipsRight) 157 = .ok (.invokevirtual 224, 3) := by decide +kernel
theorem d_W_areShipsRight_160 : decode (mMc M_W_areShipsRight) 160 = .ok (.ifCond .eq 8, 3) := by decide +kernel
theorem d_W_areShipsRight_163 : decode (mMc M_W_areShipsRight) 163 = .ok (.ldc 227, 2) := by decide +kernel
theorem d_W_areShipsRight_165 : decode (mMc M_W_areShipsRight) 165 = .ok (.goto 5, 3) := by decide +kernel
theorem d_W_areShipsRight_168 : decode (mMc M_W_areShipsRight) 168 = .ok (.ldc 229, 2) := by decide +kernel
theorem d_W_areShipsRight_170 : decode (mMc M_W_areShipsRight) 170 = .ok (.astore 8, 2) := by decide +kernel
theorem d_W_areShipsRight_172 : decode (mMc M_W_areShipsRight) 172 = .ok (.new 185, 3) := by decide +kernel
theorem d_W_areShipsRight_175 : decode (mMc M_W_areShipsRight) 175 = .ok (.dup, 1) := by decide +kernel
theorem d_W_areShipsRight_176 : decode (mMc M_W_areShipsRight) 176 = .ok (.invokespecial 187, 3) := by decide +kernel
theorem d_W_areShipsRight_179 : decode (mMc M_W_areShipsRight) 179 = .ok (.ldc 231, 2) := by decide +kernel
theorem d_W_areShipsRight_181 : decode (mMc M_W_areShipsRight) 181 = .ok (.invokevirtual 188, 3) := by decide +kernel
theorem d_W_areShipsRight_184 : decode (mMc M_W_areShipsRight) 184 = .ok (.iload 6, 2) := by decide +kernel
theorem d_W_areShipsRight_186 : decode (mMc M_W_areShipsRight) 186 = .ok (.invokevirtual 192, 3) := by decide +kernel
theorem d_W_areShipsRight_189 : decode (mMc M_W_areShipsRight) 189 = .ok (.ldc 233, 2) := by decide +kernel
theorem d_W_areShipsRight_191 : decode (mMc M_W_areShipsRight) 191 = .ok (.invokevirtual 188, 3) := by decide +kernel
theorem d_W_areShipsRight_194 : decode (mMc M_W_areShipsRight) 194 = .ok (.aload_n 0, 1) := by decide +kernel
theorem d_W_areShipsRight_195 : decode (mMc M_W_areShipsRight) 195 = .ok (.iload 6, 2) := by decide +kernel
theorem d_W_areShipsRight_197 : decode (mMc M_W_areShipsRight) 197 = .ok (.invokevirtual 142, 3) := by decide +kernel
theorem d_W_areShipsRight_200 : decode (mMc M_W_areShipsRight) 200 = .ok (.invokevirtual 192, 3) := by decide +kernel
theorem d_W_areShipsRight_203 : decode (mMc M_W_areShipsRight) 203 = .ok (.ldc 235, 2) := by decide +kernel
theorem d_W_areShipsRight_205 : decode (mMc M_W_areShipsRight) 205 = .ok (.invokevirtual 188, 3) := by decide +kernel
theorem d_W_areShipsRight_208 : decode (mMc M_W_areShipsRight) 208 = .ok (.aload_n 0, 1) := by decide +kernel
theorem d_W_areShipsRight_209 : decode (mMc M_W_areShipsRight) 209 = .ok (.iload 6, 2) := by decide +kernel
theorem d_W_areShipsRight_211 : decode (mMc M_W_areShipsRight) 211 = .ok (.invokevirtual 115, 3) := by decide +kernel
theorem d_W_areShipsRight_214 : decode (mMc M_W_areShipsRight) 214 = .ok (.invokevirtual 192, 3) := by decide +kernel
theorem d_W_areShipsRight_217 : decode (mMc M_W_areShipsRight) 217 = .ok (.aload_n 0, 1) := by decide +kernel
theorem d_W_areShipsRight_218 : decode (mMc M_W_areShipsRight) 218 = .ok (.iload 6, 2) := by decide +kernel
theorem d_W_areShipsRight_220 : decode (mMc M_W_areShipsRight) 220 = .ok (.invokevirtual 165, 3) := by decide +kernel
theorem d_W_areShipsRight_223 : decode (mMc M_W_areShipsRight) 223 = .ok (.ifCond .ne 8, 3) := by decide +kernel
theorem d_W_areShipsRight_226 : decode (mMc M_W_areShipsRight) 226 = .ok (.ldc 183, 2) := by decide +kernel
theorem d_W_areShipsRight_228 : decode (mMc M_W_areShipsRight) 228 = .ok (.goto 27, 3) := by decide +kernel
theorem d_W_areShipsRight_231 : decode (mMc M_W_areShipsRight) 231 = .ok (.new 185, 3) := by decide +kernel
theorem d_W_areShipsRight_234 : decode (mMc M_W_areShipsRight) 234 = .ok (.dup, 1) := by decide +kernel
theorem d_W_areShipsRight_235 : decode (mMc M_W_areShipsRight) 235 = .ok (.invokespecial 187, 3) := by decide +kernel
theorem d_W_areShipsRight_238 : decode (mMc M_W_areShipsRight) 238 = .ok (.ldc 237, 2) := by decide +kernel
theorem d_W_areShipsRight_240 : decode (mMc M_W_areShipsRight) 240 = .ok (.invokevirtual 188, 3) := by decide +kernel
theorem d_W_areShipsRight_243 : decode (mMc M_W_areShipsRight) 243 = .ok (.aload_n 0, 1) := by decide +kernel
theorem d_W_areShipsRight_244 : decode (mMc M_W_areShipsRight) 244 = .ok (.iload 6, 2) := by decide +kernel
theorem d_W_areShipsRight_246 : decode (mMc M_W_areShipsRight) 246 = .ok (.invokevirtual 165, 3) := by decide +kernel
theorem d_W_areShipsRight_249 : decode (mMc M_W_areShipsRight) 249 = .ok (.invokevirtual 192, 3) := by decide +kernel
theorem d_W_areShipsRight_252 : decode (mMc M_W_areShipsRight) 252 = .ok (.invokevirtual 195, 3) := by decide +kernel
theorem d_W_areShipsRight_255 : decode (mMc M_W_areShipsRight) 255 = .ok (.invokevirtual 188, 3) := by decide +kernel
theorem d_W_areShipsRight_258 : decode (mMc M_W_areShipsRight) 258 = .ok (.aload 8, 2) := by decide +kernel
theorem d_W_areShipsRight_260 : decode (mMc M_W_areShipsRight) 260 = .ok (.invokevirtual 188, 3) := by decide +kernel
theorem d_W_areShipsRight_263 : decode (mMc M_W_areShipsRight) 263 = .ok (.invokevirtual 195, 3) := by decide +kernel
theorem d_W_areShipsRight_266 : decode (mMc M_W_areShipsRight) 266 = .ok (.astore 9, 2) := by decide +kernel
theorem d_W_areShipsRight_268 : decode (mMc M_W_areShipsRight) 268 = .ok (.iload 4, 2) := by decide +kernel
theorem d_W_areShipsRight_270 : decode (mMc M_W_areShipsRight) 270 = .ok (.ifCond .eq 95, 3) := by decide +kernel
theorem d_W_areShipsRight_273 : decode (mMc M_W_areShipsRight) 273 = .ok (.aload_n 0, 1) := by decide +kernel
theorem d_W_areShipsRight_274 : decode (mMc M_W_areShipsRight) 274 = .ok (.iload 6, 2) := by decide +kernel
theorem d_W_areShipsRight_276 : decode (mMc M_W_areShipsRight) 276 = .ok (.invokevirtual 239, 3) := by decide +kernel
theorem d_W_areShipsRight_279 : decode (mMc M_W_areShipsRight) 279 = .ok (.iload 7, 2) := by decide +kernel
theorem d_W_areShipsRight_281 : decode (mMc M_W_areShipsRight) 281 = .ok (.ifCond .lt 7, 3) := by decide +kernel
theorem d_W_areShipsRight_284 : decode (mMc M_W_areShipsRight) 284 = .ok (.iconst 1, 1) := by decide +kernel
theorem d_W_areShipsRight_285 : decode (mMc M_W_areShipsRight) 285 = .ok (.goto 4, 3) := by decide +kernel
theorem d_W_areShipsRight_288 : decode (mMc M_W_areShipsRight) 288 = .ok (.iconst 0, 1) := by decide +kernel
theorem d_W_areShipsRight_289 : decode (mMc M_W_areShipsRight) 289 = .ok (.if_icmp .ne 76, 3) := by decide +kernel
theorem d_W_areShipsRight_292 : decode (mMc M_W_areShipsRight) 292 = .ok (.iload 7, 2) := by decide +kernel
theorem d_W_areShipsRight_294 : decode (mMc M_W_areShipsRight) 294 = .ok (.ifCond .ge 23, 3) := by decide +kernel
theorem d_W_areShipsRight_297 : decode (mMc M_W_areShipsRight) 297 = .ok (.iload 7, 2) := by decide +kernel
theorem d_W_areShipsRight_299 : decode (mMc M_W_areShipsRight) 299 = .ok (.sipush (-2005), 3) := by decide +kernel
theorem d_W_areShipsRight_302 : decode (mMc M_W_areShipsRight) 302 = .ok (.if_icmp .ne 63, 3) := by decide +kernel
theorem d_W_areShipsRight_305 : decode (mMc M_W_areShipsRight) 305 = .ok (.aload_n 0, 1) := by decide +kernel
theorem d_W_areShipsRight_306 : decode (mMc M_W_areShipsRight) 306 = .ok (.iload 6, 2) := by decide +kernel
theorem d_W_areShipsRight_308 : decode (mMc M_W_areShipsRight) 308 = .ok (.invokevirtual 224, 3) := by decide +kernel
theorem d_W_areShipsRight_311 : decode (mMc M_W_areShipsRight) 311 = .ok (.ifCond .eq 54, 3) := by decide +kernel
theorem d_W_areShipsRight_314 : decode (mMc M_W_areShipsRight) 314 = .ok (.goto 14, 3) := by decide +kernel
theorem d_W_areShipsRight_317 : decode (mMc M_W_areShipsRight) 317 = .ok (.aload_n 0, 1) := by decide +kernel
theorem d_W_areShipsRight_318 : decode (mMc M_W_areShipsRight) 318 = .ok (.iload 7, 2) := by decide +kernel
theorem d_W_areShipsRight_320 : decode (mMc M_W_areShipsRight) 320 = .ok (.invokevirtual 97, 3) := by decide +kernel
theorem d_W_areShipsRight_323 : decode (mMc M_W_areShipsRight) 323 = .ok (.iload 6, 2) := by decide +kernel
theorem d_W_areShipsRight_325 : decode (mMc M_W_areShipsRight) 325 = .ok (.if_icmp .ne 40, 3) := by decide +kernel
theorem d_W_areShipsRight_328 : decode (mMc M_W_areShipsRight) 328 = .ok (.iload 5, 2) := by decide +kernel
theorem d_W_areShipsRight_330 : decode (mMc M_W_areShipsRight) 330 = .ok (.ifCond .eq 16, 3) := by decide +kernel
theorem d_W_areShipsRight_333 : decode (mMc M_W_areShipsRight) 333 = .ok (.aload_n 0, 1) := by decide +kernel
theorem d_W_areShipsRight_334 : decode (mMc M_W_areShipsRight) 334 = .ok (.iload 5, 2) := by decide +kernel
theorem d_W_areShipsRight_336 : decode (mMc M_W_areShipsRight) 336 = .ok (.iconst 1, 1) := by decide +kernel
theorem d_W_areShipsRight_337 : decode (mMc M_W_areShipsRight) 337 = .ok (.isub, 1) := by decide +kernel
theorem d_W_areShipsRight_338 : decode (mMc M_W_areShipsRight) 338 = .ok (.invokevirtual 75, 3) := by decide +kernel
theorem d_W_areShipsRight_341 : decode (mMc M_W_areShipsRight) 341 = .ok (.iload 6, 2) := by decide +kernel
theorem d_W_areShipsRight_343 : decode (mMc M_W_areShipsRight) 343 = .ok (.if_icmp .ge 22, 3) := by decide +kernel
theorem d_W_areShipsRight_346 : decode (mMc M_W_areShipsRight) 346 = .ok (.aload_n 0, 1) := by decide +kernel
theorem d_W_areShipsRight_347 : decode (mMc M_W_areShipsRight) 347 = .ok (.aload_n 0, 1) := by decide +kernel
theorem d_W_areShipsRight_348 : decode (mMc M_W_areShipsRight) 348 = .ok (.iload 6, 2) := by decide +kernel
theorem d_W_areShipsRight_350 : decode (mMc M_W_areShipsRight) 350 = .ok (.invokevirtual 242, 3) := by decide +kernel
theorem d_W_areShipsRight_353 : decode (mMc M_W_areShipsRight) 353 = .ok (.aload 9, 2) := by decide +kernel
theorem d_W_areShipsRight_355 : decode (mMc M_W_areShipsRight) 355 = .ok (.invokestatic 220, 3) := by decide +kernel
theorem d_W_areShipsRight_358 : decode (mMc M_W_areShipsRight) 358 = .ok (.ifCond .eq 7, 3) := by decide +kernel
theorem d_W_areShipsRight_361 : decode (mMc M_W_areShipsRight) 361 = .ok (.iconst 1, 1) := by decide +kernel
theorem d_W_areShipsRight_362 : decode (mMc M_W_areShipsRight) 362 = .ok (.goto 4, 3) := by decide +kernel
theorem d_W_areShipsRight_365 : decode (mMc M_W_areShipsRight) 365 = .ok (.iconst 0, 1) := by decide +kernel
theorem d_W_areShipsRight_366 : decode (mMc M_W_areShipsRight) 366 = .ok (.istore 4, 2) := by decide +kernel
theorem d_W_areShipsRight_368 : decode (mMc M_W_areShipsRight) 368 = .ok (.iinc 5 1, 3) := by decide +kernel
theorem d_W_areShipsRight_371 : decode (mMc M_W_areShipsRight) 371 = .ok (.goto (-271), 3) := by decide +kernel
theorem d_W_areShipsRight_374 : decode (mMc M_W_areShipsRight) 374 = .ok (.iconst 0, 1) := by decide +kernel
theorem d_W_areShipsRight_375 : decode (mMc M_W_areShipsRight) 375 = .ok (.istore 5, 2) := by decide +kernel
theorem d_W_areShipsRight_377 : decode (mMc M_W_areShipsRight) 377 = .ok (.iload 5, 2) := by decide +kernel
theorem d_W_areShipsRight_379 : decode (mMc M_W_areShipsRight) 379 = .ok (.iconst 1, 1) := by decide +kernel
theorem d_W_areShipsRight_380 : decode (mMc M_W_areShipsRight) 380 = .ok (.iadd, 1) := by decide +kernel
theorem d_W_areShipsRight_381 : decode (mMc M_W_areShipsRight) 381 = .ok (.iload_n 1, 1) := by decide +kernel
theorem d_W_areShipsRight_382 : decode (mMc M_W_areShipsRight) 382 = .ok (.if_icmp .ge 96, 3) := by decide +kernel
theorem d_W_areShipsRight_385 : decode (mMc M_W_areShipsRight) 385 = .ok (.aload_n 0, 1) := by decide +kernel
theorem d_W_areShipsRight_386 : decode (mMc M_W_areShipsRight) 386 = .ok (.iload 5, 2) := by decide +kernel
theorem d_W_areShipsRight_388 : decode (mMc M_W_areShipsRight) 388 = .ok (.invokevirtual 106, 3) := by decide +kernel
theorem d_W_areShipsRight_391 : decode (mMc M_W_areShipsRight) 391 = .ok (.istore 6, 2) := by decide +kernel
theorem d_W_areShipsRight_393 : decode (mMc M_W_areShipsRight) 393 = .ok (.aload_n 0, 1) := by decide +kernel
theorem d_W_areShipsRight_394 : decode (mMc M_W_areShipsRight) 394 = .ok (.iload 5, 2) := by decide +kernel
theorem d_W_areShipsRight_396 : decode (mMc M_W_areShipsRight) 396 = .ok (.iconst 1, 1) := by decide +kernel
theorem d_W_areShipsRight_397 : decode (mMc M_W_areShipsRight) 397 = .ok (.iadd, 1) := by decide +kernel
theorem d_W_areShipsRight_398 : decode (mMc M_W_areShipsRight) 398 = .ok (.invokevirtual 106, 3) := by decide +kernel
theorem d_W_areShipsRight_401 : decode (mMc M_W_areShipsRight) 401 = .ok (.istore 7, 2) := by decide +kernel
theorem d_W_areShipsRight_403 : decode (mMc M_W_areShipsRight) 403 = .ok (.aload_n 0, 1) := by decide +kernel
theorem d_W_areShipsRight_404 : decode (mMc M_W_areShipsRight) 404 = .ok (.iload 6, 2) := by decide +kernel
theorem d_W_areShipsRight_406 : decode (mMc M_W_areShipsRight) 406 = .ok (.invokevirtual 142, 3) := by decide +kernel
theorem d_W_areShipsRight_409 : decode (mMc M_W_areShipsRight) 409 = .ok (.aload_n 0, 1) := by decide +kernel
theorem d_W_areShipsRight_410 : decode (mMc M_W_areShipsRight) 410 = .ok (.iload 7, 2) := by decide +kernel
theorem d_W_areShipsRight_412 : decode (mMc M_W_areShipsRight) 412 = .ok (.invokevirtual 142, 3) := by decide +kernel
theorem d_W_areShipsRight_415 : decode (mMc M_W_areShipsRight) 415 = .ok (.isub, 1) := by decide +kernel
theorem d_W_areShipsRight_416 : decode (mMc M_W_areShipsRight) 416 = .ok (.istore 8, 2) := by decide +kernel
theorem d_W_areShipsRight_418 : decode (mMc M_W_areShipsRight) 418 = .ok (.aload_n 0, 1) := by decide +kernel
theorem d_W_areShipsRight_419 : decode (mMc M_W_areShipsRight) 419 = .ok (.iload 6, 2) := by decide +kernel
theorem d_W_areShipsRight_421 : decode (mMc M_W_areShipsRight) 421 = .ok (.invokevirtual 115, 3) := by decide +kernel
theorem d_W_areShipsRight_424 : decode (mMc M_W_areShipsRight) 424 = .ok (.aload_n 0, 1) := by decide +kernel
theorem d_W_areShipsRight_425 : decode (mMc M_W_areShipsRight) 425 = .ok (.iload 7, 2) := by decide +kernel
theorem d_W_areShipsRight_427 : decode (mMc M_W_areShipsRight) 427 = .ok (.invokevirtual 115, 3) := by decide +kernel
theorem d_W_areShipsRight_430 : decode (mMc M_W_areShipsRight) 430 = .ok (.isub, 1) := by decide +kernel
theorem d_W_areShipsRight_431 : decode (mMc M_W_areShipsRight) 431 = .ok (.istore 9, 2) := by decide +kernel
theorem d_W_areShipsRight_433 : decode (mMc M_W_areShipsRight) 433 = .ok (.iload 4, 2) := by decide +kernel
theorem d_W_areShipsRight_435 : decode (mMc M_W_areShipsRight) 435 = .ok (.ifCond .eq 34, 3) := by decide +kernel
theorem d_W_areShipsRight_438 : decode (mMc M_W_areShipsRight) 438 = .ok (.iload 8, 2) := by decide +kernel
theorem d_W_areShipsRight_440 : decode (mMc M_W_areShipsRight) 440 = .ok (.ifCond .gt 25, 3) := by decide +kernel
theorem d_W_areShipsRight_443 : decode (mMc M_W_areShipsRight) 443 = .ok (.iload 8, 2) := by decide +kernel
theorem d_W_areShipsRight_445 : decode (mMc M_W_areShipsRight) 445 = .ok (.ifCond .ne 24, 3) := by decide +kernel
theorem d_W_areShipsRight_448 : decode (mMc M_W_areShipsRight) 448 = .ok (.iload 9, 2) := by decide +kernel
theorem d_W_areShipsRight_450 : decode (mMc M_W_areShipsRight) 450 = .ok (.ifCond .gt 15, 3) := by decide +kernel
theorem d_W_areShipsRight_453 : decode (mMc M_W_areShipsRight) 453 = .ok (.iload 9, 2) := by decide +kernel
theorem d_W_areShipsRight_455 : decode (mMc M_W_areShipsRight) 455 = .ok (.ifCond .ne 14, 3) := by decide +kernel
theorem d_W_areShipsRight_458 : decode (mMc M_W_areShipsRight) 458 = .ok (.iload 6, 2) := by decide +kernel
theorem d_W_areShipsRight_460 : decode (mMc M_W_areShipsRight) 460 = .ok (.iload 7, 2) := by decide +kernel
theorem d_W_areShipsRight_462 : decode (mMc M_W_areShipsRight) 462 = .ok (.if_icmp .ge 7, 3) := by decide +kernel
theorem d_W_areShipsRight_465 : decode (mMc M_W_areShipsRight) 465 = .ok (.iconst 1, 1) := by decide +kernel
theorem d_W_areShipsRight_466 : decode (mMc M_W_areShipsRight) 466 = .ok (.goto 4, 3) := by decide +kernel
theorem d_W_areShipsRight_469 : decode (mMc M_W_areShipsRight) 469 = .ok (.iconst 0, 1) := by decide +kernel
theorem d_W_areShipsRight_470 : decode (mMc M_W_areShipsRight) 470 = .ok (.istore 4, 2) := by decide +kernel
theorem d_W_areShipsRight_472 : decode (mMc M_W_areShipsRight) 472 = .ok (.iinc 5 1, 3) := by decide +kernel
theorem d_W_areShipsRight_475 : decode (mMc M_W_areShipsRight) 475 = .ok (.goto (-98), 3) := by decide +kernel
theorem d_W_areShipsRight_478 : decode (mMc M_W_areShipsRight) 478 = .ok (.iload 4, 2) := by decide +kernel
theorem d_W_areShipsRight_480 : decode (mMc M_W_areShipsRight) 480 = .ok (.ifCond .eq 47, 3) := by decide +kernel
theorem d_W_areShipsRight_483 : decode (mMc M_W_areShipsRight) 483 = .ok (.aload_n 0, 1) := by decide +kernel
theorem d_W_areShipsRight_484 : decode (mMc M_W_areShipsRight) 484 = .ok (.invokevirtual 245, 3) := by decide +kernel
theorem d_W_areShipsRight_487 : decode (mMc M_W_areShipsRight) 487 = .ok (.iload_n 2, 1) := by decide +kernel
theorem d_W_areShipsRight_488 : decode (mMc M_W_areShipsRight) 488 = .ok (.if_icmp .ne 39, 3) := by decide +kernel
theorem d_W_areShipsRight_491 : decode (mMc M_W_areShipsRight) 491 = .ok (.aload_n 0, 1) := by decide +kernel
theorem d_W_areShipsRight_492 : decode (mMc M_W_areShipsRight) 492 = .ok (.invokevirtual 156, 3) := by decide +kernel
theorem d_W_areShipsRight_495 : decode (mMc M_W_areShipsRight) 495 = .ok (.iload_n 2, 1) := by decide +kernel
theorem d_W_areShipsRight_496 : decode (mMc M_W_areShipsRight) 496 = .ok (.if_icmp .ne 31, 3) := by decide +kernel
theorem d_W_areShipsRight_499 : decode (mMc M_W_areShipsRight) 499 = .ok (.iload_n 1, 1) := by decide +kernel
theorem d_W_areShipsRight_500 : decode (mMc M_W_areShipsRight) 500 = .ok (.ifCond .eq 16, 3) := by decide +kernel
theorem d_W_areShipsRight_503 : decode (mMc M_W_areShipsRight) 503 = .ok (.aload_n 0, 1) := by decide +kernel
theorem d_W_areShipsRight_504 : decode (mMc M_W_areShipsRight) 504 = .ok (.invokevirtual 248, 3) := by decide +kernel
theorem d_W_areShipsRight_507 : decode (mMc M_W_areShipsRight) 507 = .ok (.iload_n 3, 1) := by decide +kernel
theorem d_W_areShipsRight_508 : decode (mMc M_W_areShipsRight) 508 = .ok (.i2d, 1) := by decide +kernel
theorem d_W_areShipsRight_509 : decode (mMc M_W_areShipsRight) 509 = .ok (.iload_n 1, 1) := by decide +kernel
theorem d_W_areShipsRight_510 : decode (mMc M_W_areShipsRight) 510 = .ok (.i2d, 1) := by decide +kernel
theorem d_W_areShipsRight_511 : decode (mMc M_W_areShipsRight) 511 = .ok (.ddiv, 1) := by decide +kernel
theorem d_W_areShipsRight_512 : decode (mMc M_W_areShipsRight) 512 = .ok (.dcmp .l, 1) := by decide +kernel
theorem d_W_areShipsRight_513 : decode (mMc M_W_areShipsRight) 513 = .ok (.ifCond .ne 14, 3) := by decide +kernel
theorem d_W_areShipsRight_516 : decode (mMc M_W_areShipsRight) 516 = .ok (.aload_n 0, 1) := by decide +kernel
theorem d_W_areShipsRight_517 : decode (mMc M_W_areShipsRight) 517 = .ok (.invokevirtual 252, 3) := by decide +kernel
theorem d_W_areShipsRight_520 : decode (mMc M_W_areShipsRight) 520 = .ok (.ifCond .eq 7, 3) := by decide +kernel
theorem d_W_areShipsRight_523 : decode (mMc M_W_areShipsRight) 523 = .ok (.iconst 1, 1) := by decide +kernel
theorem d_W_areShipsRight_524 : decode (mMc M_W_areShipsRight) 524 = .ok (.goto 4, 3) := by decide +kernel
theorem d_W_areShipsRight_527 : decode (mMc M_W_areShipsRight) 527 = .ok (.iconst 0, 1) := by decide +kernel
theorem d_W_areShipsRight_528 : decode (mMc M_W_areShipsRight) 528 = .ok (.ireturn, 1) := by decide +kernel
theorem k_W_areShipsRight : mCd M_W_areShipsRight 1 := ⟨by decide, by decide, by decide +kernel, by decide, mG (6, 158) (by decide +kernel), mG (1, 0) (by decide +kernel)⟩
def M_W_areFitsRight : mM := (⟨"FloatingDockLaw", "areFitsRight", "(LFloatingDock;)Z"⟩, method_17_code, 5, (some .boolean), [])
theorem d_W_areFitsRight_0 : decode (mMc M_W_areFitsRight) 0 = .ok (.bipush 61, 2) := by decide +kernel
theorem d_W_areFitsRight_2 : decode (mMc M_W_areFitsRight) 2 = .ok (.newarray .int, 2) := by decide +kernel
theorem d_W_areFitsRight_4 : decode (mMc M_W_areFitsRight) 4 = .ok (.astore_n 1, 1) := by decide +kernel
theorem d_W_areFitsRight_5 : decode (mMc M_W_areFitsRight) 5 = .ok (.iconst 0, 1) := by decide +kernel
theorem d_W_areFitsRight_6 : decode (mMc M_W_areFitsRight) 6 = .ok (.istore_n 2, 1) := by decide +kernel
theorem d_W_areFitsRight_7 : decode (mMc M_W_areFitsRight) 7 = .ok (.iconst 0, 1) := by decide +kernel
theorem d_W_areFitsRight_8 : decode (mMc M_W_areFitsRight) 8 = .ok (.istore_n 3, 1) := by decide +kernel
theorem d_W_areFitsRight_9 : decode (mMc M_W_areFitsRight) 9 = .ok (.iload_n 3, 1) := by decide +kernel
theorem d_W_areFitsRight_10 : decode (mMc M_W_areFitsRight) 10 = .ok (.bipush 60, 2) := by decide +kernel
theorem d_W_areFitsRight_12 : decode (mMc M_W_areFitsRight) 12 = .ok (.if_icmp .ge 81, 3) := by decide +kernel
theorem d_W_areFitsRight_15 : decode (mMc M_W_areFitsRight) 15 = .ok (.aload_n 0, 1) := by decide +kernel
theorem d_W_areFitsRight_16 : decode (mMc M_W_areFitsRight) 16 = .ok (.bipush 7, 2) := by decide +kernel
theorem d_W_areFitsRight_18 : decode (mMc M_W_areFitsRight) 18 = .ok (.iload_n 3, 1) := by decide +kernel
theorem d_W_areFitsRight_19 : decode (mMc M_W_areFitsRight) 19 = .ok (.invokestatic 162, 3) := by decide +kernel
theorem d_W_areFitsRight_22 : decode (mMc M_W_areFitsRight) 22 = .ok (.sipush (-2004), 3) := by decide +kernel
theorem d_W_areFitsRight_25 : decode (mMc M_W_areFitsRight) 25 = .ok (.if_icmp .ne 7, 3) := by decide +kernel
theorem d_W_areFitsRight_28 : decode (mMc M_W_areFitsRight) 28 = .ok (.iconst 1, 1) := by decide +kernel
theorem d_W_areFitsRight_29 : decode (mMc M_W_areFitsRight) 29 = .ok (.goto 4, 3) := by decide +kernel
theorem d_W_areFitsRight_32 : decode (mMc M_W_areFitsRight) 32 = .ok (.iconst 0, 1) := by decide +kernel
theorem d_W_areFitsRight_33 : decode (mMc M_W_areFitsRight) 33 = .ok (.istore 4, 2) := by decide +kernel
theorem d_W_areFitsRight_35 : decode (mMc M_W_areFitsRight) 35 = .ok (.iload_n 2, 1) := by decide +kernel
theorem d_W_areFitsRight_36 : decode (mMc M_W_areFitsRight) 36 = .ok (.iload 4, 2) := by decide +kernel
theorem d_W_areFitsRight_38 : decode (mMc M_W_areFitsRight) 38 = .ok (.ifCond .eq 26, 3) := by decide +kernel
theorem d_W_areFitsRight_41 : decode (mMc M_W_areFitsRight) 41 = .ok (.iload_n 3, 1) := by decide +kernel
theorem d_W_areFitsRight_42 : decode (mMc M_W_areFitsRight) 42 = .ok (.ifCond .eq 18, 3) := by decide +kernel
theorem d_W_areFitsRight_45 : decode (mMc M_W_areFitsRight) 45 = .ok (.aload_n 0, 1) := by decide +kernel
theorem d_W_areFitsRight_46 : decode (mMc M_W_areFitsRight) 46 = .ok (.bipush 7, 2) := by decide +kernel
theorem d_W_areFitsRight_48 : decode (mMc M_W_areFitsRight) 48 = .ok (.iload_n 3, 1) := by decide +kernel
theorem d_W_areFitsRight_49 : decode (mMc M_W_areFitsRight) 49 = .ok (.iconst 1, 1) := by decide +kernel
theorem d_W_areFitsRight_50 : decode (mMc M_W_areFitsRight) 50 = .ok (.isub, 1) := by decide +kernel
theorem d_W_areFitsRight_51 : decode (mMc M_W_areFitsRight) 51 = .ok (.invokestatic 162, 3) := by decide +kernel
theorem d_W_areFitsRight_54 : decode (mMc M_W_areFitsRight) 54 = .ok (.sipush (-2004), 3) := by decide +kernel
theorem d_W_areFitsRight_57 : decode (mMc M_W_areFitsRight) 57 = .ok (.if_icmp .eq 7, 3) := by decide +kernel
theorem d_W_areFitsRight_60 : decode (mMc M_W_areFitsRight) 60 = .ok (.iconst 1, 1) := by decide +kernel
theorem d_W_areFitsRight_61 : decode (mMc M_W_areFitsRight) 61 = .ok (.goto 4, 3) := by decide +kernel
theorem d_W_areFitsRight_64 : decode (mMc M_W_areFitsRight) 64 = .ok (.iconst 0, 1) := by decide +kernel
theorem d_W_areFitsRight_65 : decode (mMc M_W_areFitsRight) 65 = .ok (.invokestatic 36, 3) := by decide +kernel
theorem d_W_areFitsRight_68 : decode (mMc M_W_areFitsRight) 68 = .ok (.iadd, 1) := by decide +kernel
theorem d_W_areFitsRight_69 : decode (mMc M_W_areFitsRight) 69 = .ok (.istore_n 2, 1) := by decide +kernel
theorem d_W_areFitsRight_70 : decode (mMc M_W_areFitsRight) 70 = .ok (.aload_n 1, 1) := by decide +kernel
theorem d_W_areFitsRight_71 : decode (mMc M_W_areFitsRight) 71 = .ok (.iconst 0, 1) := by decide +kernel
theorem d_W_areFitsRight_72 : decode (mMc M_W_areFitsRight) 72 = .ok (.iload_n 2, 1) := by decide +kernel
theorem d_W_areFitsRight_73 : decode (mMc M_W_areFitsRight) 73 = .ok (.iconst 1, 1) := by decide +kernel
theorem d_W_areFitsRight_74 : decode (mMc M_W_areFitsRight) 74 = .ok (.isub, 1) := by decide +kernel
theorem d_W_areFitsRight_75 : decode (mMc M_W_areFitsRight) 75 = .ok (.invokestatic 145, 3) := by decide +kernel
theorem d_W_areFitsRight_78 : decode (mMc M_W_areFitsRight) 78 = .ok (.dup2, 1) := by decide +kernel
theorem d_W_areFitsRight_79 : decode (mMc M_W_areFitsRight) 79 = .ok (.iaload, 1) := by decide +kernel
theorem d_W_areFitsRight_80 : decode (mMc M_W_areFitsRight) 80 = .ok (.iload 4, 2) := by decide +kernel
theorem d_W_areFitsRight_82 : decode (mMc M_W_areFitsRight) 82 = .ok (.invokestatic 36, 3) := by decide +kernel
theorem d_W_areFitsRight_85 : decode (mMc M_W_areFitsRight) 85 = .ok (.iadd, 1) := by decide +kernel
theorem d_W_areFitsRight_86 : decode (mMc M_W_areFitsRight) 86 = .ok (.iastore, 1) := by decide +kernel
theorem d_W_areFitsRight_87 : decode (mMc M_W_areFitsRight) 87 = .ok (.iinc 3 1, 3) := by decide +kernel
theorem d_W_areFitsRight_90 : decode (mMc M_W_areFitsRight) 90 = .ok (.goto (-81), 3) := by decide +kernel
theorem d_W_areFitsRight_93 : decode (mMc M_W_areFitsRight) 93 = .ok (.aload_n 0, 1) := by decide +kernel
theorem d_W_areFitsRight_94 : decode (mMc M_W_areFitsRight) 94 = .ok (.invokevirtual 135, 3) := by decide +kernel
theorem d_W_areFitsRight_97 : decode (mMc M_W_areFitsRight) 97 = .ok (.newarray .int, 2) := by decide +kernel
theorem d_W_areFitsRight_99 : decode (mMc M_W_areFitsRight) 99 = .ok (.astore_n 3, 1) := by decide +kernel
theorem d_W_areFitsRight_100 : decode (mMc M_W_areFitsRight) 100 = .ok (.iconst 0, 1) := by decide +kernel
theorem d_W_areFitsRight_101 : decode (mMc M_W_areFitsRight) 101 = .ok (.istore 4, 2) := by decide +kernel
theorem d_W_areFitsRight_103 : decode (mMc M_W_areFitsRight) 103 = .ok (.iload 4, 2) := by decide +kernel
theorem d_W_areFitsRight_105 : decode (mMc M_W_areFitsRight) 105 = .ok (.aload_n 3, 1) := by decide +kernel
theorem d_W_areFitsRight_106 : decode (mMc M_W_areFitsRight) 106 = .ok (.arraylength, 1) := by decide +kernel
theorem d_W_areFitsRight_107 : decode (mMc M_W_areFitsRight) 107 = .ok (.if_icmp .ge 40, 3) := by decide +kernel
theorem d_W_areFitsRight_110 : decode (mMc M_W_areFitsRight) 110 = .ok (.aload_n 3, 1) := by decide +kernel
theorem d_W_areFitsRight_111 : decode (mMc M_W_areFitsRight) 111 = .ok (.iload 4, 2) := by decide +kernel
theorem d_W_areFitsRight_113 : decode (mMc M_W_areFitsRight) 113 = .ok (.aload_n 0, 1) := by decide +kernel
theorem d_W_areFitsRight_114 : decode (mMc M_W_areFitsRight) 114 = .ok (.aload_n 0, 1) := by decide +kernel
theorem d_W_areFitsRight_115 : decode (mMc M_W_areFitsRight) 115 = .ok (.iload 4, 2) := by decide +kernel
theorem d_W_areFitsRight_117 : decode (mMc M_W_areFitsRight) 117 = .ok (.invokevirtual 75, 3) := by decide +kernel
theorem d_W_areFitsRight_120 : decode (mMc M_W_areFitsRight) 120 = .ok (.invokevirtual 239, 3) := by decide +kernel
theorem d_W_areFitsRight_123 : decode (mMc M_W_areFitsRight) 123 = .ok (.ifCond .eq 7, 3) := by decide +kernel
theorem d_W_areFitsRight_126 : decode (mMc M_W_areFitsRight) 126 = .ok (.iconst 0, 1) := by decide +kernel
theorem d_W_areFitsRight_127 : decode (mMc M_W_areFitsRight) 127 = .ok (.goto 13, 3) := by decide +kernel
theorem d_W_areFitsRight_130 : decode (mMc M_W_areFitsRight) 130 = .ok (.aload_n 0, 1) := by decide +kernel
theorem d_W_areFitsRight_131 : decode (mMc M_W_areFitsRight) 131 = .ok (.aload_n 0, 1) := by decide +kernel
theorem d_W_areFitsRight_132 : decode (mMc M_W_areFitsRight) 132 = .ok (.iload 4, 2) := by decide +kernel
theorem d_W_areFitsRight_134 : decode (mMc M_W_areFitsRight) 134 = .ok (.invokevirtual 75, 3) := by decide +kernel
theorem d_W_areFitsRight_137 : decode (mMc M_W_areFitsRight) 137 = .ok (.invokestatic 259, 3) := by decide +kernel
theorem d_W_areFitsRight_140 : decode (mMc M_W_areFitsRight) 140 = .ok (.iastore, 1) := by decide +kernel
theorem d_W_areFitsRight_141 : decode (mMc M_W_areFitsRight) 141 = .ok (.iinc 4 1, 3) := by decide +kernel
theorem d_W_areFitsRight_144 : decode (mMc M_W_areFitsRight) 144 = .ok (.goto (-41), 3) := by decide +kernel
theorem d_W_areFitsRight_147 : decode (mMc M_W_areFitsRight) 147 = .ok (.aload_n 0, 1) := by decide +kernel
theorem d_W_areFitsRight_148 : decode (mMc M_W_areFitsRight) 148 = .ok (.invokevirtual 262, 3) := by decide +kernel
theorem d_W_areFitsRight_151 : decode (mMc M_W_areFitsRight) 151 = .ok (.aload_n 0, 1) := by decide +kernel
theorem d_W_areFitsRight_152 : decode (mMc M_W_areFitsRight) 152 = .ok (.aload_n 3, 1) := by decide +kernel
theorem d_W_areFitsRight_153 : decode (mMc M_W_areFitsRight) 153 = .ok (.iconst 0, 1) := by decide +kernel
theorem d_W_areFitsRight_154 : decode (mMc M_W_areFitsRight) 154 = .ok (.aload_n 1, 1) := by decide +kernel
theorem d_W_areFitsRight_155 : decode (mMc M_W_areFitsRight) 155 = .ok (.iload_n 2, 1) := by decide +kernel
theorem d_W_areFitsRight_156 : decode (mMc M_W_areFitsRight) 156 = .ok (.iconst 0, 1) := by decide +kernel
theorem d_W_areFitsRight_157 : decode (mMc M_W_areFitsRight) 157 = .ok (.invokestatic 255, 3) := by decide +kernel
theorem d_W_areFitsRight_160 : decode (mMc M_W_areFitsRight) 160 = .ok (.if_icmp .ne 34, 3) := by decide +kernel
theorem d_W_areFitsRight_163 : decode (mMc M_W_areFitsRight) 163 = .ok (.aload_n 0, 1) := by decide +kernel
theorem d_W_areFitsRight_164 : decode (mMc M_W_areFitsRight) 164 = .ok (.invokevirtual 265, 3) := by decide +kernel
theorem d_W_areFitsRight_167 : decode (mMc M_W_areFitsRight) 167 = .ok (.aload_n 0, 1) := by decide +kernel
theorem d_W_areFitsRight_168 : decode (mMc M_W_areFitsRight) 168 = .ok (.invokevirtual 262, 3) := by decide +kernel
theorem d_W_areFitsRight_171 : decode (mMc M_W_areFitsRight) 171 = .ok (.if_icmp .ne 23, 3) := by decide +kernel
theorem d_W_areFitsRight_174 : decode (mMc M_W_areFitsRight) 174 = .ok (.aload_n 0, 1) := by decide +kernel
theorem d_W_areFitsRight_175 : decode (mMc M_W_areFitsRight) 175 = .ok (.invokevirtual 268, 3) := by decide +kernel
theorem d_W_areFitsRight_178 : decode (mMc M_W_areFitsRight) 178 = .ok (.aload_n 0, 1) := by decide +kernel
theorem d_W_areFitsRight_179 : decode (mMc M_W_areFitsRight) 179 = .ok (.aload_n 3, 1) := by decide +kernel
theorem d_W_areFitsRight_180 : decode (mMc M_W_areFitsRight) 180 = .ok (.iconst 0, 1) := by decide +kernel
theorem d_W_areFitsRight_181 : decode (mMc M_W_areFitsRight) 181 = .ok (.aload_n 1, 1) := by decide +kernel
theorem d_W_areFitsRight_182 : decode (mMc M_W_areFitsRight) 182 = .ok (.iload_n 2, 1) := by decide +kernel
theorem d_W_areFitsRight_183 : decode (mMc M_W_areFitsRight) 183 = .ok (.iconst 1, 1) := by decide +kernel
theorem d_W_areFitsRight_184 : decode (mMc M_W_areFitsRight) 184 = .ok (.invokestatic 255, 3) := by decide +kernel
theorem d_W_areFitsRight_187 : decode (mMc M_W_areFitsRight) 187 = .ok (.if_icmp .ne 7, 3) := by decide +kernel
theorem d_W_areFitsRight_190 : decode (mMc M_W_areFitsRight) 190 = .ok (.iconst 1, 1) := by decide +kernel
theorem d_W_areFitsRight_191 : decode (mMc M_W_areFitsRight) 191 = .ok (.goto 4, 3) := by decide +kernel
theorem d_W_areFitsRight_194 : decode (mMc M_W_areFitsRight) 194 = .ok (.iconst 0, 1) := by decide +kernel
theorem d_W_areFitsRight_195 : decode (mMc M_W_areFitsRight) 195 = .ok (.ireturn, 1) := by decide +kernel
theorem k_W_areFitsRight : mCd M_W_areFitsRight 1 := ⟨by decide, by decide, by decide +kernel, by decide, mG (7, 63) (by decide +kernel), mG (1, 0) (by decide +kernel)⟩
def M_W_lengthOfWaiting : mM := (⟨"FloatingDockLaw", "lengthOfWaiting", "(LFloatingDock;I)I"⟩, method_18_code, 7, (some .int), [])
theorem d_W_lengthOfWaiting_0 : decode (mMc M_W_lengthOfWaiting) 0 = .ok (.aload_n 0, 1) := by decide +kernel
theorem d_W_lengthOfWaiting_1 : decode (mMc M_W_lengthOfWaiting) 1 = .ok (.invokevirtual 271, 3) := by decide +kernel
theorem d_W_lengthOfWaiting_4 : decode (mMc M_W_lengthOfWaiting) 4 = .ok (.istore_n 2, 1) := by decide +kernel
theorem d_W_lengthOfWaiting_5 : decode (mMc M_W_lengthOfWaiting) 5 = .ok (.aload_n 0, 1) := by decide +kernel
theorem d_W_lengthOfWaiting_6 : decode (mMc M_W_lengthOfWaiting) 6 = .ok (.invokevirtual 135, 3) := by decide +kernel
theorem d_W_lengthOfWaiting_9 : decode (mMc M_W_lengthOfWaiting) 9 = .ok (.iconst 1, 1) := by decide +kernel
theorem d_W_lengthOfWaiting_10 : decode (mMc M_W_lengthOfWaiting) 10 = .ok (.isub, 1) := by decide +kernel
theorem d_W_lengthOfWaiting_11 : decode (mMc M_W_lengthOfWaiting) 11 = .ok (.istore_n 3, 1) := by decide +kernel
theorem d_W_lengthOfWaiting_12 : decode (mMc M_W_lengthOfWaiting) 12 = .ok (.iload_n 3, 1) := by decide +kernel
theorem d_W_lengthOfWaiting_13 : decode (mMc M_W_lengthOfWaiting) 13 = .ok (.ifCond .lt 90, 3) := by decide +kernel
theorem d_W_lengthOfWaiting_16 : decode (mMc M_W_lengthOfWaiting) 16 = .ok (.aload_n 0, 1) := by decide +kernel
theorem d_W_lengthOfWaiting_17 : decode (mMc M_W_lengthOfWaiting) 17 = .ok (.iload_n 3, 1) := by decide +kernel
theorem d_W_lengthOfWaiting_18 : decode (mMc M_W_lengthOfWaiting) 18 = .ok (.invokevirtual 75, 3) := by decide +kernel
theorem d_W_lengthOfWaiting_21 : decode (mMc M_W_lengthOfWaiting) 21 = .ok (.istore 4, 2) := by decide +kernel
theorem d_W_lengthOfWaiting_23 : decode (mMc M_W_lengthOfWaiting) 23 = .ok (.aload_n 0, 1) := by decide +kernel
theorem d_W_lengthOfWaiting_24 : decode (mMc M_W_lengthOfWaiting) 24 = .ok (.iload 4, 2) := by decide +kernel
theorem d_W_lengthOfWaiting_26 : decode (mMc M_W_lengthOfWaiting) 26 = .ok (.invokevirtual 142, 3) := by decide +kernel
theorem d_W_lengthOfWaiting_29 : decode (mMc M_W_lengthOfWaiting) 29 = .ok (.istore 5, 2) := by decide +kernel
theorem d_W_lengthOfWaiting_31 : decode (mMc M_W_lengthOfWaiting) 31 = .ok (.iload 4, 2) := by decide +kernel
theorem d_W_lengthOfWaiting_33 : decode (mMc M_W_lengthOfWaiting) 33 = .ok (.iload_n 1, 1) := by decide +kernel
theorem d_W_lengthOfWaiting_34 : decode (mMc M_W_lengthOfWaiting) 34 = .ok (.if_icmp .eq 36, 3) := by decide +kernel
theorem d_W_lengthOfWaiting_37 : decode (mMc M_W_lengthOfWaiting) 37 = .ok (.aload_n 0, 1) := by decide +kernel
theorem d_W_lengthOfWaiting_38 : decode (mMc M_W_lengthOfWaiting) 38 = .ok (.iload 4, 2) := by decide +kernel
theorem d_W_lengthOfWaiting_40 : decode (mMc M_W_lengthOfWaiting) 40 = .ok (.invokevirtual 239, 3) := by decide +kernel
theorem d_W_lengthOfWaiting_43 : decode (mMc M_W_lengthOfWaiting) 43 = .ok (.ifCond .ne 27, 3) := by decide +kernel
theorem d_W_lengthOfWaiting_46 : decode (mMc M_W_lengthOfWaiting) 46 = .ok (.iload 5, 2) := by decide +kernel
theorem d_W_lengthOfWaiting_48 : decode (mMc M_W_lengthOfWaiting) 48 = .ok (.ifCond .le 22, 3) := by decide +kernel
theorem d_W_lengthOfWaiting_51 : decode (mMc M_W_lengthOfWaiting) 51 = .ok (.aload_n 0, 1) := by decide +kernel
theorem d_W_lengthOfWaiting_52 : decode (mMc M_W_lengthOfWaiting) 52 = .ok (.iload 4, 2) := by decide +kernel
theorem d_W_lengthOfWaiting_54 : decode (mMc M_W_lengthOfWaiting) 54 = .ok (.sipush 999, 3) := by decide +kernel
theorem d_W_lengthOfWaiting_57 : decode (mMc M_W_lengthOfWaiting) 57 = .ok (.iload 5, 2) := by decide +kernel
theorem d_W_lengthOfWaiting_59 : decode (mMc M_W_lengthOfWaiting) 59 = .ok (.invokestatic 274, 3) := by decide +kernel
theorem d_W_lengthOfWaiting_62 : decode (mMc M_W_lengthOfWaiting) 62 = .ok (.invokevirtual 56, 3) := by decide +kernel
theorem d_W_lengthOfWaiting_65 : decode (mMc M_W_lengthOfWaiting) 65 = .ok (.istore 5, 2) := by decide +kernel
theorem d_W_lengthOfWaiting_67 : decode (mMc M_W_lengthOfWaiting) 67 = .ok (.goto (-36), 3) := by decide +kernel
theorem d_W_lengthOfWaiting_70 : decode (mMc M_W_lengthOfWaiting) 70 = .ok (.iload 4, 2) := by decide +kernel
theorem d_W_lengthOfWaiting_72 : decode (mMc M_W_lengthOfWaiting) 72 = .ok (.iload_n 1, 1) := by decide +kernel
theorem d_W_lengthOfWaiting_73 : decode (mMc M_W_lengthOfWaiting) 73 = .ok (.if_icmp .eq 12, 3) := by decide +kernel
theorem d_W_lengthOfWaiting_76 : decode (mMc M_W_lengthOfWaiting) 76 = .ok (.aload_n 0, 1) := by decide +kernel
theorem d_W_lengthOfWaiting_77 : decode (mMc M_W_lengthOfWaiting) 77 = .ok (.iload 4, 2) := by decide +kernel
theorem d_W_lengthOfWaiting_79 : decode (mMc M_W_lengthOfWaiting) 79 = .ok (.invokevirtual 239, 3) := by decide +kernel
theorem d_W_lengthOfWaiting_82 : decode (mMc M_W_lengthOfWaiting) 82 = .ok (.ifCond .eq 7, 3) := by decide +kernel
theorem d_W_lengthOfWaiting_85 : decode (mMc M_W_lengthOfWaiting) 85 = .ok (.iconst 0, 1) := by decide +kernel
theorem d_W_lengthOfWaiting_86 : decode (mMc M_W_lengthOfWaiting) 86 = .ok (.goto 9, 3) := by decide +kernel
theorem d_W_lengthOfWaiting_89 : decode (mMc M_W_lengthOfWaiting) 89 = .ok (.aload_n 0, 1) := by decide +kernel
theorem d_W_lengthOfWaiting_90 : decode (mMc M_W_lengthOfWaiting) 90 = .ok (.iload 4, 2) := by decide +kernel
theorem d_W_lengthOfWaiting_92 : decode (mMc M_W_lengthOfWaiting) 92 = .ok (.invokevirtual 21, 3) := by decide +kernel
theorem d_W_lengthOfWaiting_95 : decode (mMc M_W_lengthOfWaiting) 95 = .ok (.istore 6, 2) := by decide +kernel
theorem d_W_lengthOfWaiting_97 : decode (mMc M_W_lengthOfWaiting) 97 = .ok (.iinc 3 (-1), 3) := by decide +kernel
theorem d_W_lengthOfWaiting_100 : decode (mMc M_W_lengthOfWaiting) 100 = .ok (.goto (-88), 3) := by decide +kernel
theorem d_W_lengthOfWaiting_103 : decode (mMc M_W_lengthOfWaiting) 103 = .ok (.aload_n 0, 1) := by decide +kernel
theorem d_W_lengthOfWaiting_104 : decode (mMc M_W_lengthOfWaiting) 104 = .ok (.invokevirtual 268, 3) := by decide +kernel
theorem d_W_lengthOfWaiting_107 : decode (mMc M_W_lengthOfWaiting) 107 = .ok (.istore_n 3, 1) := by decide +kernel
theorem d_W_lengthOfWaiting_108 : decode (mMc M_W_lengthOfWaiting) 108 = .ok (.aload_n 0, 1) := by decide +kernel
theorem d_W_lengthOfWaiting_109 : decode (mMc M_W_lengthOfWaiting) 109 = .ok (.invokevirtual 277, 3) := by decide +kernel
theorem d_W_lengthOfWaiting_112 : decode (mMc M_W_lengthOfWaiting) 112 = .ok (.istore_n 2, 1) := by decide +kernel
theorem d_W_lengthOfWaiting_113 : decode (mMc M_W_lengthOfWaiting) 113 = .ok (.iload_n 3, 1) := by decide +kernel
theorem d_W_lengthOfWaiting_114 : decode (mMc M_W_lengthOfWaiting) 114 = .ok (.ireturn, 1) := by decide +kernel
theorem k_W_lengthOfWaiting : mCd M_W_lengthOfWaiting 2 := ⟨by decide, by decide, by decide +kernel, by decide, mG (7, 66) (by decide +kernel), mG (1, 0) (by decide +kernel)⟩
def M_W_most : mM := (⟨"FloatingDockLaw", "most", "(LFloatingDock;[II[IIZ)I"⟩, method_16_code, 8, (some .int), [])
theorem d_W_most_0 : decode (mMc M_W_most) 0 = .ok (.iload_n 2, 1) := by decide +kernel
theorem d_W_most_1 : decode (mMc M_W_most) 1 = .ok (.aload_n 1, 1) := by decide +kernel
theorem d_W_most_2 : decode (mMc M_W_most) 2 = .ok (.arraylength, 1) := by decide +kernel
theorem d_W_most_3 : decode (mMc M_W_most) 3 = .ok (.if_icmp .ne 5, 3) := by decide +kernel
theorem d_W_most_6 : decode (mMc M_W_most) 6 = .ok (.iconst 0, 1) := by decide +kernel
theorem d_W_most_7 : decode (mMc M_W_most) 7 = .ok (.ireturn, 1) := by decide +kernel
theorem d_W_most_8 : decode (mMc M_W_most) 8 = .ok (.aload_n 0, 1) := by decide +kernel
theorem d_W_most_9 : decode (mMc M_W_most) 9 = .ok (.aload_n 1, 1) := by decide +kernel
theorem d_W_most_10 : decode (mMc M_W_most) 10 = .ok (.iload_n 2, 1) := by decide +kernel
theorem d_W_most_11 : decode (mMc M_W_most) 11 = .ok (.iconst 1, 1) := by decide +kernel
theorem d_W_most_12 : decode (mMc M_W_most) 12 = .ok (.iadd, 1) := by decide +kernel
theorem d_W_most_13 : decode (mMc M_W_most) 13 = .ok (.aload_n 3, 1) := by decide +kernel
theorem d_W_most_14 : decode (mMc M_W_most) 14 = .ok (.iload 4, 2) := by decide +kernel
theorem d_W_most_16 : decode (mMc M_W_most) 16 = .ok (.iload 5, 2) := by decide +kernel
theorem d_W_most_18 : decode (mMc M_W_most) 18 = .ok (.invokestatic 255, 3) := by decide +kernel
theorem d_W_most_21 : decode (mMc M_W_most) 21 = .ok (.istore 6, 2) := by decide +kernel
theorem d_W_most_23 : decode (mMc M_W_most) 23 = .ok (.iconst 0, 1) := by decide +kernel
theorem d_W_most_24 : decode (mMc M_W_most) 24 = .ok (.istore 7, 2) := by decide +kernel
theorem d_W_most_26 : decode (mMc M_W_most) 26 = .ok (.iload 7, 2) := by decide +kernel
theorem d_W_most_28 : decode (mMc M_W_most) 28 = .ok (.iload 4, 2) := by decide +kernel
theorem d_W_most_30 : decode (mMc M_W_most) 30 = .ok (.if_icmp .ge 78, 3) := by decide +kernel
theorem d_W_most_33 : decode (mMc M_W_most) 33 = .ok (.aload_n 1, 1) := by decide +kernel
theorem d_W_most_34 : decode (mMc M_W_most) 34 = .ok (.iload_n 2, 1) := by decide +kernel
theorem d_W_most_35 : decode (mMc M_W_most) 35 = .ok (.iaload, 1) := by decide +kernel
theorem d_W_most_36 : decode (mMc M_W_most) 36 = .ok (.ifCond .le 66, 3) := by decide +kernel
theorem d_W_most_39 : decode (mMc M_W_most) 39 = .ok (.aload_n 3, 1) := by decide +kernel
theorem d_W_most_40 : decode (mMc M_W_most) 40 = .ok (.iload 7, 2) := by decide +kernel
theorem d_W_most_42 : decode (mMc M_W_most) 42 = .ok (.iaload, 1) := by decide +kernel
theorem d_W_most_43 : decode (mMc M_W_most) 43 = .ok (.aload_n 1, 1) := by decide +kernel
theorem d_W_most_44 : decode (mMc M_W_most) 44 = .ok (.iload_n 2, 1) := by decide +kernel
theorem d_W_most_45 : decode (mMc M_W_most) 45 = .ok (.iaload, 1) := by decide +kernel
theorem d_W_most_46 : decode (mMc M_W_most) 46 = .ok (.if_icmp .lt 56, 3) := by decide +kernel
theorem d_W_most_49 : decode (mMc M_W_most) 49 = .ok (.aload_n 3, 1) := by decide +kernel
theorem d_W_most_50 : decode (mMc M_W_most) 50 = .ok (.iload 7, 2) := by decide +kernel
theorem d_W_most_52 : decode (mMc M_W_most) 52 = .ok (.dup2, 1) := by decide +kernel
theorem d_W_most_53 : decode (mMc M_W_most) 53 = .ok (.iaload, 1) := by decide +kernel
theorem d_W_most_54 : decode (mMc M_W_most) 54 = .ok (.aload_n 1, 1) := by decide +kernel
theorem d_W_most_55 : decode (mMc M_W_most) 55 = .ok (.iload_n 2, 1) := by decide +kernel
theorem d_W_most_56 : decode (mMc M_W_most) 56 = .ok (.iaload, 1) := by decide +kernel
theorem d_W_most_57 : decode (mMc M_W_most) 57 = .ok (.isub, 1) := by decide +kernel
theorem d_W_most_58 : decode (mMc M_W_most) 58 = .ok (.iastore, 1) := by decide +kernel
theorem d_W_most_59 : decode (mMc M_W_most) 59 = .ok (.iload 6, 2) := by decide +kernel
theorem d_W_most_61 : decode (mMc M_W_most) 61 = .ok (.iload 5, 2) := by decide +kernel
theorem d_W_most_63 : decode (mMc M_W_most) 63 = .ok (.ifCond .eq 9, 3) := by decide +kernel
theorem d_W_most_66 : decode (mMc M_W_most) 66 = .ok (.aload_n 1, 1) := by decide +kernel
theorem d_W_most_67 : decode (mMc M_W_most) 67 = .ok (.iload_n 2, 1) := by decide +kernel
theorem d_W_most_68 : decode (mMc M_W_most) 68 = .ok (.iaload, 1) := by decide +kernel
theorem d_W_most_69 : decode (mMc M_W_most) 69 = .ok (.goto 4, 3) := by decide +kernel
theorem d_W_most_72 : decode (mMc M_W_most) 72 = .ok (.iconst 1, 1) := by decide +kernel
theorem d_W_most_73 : decode (mMc M_W_most) 73 = .ok (.aload_n 0, 1) := by decide +kernel
theorem d_W_most_74 : decode (mMc M_W_most) 74 = .ok (.aload_n 1, 1) := by decide +kernel
theorem d_W_most_75 : decode (mMc M_W_most) 75 = .ok (.iload_n 2, 1) := by decide +kernel
theorem d_W_most_76 : decode (mMc M_W_most) 76 = .ok (.iconst 1, 1) := by decide +kernel
theorem d_W_most_77 : decode (mMc M_W_most) 77 = .ok (.iadd, 1) := by decide +kernel
theorem d_W_most_78 : decode (mMc M_W_most) 78 = .ok (.aload_n 3, 1) := by decide +kernel
theorem d_W_most_79 : decode (mMc M_W_most) 79 = .ok (.iload 4, 2) := by decide +kernel
theorem d_W_most_81 : decode (mMc M_W_most) 81 = .ok (.iload 5, 2) := by decide +kernel
theorem d_W_most_83 : decode (mMc M_W_most) 83 = .ok (.invokestatic 255, 3) := by decide +kernel
theorem d_W_most_86 : decode (mMc M_W_most) 86 = .ok (.iadd, 1) := by decide +kernel
theorem d_W_most_87 : decode (mMc M_W_most) 87 = .ok (.invokestatic 145, 3) := by decide +kernel
theorem d_W_most_90 : decode (mMc M_W_most) 90 = .ok (.istore 6, 2) := by decide +kernel
theorem d_W_most_92 : decode (mMc M_W_most) 92 = .ok (.aload_n 3, 1) := by decide +kernel
theorem d_W_most_93 : decode (mMc M_W_most) 93 = .ok (.iload 7, 2) := by decide +kernel
theorem d_W_most_95 : decode (mMc M_W_most) 95 = .ok (.dup2, 1) := by decide +kernel
theorem d_W_most_96 : decode (mMc M_W_most) 96 = .ok (.iaload, 1) := by decide +kernel
theorem d_W_most_97 : decode (mMc M_W_most) 97 = .ok (.aload_n 1, 1) := by decide +kernel
theorem d_W_most_98 : decode (mMc M_W_most) 98 = .ok (.iload_n 2, 1) := by decide +kernel
theorem d_W_most_99 : decode (mMc M_W_most) 99 = .ok (.iaload, 1) := by decide +kernel
theorem d_W_most_100 : decode (mMc M_W_most) 100 = .ok (.iadd, 1) := by decide +kernel
theorem d_W_most_101 : decode (mMc M_W_most) 101 = .ok (.iastore, 1) := by decide +kernel
theorem d_W_most_102 : decode (mMc M_W_most) 102 = .ok (.iinc 7 1, 3) := by decide +kernel
theorem d_W_most_105 : decode (mMc M_W_most) 105 = .ok (.goto (-79), 3) := by decide +kernel
theorem d_W_most_108 : decode (mMc M_W_most) 108 = .ok (.iload 6, 2) := by decide +kernel
theorem d_W_most_110 : decode (mMc M_W_most) 110 = .ok (.ireturn, 1) := by decide +kernel
theorem k_W_most : mCd M_W_most 6 := ⟨by decide, by decide, by decide +kernel, by decide, mG (7, 95) (by decide +kernel), mG (1, 0) (by decide +kernel)⟩
def M_W_isSeaRight : mM := (⟨"FloatingDockLaw", "isSeaRight", "(LFloatingDock;I)Z"⟩, method_19_code, 5, (some .boolean), [])
theorem d_W_isSeaRight_0 : decode (mMc M_W_isSeaRight) 0 = .ok (.bipush 40, 2) := by decide +kernel
theorem d_W_isSeaRight_2 : decode (mMc M_W_isSeaRight) 2 = .ok (.istore_n 2, 1) := by decide +kernel
theorem d_W_isSeaRight_3 : decode (mMc M_W_isSeaRight) 3 = .ok (.aload_n 0, 1) := by decide +kernel
theorem d_W_isSeaRight_4 : decode (mMc M_W_isSeaRight) 4 = .ok (.iconst 3, 1) := by decide +kernel
theorem d_W_isSeaRight_5 : decode (mMc M_W_isSeaRight) 5 = .ok (.iconst (-1), 1) := by decide +kernel
theorem d_W_isSeaRight_6 : decode (mMc M_W_isSeaRight) 6 = .ok (.invokestatic 162, 3) := by decide +kernel
theorem d_W_isSeaRight_9 : decode (mMc M_W_isSeaRight) 9 = .ok (.sipush (-2003), 3) := by decide +kernel
theorem d_W_isSeaRight_12 : decode (mMc M_W_isSeaRight) 12 = .ok (.if_icmp .ne 46, 3) := by decide +kernel
theorem d_W_isSeaRight_15 : decode (mMc M_W_isSeaRight) 15 = .ok (.aload_n 0, 1) := by decide +kernel
theorem d_W_isSeaRight_16 : decode (mMc M_W_isSeaRight) 16 = .ok (.iconst 3, 1) := by decide +kernel
theorem d_W_isSeaRight_17 : decode (mMc M_W_isSeaRight) 17 = .ok (.sipush 10000, 3) := by decide +kernel
theorem d_W_isSeaRight_20 : decode (mMc M_W_isSeaRight) 20 = .ok (.invokestatic 162, 3) := by decide +kernel
theorem d_W_isSeaRight_23 : decode (mMc M_W_isSeaRight) 23 = .ok (.sipush (-2003), 3) := by decide +kernel
theorem d_W_isSeaRight_26 : decode (mMc M_W_isSeaRight) 26 = .ok (.if_icmp .ne 32, 3) := by decide +kernel
theorem d_W_isSeaRight_29 : decode (mMc M_W_isSeaRight) 29 = .ok (.aload_n 0, 1) := by decide +kernel
theorem d_W_isSeaRight_30 : decode (mMc M_W_isSeaRight) 30 = .ok (.iconst 4, 1) := by decide +kernel
theorem d_W_isSeaRight_31 : decode (mMc M_W_isSeaRight) 31 = .ok (.bipush 97, 2) := by decide +kernel
theorem d_W_isSeaRight_33 : decode (mMc M_W_isSeaRight) 33 = .ok (.invokestatic 162, 3) := by decide +kernel
theorem d_W_isSeaRight_36 : decode (mMc M_W_isSeaRight) 36 = .ok (.sipush (-2003), 3) := by decide +kernel
theorem d_W_isSeaRight_39 : decode (mMc M_W_isSeaRight) 39 = .ok (.if_icmp .ne 19, 3) := by decide +kernel
theorem d_W_isSeaRight_42 : decode (mMc M_W_isSeaRight) 42 = .ok (.aload_n 0, 1) := by decide +kernel
theorem d_W_isSeaRight_43 : decode (mMc M_W_isSeaRight) 43 = .ok (.iconst 4, 1) := by decide +kernel
theorem d_W_isSeaRight_44 : decode (mMc M_W_isSeaRight) 44 = .ok (.iconst (-1), 1) := by decide +kernel
theorem d_W_isSeaRight_45 : decode (mMc M_W_isSeaRight) 45 = .ok (.invokestatic 162, 3) := by decide +kernel
theorem d_W_isSeaRight_48 : decode (mMc M_W_isSeaRight) 48 = .ok (.sipush (-2003), 3) := by decide +kernel
theorem d_W_isSeaRight_51 : decode (mMc M_W_isSeaRight) 51 = .ok (.if_icmp .ne 7, 3) := by decide +kernel
theorem d_W_isSeaRight_54 : decode (mMc M_W_isSeaRight) 54 = .ok (.iconst 1, 1) := by decide +kernel
theorem d_W_isSeaRight_55 : decode (mMc M_W_isSeaRight) 55 = .ok (.goto 4, 3) := by decide +kernel
theorem d_W_isSeaRight_58 : decode (mMc M_W_isSeaRight) 58 = .ok (.iconst 0, 1) := by decide +kernel
theorem d_W_isSeaRight_59 : decode (mMc M_W_isSeaRight) 59 = .ok (.istore_n 3, 1) := by decide +kernel
theorem d_W_isSeaRight_60 : decode (mMc M_W_isSeaRight) 60 = .ok (.iconst 1, 1) := by decide +kernel
theorem d_W_isSeaRight_61 : decode (mMc M_W_isSeaRight) 61 = .ok (.istore 4, 2) := by decide +kernel
theorem d_W_isSeaRight_63 : decode (mMc M_W_isSeaRight) 63 = .ok (.iload 4, 2) := by decide +kernel
theorem d_W_isSeaRight_65 : decode (mMc M_W_isSeaRight) 65 = .ok (.iload_n 1, 1) := by decide +kernel
theorem d_W_isSeaRight_66 : decode (mMc M_W_isSeaRight) 66 = .ok (.bipush 12, 2) := by decide +kernel
theorem d_W_isSeaRight_68 : decode (mMc M_W_isSeaRight) 68 = .ok (.irem, 1) := by decide +kernel
theorem d_W_isSeaRight_69 : decode (mMc M_W_isSeaRight) 69 = .ok (.if_icmp .gt 26, 3) := by decide +kernel
theorem d_W_isSeaRight_72 : decode (mMc M_W_isSeaRight) 72 = .ok (.iload_n 2, 1) := by decide +kernel
theorem d_W_isSeaRight_73 : decode (mMc M_W_isSeaRight) 73 = .ok (.iload 4, 2) := by decide +kernel
theorem d_W_isSeaRight_75 : decode (mMc M_W_isSeaRight) 75 = .ok (.bipush 7, 2) := by decide +kernel
theorem d_W_isSeaRight_77 : decode (mMc M_W_isSeaRight) 77 = .ok (.if_icmp .ge 8, 3) := by decide +kernel
theorem d_W_isSeaRight_80 : decode (mMc M_W_isSeaRight) 80 = .ok (.bipush 20, 2) := by decide +kernel
theorem d_W_isSeaRight_82 : decode (mMc M_W_isSeaRight) 82 = .ok (.goto 5, 3) := by decide +kernel
theorem d_W_isSeaRight_85 : decode (mMc M_W_isSeaRight) 85 = .ok (.bipush (-20), 2) := by decide +kernel
theorem d_W_isSeaRight_87 : decode (mMc M_W_isSeaRight) 87 = .ok (.iadd, 1) := by decide +kernel
theorem d_W_isSeaRight_88 : decode (mMc M_W_isSeaRight) 88 = .ok (.istore_n 2, 1) := by decide +kernel
theorem d_W_isSeaRight_89 : decode (mMc M_W_isSeaRight) 89 = .ok (.iinc 4 1, 3) := by decide +kernel
theorem d_W_isSeaRight_92 : decode (mMc M_W_isSeaRight) 92 = .ok (.goto (-29), 3) := by decide +kernel
theorem d_W_isSeaRight_95 : decode (mMc M_W_isSeaRight) 95 = .ok (.iload_n 3, 1) := by decide +kernel
theorem d_W_isSeaRight_96 : decode (mMc M_W_isSeaRight) 96 = .ok (.ifCond .eq 25, 3) := by decide +kernel
theorem d_W_isSeaRight_99 : decode (mMc M_W_isSeaRight) 99 = .ok (.aload_n 0, 1) := by decide +kernel
theorem d_W_isSeaRight_100 : decode (mMc M_W_isSeaRight) 100 = .ok (.iload_n 1, 1) := by decide +kernel
theorem d_W_isSeaRight_101 : decode (mMc M_W_isSeaRight) 101 = .ok (.invokevirtual 84, 3) := by decide +kernel
theorem d_W_isSeaRight_104 : decode (mMc M_W_isSeaRight) 104 = .ok (.iload_n 2, 1) := by decide +kernel
theorem d_W_isSeaRight_105 : decode (mMc M_W_isSeaRight) 105 = .ok (.if_icmp .ne 16, 3) := by decide +kernel
theorem d_W_isSeaRight_108 : decode (mMc M_W_isSeaRight) 108 = .ok (.aload_n 0, 1) := by decide +kernel
theorem d_W_isSeaRight_109 : decode (mMc M_W_isSeaRight) 109 = .ok (.iload_n 1, 1) := by decide +kernel
theorem d_W_isSeaRight_110 : decode (mMc M_W_isSeaRight) 110 = .ok (.invokevirtual 280, 3) := by decide +kernel
theorem d_W_isSeaRight_113 : decode (mMc M_W_isSeaRight) 113 = .ok (.iload_n 2, 1) := by decide +kernel
theorem d_W_isSeaRight_114 : decode (mMc M_W_isSeaRight) 114 = .ok (.if_icmp .ne 7, 3) := by decide +kernel
theorem d_W_isSeaRight_117 : decode (mMc M_W_isSeaRight) 117 = .ok (.iconst 1, 1) := by decide +kernel
theorem d_W_isSeaRight_118 : decode (mMc M_W_isSeaRight) 118 = .ok (.goto 4, 3) := by decide +kernel
theorem d_W_isSeaRight_121 : decode (mMc M_W_isSeaRight) 121 = .ok (.iconst 0, 1) := by decide +kernel
theorem d_W_isSeaRight_122 : decode (mMc M_W_isSeaRight) 122 = .ok (.ireturn, 1) := by decide +kernel
theorem k_W_isSeaRight : mCd M_W_isSeaRight 2 := ⟨by decide, by decide, by decide +kernel, by decide, mG (7, 102) (by decide +kernel), mG (1, 0) (by decide +kernel)⟩
def M_W_areHoursRight : mM := (⟨"FloatingDockLaw", "areHoursRight", "(LFloatingDock;I)Z"⟩, method_20_code, 11, (some .boolean), [])
theorem d_W_areHoursRight_0 : decode (mMc M_W_areHoursRight) 0 = .ok (.aload_n 0, 1) := by decide +kernel
theorem d_W_areHoursRight_1 : decode (mMc M_W_areHoursRight) 1 = .ok (.invokestatic 283, 3) := by decide +kernel
theorem d_W_areHoursRight_4 : decode (mMc M_W_areHoursRight) 4 = .ok (.istore_n 2, 1) := by decide +kernel
theorem d_W_areHoursRight_5 : decode (mMc M_W_areHoursRight) 5 = .ok (.aload_n 0, 1) := by decide +kernel
theorem d_W_areHoursRight_6 : decode (mMc M_W_areHoursRight) 6 = .ok (.invokevirtual 271, 3) := by decide +kernel
theorem d_W_areHoursRight_9 : decode (mMc M_W_areHoursRight) 9 = .ok (.istore_n 3, 1) := by decide +kernel
theorem d_W_areHoursRight_10 : decode (mMc M_W_areHoursRight) 10 = .ok (.bipush 97, 2) := by decide +kernel
theorem d_W_areHoursRight_12 : decode (mMc M_W_areHoursRight) 12 = .ok (.newarray .int, 2) := by decide +kernel
theorem d_W_areHoursRight_14 : decode (mMc M_W_areHoursRight) 14 = .ok (.astore 4, 2) := by decide +kernel
theorem d_W_areHoursRight_16 : decode (mMc M_W_areHoursRight) 16 = .ok (.iload_n 1, 1) := by decide +kernel
theorem d_W_areHoursRight_17 : decode (mMc M_W_areHoursRight) 17 = .ok (.ifCond .lt 15, 3) := by decide +kernel
theorem d_W_areHoursRight_20 : decode (mMc M_W_areHoursRight) 20 = .ok (.aload_n 0, 1) := by decide +kernel
theorem d_W_areHoursRight_21 : decode (mMc M_W_areHoursRight) 21 = .ok (.iload_n 1, 1) := by decide +kernel
theorem d_W_areHoursRight_22 : decode (mMc M_W_areHoursRight) 22 = .ok (.invokevirtual 239, 3) := by decide +kernel
theorem d_W_areHoursRight_25 : decode (mMc M_W_areHoursRight) 25 = .ok (.ifCond .eq 7, 3) := by decide +kernel
theorem d_W_areHoursRight_28 : decode (mMc M_W_areHoursRight) 28 = .ok (.iconst 1, 1) := by decide +kernel
theorem d_W_areHoursRight_29 : decode (mMc M_W_areHoursRight) 29 = .ok (.goto 4, 3) := by decide +kernel
theorem d_W_areHoursRight_32 : decode (mMc M_W_areHoursRight) 32 = .ok (.iconst 0, 1) := by decide +kernel
theorem d_W_areHoursRight_33 : decode (mMc M_W_areHoursRight) 33 = .ok (.istore 5, 2) := by decide +kernel
theorem d_W_areHoursRight_35 : decode (mMc M_W_areHoursRight) 35 = .ok (.iload_n 1, 1) := by decide +kernel
theorem d_W_areHoursRight_36 : decode (mMc M_W_areHoursRight) 36 = .ok (.ifCond .ge 9, 3) := by decide +kernel
theorem d_W_areHoursRight_39 : decode (mMc M_W_areHoursRight) 39 = .ok (.sipush (-2004), 3) := by decide +kernel
theorem d_W_areHoursRight_42 : decode (mMc M_W_areHoursRight) 42 = .ok (.goto 9, 3) := by decide +kernel
theorem d_W_areHoursRight_45 : decode (mMc M_W_areHoursRight) 45 = .ok (.aload_n 0, 1) := by decide +kernel
theorem d_W_areHoursRight_46 : decode (mMc M_W_areHoursRight) 46 = .ok (.iconst 5, 1) := by decide +kernel
theorem d_W_areHoursRight_47 : decode (mMc M_W_areHoursRight) 47 = .ok (.iload_n 1, 1) := by decide +kernel
theorem d_W_areHoursRight_48 : decode (mMc M_W_areHoursRight) 48 = .ok (.invokestatic 162, 3) := by decide +kernel
theorem d_W_areHoursRight_51 : decode (mMc M_W_areHoursRight) 51 = .ok (.istore 6, 2) := by decide +kernel
theorem d_W_areHoursRight_53 : decode (mMc M_W_areHoursRight) 53 = .ok (.iload_n 1, 1) := by decide +kernel
theorem d_W_areHoursRight_54 : decode (mMc M_W_areHoursRight) 54 = .ok (.ifCond .ge 9, 3) := by decide +kernel
theorem d_W_areHoursRight_57 : decode (mMc M_W_areHoursRight) 57 = .ok (.sipush (-2004), 3) := by decide +kernel
theorem d_W_areHoursRight_60 : decode (mMc M_W_areHoursRight) 60 = .ok (.goto 18, 3) := by decide +kernel
theorem d_W_areHoursRight_63 : decode (mMc M_W_areHoursRight) 63 = .ok (.aload_n 0, 1) := by decide +kernel
theorem d_W_areHoursRight_64 : decode (mMc M_W_areHoursRight) 64 = .ok (.iload_n 1, 1) := by decide +kernel
theorem d_W_areHoursRight_65 : decode (mMc M_W_areHoursRight) 65 = .ok (.invokevirtual 224, 3) := by decide +kernel
theorem d_W_areHoursRight_68 : decode (mMc M_W_areHoursRight) 68 = .ok (.ifCond .eq 7, 3) := by decide +kernel
theorem d_W_areHoursRight_71 : decode (mMc M_W_areHoursRight) 71 = .ok (.iconst 0, 1) := by decide +kernel
theorem d_W_areHoursRight_72 : decode (mMc M_W_areHoursRight) 72 = .ok (.goto 6, 3) := by decide +kernel
theorem d_W_areHoursRight_75 : decode (mMc M_W_areHoursRight) 75 = .ok (.sipush (-2005), 3) := by decide +kernel
theorem d_W_areHoursRight_78 : decode (mMc M_W_areHoursRight) 78 = .ok (.istore 7, 2) := by decide +kernel
theorem d_W_areHoursRight_80 : decode (mMc M_W_areHoursRight) 80 = .ok (.iconst 0, 1) := by decide +kernel
theorem d_W_areHoursRight_81 : decode (mMc M_W_areHoursRight) 81 = .ok (.istore 8, 2) := by decide +kernel
theorem d_W_areHoursRight_83 : decode (mMc M_W_areHoursRight) 83 = .ok (.iload 8, 2) := by decide +kernel
theorem d_W_areHoursRight_85 : decode (mMc M_W_areHoursRight) 85 = .ok (.bipush 97, 2) := by decide +kernel
theorem d_W_areHoursRight_87 : decode (mMc M_W_areHoursRight) 87 = .ok (.if_icmp .ge 20, 3) := by decide +kernel
theorem d_W_areHoursRight_90 : decode (mMc M_W_areHoursRight) 90 = .ok (.aload 4, 2) := by decide +kernel
theorem d_W_areHoursRight_92 : decode (mMc M_W_areHoursRight) 92 = .ok (.iload 8, 2) := by decide +kernel
theorem d_W_areHoursRight_94 : decode (mMc M_W_areHoursRight) 94 = .ok (.aload_n 0, 1) := by decide +kernel
theorem d_W_areHoursRight_95 : decode (mMc M_W_areHoursRight) 95 = .ok (.iload 8, 2) := by decide +kernel
theorem d_W_areHoursRight_97 : decode (mMc M_W_areHoursRight) 97 = .ok (.invokevirtual 87, 3) := by decide +kernel
theorem d_W_areHoursRight_100 : decode (mMc M_W_areHoursRight) 100 = .ok (.iastore, 1) := by decide +kernel
theorem d_W_areHoursRight_101 : decode (mMc M_W_areHoursRight) 101 = .ok (.iinc 8 1, 3) := by decide +kernel
theorem d_W_areHoursRight_104 : decode (mMc M_W_areHoursRight) 104 = .ok (.goto (-21), 3) := by decide +kernel
theorem d_W_areHoursRight_107 : decode (mMc M_W_areHoursRight) 107 = .ok (.aload 4, 2) := by decide +kernel
theorem d_W_areHoursRight_109 : decode (mMc M_W_areHoursRight) 109 = .ok (.iconst 0, 1) := by decide +kernel
theorem d_W_areHoursRight_110 : decode (mMc M_W_areHoursRight) 110 = .ok (.iaload, 1) := by decide +kernel
theorem d_W_areHoursRight_111 : decode (mMc M_W_areHoursRight) 111 = .ok (.aload_n 0, 1) := by decide +kernel
theorem d_W_areHoursRight_112 : decode (mMc M_W_areHoursRight) 112 = .ok (.invokevirtual 153, 3) := by decide +kernel
theorem d_W_areHoursRight_115 : decode (mMc M_W_areHoursRight) 115 = .ok (.if_icmp .ne 7, 3) := by decide +kernel
theorem d_W_areHoursRight_118 : decode (mMc M_W_areHoursRight) 118 = .ok (.iconst 1, 1) := by decide +kernel
theorem d_W_areHoursRight_119 : decode (mMc M_W_areHoursRight) 119 = .ok (.goto 4, 3) := by decide +kernel
theorem d_W_areHoursRight_122 : decode (mMc M_W_areHoursRight) 122 = .ok (.iconst 0, 1) := by decide +kernel
theorem d_W_areHoursRight_123 : decode (mMc M_W_areHoursRight) 123 = .ok (.istore 8, 2) := by decide +kernel
theorem d_W_areHoursRight_125 : decode (mMc M_W_areHoursRight) 125 = .ok (.iconst 1, 1) := by decide +kernel
theorem d_W_areHoursRight_126 : decode (mMc M_W_areHoursRight) 126 = .ok (.istore 9, 2) := by decide +kernel
theorem d_W_areHoursRight_128 : decode (mMc M_W_areHoursRight) 128 = .ok (.iload 9, 2) := by decide +kernel
theorem d_W_areHoursRight_130 : decode (mMc M_W_areHoursRight) 130 = .ok (.bipush 97, 2) := by decide +kernel
theorem d_W_areHoursRight_132 : decode (mMc M_W_areHoursRight) 132 = .ok (.if_icmp .ge 87, 3) := by decide +kernel
theorem d_W_areHoursRight_135 : decode (mMc M_W_areHoursRight) 135 = .ok (.aload_n 0, 1) := by decide +kernel
theorem d_W_areHoursRight_136 : decode (mMc M_W_areHoursRight) 136 = .ok (.iconst 1, 1) := by decide +kernel
theorem d_W_areHoursRight_137 : decode (mMc M_W_areHoursRight) 137 = .ok (.invokevirtual 47, 3) := by decide +kernel
theorem d_W_areHoursRight_140 : decode (mMc M_W_areHoursRight) 140 = .ok (.istore 10, 2) := by decide +kernel
theorem d_W_areHoursRight_142 : decode (mMc M_W_areHoursRight) 142 = .ok (.iload 8, 2) := by decide +kernel
theorem d_W_areHoursRight_144 : decode (mMc M_W_areHoursRight) 144 = .ok (.ifCond .eq 36, 3) := by decide +kernel
theorem d_W_areHoursRight_147 : decode (mMc M_W_areHoursRight) 147 = .ok (.aload_n 0, 1) := by decide +kernel
theorem d_W_areHoursRight_148 : decode (mMc M_W_areHoursRight) 148 = .ok (.invokevirtual 153, 3) := by decide +kernel
theorem d_W_areHoursRight_151 : decode (mMc M_W_areHoursRight) 151 = .ok (.aload 4, 2) := by decide +kernel
theorem d_W_areHoursRight_153 : decode (mMc M_W_areHoursRight) 153 = .ok (.iload 9, 2) := by decide +kernel
theorem d_W_areHoursRight_155 : decode (mMc M_W_areHoursRight) 155 = .ok (.iaload, 1) := by decide +kernel
theorem d_W_areHoursRight_156 : decode (mMc M_W_areHoursRight) 156 = .ok (.if_icmp .ne 24, 3) := by decide +kernel
theorem d_W_areHoursRight_159 : decode (mMc M_W_areHoursRight) 159 = .ok (.aload_n 0, 1) := by decide +kernel
theorem d_W_areHoursRight_160 : decode (mMc M_W_areHoursRight) 160 = .ok (.invokevirtual 153, 3) := by decide +kernel
theorem d_W_areHoursRight_163 : decode (mMc M_W_areHoursRight) 163 = .ok (.ifCond .lt 17, 3) := by decide +kernel
theorem d_W_areHoursRight_166 : decode (mMc M_W_areHoursRight) 166 = .ok (.aload_n 0, 1) := by decide +kernel
theorem d_W_areHoursRight_167 : decode (mMc M_W_areHoursRight) 167 = .ok (.invokevirtual 153, 3) := by decide +kernel
theorem d_W_areHoursRight_170 : decode (mMc M_W_areHoursRight) 170 = .ok (.sipush 200, 3) := by decide +kernel
theorem d_W_areHoursRight_173 : decode (mMc M_W_areHoursRight) 173 = .ok (.if_icmp .gt 7, 3) := by decide +kernel
theorem d_W_areHoursRight_176 : decode (mMc M_W_areHoursRight) 176 = .ok (.iconst 1, 1) := by decide +kernel
theorem d_W_areHoursRight_177 : decode (mMc M_W_areHoursRight) 177 = .ok (.goto 4, 3) := by decide +kernel
theorem d_W_areHoursRight_180 : decode (mMc M_W_areHoursRight) 180 = .ok (.iconst 0, 1) := by decide +kernel
theorem d_W_areHoursRight_181 : decode (mMc M_W_areHoursRight) 181 = .ok (.istore 8, 2) := by decide +kernel
theorem d_W_areHoursRight_183 : decode (mMc M_W_areHoursRight) 183 = .ok (.iload 5, 2) := by decide +kernel
theorem d_W_areHoursRight_185 : decode (mMc M_W_areHoursRight) 185 = .ok (.ifCond .eq 24, 3) := by decide +kernel
theorem d_W_areHoursRight_188 : decode (mMc M_W_areHoursRight) 188 = .ok (.iload 7, 2) := by decide +kernel
theorem d_W_areHoursRight_190 : decode (mMc M_W_areHoursRight) 190 = .ok (.sipush (-2005), 3) := by decide +kernel
theorem d_W_areHoursRight_193 : decode (mMc M_W_areHoursRight) 193 = .ok (.if_icmp .ne 16, 3) := by decide +kernel
theorem d_W_areHoursRight_196 : decode (mMc M_W_areHoursRight) 196 = .ok (.aload_n 0, 1) := by decide +kernel
theorem d_W_areHoursRight_197 : decode (mMc M_W_areHoursRight) 197 = .ok (.iload_n 1, 1) := by decide +kernel
theorem d_W_areHoursRight_198 : decode (mMc M_W_areHoursRight) 198 = .ok (.invokevirtual 224, 3) := by decide +kernel
theorem d_W_areHoursRight_201 : decode (mMc M_W_areHoursRight) 201 = .ok (.ifCond .eq 8, 3) := by decide +kernel
theorem d_W_areHoursRight_204 : decode (mMc M_W_areHoursRight) 204 = .ok (.iload 9, 2) := by decide +kernel
theorem d_W_areHoursRight_206 : decode (mMc M_W_areHoursRight) 206 = .ok (.goto 5, 3) := by decide +kernel
theorem d_W_areHoursRight_209 : decode (mMc M_W_areHoursRight) 209 = .ok (.iload 7, 2) := by decide +kernel
theorem d_W_areHoursRight_211 : decode (mMc M_W_areHoursRight) 211 = .ok (.istore 7, 2) := by decide +kernel
theorem d_W_areHoursRight_213 : decode (mMc M_W_areHoursRight) 213 = .ok (.iinc 9 1, 3) := by decide +kernel
theorem d_W_areHoursRight_216 : decode (mMc M_W_areHoursRight) 216 = .ok (.goto (-88), 3) := by decide +kernel
theorem d_W_areHoursRight_219 : decode (mMc M_W_areHoursRight) 219 = .ok (.aload_n 0, 1) := by decide +kernel
theorem d_W_areHoursRight_220 : decode (mMc M_W_areHoursRight) 220 = .ok (.invokevirtual 277, 3) := by decide +kernel
theorem d_W_areHoursRight_223 : decode (mMc M_W_areHoursRight) 223 = .ok (.istore_n 3, 1) := by decide +kernel
theorem d_W_areHoursRight_224 : decode (mMc M_W_areHoursRight) 224 = .ok (.iload 8, 2) := by decide +kernel
theorem d_W_areHoursRight_226 : decode (mMc M_W_areHoursRight) 226 = .ok (.ifCond .eq 22, 3) := by decide +kernel
theorem d_W_areHoursRight_229 : decode (mMc M_W_areHoursRight) 229 = .ok (.iload 6, 2) := by decide +kernel
theorem d_W_areHoursRight_231 : decode (mMc M_W_areHoursRight) 231 = .ok (.iload 7, 2) := by decide +kernel
theorem d_W_areHoursRight_233 : decode (mMc M_W_areHoursRight) 233 = .ok (.if_icmp .ne 15, 3) := by decide +kernel
theorem d_W_areHoursRight_236 : decode (mMc M_W_areHoursRight) 236 = .ok (.aload_n 0, 1) := by decide +kernel
theorem d_W_areHoursRight_237 : decode (mMc M_W_areHoursRight) 237 = .ok (.invokestatic 283, 3) := by decide +kernel
theorem d_W_areHoursRight_240 : decode (mMc M_W_areHoursRight) 240 = .ok (.iload_n 2, 1) := by decide +kernel
theorem d_W_areHoursRight_241 : decode (mMc M_W_areHoursRight) 241 = .ok (.if_icmp .ne 7, 3) := by decide +kernel
theorem d_W_areHoursRight_244 : decode (mMc M_W_areHoursRight) 244 = .ok (.iconst 1, 1) := by decide +kernel
theorem d_W_areHoursRight_245 : decode (mMc M_W_areHoursRight) 245 = .ok (.goto 4, 3) := by decide +kernel
theorem d_W_areHoursRight_248 : decode (mMc M_W_areHoursRight) 248 = .ok (.iconst 0, 1) := by decide +kernel
theorem d_W_areHoursRight_249 : decode (mMc M_W_areHoursRight) 249 = .ok (.ireturn, 1) := by decide +kernel
theorem k_W_areHoursRight : mCd M_W_areHoursRight 2 := ⟨by decide, by decide, by decide +kernel, by decide, mG (7, 110) (by decide +kernel), mG (1, 0) (by decide +kernel)⟩
def M_W_looks : mM := (⟨"FloatingDockLaw", "looks", "(LFloatingDock;)I"⟩, method_12_code, 4, (some .int), [])
theorem d_W_looks_0 : decode (mMc M_W_looks) 0 = .ok (.bipush 31, 2) := by decide +kernel
theorem d_W_looks_2 : decode (mMc M_W_looks) 2 = .ok (.bipush 31, 2) := by decide +kernel
theorem d_W_looks_4 : decode (mMc M_W_looks) 4 = .ok (.bipush 31, 2) := by decide +kernel
theorem d_W_looks_6 : decode (mMc M_W_looks) 6 = .ok (.aload_n 0, 1) := by decide +kernel
theorem d_W_looks_7 : decode (mMc M_W_looks) 7 = .ok (.invokevirtual 150, 3) := by decide +kernel
theorem d_W_looks_10 : decode (mMc M_W_looks) 10 = .ok (.imul, 1) := by decide +kernel
theorem d_W_looks_11 : decode (mMc M_W_looks) 11 = .ok (.aload_n 0, 1) := by decide +kernel
theorem d_W_looks_12 : decode (mMc M_W_looks) 12 = .ok (.invokevirtual 153, 3) := by decide +kernel
theorem d_W_looks_15 : decode (mMc M_W_looks) 15 = .ok (.iadd, 1) := by decide +kernel
theorem d_W_looks_16 : decode (mMc M_W_looks) 16 = .ok (.imul, 1) := by decide +kernel
theorem d_W_looks_17 : decode (mMc M_W_looks) 17 = .ok (.aload_n 0, 1) := by decide +kernel
theorem d_W_looks_18 : decode (mMc M_W_looks) 18 = .ok (.invokevirtual 131, 3) := by decide +kernel
theorem d_W_looks_21 : decode (mMc M_W_looks) 21 = .ok (.invokestatic 36, 3) := by decide +kernel
theorem d_W_looks_24 : decode (mMc M_W_looks) 24 = .ok (.iadd, 1) := by decide +kernel
theorem d_W_looks_25 : decode (mMc M_W_looks) 25 = .ok (.imul, 1) := by decide +kernel
theorem d_W_looks_26 : decode (mMc M_W_looks) 26 = .ok (.aload_n 0, 1) := by decide +kernel
theorem d_W_looks_27 : decode (mMc M_W_looks) 27 = .ok (.iconst 1, 1) := by decide +kernel
theorem d_W_looks_28 : decode (mMc M_W_looks) 28 = .ok (.invokevirtual 87, 3) := by decide +kernel
theorem d_W_looks_31 : decode (mMc M_W_looks) 31 = .ok (.iadd, 1) := by decide +kernel
theorem d_W_looks_32 : decode (mMc M_W_looks) 32 = .ok (.istore_n 1, 1) := by decide +kernel
theorem d_W_looks_33 : decode (mMc M_W_looks) 33 = .ok (.bipush 31, 2) := by decide +kernel
theorem d_W_looks_35 : decode (mMc M_W_looks) 35 = .ok (.bipush 31, 2) := by decide +kernel
theorem d_W_looks_37 : decode (mMc M_W_looks) 37 = .ok (.bipush 31, 2) := by decide +kernel
theorem d_W_looks_39 : decode (mMc M_W_looks) 39 = .ok (.iload_n 1, 1) := by decide +kernel
theorem d_W_looks_40 : decode (mMc M_W_looks) 40 = .ok (.imul, 1) := by decide +kernel
theorem d_W_looks_41 : decode (mMc M_W_looks) 41 = .ok (.aload_n 0, 1) := by decide +kernel
theorem d_W_looks_42 : decode (mMc M_W_looks) 42 = .ok (.iconst 3, 1) := by decide +kernel
theorem d_W_looks_43 : decode (mMc M_W_looks) 43 = .ok (.invokevirtual 87, 3) := by decide +kernel
theorem d_W_looks_46 : decode (mMc M_W_looks) 46 = .ok (.iadd, 1) := by decide +kernel
theorem d_W_looks_47 : decode (mMc M_W_looks) 47 = .ok (.imul, 1) := by decide +kernel
theorem d_W_looks_48 : decode (mMc M_W_looks) 48 = .ok (.aload_n 0, 1) := by decide +kernel
theorem d_W_looks_49 : decode (mMc M_W_looks) 49 = .ok (.invokevirtual 156, 3) := by decide +kernel
theorem d_W_looks_52 : decode (mMc M_W_looks) 52 = .ok (.iadd, 1) := by decide +kernel
theorem d_W_looks_53 : decode (mMc M_W_looks) 53 = .ok (.imul, 1) := by decide +kernel
theorem d_W_looks_54 : decode (mMc M_W_looks) 54 = .ok (.aload_n 0, 1) := by decide +kernel
theorem d_W_looks_55 : decode (mMc M_W_looks) 55 = .ok (.invokevirtual 159, 3) := by decide +kernel
theorem d_W_looks_58 : decode (mMc M_W_looks) 58 = .ok (.iadd, 1) := by decide +kernel
theorem d_W_looks_59 : decode (mMc M_W_looks) 59 = .ok (.istore_n 1, 1) := by decide +kernel
theorem d_W_looks_60 : decode (mMc M_W_looks) 60 = .ok (.iconst 0, 1) := by decide +kernel
theorem d_W_looks_61 : decode (mMc M_W_looks) 61 = .ok (.istore_n 2, 1) := by decide +kernel
theorem d_W_looks_62 : decode (mMc M_W_looks) 62 = .ok (.iload_n 2, 1) := by decide +kernel
theorem d_W_looks_63 : decode (mMc M_W_looks) 63 = .ok (.aload_n 0, 1) := by decide +kernel
theorem d_W_looks_64 : decode (mMc M_W_looks) 64 = .ok (.invokevirtual 135, 3) := by decide +kernel
theorem d_W_looks_67 : decode (mMc M_W_looks) 67 = .ok (.if_icmp .ge 70, 3) := by decide +kernel
theorem d_W_looks_70 : decode (mMc M_W_looks) 70 = .ok (.aload_n 0, 1) := by decide +kernel
theorem d_W_looks_71 : decode (mMc M_W_looks) 71 = .ok (.iload_n 2, 1) := by decide +kernel
theorem d_W_looks_72 : decode (mMc M_W_looks) 72 = .ok (.invokevirtual 75, 3) := by decide +kernel
theorem d_W_looks_75 : decode (mMc M_W_looks) 75 = .ok (.istore_n 3, 1) := by decide +kernel
theorem d_W_looks_76 : decode (mMc M_W_looks) 76 = .ok (.bipush 31, 2) := by decide +kernel
theorem d_W_looks_78 : decode (mMc M_W_looks) 78 = .ok (.bipush 31, 2) := by decide +kernel
theorem d_W_looks_80 : decode (mMc M_W_looks) 80 = .ok (.bipush 31, 2) := by decide +kernel
theorem d_W_looks_82 : decode (mMc M_W_looks) 82 = .ok (.iload_n 1, 1) := by decide +kernel
theorem d_W_looks_83 : decode (mMc M_W_looks) 83 = .ok (.imul, 1) := by decide +kernel
theorem d_W_looks_84 : decode (mMc M_W_looks) 84 = .ok (.iload_n 3, 1) := by decide +kernel
theorem d_W_looks_85 : decode (mMc M_W_looks) 85 = .ok (.iadd, 1) := by decide +kernel
theorem d_W_looks_86 : decode (mMc M_W_looks) 86 = .ok (.imul, 1) := by decide +kernel
theorem d_W_looks_87 : decode (mMc M_W_looks) 87 = .ok (.aload_n 0, 1) := by decide +kernel
theorem d_W_looks_88 : decode (mMc M_W_looks) 88 = .ok (.iconst 1, 1) := by decide +kernel
theorem d_W_looks_89 : decode (mMc M_W_looks) 89 = .ok (.iload_n 3, 1) := by decide +kernel
theorem d_W_looks_90 : decode (mMc M_W_looks) 90 = .ok (.invokestatic 162, 3) := by decide +kernel
theorem d_W_looks_93 : decode (mMc M_W_looks) 93 = .ok (.iadd, 1) := by decide +kernel
theorem d_W_looks_94 : decode (mMc M_W_looks) 94 = .ok (.imul, 1) := by decide +kernel
theorem d_W_looks_95 : decode (mMc M_W_looks) 95 = .ok (.aload_n 0, 1) := by decide +kernel
theorem d_W_looks_96 : decode (mMc M_W_looks) 96 = .ok (.iload_n 3, 1) := by decide +kernel
theorem d_W_looks_97 : decode (mMc M_W_looks) 97 = .ok (.invokevirtual 115, 3) := by decide +kernel
theorem d_W_looks_100 : decode (mMc M_W_looks) 100 = .ok (.iadd, 1) := by decide +kernel
theorem d_W_looks_101 : decode (mMc M_W_looks) 101 = .ok (.istore_n 1, 1) := by decide +kernel
theorem d_W_looks_102 : decode (mMc M_W_looks) 102 = .ok (.bipush 31, 2) := by decide +kernel
theorem d_W_looks_104 : decode (mMc M_W_looks) 104 = .ok (.bipush 31, 2) := by decide +kernel
theorem d_W_looks_106 : decode (mMc M_W_looks) 106 = .ok (.bipush 31, 2) := by decide +kernel
theorem d_W_looks_108 : decode (mMc M_W_looks) 108 = .ok (.iload_n 1, 1) := by decide +kernel
theorem d_W_looks_109 : decode (mMc M_W_looks) 109 = .ok (.imul, 1) := by decide +kernel
theorem d_W_looks_110 : decode (mMc M_W_looks) 110 = .ok (.aload_n 0, 1) := by decide +kernel
theorem d_W_looks_111 : decode (mMc M_W_looks) 111 = .ok (.iload_n 3, 1) := by decide +kernel
theorem d_W_looks_112 : decode (mMc M_W_looks) 112 = .ok (.invokevirtual 165, 3) := by decide +kernel
theorem d_W_looks_115 : decode (mMc M_W_looks) 115 = .ok (.iadd, 1) := by decide +kernel
theorem d_W_looks_116 : decode (mMc M_W_looks) 116 = .ok (.imul, 1) := by decide +kernel
theorem d_W_looks_117 : decode (mMc M_W_looks) 117 = .ok (.aload_n 0, 1) := by decide +kernel
theorem d_W_looks_118 : decode (mMc M_W_looks) 118 = .ok (.iload_n 3, 1) := by decide +kernel
theorem d_W_looks_119 : decode (mMc M_W_looks) 119 = .ok (.invokevirtual 168, 3) := by decide +kernel
theorem d_W_looks_122 : decode (mMc M_W_looks) 122 = .ok (.iadd, 1) := by decide +kernel
theorem d_W_looks_123 : decode (mMc M_W_looks) 123 = .ok (.imul, 1) := by decide +kernel
theorem d_W_looks_124 : decode (mMc M_W_looks) 124 = .ok (.aload_n 0, 1) := by decide +kernel
theorem d_W_looks_125 : decode (mMc M_W_looks) 125 = .ok (.iload_n 3, 1) := by decide +kernel
theorem d_W_looks_126 : decode (mMc M_W_looks) 126 = .ok (.invokevirtual 142, 3) := by decide +kernel
theorem d_W_looks_129 : decode (mMc M_W_looks) 129 = .ok (.iadd, 1) := by decide +kernel
theorem d_W_looks_130 : decode (mMc M_W_looks) 130 = .ok (.istore_n 1, 1) := by decide +kernel
theorem d_W_looks_131 : decode (mMc M_W_looks) 131 = .ok (.iinc 2 1, 3) := by decide +kernel
theorem d_W_looks_134 : decode (mMc M_W_looks) 134 = .ok (.goto (-72), 3) := by decide +kernel
theorem d_W_looks_137 : decode (mMc M_W_looks) 137 = .ok (.iconst 0, 1) := by decide +kernel
theorem d_W_looks_138 : decode (mMc M_W_looks) 138 = .ok (.istore_n 2, 1) := by decide +kernel
theorem d_W_looks_139 : decode (mMc M_W_looks) 139 = .ok (.iload_n 2, 1) := by decide +kernel
theorem d_W_looks_140 : decode (mMc M_W_looks) 140 = .ok (.bipush 60, 2) := by decide +kernel
theorem d_W_looks_142 : decode (mMc M_W_looks) 142 = .ok (.if_icmp .ge 34, 3) := by decide +kernel
theorem d_W_looks_145 : decode (mMc M_W_looks) 145 = .ok (.bipush 31, 2) := by decide +kernel
theorem d_W_looks_147 : decode (mMc M_W_looks) 147 = .ok (.bipush 31, 2) := by decide +kernel
theorem d_W_looks_149 : decode (mMc M_W_looks) 149 = .ok (.iload_n 1, 1) := by decide +kernel
theorem d_W_looks_150 : decode (mMc M_W_looks) 150 = .ok (.imul, 1) := by decide +kernel
theorem d_W_looks_151 : decode (mMc M_W_looks) 151 = .ok (.aload_n 0, 1) := by decide +kernel
theorem d_W_looks_152 : decode (mMc M_W_looks) 152 = .ok (.iload_n 2, 1) := by decide +kernel
theorem d_W_looks_153 : decode (mMc M_W_looks) 153 = .ok (.invokevirtual 93, 3) := by decide +kernel
theorem d_W_looks_156 : decode (mMc M_W_looks) 156 = .ok (.invokestatic 36, 3) := by decide +kernel
theorem d_W_looks_159 : decode (mMc M_W_looks) 159 = .ok (.iadd, 1) := by decide +kernel
theorem d_W_looks_160 : decode (mMc M_W_looks) 160 = .ok (.imul, 1) := by decide +kernel
theorem d_W_looks_161 : decode (mMc M_W_looks) 161 = .ok (.aload_n 0, 1) := by decide +kernel
theorem d_W_looks_162 : decode (mMc M_W_looks) 162 = .ok (.bipush 7, 2) := by decide +kernel
theorem d_W_looks_164 : decode (mMc M_W_looks) 164 = .ok (.iload_n 2, 1) := by decide +kernel
theorem d_W_looks_165 : decode (mMc M_W_looks) 165 = .ok (.invokestatic 162, 3) := by decide +kernel
theorem d_W_looks_168 : decode (mMc M_W_looks) 168 = .ok (.iadd, 1) := by decide +kernel
theorem d_W_looks_169 : decode (mMc M_W_looks) 169 = .ok (.istore_n 1, 1) := by decide +kernel
theorem d_W_looks_170 : decode (mMc M_W_looks) 170 = .ok (.iinc 2 1, 3) := by decide +kernel
theorem d_W_looks_173 : decode (mMc M_W_looks) 173 = .ok (.goto (-34), 3) := by decide +kernel
theorem d_W_looks_176 : decode (mMc M_W_looks) 176 = .ok (.iload_n 1, 1) := by decide +kernel
theorem d_W_looks_177 : decode (mMc M_W_looks) 177 = .ok (.ireturn, 1) := by decide +kernel
theorem k_W_looks : mCd M_W_looks 1 := ⟨by decide, by decide, by decide +kernel, by decide, mG (7, 113) (by decide +kernel), mG (1, 0) (by decide +kernel)⟩
def M_W_law : mM := (x, code, 4, (some .boolean), [])
theorem d_W_law_0 : decode (mMc M_W_law) 0 = .ok (.new 16, 3) := by decide +kernel
theorem d_W_law_3 : decode (mMc M_W_law) 3 = .ok (.dup, 1) := by decide +kernel
theorem d_W_law_4 : decode (mMc M_W_law) 4 = .ok (.invokespecial 287, 3) := by decide +kernel
theorem d_W_law_7 : decode (mMc M_W_law) 7 = .ok (.astore_n 1, 1) := by decide +kernel
theorem d_W_law_8 : decode (mMc M_W_law) 8 = .ok (.aload_n 1, 1) := by decide +kernel
theorem d_W_law_9 : decode (mMc M_W_law) 9 = .ok (.aload_n 0, 1) := by decide +kernel
theorem d_W_law_10 : decode (mMc M_W_law) 10 = .ok (.invokestatic 288, 3) := by decide +kernel
theorem d_W_law_13 : decode (mMc M_W_law) 13 = .ok (.iconst 0, 1) := by decide +kernel
theorem d_W_law_14 : decode (mMc M_W_law) 14 = .ok (.istore_n 2, 1) := by decide +kernel
theorem d_W_law_15 : decode (mMc M_W_law) 15 = .ok (.iload_n 2, 1) := by decide +kernel
theorem d_W_law_16 : decode (mMc M_W_law) 16 = .ok (.bipush 7, 2) := by decide +kernel
theorem d_W_law_18 : decode (mMc M_W_law) 18 = .ok (.if_icmp .ge 87, 3) := by decide +kernel
theorem d_W_law_21 : decode (mMc M_W_law) 21 = .ok (.aload_n 1, 1) := by decide +kernel
theorem d_W_law_22 : decode (mMc M_W_law) 22 = .ok (.aload_n 0, 1) := by decide +kernel
theorem d_W_law_23 : decode (mMc M_W_law) 23 = .ok (.sipush 200, 3) := by decide +kernel
theorem d_W_law_26 : decode (mMc M_W_law) 26 = .ok (.bipush 6, 2) := by decide +kernel
theorem d_W_law_28 : decode (mMc M_W_law) 28 = .ok (.iload_n 2, 1) := by decide +kernel
theorem d_W_law_29 : decode (mMc M_W_law) 29 = .ok (.imul, 1) := by decide +kernel
theorem d_W_law_30 : decode (mMc M_W_law) 30 = .ok (.iadd, 1) := by decide +kernel
theorem d_W_law_31 : decode (mMc M_W_law) 31 = .ok (.invokestatic 292, 3) := by decide +kernel
theorem d_W_law_34 : decode (mMc M_W_law) 34 = .ok (.istore_n 3, 1) := by decide +kernel
theorem d_W_law_35 : decode (mMc M_W_law) 35 = .ok (.aload_n 1, 1) := by decide +kernel
theorem d_W_law_36 : decode (mMc M_W_law) 36 = .ok (.invokestatic 296, 3) := by decide +kernel
theorem d_W_law_39 : decode (mMc M_W_law) 39 = .ok (.ifCond .eq 58, 3) := by decide +kernel
theorem d_W_law_42 : decode (mMc M_W_law) 42 = .ok (.aload_n 1, 1) := by decide +kernel
theorem d_W_law_43 : decode (mMc M_W_law) 43 = .ok (.invokestatic 300, 3) := by decide +kernel
theorem d_W_law_46 : decode (mMc M_W_law) 46 = .ok (.ifCond .eq 51, 3) := by decide +kernel
theorem d_W_law_49 : decode (mMc M_W_law) 49 = .ok (.aload_n 1, 1) := by decide +kernel
theorem d_W_law_50 : decode (mMc M_W_law) 50 = .ok (.invokestatic 303, 3) := by decide +kernel
theorem d_W_law_53 : decode (mMc M_W_law) 53 = .ok (.ifCond .eq 44, 3) := by decide +kernel
theorem d_W_law_56 : decode (mMc M_W_law) 56 = .ok (.aload_n 1, 1) := by decide +kernel
theorem d_W_law_57 : decode (mMc M_W_law) 57 = .ok (.aload_n 0, 1) := by decide +kernel
theorem d_W_law_58 : decode (mMc M_W_law) 58 = .ok (.sipush 300, 3) := by decide +kernel
theorem d_W_law_61 : decode (mMc M_W_law) 61 = .ok (.iload_n 2, 1) := by decide +kernel
theorem d_W_law_62 : decode (mMc M_W_law) 62 = .ok (.iadd, 1) := by decide +kernel
theorem d_W_law_63 : decode (mMc M_W_law) 63 = .ok (.sipush 10000, 3) := by decide +kernel
theorem d_W_law_66 : decode (mMc M_W_law) 66 = .ok (.invokestatic 127, 3) := by decide +kernel
theorem d_W_law_69 : decode (mMc M_W_law) 69 = .ok (.invokestatic 306, 3) := by decide +kernel
theorem d_W_law_72 : decode (mMc M_W_law) 72 = .ok (.ifCond .eq 25, 3) := by decide +kernel
theorem d_W_law_75 : decode (mMc M_W_law) 75 = .ok (.aload_n 1, 1) := by decide +kernel
theorem d_W_law_76 : decode (mMc M_W_law) 76 = .ok (.aload_n 1, 1) := by decide +kernel
theorem d_W_law_77 : decode (mMc M_W_law) 77 = .ok (.aload_n 0, 1) := by decide +kernel
theorem d_W_law_78 : decode (mMc M_W_law) 78 = .ok (.sipush 320, 3) := by decide +kernel
theorem d_W_law_81 : decode (mMc M_W_law) 81 = .ok (.iload_n 2, 1) := by decide +kernel
theorem d_W_law_82 : decode (mMc M_W_law) 82 = .ok (.iadd, 1) := by decide +kernel
theorem d_W_law_83 : decode (mMc M_W_law) 83 = .ok (.bipush 8, 2) := by decide +kernel
theorem d_W_law_85 : decode (mMc M_W_law) 85 = .ok (.invokestatic 127, 3) := by decide +kernel
theorem d_W_law_88 : decode (mMc M_W_law) 88 = .ok (.invokestatic 138, 3) := by decide +kernel
theorem d_W_law_91 : decode (mMc M_W_law) 91 = .ok (.invokestatic 310, 3) := by decide +kernel
theorem d_W_law_94 : decode (mMc M_W_law) 94 = .ok (.ifCond .ne 5, 3) := by decide +kernel
theorem d_W_law_97 : decode (mMc M_W_law) 97 = .ok (.iconst 0, 1) := by decide +kernel
theorem d_W_law_98 : decode (mMc M_W_law) 98 = .ok (.ireturn, 1) := by decide +kernel
theorem d_W_law_99 : decode (mMc M_W_law) 99 = .ok (.iinc 2 1, 3) := by decide +kernel
theorem d_W_law_102 : decode (mMc M_W_law) 102 = .ok (.goto (-87), 3) := by decide +kernel
theorem d_W_law_105 : decode (mMc M_W_law) 105 = .ok (.iconst 1, 1) := by decide +kernel
theorem d_W_law_106 : decode (mMc M_W_law) 106 = .ok (.ireturn, 1) := by decide +kernel
